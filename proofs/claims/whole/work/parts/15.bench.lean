/-! functions and walks, by program -/
theorem dX10_feed_0 : decode cX10_feed 0 = .ok (.aload_n 0, 1) := by decide +kernel
theorem dX10_feed_1 : decode cX10_feed 1 = .ok (.getfield 25, 3) := by decide +kernel
theorem dX10_feed_4 : decode cX10_feed 4 = .ok (.getfield 100, 3) := by decide +kernel
theorem dX10_feed_7 : decode cX10_feed 7 = .ok (.bipush 20, 2) := by decide +kernel
theorem dX10_feed_9 : decode cX10_feed 9 = .ok (.iadd, 1) := by decide +kernel
theorem dX10_feed_10 : decode cX10_feed 10 = .ok (.sipush 900, 3) := by decide +kernel
theorem dX10_feed_13 : decode cX10_feed 13 = .ok (.if_icmp .le 5, 3) := by decide +kernel
theorem dX10_feed_16 : decode cX10_feed 16 = .ok (.iconst (-1), 1) := by decide +kernel
theorem dX10_feed_17 : decode cX10_feed 17 = .ok (.ireturn, 1) := by decide +kernel
theorem dX10_feed_18 : decode cX10_feed 18 = .ok (.aload_n 0, 1) := by decide +kernel
theorem dX10_feed_19 : decode cX10_feed 19 = .ok (.getfield 25, 3) := by decide +kernel
theorem dX10_feed_22 : decode cX10_feed 22 = .ok (.iload_n 1, 1) := by decide +kernel
theorem dX10_feed_23 : decode cX10_feed 23 = .ok (.invokevirtual 103, 3) := by decide +kernel
theorem dX10_feed_26 : decode cX10_feed 26 = .ok (.aload_n 0, 1) := by decide +kernel
theorem dX10_feed_27 : decode cX10_feed 27 = .ok (.getfield 25, 3) := by decide +kernel
theorem dX10_feed_30 : decode cX10_feed 30 = .ok (.iload_n 2, 1) := by decide +kernel
theorem dX10_feed_31 : decode cX10_feed 31 = .ok (.invokevirtual 103, 3) := by decide +kernel
theorem dX10_feed_34 : decode cX10_feed 34 = .ok (.aload_n 0, 1) := by decide +kernel
theorem dX10_feed_35 : decode cX10_feed 35 = .ok (.getfield 25, 3) := by decide +kernel
theorem dX10_feed_38 : decode cX10_feed 38 = .ok (.iload_n 3, 1) := by decide +kernel
theorem dX10_feed_39 : decode cX10_feed 39 = .ok (.invokevirtual 103, 3) := by decide +kernel
theorem dX10_feed_42 : decode cX10_feed 42 = .ok (.aload_n 0, 1) := by decide +kernel
theorem dX10_feed_43 : decode cX10_feed 43 = .ok (.getfield 25, 3) := by decide +kernel
theorem dX10_feed_46 : decode cX10_feed 46 = .ok (.iload 4, 2) := by decide +kernel
theorem dX10_feed_48 : decode cX10_feed 48 = .ok (.invokevirtual 103, 3) := by decide +kernel
theorem dX10_feed_51 : decode cX10_feed 51 = .ok (.aload_n 0, 1) := by decide +kernel
theorem dX10_feed_52 : decode cX10_feed 52 = .ok (.getfield 25, 3) := by decide +kernel
theorem dX10_feed_55 : decode cX10_feed 55 = .ok (.iload 5, 2) := by decide +kernel
theorem dX10_feed_57 : decode cX10_feed 57 = .ok (.invokevirtual 103, 3) := by decide +kernel
theorem dX10_feed_60 : decode cX10_feed 60 = .ok (.aload_n 0, 1) := by decide +kernel
theorem dX10_feed_61 : decode cX10_feed 61 = .ok (.getfield 25, 3) := by decide +kernel
theorem dX10_feed_64 : decode cX10_feed 64 = .ok (.getfield 100, 3) := by decide +kernel
theorem dX10_feed_67 : decode cX10_feed 67 = .ok (.ireturn, 1) := by decide +kernel
def fX10_feed (a : Nat) (x1 : Int32) (x2 : Int32) (x3 : Int32) (x4 : Int32) (x5 : Int32) (μ : JM) : JO (Int32) := jck ((jT μ a).1 == 11) <| jde (jP μ a 0) fun q2 => jck ((jT μ q2).1 == 7) <| if ((jI μ q2 2) + (20 : Int32)) ≤ (900 : Int32) then (jcl (fX6_addFour q2 x1 μ) fun u6 μ7 => jck ((jT μ7 a).1 == 11) <| jde (jP μ7 a 0) fun q16 => jck ((jT μ7 q16).1 == 7) <| jcl (fX6_addFour q16 x2 μ7) fun u19 μ20 => jck ((jT μ20 a).1 == 11) <| jde (jP μ20 a 0) fun q29 => jck ((jT μ20 q29).1 == 7) <| jcl (fX6_addFour q29 x3 μ20) fun u32 μ33 => jck ((jT μ33 a).1 == 11) <| jde (jP μ33 a 0) fun q42 => jck ((jT μ33 q42).1 == 7) <| jcl (fX6_addFour q42 x4 μ33) fun u45 μ46 => jck ((jT μ46 a).1 == 11) <| jde (jP μ46 a 0) fun q55 => jck ((jT μ46 q55).1 == 7) <| jcl (fX6_addFour q55 x5 μ46) fun u58 μ59 => jck ((jT μ59 a).1 == 11) <| jde (jP μ59 a 0) fun q68 => jck ((jT μ59 q68).1 == 7) <| some ((jI μ59 q68 2), μ59, 0, 0)) else (some ((-1 : Int32), μ, 0, 0))
set_option maxHeartbeats 4000000 in
set_option maxRecDepth 100000 in
theorem mX10_feed {b : Nat} {a : Nat} {x1 : Int32} {x2 : Int32} {x3 : Int32} {x4 : Int32} {x5 : Int32} {μ : JM} {r : Int32} {ν : JM} {c m : Nat} (hf : fX10_feed a x1 x2 x3 x4 x5 μ = some (r, ν, c, m)) : JMet b yX10_feed cX10_feed 6 (some .int) 2 42 [va_rf (some a), .int x1, .int x2, .int x3, .int x4, .int x5] μ (some (.int r)) ν c m := by
  refine JMet.of (by decide) (lg_sl_le (by simp only [List.map_cons, List.map_nil, List.sum_cons, List.sum_nil, va_rf_cat]; exact Nat.le_of_ble_eq_true rfl)) (fun Θ X hin => ?_)
  refine wa_eq (L2 := [(0, va_rf (some a)), (1, .int x1), (2, .int x2), (3, .int x3), (4, .int x4), (5, .int x5)]) ?_ rfl (by first | rfl | simp [lv_args, va_rf_cat, cat_i, cat_l]) rfl
  obtain ⟨k, hk0⟩ : ∃ k : Nat, k = 0 := ⟨0, rfl⟩
  obtain ⟨n, hn0⟩ : ∃ n : Nat, n = 0 := ⟨0, rfl⟩
  have hk : k + c = c := by omega
  have hn : n + m = m := by omega
  refine wa_costs hk0.symm hn0.symm ?_
  rw [fX10_feed] at hf
  refine wa_aload_n X 0 dX10_feed_0 rfl ?_
  obtain ⟨h1, hf⟩ := jckT hf
  refine wa_getP X dX10_feed_1 lfX10_25 rfl h1 rfl ?_
  obtain ⟨q2, h3, hf⟩ := jde_some hf
  obtain ⟨h4, hf⟩ := jckT hf
  refine wa_getI X dX10_feed_4 lfX10_100 h3 h4 rfl ?_
  refine wa_bipush (v := (20 : Int32)) X dX10_feed_7 (by decide) ?_
  refine wa_iadd X dX10_feed_9 ?_
  refine wa_sipush (v := (900 : Int32)) X dX10_feed_10 (by decide) ?_
  refine wa_icle (tgt := 18) X dX10_feed_13 (by decide) (fun h5 => ?_) (fun h5 => ?_)
  · rw [if_pos h5] at hf
    refine wa_aload_n X 0 dX10_feed_18 rfl ?_
    refine wa_getP X dX10_feed_19 lfX10_25 rfl h1 rfl ?_
    refine wa_iload_n X 1 dX10_feed_22 rfl ?_
    obtain ⟨u6, μ7, c8, m9, c10, m11, e12, hf, h13, h14⟩ := jcl_some hf
    refine wa_rcallV (st2 := []) X dX10_feed_23 lmX10_103 lMX6_addFour h3 h4 (mX6_addFour e12) rfl rfl rfl (va_cats (Nat.le_of_ble_eq_true rfl)) (by decide) (by omega) (by omega) ?_
    refine wa_aload_n X 0 dX10_feed_26 rfl ?_
    obtain ⟨h15, hf⟩ := jckT hf
    refine wa_getP X dX10_feed_27 lfX10_25 rfl h15 rfl ?_
    refine wa_iload_n X 2 dX10_feed_30 rfl ?_
    obtain ⟨q16, h17, hf⟩ := jde_some hf
    obtain ⟨h18, hf⟩ := jckT hf
    obtain ⟨u19, μ20, c21, m22, c23, m24, e25, hf, h26, h27⟩ := jcl_some hf
    refine wa_rcallV (st2 := []) X dX10_feed_31 lmX10_103 lMX6_addFour h17 h18 (mX6_addFour e25) rfl rfl rfl (va_cats (Nat.le_of_ble_eq_true rfl)) (by decide) (by omega) (by omega) ?_
    refine wa_aload_n X 0 dX10_feed_34 rfl ?_
    obtain ⟨h28, hf⟩ := jckT hf
    refine wa_getP X dX10_feed_35 lfX10_25 rfl h28 rfl ?_
    refine wa_iload_n X 3 dX10_feed_38 rfl ?_
    obtain ⟨q29, h30, hf⟩ := jde_some hf
    obtain ⟨h31, hf⟩ := jckT hf
    obtain ⟨u32, μ33, c34, m35, c36, m37, e38, hf, h39, h40⟩ := jcl_some hf
    refine wa_rcallV (st2 := []) X dX10_feed_39 lmX10_103 lMX6_addFour h30 h31 (mX6_addFour e38) rfl rfl rfl (va_cats (Nat.le_of_ble_eq_true rfl)) (by decide) (by omega) (by omega) ?_
    refine wa_aload_n X 0 dX10_feed_42 rfl ?_
    obtain ⟨h41, hf⟩ := jckT hf
    refine wa_getP X dX10_feed_43 lfX10_25 rfl h41 rfl ?_
    refine wa_iload X 4 dX10_feed_46 rfl ?_
    obtain ⟨q42, h43, hf⟩ := jde_some hf
    obtain ⟨h44, hf⟩ := jckT hf
    obtain ⟨u45, μ46, c47, m48, c49, m50, e51, hf, h52, h53⟩ := jcl_some hf
    refine wa_rcallV (st2 := []) X dX10_feed_48 lmX10_103 lMX6_addFour h43 h44 (mX6_addFour e51) rfl rfl rfl (va_cats (Nat.le_of_ble_eq_true rfl)) (by decide) (by omega) (by omega) ?_
    refine wa_aload_n X 0 dX10_feed_51 rfl ?_
    obtain ⟨h54, hf⟩ := jckT hf
    refine wa_getP X dX10_feed_52 lfX10_25 rfl h54 rfl ?_
    refine wa_iload X 5 dX10_feed_55 rfl ?_
    obtain ⟨q55, h56, hf⟩ := jde_some hf
    obtain ⟨h57, hf⟩ := jckT hf
    obtain ⟨u58, μ59, c60, m61, c62, m63, e64, hf, h65, h66⟩ := jcl_some hf
    refine wa_rcallV (st2 := []) X dX10_feed_57 lmX10_103 lMX6_addFour h56 h57 (mX6_addFour e64) rfl rfl rfl (va_cats (Nat.le_of_ble_eq_true rfl)) (by decide) (by omega) (by omega) ?_
    refine wa_aload_n X 0 dX10_feed_60 rfl ?_
    obtain ⟨h67, hf⟩ := jckT hf
    refine wa_getP X dX10_feed_61 lfX10_25 rfl h67 rfl ?_
    obtain ⟨q68, h69, hf⟩ := jde_some hf
    obtain ⟨h70, hf⟩ := jckT hf
    refine wa_getI X dX10_feed_64 lfX10_100 h69 h70 rfl ?_
    obtain ⟨rfl, rfl, rfl, rfl⟩ := jret hf
    exact wa_iret X dX10_feed_67 rfl (by omega) (by omega)
  · rw [if_neg h5] at hf
    refine wa_iconst (v := (-1 : Int32)) X dX10_feed_16 (by decide) ?_
    obtain ⟨rfl, rfl, rfl, rfl⟩ := jret hf
    exact wa_iret X dX10_feed_17 rfl (by omega) (by omega)
theorem dX10_end_0 : decode cX10_end 0 = .ok (.iload_n 1, 1) := by decide +kernel
theorem dX10_end_1 : decode cX10_end 1 = .ok (.ifCond .lt 14, 3) := by decide +kernel
theorem dX10_end_4 : decode cX10_end 4 = .ok (.iload_n 1, 1) := by decide +kernel
theorem dX10_end_5 : decode cX10_end 5 = .ok (.aload_n 0, 1) := by decide +kernel
theorem dX10_end_6 : decode cX10_end 6 = .ok (.getfield 25, 3) := by decide +kernel
theorem dX10_end_9 : decode cX10_end 9 = .ok (.getfield 100, 3) := by decide +kernel
theorem dX10_end_12 : decode cX10_end 12 = .ok (.if_icmp .le 5, 3) := by decide +kernel
theorem dX10_end_15 : decode cX10_end 15 = .ok (.iconst (-1), 1) := by decide +kernel
theorem dX10_end_16 : decode cX10_end 16 = .ok (.ireturn, 1) := by decide +kernel
theorem dX10_end_17 : decode cX10_end 17 = .ok (.aload_n 0, 1) := by decide +kernel
theorem dX10_end_18 : decode cX10_end 18 = .ok (.getfield 25, 3) := by decide +kernel
theorem dX10_end_21 : decode cX10_end 21 = .ok (.iload_n 1, 1) := by decide +kernel
theorem dX10_end_22 : decode cX10_end 22 = .ok (.putfield 100, 3) := by decide +kernel
theorem dX10_end_25 : decode cX10_end 25 = .ok (.iload_n 1, 1) := by decide +kernel
theorem dX10_end_26 : decode cX10_end 26 = .ok (.ireturn, 1) := by decide +kernel
def fX10_end (a : Nat) (x1 : Int32) (μ : JM) : JO (Int32) := if x1 < 0 then (some ((-1 : Int32), μ, 0, 0)) else (jck ((jT μ a).1 == 11) <| jde (jP μ a 0) fun q3 => jck ((jT μ q3).1 == 7) <| if x1 ≤ (jI μ q3 2) then (jlt (jsI μ q3 2 x1) fun μ7 => some (x1, μ7, 0, 0)) else (some ((-1 : Int32), μ, 0, 0)))
set_option maxHeartbeats 4000000 in
set_option maxRecDepth 100000 in
theorem mX10_end {b : Nat} {a : Nat} {x1 : Int32} {μ : JM} {r : Int32} {ν : JM} {c m : Nat} (hf : fX10_end a x1 μ = some (r, ν, c, m)) : JMet b yX10_end cX10_end 2 (some .int) 0 0 [va_rf (some a), .int x1] μ (some (.int r)) ν c m := by
  refine JMet.of (by decide) (lg_sl_le (by simp only [List.map_cons, List.map_nil, List.sum_cons, List.sum_nil, va_rf_cat]; exact Nat.le_of_ble_eq_true rfl)) (fun Θ X hin => ?_)
  refine wa_eq (L2 := [(0, va_rf (some a)), (1, .int x1)]) ?_ rfl (by first | rfl | simp [lv_args, va_rf_cat, cat_i, cat_l]) rfl
  obtain ⟨k, hk0⟩ : ∃ k : Nat, k = 0 := ⟨0, rfl⟩
  obtain ⟨n, hn0⟩ : ∃ n : Nat, n = 0 := ⟨0, rfl⟩
  have hk : k + c = c := by omega
  have hn : n + m = m := by omega
  refine wa_costs hk0.symm hn0.symm ?_
  rw [fX10_end] at hf
  refine wa_iload_n X 1 dX10_end_0 rfl ?_
  refine wa_iflt (tgt := 15) X dX10_end_1 (by decide) (fun h1 => ?_) (fun h1 => ?_)
  · rw [if_pos h1] at hf
    refine wa_iconst (v := (-1 : Int32)) X dX10_end_15 (by decide) ?_
    obtain ⟨rfl, rfl, rfl, rfl⟩ := jret hf
    exact wa_iret X dX10_end_16 rfl (by omega) (by omega)
  · rw [if_neg h1] at hf
    refine wa_iload_n X 1 dX10_end_4 rfl ?_
    refine wa_aload_n X 0 dX10_end_5 rfl ?_
    obtain ⟨h2, hf⟩ := jckT hf
    refine wa_getP X dX10_end_6 lfX10_25 rfl h2 rfl ?_
    obtain ⟨q3, h4, hf⟩ := jde_some hf
    obtain ⟨h5, hf⟩ := jckT hf
    refine wa_getI X dX10_end_9 lfX10_100 h4 h5 rfl ?_
    refine wa_icle (tgt := 17) X dX10_end_12 (by decide) (fun h6 => ?_) (fun h6 => ?_)
    · rw [if_pos h6] at hf
      refine wa_aload_n X 0 dX10_end_17 rfl ?_
      refine wa_getP X dX10_end_18 lfX10_25 rfl h2 rfl ?_
      refine wa_iload_n X 1 dX10_end_21 rfl ?_
      obtain ⟨μ7, hm8, hf⟩ := jlt_e hf
      have e9 : jT μ7 = jT μ := by rw [hm8]; rfl
      refine wa_rputI (ν := μ7) X dX10_end_22 lfX10_100 h4 h5 rfl rfl hm8 ?_
      refine wa_iload_n X 1 dX10_end_25 rfl ?_
      obtain ⟨rfl, rfl, rfl, rfl⟩ := jret hf
      exact wa_iret X dX10_end_26 rfl (by omega) (by omega)
    · rw [if_neg h6] at hf
      refine wa_iconst (v := (-1 : Int32)) X dX10_end_15 (by decide) ?_
      obtain ⟨rfl, rfl, rfl, rfl⟩ := jret hf
      exact wa_iret X dX10_end_16 rfl (by omega) (by omega)
theorem dX10_useTape_0 : decode cX10_useTape 0 = .ok (.aload_n 0, 1) := by decide +kernel
theorem dX10_useTape_1 : decode cX10_useTape 1 = .ok (.getfield 50, 3) := by decide +kernel
theorem dX10_useTape_4 : decode cX10_useTape 4 = .ok (.aload_n 0, 1) := by decide +kernel
theorem dX10_useTape_5 : decode cX10_useTape 5 = .ok (.getfield 25, 3) := by decide +kernel
theorem dX10_useTape_8 : decode cX10_useTape 8 = .ok (.invokevirtual 156, 3) := by decide +kernel
theorem dX10_useTape_11 : decode cX10_useTape 11 = .ok (.aload_n 0, 1) := by decide +kernel
theorem dX10_useTape_12 : decode cX10_useTape 12 = .ok (.getfield 25, 3) := by decide +kernel
theorem dX10_useTape_15 : decode cX10_useTape 15 = .ok (.invokevirtual 149, 3) := by decide +kernel
theorem dX10_useTape_18 : decode cX10_useTape 18 = .ok (.return_, 1) := by decide +kernel
def fX10_useTape (a : Nat) (μ : JM) : JO (Unit) := jck ((jT μ a).1 == 11) <| jde (jP μ a 6) fun q2 => jck ((jT μ q2).1 == 8) <| jcl (fX7_scan q2 (jP μ a 0) μ) fun u5 μ6 => jck ((jT μ6 a).1 == 11) <| jde (jP μ6 a 0) fun q15 => jck ((jT μ6 q15).1 == 7) <| jcl (fX6_clear q15 μ6) fun u18 μ19 => some ((), μ19, 0, 0)
set_option maxHeartbeats 4000000 in
set_option maxRecDepth 100000 in
theorem mX10_useTape {b : Nat} {a : Nat} {μ : JM} {r : Unit} {ν : JM} {c m : Nat} (hf : fX10_useTape a μ = some (r, ν, c, m)) : JMet b yX10_useTape cX10_useTape 1 none 4 97 [va_rf (some a)] μ (none) ν c m := by
  refine JMet.of (by decide) (lg_sl_le (by simp only [List.map_cons, List.map_nil, List.sum_cons, List.sum_nil, va_rf_cat]; exact Nat.le_of_ble_eq_true rfl)) (fun Θ X hin => ?_)
  refine wa_eq (L2 := [(0, va_rf (some a))]) ?_ rfl (by first | rfl | simp [lv_args, va_rf_cat, cat_i, cat_l]) rfl
  obtain ⟨k, hk0⟩ : ∃ k : Nat, k = 0 := ⟨0, rfl⟩
  obtain ⟨n, hn0⟩ : ∃ n : Nat, n = 0 := ⟨0, rfl⟩
  have hk : k + c = c := by omega
  have hn : n + m = m := by omega
  refine wa_costs hk0.symm hn0.symm ?_
  rw [fX10_useTape] at hf
  refine wa_aload_n X 0 dX10_useTape_0 rfl ?_
  obtain ⟨h1, hf⟩ := jckT hf
  refine wa_getP X dX10_useTape_1 lfX10_50 rfl h1 rfl ?_
  refine wa_aload_n X 0 dX10_useTape_4 rfl ?_
  refine wa_getP X dX10_useTape_5 lfX10_25 rfl h1 rfl ?_
  obtain ⟨q2, h3, hf⟩ := jde_some hf
  obtain ⟨h4, hf⟩ := jckT hf
  obtain ⟨u5, μ6, c7, m8, c9, m10, e11, hf, h12, h13⟩ := jcl_some hf
  refine wa_rcallV (st2 := []) X dX10_useTape_8 lmX10_156 lMX7_scan h3 h4 (mX7_scan e11) rfl rfl rfl (va_cats (Nat.le_of_ble_eq_true rfl)) (by decide) (by omega) (by omega) ?_
  refine wa_aload_n X 0 dX10_useTape_11 rfl ?_
  obtain ⟨h14, hf⟩ := jckT hf
  refine wa_getP X dX10_useTape_12 lfX10_25 rfl h14 rfl ?_
  obtain ⟨q15, h16, hf⟩ := jde_some hf
  obtain ⟨h17, hf⟩ := jckT hf
  obtain ⟨u18, μ19, c20, m21, c22, m23, e24, hf, h25, h26⟩ := jcl_some hf
  refine wa_rcallV (st2 := []) X dX10_useTape_15 lmX10_149 lMX6_clear h16 h17 (mX6_clear e24) rfl rfl rfl (va_cats (Nat.le_of_ble_eq_true rfl)) (by decide) (by omega) (by omega) ?_
  obtain ⟨rfl, rfl, rfl, rfl⟩ := jret hf
  exact wa_vret X dX10_useTape_18 (by omega) (by omega)
theorem dX10_caseCount_0 : decode cX10_caseCount 0 = .ok (.iconst 1, 1) := by decide +kernel
theorem dX10_caseCount_1 : decode cX10_caseCount 1 = .ok (.aload_n 0, 1) := by decide +kernel
theorem dX10_caseCount_2 : decode cX10_caseCount 2 = .ok (.getfield 35, 3) := by decide +kernel
theorem dX10_caseCount_5 : decode cX10_caseCount 5 = .ok (.getfield 109, 3) := by decide +kernel
theorem dX10_caseCount_8 : decode cX10_caseCount 8 = .ok (.ishl, 1) := by decide +kernel
theorem dX10_caseCount_9 : decode cX10_caseCount 9 = .ok (.ireturn, 1) := by decide +kernel
def fX10_caseCount (a : Nat) (μ : JM) : JO (Int32) := jck ((jT μ a).1 == 11) <| jde (jP μ a 3) fun q2 => jck ((jT μ q2).1 == 10) <| some ((jshl (1 : Int32) (jI μ q2 1)), μ, 0, 0)
set_option maxHeartbeats 4000000 in
set_option maxRecDepth 100000 in
theorem mX10_caseCount {b : Nat} {a : Nat} {μ : JM} {r : Int32} {ν : JM} {c m : Nat} (hf : fX10_caseCount a μ = some (r, ν, c, m)) : JMet b yX10_caseCount cX10_caseCount 1 (some .int) 0 0 [va_rf (some a)] μ (some (.int r)) ν c m := by
  refine JMet.of (by decide) (lg_sl_le (by simp only [List.map_cons, List.map_nil, List.sum_cons, List.sum_nil, va_rf_cat]; exact Nat.le_of_ble_eq_true rfl)) (fun Θ X hin => ?_)
  refine wa_eq (L2 := [(0, va_rf (some a))]) ?_ rfl (by first | rfl | simp [lv_args, va_rf_cat, cat_i, cat_l]) rfl
  obtain ⟨k, hk0⟩ : ∃ k : Nat, k = 0 := ⟨0, rfl⟩
  obtain ⟨n, hn0⟩ : ∃ n : Nat, n = 0 := ⟨0, rfl⟩
  have hk : k + c = c := by omega
  have hn : n + m = m := by omega
  refine wa_costs hk0.symm hn0.symm ?_
  rw [fX10_caseCount] at hf
  refine wa_iconst (v := (1 : Int32)) X dX10_caseCount_0 (by decide) ?_
  refine wa_aload_n X 0 dX10_caseCount_1 rfl ?_
  obtain ⟨h1, hf⟩ := jckT hf
  refine wa_getP X dX10_caseCount_2 lfX10_35 rfl h1 rfl ?_
  obtain ⟨q2, h3, hf⟩ := jde_some hf
  obtain ⟨h4, hf⟩ := jckT hf
  refine wa_getI X dX10_caseCount_5 lfX10_109 h3 h4 rfl ?_
  refine wa_ishl X dX10_caseCount_8 ?_
  obtain ⟨rfl, rfl, rfl, rfl⟩ := jret hf
  exact wa_iret X dX10_caseCount_9 rfl (by omega) (by omega)
theorem dX10_facts_0 : decode cX10_facts 0 = .ok (.aload_n 0, 1) := by decide +kernel
theorem dX10_facts_1 : decode cX10_facts 1 = .ok (.invokevirtual 106, 3) := by decide +kernel
theorem dX10_facts_4 : decode cX10_facts 4 = .ok (.aload_n 0, 1) := by decide +kernel
theorem dX10_facts_5 : decode cX10_facts 5 = .ok (.getfield 35, 3) := by decide +kernel
theorem dX10_facts_8 : decode cX10_facts 8 = .ok (.getfield 109, 3) := by decide +kernel
theorem dX10_facts_11 : decode cX10_facts 11 = .ok (.ifCond .le 5, 3) := by decide +kernel
theorem dX10_facts_14 : decode cX10_facts 14 = .ok (.iconst (-1), 1) := by decide +kernel
theorem dX10_facts_15 : decode cX10_facts 15 = .ok (.ireturn, 1) := by decide +kernel
theorem dX10_facts_16 : decode cX10_facts 16 = .ok (.aload_n 0, 1) := by decide +kernel
theorem dX10_facts_17 : decode cX10_facts 17 = .ok (.getfield 59, 3) := by decide +kernel
theorem dX10_facts_20 : decode cX10_facts 20 = .ok (.invokevirtual 110, 3) := by decide +kernel
theorem dX10_facts_23 : decode cX10_facts 23 = .ok (.ifCond .ne 14, 3) := by decide +kernel
theorem dX10_facts_26 : decode cX10_facts 26 = .ok (.bipush (-2), 2) := by decide +kernel
theorem dX10_facts_28 : decode cX10_facts 28 = .ok (.aload_n 0, 1) := by decide +kernel
theorem dX10_facts_29 : decode cX10_facts 29 = .ok (.getfield 50, 3) := by decide +kernel
theorem dX10_facts_32 : decode cX10_facts 32 = .ok (.getfield 114, 3) := by decide +kernel
theorem dX10_facts_35 : decode cX10_facts 35 = .ok (.isub, 1) := by decide +kernel
theorem dX10_facts_36 : decode cX10_facts 36 = .ok (.ireturn, 1) := by decide +kernel
theorem dX10_facts_37 : decode cX10_facts 37 = .ok (.aload_n 0, 1) := by decide +kernel
theorem dX10_facts_38 : decode cX10_facts 38 = .ok (.getfield 78, 3) := by decide +kernel
theorem dX10_facts_41 : decode cX10_facts 41 = .ok (.aload_n 0, 1) := by decide +kernel
theorem dX10_facts_42 : decode cX10_facts 42 = .ok (.invokevirtual 117, 3) := by decide +kernel
theorem dX10_facts_45 : decode cX10_facts 45 = .ok (.invokevirtual 121, 3) := by decide +kernel
theorem dX10_facts_48 : decode cX10_facts 48 = .ok (.aload_n 0, 1) := by decide +kernel
theorem dX10_facts_49 : decode cX10_facts 49 = .ok (.getfield 35, 3) := by decide +kernel
theorem dX10_facts_52 : decode cX10_facts 52 = .ok (.getfield 109, 3) := by decide +kernel
theorem dX10_facts_55 : decode cX10_facts 55 = .ok (.ireturn, 1) := by decide +kernel
def fX10_facts (a : Nat) (μ : JM) : JO (Int32) := jck ((jT μ a).1 == 11) <| jcl (fX10_useTape a μ) fun u2 μ3 => jck ((jT μ3 a).1 == 11) <| jde (jP μ3 a 3) fun q12 => jck ((jT μ3 q12).1 == 10) <| if (jI μ3 q12 1) ≤ 0 then (jde (jP μ3 a 7) fun q16 => jck ((jT μ3 q16).1 == 5) <| jcl (fX4_readFacts q16 μ3) fun r19 μ20 => if r19 = 0 then (jck ((jT μ20 a).1 == 11) <| jde (jP μ20 a 6) fun q56 => jck ((jT μ20 q56).1 == 8) <| some (((-2 : Int32) - (jI μ20 q56 5)), μ20, 0, 0)) else (jck ((jT μ20 a).1 == 11) <| jcl (fX10_caseCount a μ20) fun r30 μ31 => jde (jP μ20 a 10) fun q39 => jck ((jT μ31 q39).1 == 2) <| jcl (fX1_setFirst q39 r30 μ31) fun u42 μ43 => jck ((jT μ43 a).1 == 11) <| jde (jP μ43 a 3) fun q52 => jck ((jT μ43 q52).1 == 10) <| some ((jI μ43 q52 1), μ43, 0, 0))) else (some ((-1 : Int32), μ3, 0, 0))
set_option maxHeartbeats 4000000 in
set_option maxRecDepth 100000 in
theorem mX10_facts {b : Nat} {a : Nat} {μ : JM} {r : Int32} {ν : JM} {c m : Nat} (hf : fX10_facts a μ = some (r, ν, c, m)) : JMet b yX10_facts cX10_facts 1 (some .int) 5 117 [va_rf (some a)] μ (some (.int r)) ν c m := by
  refine JMet.of (by decide) (lg_sl_le (by simp only [List.map_cons, List.map_nil, List.sum_cons, List.sum_nil, va_rf_cat]; exact Nat.le_of_ble_eq_true rfl)) (fun Θ X hin => ?_)
  refine wa_eq (L2 := [(0, va_rf (some a))]) ?_ rfl (by first | rfl | simp [lv_args, va_rf_cat, cat_i, cat_l]) rfl
  obtain ⟨k, hk0⟩ : ∃ k : Nat, k = 0 := ⟨0, rfl⟩
  obtain ⟨n, hn0⟩ : ∃ n : Nat, n = 0 := ⟨0, rfl⟩
  have hk : k + c = c := by omega
  have hn : n + m = m := by omega
  refine wa_costs hk0.symm hn0.symm ?_
  rw [fX10_facts] at hf
  refine wa_aload_n X 0 dX10_facts_0 rfl ?_
  obtain ⟨h1, hf⟩ := jckT hf
  obtain ⟨u2, μ3, c4, m5, c6, m7, e8, hf, h9, h10⟩ := jcl_some hf
  refine wa_rcallV (st2 := []) X dX10_facts_1 lmX10_106 lMX10_useTape rfl h1 (mX10_useTape e8) rfl rfl rfl (va_cats (Nat.le_of_ble_eq_true rfl)) (by decide) (by omega) (by omega) ?_
  refine wa_aload_n X 0 dX10_facts_4 rfl ?_
  obtain ⟨h11, hf⟩ := jckT hf
  refine wa_getP X dX10_facts_5 lfX10_35 rfl h11 rfl ?_
  obtain ⟨q12, h13, hf⟩ := jde_some hf
  obtain ⟨h14, hf⟩ := jckT hf
  refine wa_getI X dX10_facts_8 lfX10_109 h13 h14 rfl ?_
  refine wa_ifle (tgt := 16) X dX10_facts_11 (by decide) (fun h15 => ?_) (fun h15 => ?_)
  · rw [if_pos h15] at hf
    refine wa_aload_n X 0 dX10_facts_16 rfl ?_
    refine wa_getP X dX10_facts_17 lfX10_59 rfl h11 rfl ?_
    obtain ⟨q16, h17, hf⟩ := jde_some hf
    obtain ⟨h18, hf⟩ := jckT hf
    obtain ⟨r19, μ20, c21, m22, c23, m24, e25, hf, h26, h27⟩ := jcl_some hf
    refine wa_rcallV (st2 := [.int r19]) X dX10_facts_20 lmX10_110 lMX4_readFacts h17 h18 (mX4_readFacts e25) rfl rfl rfl (va_cats (Nat.le_of_ble_eq_true rfl)) (by decide) (by omega) (by omega) ?_
    refine wa_ifne (tgt := 37) X dX10_facts_23 (by decide) (fun h28 => ?_) (fun h28 => ?_)
    · rw [if_neg h28] at hf
      refine wa_aload_n X 0 dX10_facts_37 rfl ?_
      obtain ⟨h29, hf⟩ := jckT hf
      refine wa_getP X dX10_facts_38 lfX10_78 rfl h29 rfl ?_
      refine wa_aload_n X 0 dX10_facts_41 rfl ?_
      obtain ⟨r30, μ31, c32, m33, c34, m35, e36, hf, h37, h38⟩ := jcl_some hf
      refine wa_rcallV (st2 := [.int r30, va_rf (jP μ20 a 10)]) X dX10_facts_42 lmX10_117 lMX10_caseCount rfl h29 (mX10_caseCount e36) rfl rfl rfl (va_cats (Nat.le_of_ble_eq_true rfl)) (by decide) (by omega) (by omega) ?_
      obtain ⟨q39, h40, hf⟩ := jde_some hf
      obtain ⟨h41, hf⟩ := jckT hf
      obtain ⟨u42, μ43, c44, m45, c46, m47, e48, hf, h49, h50⟩ := jcl_some hf
      refine wa_rcallV (st2 := []) X dX10_facts_45 lmX10_121 lMX1_setFirst h40 h41 (mX1_setFirst e48) rfl rfl rfl (va_cats (Nat.le_of_ble_eq_true rfl)) (by decide) (by omega) (by omega) ?_
      refine wa_aload_n X 0 dX10_facts_48 rfl ?_
      obtain ⟨h51, hf⟩ := jckT hf
      refine wa_getP X dX10_facts_49 lfX10_35 rfl h51 rfl ?_
      obtain ⟨q52, h53, hf⟩ := jde_some hf
      obtain ⟨h54, hf⟩ := jckT hf
      refine wa_getI X dX10_facts_52 lfX10_109 h53 h54 rfl ?_
      obtain ⟨rfl, rfl, rfl, rfl⟩ := jret hf
      exact wa_iret X dX10_facts_55 rfl (by omega) (by omega)
    · rw [if_pos h28] at hf
      refine wa_bipush (v := (-2 : Int32)) X dX10_facts_26 (by decide) ?_
      refine wa_aload_n X 0 dX10_facts_28 rfl ?_
      obtain ⟨h55, hf⟩ := jckT hf
      refine wa_getP X dX10_facts_29 lfX10_50 rfl h55 rfl ?_
      obtain ⟨q56, h57, hf⟩ := jde_some hf
      obtain ⟨h58, hf⟩ := jckT hf
      refine wa_getI X dX10_facts_32 lfX10_114 h57 h58 rfl ?_
      refine wa_isub X dX10_facts_35 ?_
      obtain ⟨rfl, rfl, rfl, rfl⟩ := jret hf
      exact wa_iret X dX10_facts_36 rfl (by omega) (by omega)
  · rw [if_neg h15] at hf
    refine wa_iconst (v := (-1 : Int32)) X dX10_facts_14 (by decide) ?_
    obtain ⟨rfl, rfl, rfl, rfl⟩ := jret hf
    exact wa_iret X dX10_facts_15 rfl (by omega) (by omega)
theorem dX10_version_0 : decode cX10_version 0 = .ok (.aload_n 0, 1) := by decide +kernel
theorem dX10_version_1 : decode cX10_version 1 = .ok (.invokevirtual 106, 3) := by decide +kernel
theorem dX10_version_4 : decode cX10_version 4 = .ok (.aload_n 0, 1) := by decide +kernel
theorem dX10_version_5 : decode cX10_version 5 = .ok (.getfield 35, 3) := by decide +kernel
theorem dX10_version_8 : decode cX10_version 8 = .ok (.getfield 109, 3) := by decide +kernel
theorem dX10_version_11 : decode cX10_version 11 = .ok (.ifCond .eq 12, 3) := by decide +kernel
theorem dX10_version_14 : decode cX10_version 14 = .ok (.iload_n 1, 1) := by decide +kernel
theorem dX10_version_15 : decode cX10_version 15 = .ok (.ifCond .lt 8, 3) := by decide +kernel
theorem dX10_version_18 : decode cX10_version 18 = .ok (.iload_n 1, 1) := by decide +kernel
theorem dX10_version_19 : decode cX10_version 19 = .ok (.iconst 4, 1) := by decide +kernel
theorem dX10_version_20 : decode cX10_version 20 = .ok (.if_icmp .lt 5, 3) := by decide +kernel
theorem dX10_version_23 : decode cX10_version 23 = .ok (.iconst (-1), 1) := by decide +kernel
theorem dX10_version_24 : decode cX10_version 24 = .ok (.ireturn, 1) := by decide +kernel
theorem dX10_version_25 : decode cX10_version 25 = .ok (.aload_n 0, 1) := by decide +kernel
theorem dX10_version_26 : decode cX10_version 26 = .ok (.getfield 59, 3) := by decide +kernel
theorem dX10_version_29 : decode cX10_version 29 = .ok (.aload_n 0, 1) := by decide +kernel
theorem dX10_version_30 : decode cX10_version 30 = .ok (.getfield 124, 3) := by decide +kernel
theorem dX10_version_33 : decode cX10_version 33 = .ok (.invokevirtual 127, 3) := by decide +kernel
theorem dX10_version_36 : decode cX10_version 36 = .ok (.astore_n 2, 1) := by decide +kernel
theorem dX10_version_37 : decode cX10_version 37 = .ok (.aload_n 2, 1) := by decide +kernel
theorem dX10_version_38 : decode cX10_version 38 = .ok (.ifnonnull 14, 3) := by decide +kernel
theorem dX10_version_41 : decode cX10_version 41 = .ok (.bipush (-2), 2) := by decide +kernel
theorem dX10_version_43 : decode cX10_version 43 = .ok (.aload_n 0, 1) := by decide +kernel
theorem dX10_version_44 : decode cX10_version 44 = .ok (.getfield 50, 3) := by decide +kernel
theorem dX10_version_47 : decode cX10_version 47 = .ok (.getfield 114, 3) := by decide +kernel
theorem dX10_version_50 : decode cX10_version 50 = .ok (.isub, 1) := by decide +kernel
theorem dX10_version_51 : decode cX10_version 51 = .ok (.ireturn, 1) := by decide +kernel
theorem dX10_version_52 : decode cX10_version 52 = .ok (.aload_n 0, 1) := by decide +kernel
theorem dX10_version_53 : decode cX10_version 53 = .ok (.dup, 1) := by decide +kernel
theorem dX10_version_54 : decode cX10_version 54 = .ok (.getfield 124, 3) := by decide +kernel
theorem dX10_version_57 : decode cX10_version 57 = .ok (.iconst 1, 1) := by decide +kernel
theorem dX10_version_58 : decode cX10_version 58 = .ok (.iadd, 1) := by decide +kernel
theorem dX10_version_59 : decode cX10_version 59 = .ok (.putfield 124, 3) := by decide +kernel
theorem dX10_version_62 : decode cX10_version 62 = .ok (.aload_n 0, 1) := by decide +kernel
theorem dX10_version_63 : decode cX10_version 63 = .ok (.getfield 65, 3) := by decide +kernel
theorem dX10_version_66 : decode cX10_version 66 = .ok (.iload_n 1, 1) := by decide +kernel
theorem dX10_version_67 : decode cX10_version 67 = .ok (.aload_n 2, 1) := by decide +kernel
theorem dX10_version_68 : decode cX10_version 68 = .ok (.aastore, 1) := by decide +kernel
theorem dX10_version_69 : decode cX10_version 69 = .ok (.aload_n 2, 1) := by decide +kernel
theorem dX10_version_70 : decode cX10_version 70 = .ok (.getfield 131, 3) := by decide +kernel
theorem dX10_version_73 : decode cX10_version 73 = .ok (.ireturn, 1) := by decide +kernel
def fX10_version (a : Nat) (x1 : Int32) (μ : JM) : JO (Int32) := jck ((jT μ a).1 == 11) <| jcl (fX10_useTape a μ) fun u2 μ3 => jck ((jT μ3 a).1 == 11) <| jde (jP μ3 a 3) fun q12 => jck ((jT μ3 q12).1 == 10) <| if (jI μ3 q12 1) = 0 then (some ((-1 : Int32), μ3, 0, 0)) else (if x1 < 0 then (some ((-1 : Int32), μ3, 0, 0)) else (if x1 < (4 : Int32) then (jde (jP μ3 a 7) fun q18 => jck ((jT μ3 q18).1 == 5) <| jcl (fX4_readVersion q18 (jI μ3 a 13) μ3) fun r21 μ22 => if r21 = none then (jck ((jT μ22 a).1 == 11) <| jde (jP μ22 a 6) fun q47 => jck ((jT μ22 q47).1 == 8) <| some (((-2 : Int32) - (jI μ22 q47 5)), μ22, 0, 0)) else (jck ((jT μ22 a).1 == 11) <| jlt (jsI μ22 a 13 ((jI μ22 a 13) + (1 : Int32))) fun μ32 => jde (jP μ32 a 8) fun q35 => jck ((jT μ22 q35).1 == 106) <| jck (jin x1 (jT μ22 q35).2) <| jck (jkd μ22 r21 9) <| jlt (jsP μ32 q35 (x1).toNatClampNeg r21) fun μ40 => jde r21 fun q43 => jck ((jT μ22 q43).1 == 9) <| some ((jI μ40 q43 2), μ40, 0, 0))) else (some ((-1 : Int32), μ3, 0, 0))))
set_option maxHeartbeats 4000000 in
set_option maxRecDepth 100000 in
theorem mX10_version {b : Nat} {a : Nat} {x1 : Int32} {μ : JM} {r : Int32} {ν : JM} {c m : Nat} (hf : fX10_version a x1 μ = some (r, ν, c, m)) : JMet b yX10_version cX10_version 3 (some .int) 6 178 [va_rf (some a), .int x1] μ (some (.int r)) ν c m := by
  refine JMet.of (by decide) (lg_sl_le (by simp only [List.map_cons, List.map_nil, List.sum_cons, List.sum_nil, va_rf_cat]; exact Nat.le_of_ble_eq_true rfl)) (fun Θ X hin => ?_)
  refine wa_eq (L2 := [(0, va_rf (some a)), (1, .int x1)]) ?_ rfl (by first | rfl | simp [lv_args, va_rf_cat, cat_i, cat_l]) rfl
  obtain ⟨k, hk0⟩ : ∃ k : Nat, k = 0 := ⟨0, rfl⟩
  obtain ⟨n, hn0⟩ : ∃ n : Nat, n = 0 := ⟨0, rfl⟩
  have hk : k + c = c := by omega
  have hn : n + m = m := by omega
  refine wa_costs hk0.symm hn0.symm ?_
  rw [fX10_version] at hf
  refine wa_aload_n X 0 dX10_version_0 rfl ?_
  obtain ⟨h1, hf⟩ := jckT hf
  obtain ⟨u2, μ3, c4, m5, c6, m7, e8, hf, h9, h10⟩ := jcl_some hf
  refine wa_rcallV (st2 := []) X dX10_version_1 lmX10_106 lMX10_useTape rfl h1 (mX10_useTape e8) rfl rfl rfl (va_cats (Nat.le_of_ble_eq_true rfl)) (by decide) (by omega) (by omega) ?_
  refine wa_aload_n X 0 dX10_version_4 rfl ?_
  obtain ⟨h11, hf⟩ := jckT hf
  refine wa_getP X dX10_version_5 lfX10_35 rfl h11 rfl ?_
  obtain ⟨q12, h13, hf⟩ := jde_some hf
  obtain ⟨h14, hf⟩ := jckT hf
  refine wa_getI X dX10_version_8 lfX10_109 h13 h14 rfl ?_
  refine wa_ifeq (tgt := 23) X dX10_version_11 (by decide) (fun h15 => ?_) (fun h15 => ?_)
  · rw [if_pos h15] at hf
    refine wa_iconst (v := (-1 : Int32)) X dX10_version_23 (by decide) ?_
    obtain ⟨rfl, rfl, rfl, rfl⟩ := jret hf
    exact wa_iret X dX10_version_24 rfl (by omega) (by omega)
  · rw [if_neg h15] at hf
    refine wa_iload_n X 1 dX10_version_14 rfl ?_
    refine wa_iflt (tgt := 23) X dX10_version_15 (by decide) (fun h16 => ?_) (fun h16 => ?_)
    · rw [if_pos h16] at hf
      refine wa_iconst (v := (-1 : Int32)) X dX10_version_23 (by decide) ?_
      obtain ⟨rfl, rfl, rfl, rfl⟩ := jret hf
      exact wa_iret X dX10_version_24 rfl (by omega) (by omega)
    · rw [if_neg h16] at hf
      refine wa_iload_n X 1 dX10_version_18 rfl ?_
      refine wa_iconst (v := (4 : Int32)) X dX10_version_19 (by decide) ?_
      refine wa_iclt (tgt := 25) X dX10_version_20 (by decide) (fun h17 => ?_) (fun h17 => ?_)
      · rw [if_pos h17] at hf
        refine wa_aload_n X 0 dX10_version_25 rfl ?_
        refine wa_getP X dX10_version_26 lfX10_59 rfl h11 rfl ?_
        refine wa_aload_n X 0 dX10_version_29 rfl ?_
        refine wa_getI X dX10_version_30 lfX10_124 rfl h11 rfl ?_
        obtain ⟨q18, h19, hf⟩ := jde_some hf
        obtain ⟨h20, hf⟩ := jckT hf
        obtain ⟨r21, μ22, c23, m24, c25, m26, e27, hf, h28, h29⟩ := jcl_some hf
        refine wa_rcallV (st2 := [va_rf r21]) X dX10_version_33 lmX10_127 lMX4_readVersion h19 h20 (mX4_readVersion e27) rfl rfl rfl (va_cats (Nat.le_of_ble_eq_true rfl)) (by decide) (by omega) (by omega) ?_
        refine wa_astore_n (L2 := [(2, va_rf r21), (0, va_rf (some a)), (1, .int x1)]) X dX10_version_36 (by decide) (by first | rfl | (show (2, _) :: List.filter (fun q : Nat × Value => !(q.1 == 2) && !(q.1 + 1 == 2 && q.2.category == 2)) _ = _; simp [va_rf_cat, cat_i, cat_l])) ?_
        refine wa_aload_n X 0 dX10_version_37 rfl ?_
        refine wa_ifnonnull (tgt := 52) X dX10_version_38 (by decide) (fun h30 => ?_) (fun h30 => ?_)
        · rw [if_neg h30] at hf
          refine wa_aload_n X 1 dX10_version_52 rfl ?_
          refine wa_dup X dX10_version_53 (va_rf_cat _) ?_
          obtain ⟨h31, hf⟩ := jckT hf
          refine wa_getI X dX10_version_54 lfX10_124 rfl h31 rfl ?_
          refine wa_iconst (v := (1 : Int32)) X dX10_version_57 (by decide) ?_
          refine wa_iadd X dX10_version_58 ?_
          obtain ⟨μ32, hm33, hf⟩ := jlt_e hf
          have e34 : jT μ32 = jT μ22 := by rw [hm33]; rfl
          refine wa_rputI (ν := μ32) X dX10_version_59 lfX10_124 rfl h31 rfl rfl hm33 ?_
          refine wa_aload_n X 1 dX10_version_62 rfl ?_
          refine wa_getP X dX10_version_63 lfX10_65 rfl (by rw [e34]; exact h31) rfl ?_
          refine wa_iload_n X 2 dX10_version_66 rfl ?_
          refine wa_aload_n X 0 dX10_version_67 rfl ?_
          obtain ⟨q35, h36, hf⟩ := jde_some hf
          obtain ⟨h37, hf⟩ := jckT hf
          obtain ⟨h38, hf⟩ := jck_some hf
          obtain ⟨h39, hf⟩ := jck_some hf
          obtain ⟨μ40, hm41, hf⟩ := jlt_e hf
          have e42 : jT μ40 = jT μ22 := by rw [hm41]; exact e34
          refine wa_raast (ν := μ40) (t := 106) (tc := 9) X dX10_version_68 h36 (by rw [e34]; exact h37) (by decide) (by decide) rfl (fun _ => rfl) (fun z hz => by rw [e34]; exact jkd_is h39 hz) (by rw [e34]; exact h38) hm41 ?_
          refine wa_aload_n X 0 dX10_version_69 rfl ?_
          obtain ⟨q43, h44, hf⟩ := jde_some hf
          obtain ⟨h45, hf⟩ := jckT hf
          refine wa_getI X dX10_version_70 lfX10_131 h44 (by rw [e42]; exact h45) rfl ?_
          obtain ⟨rfl, rfl, rfl, rfl⟩ := jret hf
          exact wa_iret X dX10_version_73 rfl (by omega) (by omega)
        · rw [if_pos h30] at hf
          refine wa_bipush (v := (-2 : Int32)) X dX10_version_41 (by decide) ?_
          refine wa_aload_n X 1 dX10_version_43 rfl ?_
          obtain ⟨h46, hf⟩ := jckT hf
          refine wa_getP X dX10_version_44 lfX10_50 rfl h46 rfl ?_
          obtain ⟨q47, h48, hf⟩ := jde_some hf
          obtain ⟨h49, hf⟩ := jckT hf
          refine wa_getI X dX10_version_47 lfX10_114 h48 h49 rfl ?_
          refine wa_isub X dX10_version_50 ?_
          obtain ⟨rfl, rfl, rfl, rfl⟩ := jret hf
          exact wa_iret X dX10_version_51 rfl (by omega) (by omega)
      · rw [if_neg h17] at hf
        refine wa_iconst (v := (-1 : Int32)) X dX10_version_23 (by decide) ?_
        obtain ⟨rfl, rfl, rfl, rfl⟩ := jret hf
        exact wa_iret X dX10_version_24 rfl (by omega) (by omega)
theorem dX10_versionAt_0 : decode cX10_versionAt 0 = .ok (.iload_n 1, 1) := by decide +kernel
theorem dX10_versionAt_1 : decode cX10_versionAt 1 = .ok (.ifCond .lt 8, 3) := by decide +kernel
theorem dX10_versionAt_4 : decode cX10_versionAt 4 = .ok (.iload_n 1, 1) := by decide +kernel
theorem dX10_versionAt_5 : decode cX10_versionAt 5 = .ok (.iconst 4, 1) := by decide +kernel
theorem dX10_versionAt_6 : decode cX10_versionAt 6 = .ok (.if_icmp .lt 7, 3) := by decide +kernel
theorem dX10_versionAt_9 : decode cX10_versionAt 9 = .ok (.aconst_null, 1) := by decide +kernel
theorem dX10_versionAt_10 : decode cX10_versionAt 10 = .ok (.goto 9, 3) := by decide +kernel
theorem dX10_versionAt_13 : decode cX10_versionAt 13 = .ok (.aload_n 0, 1) := by decide +kernel
theorem dX10_versionAt_14 : decode cX10_versionAt 14 = .ok (.getfield 65, 3) := by decide +kernel
theorem dX10_versionAt_17 : decode cX10_versionAt 17 = .ok (.iload_n 1, 1) := by decide +kernel
theorem dX10_versionAt_18 : decode cX10_versionAt 18 = .ok (.aaload, 1) := by decide +kernel
theorem dX10_versionAt_19 : decode cX10_versionAt 19 = .ok (.areturn, 1) := by decide +kernel
def fX10_versionAt (a : Nat) (x1 : Int32) (μ : JM) : JO (Option Nat) := if x1 < 0 then (some (none, μ, 0, 0)) else (if x1 < (4 : Int32) then (jck ((jT μ a).1 == 11) <| jde (jP μ a 8) fun q4 => jck ((jT μ q4).1 == 106) <| jck (jin x1 (jT μ q4).2) <| some ((jP μ q4 (x1).toNatClampNeg), μ, 0, 0)) else (some (none, μ, 0, 0)))
set_option maxHeartbeats 4000000 in
set_option maxRecDepth 100000 in
theorem mX10_versionAt {b : Nat} {a : Nat} {x1 : Int32} {μ : JM} {r : Option Nat} {ν : JM} {c m : Nat} (hf : fX10_versionAt a x1 μ = some (r, ν, c, m)) : JMet b yX10_versionAt cX10_versionAt 2 (some (.object "ClauseBench$Version")) 0 0 [va_rf (some a), .int x1] μ (some (va_rf r)) ν c m := by
  refine JMet.of (by decide) (lg_sl_le (by simp only [List.map_cons, List.map_nil, List.sum_cons, List.sum_nil, va_rf_cat]; exact Nat.le_of_ble_eq_true rfl)) (fun Θ X hin => ?_)
  refine wa_eq (L2 := [(0, va_rf (some a)), (1, .int x1)]) ?_ rfl (by first | rfl | simp [lv_args, va_rf_cat, cat_i, cat_l]) rfl
  obtain ⟨k, hk0⟩ : ∃ k : Nat, k = 0 := ⟨0, rfl⟩
  obtain ⟨n, hn0⟩ : ∃ n : Nat, n = 0 := ⟨0, rfl⟩
  have hk : k + c = c := by omega
  have hn : n + m = m := by omega
  refine wa_costs hk0.symm hn0.symm ?_
  rw [fX10_versionAt] at hf
  refine wa_iload_n X 1 dX10_versionAt_0 rfl ?_
  refine wa_iflt (tgt := 9) X dX10_versionAt_1 (by decide) (fun h1 => ?_) (fun h1 => ?_)
  · rw [if_pos h1] at hf
    refine wa_null X dX10_versionAt_9 ?_
    refine wa_goto (tgt := 19) X dX10_versionAt_10 (by decide) ?_
    obtain ⟨rfl, rfl, rfl, rfl⟩ := jret hf
    exact wa_aret X dX10_versionAt_19 (by first | exact Or.inl ⟨_, rfl⟩ | exact Or.inr ⟨_, rfl⟩) (by omega) (by omega)
  · rw [if_neg h1] at hf
    refine wa_iload_n X 1 dX10_versionAt_4 rfl ?_
    refine wa_iconst (v := (4 : Int32)) X dX10_versionAt_5 (by decide) ?_
    refine wa_iclt (tgt := 13) X dX10_versionAt_6 (by decide) (fun h2 => ?_) (fun h2 => ?_)
    · rw [if_pos h2] at hf
      refine wa_aload_n X 0 dX10_versionAt_13 rfl ?_
      obtain ⟨h3, hf⟩ := jckT hf
      refine wa_getP X dX10_versionAt_14 lfX10_65 rfl h3 rfl ?_
      refine wa_iload_n X 1 dX10_versionAt_17 rfl ?_
      obtain ⟨q4, h5, hf⟩ := jde_some hf
      obtain ⟨h6, hf⟩ := jckT hf
      obtain ⟨h7, hf⟩ := jck_some hf
      refine wa_raald (t := 106) X dX10_versionAt_18 h5 h6 (by decide) rfl rfl h7 ?_
      obtain ⟨rfl, rfl, rfl, rfl⟩ := jret hf
      exact wa_aret X dX10_versionAt_19 (by first | exact Or.inl ⟨_, rfl⟩ | exact Or.inr ⟨_, rfl⟩) (by omega) (by omega)
    · rw [if_neg h2] at hf
      refine wa_null X dX10_versionAt_9 ?_
      refine wa_goto (tgt := 19) X dX10_versionAt_10 (by decide) ?_
      obtain ⟨rfl, rfl, rfl, rfl⟩ := jret hf
      exact wa_aret X dX10_versionAt_19 (by first | exact Or.inl ⟨_, rfl⟩ | exact Or.inr ⟨_, rfl⟩) (by omega) (by omega)
theorem dX10_rider_0 : decode cX10_rider 0 = .ok (.aload_n 0, 1) := by decide +kernel
theorem dX10_rider_1 : decode cX10_rider 1 = .ok (.invokevirtual 106, 3) := by decide +kernel
theorem dX10_rider_4 : decode cX10_rider 4 = .ok (.aload_n 0, 1) := by decide +kernel
theorem dX10_rider_5 : decode cX10_rider 5 = .ok (.iload_n 1, 1) := by decide +kernel
theorem dX10_rider_6 : decode cX10_rider 6 = .ok (.invokevirtual 132, 3) := by decide +kernel
theorem dX10_rider_9 : decode cX10_rider 9 = .ok (.astore_n 3, 1) := by decide +kernel
theorem dX10_rider_10 : decode cX10_rider 10 = .ok (.aload_n 3, 1) := by decide +kernel
theorem dX10_rider_11 : decode cX10_rider 11 = .ok (.ifnull 22, 3) := by decide +kernel
theorem dX10_rider_14 : decode cX10_rider 14 = .ok (.iload_n 2, 1) := by decide +kernel
theorem dX10_rider_15 : decode cX10_rider 15 = .ok (.ifCond .lt 18, 3) := by decide +kernel
theorem dX10_rider_18 : decode cX10_rider 18 = .ok (.iload_n 2, 1) := by decide +kernel
theorem dX10_rider_19 : decode cX10_rider 19 = .ok (.iconst 4, 1) := by decide +kernel
theorem dX10_rider_20 : decode cX10_rider 20 = .ok (.if_icmp .ge 13, 3) := by decide +kernel
theorem dX10_rider_23 : decode cX10_rider 23 = .ok (.aload_n 0, 1) := by decide +kernel
theorem dX10_rider_24 : decode cX10_rider 24 = .ok (.getfield 135, 3) := by decide +kernel
theorem dX10_rider_27 : decode cX10_rider 27 = .ok (.sipush 256, 3) := by decide +kernel
theorem dX10_rider_30 : decode cX10_rider 30 = .ok (.if_icmp .lt 5, 3) := by decide +kernel
theorem dX10_rider_33 : decode cX10_rider 33 = .ok (.iconst (-1), 1) := by decide +kernel
theorem dX10_rider_34 : decode cX10_rider 34 = .ok (.ireturn, 1) := by decide +kernel
theorem dX10_rider_35 : decode cX10_rider 35 = .ok (.new 63, 3) := by decide +kernel
theorem dX10_rider_38 : decode cX10_rider 38 = .ok (.dup, 1) := by decide +kernel
theorem dX10_rider_39 : decode cX10_rider 39 = .ok (.bipush 36, 2) := by decide +kernel
theorem dX10_rider_41 : decode cX10_rider 41 = .ok (.iconst (-1), 1) := by decide +kernel
theorem dX10_rider_42 : decode cX10_rider 42 = .ok (.invokespecial 138, 3) := by decide +kernel
theorem dX10_rider_45 : decode cX10_rider 45 = .ok (.astore 4, 2) := by decide +kernel
theorem dX10_rider_47 : decode cX10_rider 47 = .ok (.aload 4, 2) := by decide +kernel
theorem dX10_rider_49 : decode cX10_rider 49 = .ok (.aload_n 3, 1) := by decide +kernel
theorem dX10_rider_50 : decode cX10_rider 50 = .ok (.invokevirtual 141, 3) := by decide +kernel
theorem dX10_rider_53 : decode cX10_rider 53 = .ok (.aload_n 0, 1) := by decide +kernel
theorem dX10_rider_54 : decode cX10_rider 54 = .ok (.getfield 59, 3) := by decide +kernel
theorem dX10_rider_57 : decode cX10_rider 57 = .ok (.aload 4, 2) := by decide +kernel
theorem dX10_rider_59 : decode cX10_rider 59 = .ok (.invokevirtual 145, 3) := by decide +kernel
theorem dX10_rider_62 : decode cX10_rider 62 = .ok (.ifCond .ne 14, 3) := by decide +kernel
theorem dX10_rider_65 : decode cX10_rider 65 = .ok (.bipush (-2), 2) := by decide +kernel
theorem dX10_rider_67 : decode cX10_rider 67 = .ok (.aload_n 0, 1) := by decide +kernel
theorem dX10_rider_68 : decode cX10_rider 68 = .ok (.getfield 50, 3) := by decide +kernel
theorem dX10_rider_71 : decode cX10_rider 71 = .ok (.getfield 114, 3) := by decide +kernel
theorem dX10_rider_74 : decode cX10_rider 74 = .ok (.isub, 1) := by decide +kernel
theorem dX10_rider_75 : decode cX10_rider 75 = .ok (.ireturn, 1) := by decide +kernel
theorem dX10_rider_76 : decode cX10_rider 76 = .ok (.aload_n 0, 1) := by decide +kernel
theorem dX10_rider_77 : decode cX10_rider 77 = .ok (.getfield 32, 3) := by decide +kernel
theorem dX10_rider_80 : decode cX10_rider 80 = .ok (.invokevirtual 149, 3) := by decide +kernel
theorem dX10_rider_83 : decode cX10_rider 83 = .ok (.aload 4, 2) := by decide +kernel
theorem dX10_rider_85 : decode cX10_rider 85 = .ok (.aload_n 0, 1) := by decide +kernel
theorem dX10_rider_86 : decode cX10_rider 86 = .ok (.getfield 32, 3) := by decide +kernel
theorem dX10_rider_89 : decode cX10_rider 89 = .ok (.invokevirtual 152, 3) := by decide +kernel
theorem dX10_rider_92 : decode cX10_rider 92 = .ok (.aload_n 0, 1) := by decide +kernel
theorem dX10_rider_93 : decode cX10_rider 93 = .ok (.getfield 32, 3) := by decide +kernel
theorem dX10_rider_96 : decode cX10_rider 96 = .ok (.getfield 100, 3) := by decide +kernel
theorem dX10_rider_99 : decode cX10_rider 99 = .ok (.sipush 900, 3) := by decide +kernel
theorem dX10_rider_102 : decode cX10_rider 102 = .ok (.if_icmp .le 6, 3) := by decide +kernel
theorem dX10_rider_105 : decode cX10_rider 105 = .ok (.bipush (-2), 2) := by decide +kernel
theorem dX10_rider_107 : decode cX10_rider 107 = .ok (.ireturn, 1) := by decide +kernel
theorem dX10_rider_108 : decode cX10_rider 108 = .ok (.aload_n 0, 1) := by decide +kernel
theorem dX10_rider_109 : decode cX10_rider 109 = .ok (.getfield 50, 3) := by decide +kernel
theorem dX10_rider_112 : decode cX10_rider 112 = .ok (.aload_n 0, 1) := by decide +kernel
theorem dX10_rider_113 : decode cX10_rider 113 = .ok (.getfield 32, 3) := by decide +kernel
theorem dX10_rider_116 : decode cX10_rider 116 = .ok (.invokevirtual 156, 3) := by decide +kernel
theorem dX10_rider_119 : decode cX10_rider 119 = .ok (.aload_n 0, 1) := by decide +kernel
theorem dX10_rider_120 : decode cX10_rider 120 = .ok (.getfield 59, 3) := by decide +kernel
theorem dX10_rider_123 : decode cX10_rider 123 = .ok (.aload_n 0, 1) := by decide +kernel
theorem dX10_rider_124 : decode cX10_rider 124 = .ok (.getfield 124, 3) := by decide +kernel
theorem dX10_rider_127 : decode cX10_rider 127 = .ok (.invokevirtual 127, 3) := by decide +kernel
theorem dX10_rider_130 : decode cX10_rider 130 = .ok (.astore 5, 2) := by decide +kernel
theorem dX10_rider_132 : decode cX10_rider 132 = .ok (.aload 5, 2) := by decide +kernel
theorem dX10_rider_134 : decode cX10_rider 134 = .ok (.ifnonnull 6, 3) := by decide +kernel
theorem dX10_rider_137 : decode cX10_rider 137 = .ok (.bipush (-2), 2) := by decide +kernel
theorem dX10_rider_139 : decode cX10_rider 139 = .ok (.ireturn, 1) := by decide +kernel
theorem dX10_rider_140 : decode cX10_rider 140 = .ok (.aload_n 0, 1) := by decide +kernel
theorem dX10_rider_141 : decode cX10_rider 141 = .ok (.dup, 1) := by decide +kernel
theorem dX10_rider_142 : decode cX10_rider 142 = .ok (.getfield 124, 3) := by decide +kernel
theorem dX10_rider_145 : decode cX10_rider 145 = .ok (.iconst 1, 1) := by decide +kernel
theorem dX10_rider_146 : decode cX10_rider 146 = .ok (.iadd, 1) := by decide +kernel
theorem dX10_rider_147 : decode cX10_rider 147 = .ok (.putfield 124, 3) := by decide +kernel
theorem dX10_rider_150 : decode cX10_rider 150 = .ok (.aload_n 0, 1) := by decide +kernel
theorem dX10_rider_151 : decode cX10_rider 151 = .ok (.getfield 71, 3) := by decide +kernel
theorem dX10_rider_154 : decode cX10_rider 154 = .ok (.aload_n 0, 1) := by decide +kernel
theorem dX10_rider_155 : decode cX10_rider 155 = .ok (.getfield 135, 3) := by decide +kernel
theorem dX10_rider_158 : decode cX10_rider 158 = .ok (.new 69, 3) := by decide +kernel
theorem dX10_rider_161 : decode cX10_rider 161 = .ok (.dup, 1) := by decide +kernel
theorem dX10_rider_162 : decode cX10_rider 162 = .ok (.iload_n 2, 1) := by decide +kernel
theorem dX10_rider_163 : decode cX10_rider 163 = .ok (.aload_n 0, 1) := by decide +kernel
theorem dX10_rider_164 : decode cX10_rider 164 = .ok (.getfield 65, 3) := by decide +kernel
theorem dX10_rider_167 : decode cX10_rider 167 = .ok (.iload_n 2, 1) := by decide +kernel
theorem dX10_rider_168 : decode cX10_rider 168 = .ok (.aaload, 1) := by decide +kernel
theorem dX10_rider_169 : decode cX10_rider 169 = .ok (.aload 5, 2) := by decide +kernel
theorem dX10_rider_171 : decode cX10_rider 171 = .ok (.getfield 159, 3) := by decide +kernel
theorem dX10_rider_174 : decode cX10_rider 174 = .ok (.invokespecial 162, 3) := by decide +kernel
theorem dX10_rider_177 : decode cX10_rider 177 = .ok (.aastore, 1) := by decide +kernel
theorem dX10_rider_178 : decode cX10_rider 178 = .ok (.aload_n 0, 1) := by decide +kernel
theorem dX10_rider_179 : decode cX10_rider 179 = .ok (.dup, 1) := by decide +kernel
theorem dX10_rider_180 : decode cX10_rider 180 = .ok (.getfield 135, 3) := by decide +kernel
theorem dX10_rider_183 : decode cX10_rider 183 = .ok (.iconst 1, 1) := by decide +kernel
theorem dX10_rider_184 : decode cX10_rider 184 = .ok (.iadd, 1) := by decide +kernel
theorem dX10_rider_185 : decode cX10_rider 185 = .ok (.putfield 135, 3) := by decide +kernel
theorem dX10_rider_188 : decode cX10_rider 188 = .ok (.aload_n 0, 1) := by decide +kernel
theorem dX10_rider_189 : decode cX10_rider 189 = .ok (.getfield 65, 3) := by decide +kernel
theorem dX10_rider_192 : decode cX10_rider 192 = .ok (.iload_n 2, 1) := by decide +kernel
theorem dX10_rider_193 : decode cX10_rider 193 = .ok (.aload 5, 2) := by decide +kernel
theorem dX10_rider_195 : decode cX10_rider 195 = .ok (.aastore, 1) := by decide +kernel
theorem dX10_rider_196 : decode cX10_rider 196 = .ok (.aload 5, 2) := by decide +kernel
theorem dX10_rider_198 : decode cX10_rider 198 = .ok (.getfield 131, 3) := by decide +kernel
theorem dX10_rider_201 : decode cX10_rider 201 = .ok (.ireturn, 1) := by decide +kernel
def fX10_rider (a : Nat) (x1 : Int32) (x2 : Int32) (μ : JM) : JO (Int32) := jck ((jT μ a).1 == 11) <| jcl (fX10_useTape a μ) fun u2 μ3 => jck ((jT μ3 a).1 == 11) <| jcl (fX10_versionAt a x1 μ3) fun r12 μ13 => if r12 = none then (some ((-1 : Int32), μ13, 0, 0)) else (if x2 < 0 then (some ((-1 : Int32), μ13, 0, 0)) else (if (4 : Int32) ≤ x2 then (some ((-1 : Int32), μ13, 0, 0)) else (jck ((jT μ13 a).1 == 11) <| if (jI μ13 a 14) < (256 : Int32) then (jnwo μ13 9 3 fun q26 μ27 => jcl (fX8_init q26 (36 : Int32) (-1 : Int32) μ27) fun u35 μ36 => jck ((jT μ36 q26).1 == 9) <| jcl (fX8_addAll q26 r12 μ36) fun u45 μ46 => jck ((jT μ46 a).1 == 11) <| jde (jP μ46 a 7) fun q55 => jck ((jT μ46 q55).1 == 5) <| jcl (fX4_readRider q55 (some q26) μ46) fun r58 μ59 => if r58 = 0 then (jck ((jT μ59 a).1 == 11) <| jde (jP μ59 a 6) fun q175 => jck ((jT μ59 q175).1 == 8) <| some (((-2 : Int32) - (jI μ59 q175 5)), μ59, 0, 0)) else (jck ((jT μ59 a).1 == 11) <| jde (jP μ59 a 2) fun q69 => jck ((jT μ59 q69).1 == 7) <| jcl (fX6_clear q69 μ59) fun u72 μ73 => jck ((jT μ73 a).1 == 11) <| jck ((jT μ73 q26).1 == 9) <| jcl (fX8_putOn q26 (jP μ73 a 2) μ73) fun u83 μ84 => jck ((jT μ84 a).1 == 11) <| jde (jP μ84 a 2) fun q93 => jck ((jT μ84 q93).1 == 7) <| if (jI μ84 q93 2) ≤ (900 : Int32) then (jde (jP μ84 a 6) fun q97 => jck ((jT μ84 q97).1 == 8) <| jcl (fX7_scan q97 (jP μ84 a 2) μ84) fun u100 μ101 => jck ((jT μ101 a).1 == 11) <| jde (jP μ101 a 7) fun q110 => jck ((jT μ101 q110).1 == 5) <| jcl (fX4_readVersion q110 (jI μ101 a 13) μ101) fun r113 μ114 => if r113 = none then (some ((-2 : Int32), μ114, 0, 0)) else (jck ((jT μ114 a).1 == 11) <| jlt (jsI μ114 a 13 ((jI μ114 a 13) + (1 : Int32))) fun μ124 => jnwo μ124 6 3 fun q127 μ128 => jck ((jT μ128 a).1 == 11) <| jde (jP μ128 a 8) fun q137 => jck ((jT μ128 q137).1 == 106) <| jck (jin x2 (jT μ128 q137).2) <| jde r113 fun q141 => jck ((jT μ128 q141).1 == 9) <| jcl (fX5_init q127 x2 (jP μ128 q137 (x2).toNatClampNeg) (jI μ128 q141 1) μ128) fun u144 μ145 => jde (jP μ124 a 9) fun q153 => jck ((jT μ145 q153).1 == 107) <| jck (jin (jI μ124 a 14) (jT μ145 q153).2) <| jck ((jT μ145 q127).1 == 6) <| jlt (jsP μ145 q153 ((jI μ124 a 14)).toNatClampNeg (some q127)) fun μ158 => jck ((jT μ145 a).1 == 11) <| jlt (jsI μ158 a 14 ((jI μ158 a 14) + (1 : Int32))) fun μ162 => jde (jP μ162 a 8) fun q165 => jck ((jT μ145 q165).1 == 106) <| jck (jin x2 (jT μ145 q165).2) <| jck (jkd μ145 r113 9) <| jlt (jsP μ162 q165 (x2).toNatClampNeg r113) fun μ170 => jck ((jT μ145 q141).1 == 9) <| some ((jI μ170 q141 2), μ170, 0, 0))) else (some ((-2 : Int32), μ84, 0, 0)))) else (some ((-1 : Int32), μ13, 0, 0)))))
set_option maxHeartbeats 4000000 in
set_option maxRecDepth 100000 in
theorem mX10_rider {b : Nat} {a : Nat} {x1 : Int32} {x2 : Int32} {μ : JM} {r : Int32} {ν : JM} {c m : Nat} (hf : fX10_rider a x1 x2 μ = some (r, ν, c, m)) : JMet b yX10_rider cX10_rider 6 (some .int) 6 178 [va_rf (some a), .int x1, .int x2] μ (some (.int r)) ν c m := by
  refine JMet.of (by decide) (lg_sl_le (by simp only [List.map_cons, List.map_nil, List.sum_cons, List.sum_nil, va_rf_cat]; exact Nat.le_of_ble_eq_true rfl)) (fun Θ X hin => ?_)
  refine wa_eq (L2 := [(0, va_rf (some a)), (1, .int x1), (2, .int x2)]) ?_ rfl (by first | rfl | simp [lv_args, va_rf_cat, cat_i, cat_l]) rfl
  obtain ⟨k, hk0⟩ : ∃ k : Nat, k = 0 := ⟨0, rfl⟩
  obtain ⟨n, hn0⟩ : ∃ n : Nat, n = 0 := ⟨0, rfl⟩
  have hk : k + c = c := by omega
  have hn : n + m = m := by omega
  refine wa_costs hk0.symm hn0.symm ?_
  rw [fX10_rider] at hf
  refine wa_aload_n X 0 dX10_rider_0 rfl ?_
  obtain ⟨h1, hf⟩ := jckT hf
  obtain ⟨u2, μ3, c4, m5, c6, m7, e8, hf, h9, h10⟩ := jcl_some hf
  refine wa_rcallV (st2 := []) X dX10_rider_1 lmX10_106 lMX10_useTape rfl h1 (mX10_useTape e8) rfl rfl rfl (va_cats (Nat.le_of_ble_eq_true rfl)) (by decide) (by omega) (by omega) ?_
  refine wa_aload_n X 0 dX10_rider_4 rfl ?_
  refine wa_iload_n X 1 dX10_rider_5 rfl ?_
  obtain ⟨h11, hf⟩ := jckT hf
  obtain ⟨r12, μ13, c14, m15, c16, m17, e18, hf, h19, h20⟩ := jcl_some hf
  refine wa_rcallV (st2 := [va_rf r12]) X dX10_rider_6 lmX10_132 lMX10_versionAt rfl h11 (mX10_versionAt e18) rfl rfl rfl (va_cats (Nat.le_of_ble_eq_true rfl)) (by decide) (by omega) (by omega) ?_
  refine wa_astore_n (L2 := [(3, va_rf r12), (0, va_rf (some a)), (1, .int x1), (2, .int x2)]) X dX10_rider_9 (by decide) (by first | rfl | (show (3, _) :: List.filter (fun q : Nat × Value => !(q.1 == 3) && !(q.1 + 1 == 3 && q.2.category == 2)) _ = _; simp [va_rf_cat, cat_i, cat_l])) ?_
  refine wa_aload_n X 0 dX10_rider_10 rfl ?_
  refine wa_ifnull (tgt := 33) X dX10_rider_11 (by decide) (fun h21 => ?_) (fun h21 => ?_)
  · rw [if_pos h21] at hf
    refine wa_iconst (v := (-1 : Int32)) X dX10_rider_33 (by decide) ?_
    obtain ⟨rfl, rfl, rfl, rfl⟩ := jret hf
    exact wa_iret X dX10_rider_34 rfl (by omega) (by omega)
  · rw [if_neg h21] at hf
    refine wa_iload_n X 3 dX10_rider_14 rfl ?_
    refine wa_iflt (tgt := 33) X dX10_rider_15 (by decide) (fun h22 => ?_) (fun h22 => ?_)
    · rw [if_pos h22] at hf
      refine wa_iconst (v := (-1 : Int32)) X dX10_rider_33 (by decide) ?_
      obtain ⟨rfl, rfl, rfl, rfl⟩ := jret hf
      exact wa_iret X dX10_rider_34 rfl (by omega) (by omega)
    · rw [if_neg h22] at hf
      refine wa_iload_n X 3 dX10_rider_18 rfl ?_
      refine wa_iconst (v := (4 : Int32)) X dX10_rider_19 (by decide) ?_
      refine wa_icge (tgt := 33) X dX10_rider_20 (by decide) (fun h23 => ?_) (fun h23 => ?_)
      · rw [if_pos h23] at hf
        refine wa_iconst (v := (-1 : Int32)) X dX10_rider_33 (by decide) ?_
        obtain ⟨rfl, rfl, rfl, rfl⟩ := jret hf
        exact wa_iret X dX10_rider_34 rfl (by omega) (by omega)
      · rw [if_neg h23] at hf
        refine wa_aload_n X 1 dX10_rider_23 rfl ?_
        obtain ⟨h24, hf⟩ := jckT hf
        refine wa_getI X dX10_rider_24 lfX10_135 rfl h24 rfl ?_
        refine wa_sipush (v := (256 : Int32)) X dX10_rider_27 (by decide) ?_
        refine wa_iclt (tgt := 35) X dX10_rider_30 (by decide) (fun h25 => ?_) (fun h25 => ?_)
        · rw [if_pos h25] at hf
          obtain ⟨q26, μ27, c30, m31, h28, hm29, hf, h32, h33⟩ := jnwo_some hf
          refine wa_new (t := 9) (N := 3) X dX10_rider_35 (by decide) rfl lcX10_63 li_RX8 ln_RX8 (by omega) (by omega) ?_
          rw [← h28, ← hm29]
          have h34 : (jT μ27 q26).1 = 9 := by rw [jT_at h28 hm29]
          refine wa_dup X dX10_rider_38 (va_rf_cat _) ?_
          refine wa_bipush (v := (36 : Int32)) X dX10_rider_39 (by decide) ?_
          refine wa_iconst (v := (-1 : Int32)) X dX10_rider_41 (by decide) ?_
          obtain ⟨u35, μ36, c37, m38, c39, m40, e41, hf, h42, h43⟩ := jcl_some hf
          refine wa_rcallI (st2 := [va_rf (some q26)]) X dX10_rider_42 lmX10_138 lMX8_init rfl (mX8_init e41) rfl rfl rfl (va_cats (Nat.le_of_ble_eq_true rfl)) (by decide) (by omega) (by omega) ?_
          refine wa_astore (L2 := [(4, va_rf (some q26)), (3, va_rf r12), (0, va_rf (some a)), (1, .int x1), (2, .int x2)]) X dX10_rider_45 (by decide) (by first | rfl | (show (4, _) :: List.filter (fun q : Nat × Value => !(q.1 == 4) && !(q.1 + 1 == 4 && q.2.category == 2)) _ = _; simp [va_rf_cat, cat_i, cat_l])) ?_
          refine wa_aload X 0 dX10_rider_47 rfl ?_
          refine wa_aload_n X 1 dX10_rider_49 rfl ?_
          obtain ⟨h44, hf⟩ := jckT hf
          obtain ⟨u45, μ46, c47, m48, c49, m50, e51, hf, h52, h53⟩ := jcl_some hf
          refine wa_rcallV (st2 := []) X dX10_rider_50 lmX10_141 lMX8_addAll rfl h44 (mX8_addAll e51) rfl rfl rfl (va_cats (Nat.le_of_ble_eq_true rfl)) (by decide) (by omega) (by omega) ?_
          refine wa_aload_n X 2 dX10_rider_53 rfl ?_
          obtain ⟨h54, hf⟩ := jckT hf
          refine wa_getP X dX10_rider_54 lfX10_59 rfl h54 rfl ?_
          refine wa_aload X 0 dX10_rider_57 rfl ?_
          obtain ⟨q55, h56, hf⟩ := jde_some hf
          obtain ⟨h57, hf⟩ := jckT hf
          obtain ⟨r58, μ59, c60, m61, c62, m63, e64, hf, h65, h66⟩ := jcl_some hf
          refine wa_rcallV (st2 := [.int r58]) X dX10_rider_59 lmX10_145 lMX4_readRider h56 h57 (mX4_readRider e64) rfl rfl rfl (va_cats (Nat.le_of_ble_eq_true rfl)) (by decide) (by omega) (by omega) ?_
          refine wa_ifne (tgt := 76) X dX10_rider_62 (by decide) (fun h67 => ?_) (fun h67 => ?_)
          · rw [if_neg h67] at hf
            refine wa_aload_n X 2 dX10_rider_76 rfl ?_
            obtain ⟨h68, hf⟩ := jckT hf
            refine wa_getP X dX10_rider_77 lfX10_32 rfl h68 rfl ?_
            obtain ⟨q69, h70, hf⟩ := jde_some hf
            obtain ⟨h71, hf⟩ := jckT hf
            obtain ⟨u72, μ73, c74, m75, c76, m77, e78, hf, h79, h80⟩ := jcl_some hf
            refine wa_rcallV (st2 := []) X dX10_rider_80 lmX10_149 lMX6_clear h70 h71 (mX6_clear e78) rfl rfl rfl (va_cats (Nat.le_of_ble_eq_true rfl)) (by decide) (by omega) (by omega) ?_
            refine wa_aload X 0 dX10_rider_83 rfl ?_
            refine wa_aload_n X 2 dX10_rider_85 rfl ?_
            obtain ⟨h81, hf⟩ := jckT hf
            refine wa_getP X dX10_rider_86 lfX10_32 rfl h81 rfl ?_
            obtain ⟨h82, hf⟩ := jckT hf
            obtain ⟨u83, μ84, c85, m86, c87, m88, e89, hf, h90, h91⟩ := jcl_some hf
            refine wa_rcallV (st2 := []) X dX10_rider_89 lmX10_152 lMX8_putOn rfl h82 (mX8_putOn e89) rfl rfl rfl (va_cats (Nat.le_of_ble_eq_true rfl)) (by decide) (by omega) (by omega) ?_
            refine wa_aload_n X 2 dX10_rider_92 rfl ?_
            obtain ⟨h92, hf⟩ := jckT hf
            refine wa_getP X dX10_rider_93 lfX10_32 rfl h92 rfl ?_
            obtain ⟨q93, h94, hf⟩ := jde_some hf
            obtain ⟨h95, hf⟩ := jckT hf
            refine wa_getI X dX10_rider_96 lfX10_100 h94 h95 rfl ?_
            refine wa_sipush (v := (900 : Int32)) X dX10_rider_99 (by decide) ?_
            refine wa_icle (tgt := 108) X dX10_rider_102 (by decide) (fun h96 => ?_) (fun h96 => ?_)
            · rw [if_pos h96] at hf
              refine wa_aload_n X 2 dX10_rider_108 rfl ?_
              refine wa_getP X dX10_rider_109 lfX10_50 rfl h92 rfl ?_
              refine wa_aload_n X 2 dX10_rider_112 rfl ?_
              refine wa_getP X dX10_rider_113 lfX10_32 rfl h92 rfl ?_
              obtain ⟨q97, h98, hf⟩ := jde_some hf
              obtain ⟨h99, hf⟩ := jckT hf
              obtain ⟨u100, μ101, c102, m103, c104, m105, e106, hf, h107, h108⟩ := jcl_some hf
              refine wa_rcallV (st2 := []) X dX10_rider_116 lmX10_156 lMX7_scan h98 h99 (mX7_scan e106) rfl rfl rfl (va_cats (Nat.le_of_ble_eq_true rfl)) (by decide) (by omega) (by omega) ?_
              refine wa_aload_n X 2 dX10_rider_119 rfl ?_
              obtain ⟨h109, hf⟩ := jckT hf
              refine wa_getP X dX10_rider_120 lfX10_59 rfl h109 rfl ?_
              refine wa_aload_n X 2 dX10_rider_123 rfl ?_
              refine wa_getI X dX10_rider_124 lfX10_124 rfl h109 rfl ?_
              obtain ⟨q110, h111, hf⟩ := jde_some hf
              obtain ⟨h112, hf⟩ := jckT hf
              obtain ⟨r113, μ114, c115, m116, c117, m118, e119, hf, h120, h121⟩ := jcl_some hf
              refine wa_rcallV (st2 := [va_rf r113]) X dX10_rider_127 lmX10_127 lMX4_readVersion h111 h112 (mX4_readVersion e119) rfl rfl rfl (va_cats (Nat.le_of_ble_eq_true rfl)) (by decide) (by omega) (by omega) ?_
              refine wa_astore (L2 := [(5, va_rf r113), (4, va_rf (some q26)), (3, va_rf r12), (0, va_rf (some a)), (1, .int x1), (2, .int x2)]) X dX10_rider_130 (by decide) (by first | rfl | (show (5, _) :: List.filter (fun q : Nat × Value => !(q.1 == 5) && !(q.1 + 1 == 5 && q.2.category == 2)) _ = _; simp [va_rf_cat, cat_i, cat_l])) ?_
              refine wa_aload X 0 dX10_rider_132 rfl ?_
              refine wa_ifnonnull (tgt := 140) X dX10_rider_134 (by decide) (fun h122 => ?_) (fun h122 => ?_)
              · rw [if_neg h122] at hf
                refine wa_aload_n X 3 dX10_rider_140 rfl ?_
                refine wa_dup X dX10_rider_141 (va_rf_cat _) ?_
                obtain ⟨h123, hf⟩ := jckT hf
                refine wa_getI X dX10_rider_142 lfX10_124 rfl h123 rfl ?_
                refine wa_iconst (v := (1 : Int32)) X dX10_rider_145 (by decide) ?_
                refine wa_iadd X dX10_rider_146 ?_
                obtain ⟨μ124, hm125, hf⟩ := jlt_e hf
                have e126 : jT μ124 = jT μ114 := by rw [hm125]; rfl
                refine wa_rputI (ν := μ124) X dX10_rider_147 lfX10_124 rfl h123 rfl rfl hm125 ?_
                refine wa_aload_n X 3 dX10_rider_150 rfl ?_
                refine wa_getP X dX10_rider_151 lfX10_71 rfl (by rw [e126]; exact h123) rfl ?_
                refine wa_aload_n X 3 dX10_rider_154 rfl ?_
                refine wa_getI X dX10_rider_155 lfX10_135 rfl (by rw [e126]; exact h123) rfl ?_
                obtain ⟨q127, μ128, c131, m132, h129, hm130, hf, h133, h134⟩ := jnwo_some hf
                refine wa_new (t := 6) (N := 3) X dX10_rider_158 (by decide) rfl lcX10_69 li_RX5 ln_RX5 (by omega) (by omega) ?_
                rw [← h129, ← hm130]
                have h135 : (jT μ128 q127).1 = 6 := by rw [jT_at h129 hm130]
                refine wa_dup X dX10_rider_161 (va_rf_cat _) ?_
                refine wa_iload_n X 5 dX10_rider_162 rfl ?_
                refine wa_aload_n X 3 dX10_rider_163 rfl ?_
                obtain ⟨h136, hf⟩ := jckT hf
                refine wa_getP X dX10_rider_164 lfX10_65 rfl h136 rfl ?_
                refine wa_iload_n X 5 dX10_rider_167 rfl ?_
                obtain ⟨q137, h138, hf⟩ := jde_some hf
                obtain ⟨h139, hf⟩ := jckT hf
                obtain ⟨h140, hf⟩ := jck_some hf
                refine wa_raald (t := 106) X dX10_rider_168 h138 h139 (by decide) rfl rfl h140 ?_
                refine wa_aload X 0 dX10_rider_169 rfl ?_
                obtain ⟨q141, h142, hf⟩ := jde_some hf
                obtain ⟨h143, hf⟩ := jckT hf
                refine wa_getI X dX10_rider_171 lfX10_159 h142 h143 rfl ?_
                obtain ⟨u144, μ145, c146, m147, c148, m149, e150, hf, h151, h152⟩ := jcl_some hf
                refine wa_rcallI (st2 := [va_rf (some q127), .int (jI μ124 a 14), va_rf (jP μ124 a 9)]) X dX10_rider_174 lmX10_162 lMX5_init rfl (mX5_init e150) rfl rfl rfl (va_cats (Nat.le_of_ble_eq_true rfl)) (by decide) (by omega) (by omega) ?_
                obtain ⟨q153, h154, hf⟩ := jde_some hf
                obtain ⟨h155, hf⟩ := jckT hf
                obtain ⟨h156, hf⟩ := jck_some hf
                obtain ⟨h157, hf⟩ := jckT hf
                obtain ⟨μ158, hm159, hf⟩ := jlt_e hf
                have e160 : jT μ158 = jT μ145 := by rw [hm159]; rfl
                refine wa_raast (ν := μ158) (t := 107) (tc := 6) X dX10_rider_177 h154 h155 (by decide) (by decide) rfl (fun _ => rfl) (fun z hz => by cases hz; exact h157) h156 hm159 ?_
                refine wa_aload_n X 3 dX10_rider_178 rfl ?_
                refine wa_dup X dX10_rider_179 (va_rf_cat _) ?_
                obtain ⟨h161, hf⟩ := jckT hf
                refine wa_getI X dX10_rider_180 lfX10_135 rfl (by rw [e160]; exact h161) rfl ?_
                refine wa_iconst (v := (1 : Int32)) X dX10_rider_183 (by decide) ?_
                refine wa_iadd X dX10_rider_184 ?_
                obtain ⟨μ162, hm163, hf⟩ := jlt_e hf
                have e164 : jT μ162 = jT μ145 := by rw [hm163]; exact e160
                refine wa_rputI (ν := μ162) X dX10_rider_185 lfX10_135 rfl (by rw [e160]; exact h161) rfl rfl hm163 ?_
                refine wa_aload_n X 3 dX10_rider_188 rfl ?_
                refine wa_getP X dX10_rider_189 lfX10_65 rfl (by rw [e164]; exact h161) rfl ?_
                refine wa_iload_n X 5 dX10_rider_192 rfl ?_
                refine wa_aload X 0 dX10_rider_193 rfl ?_
                obtain ⟨q165, h166, hf⟩ := jde_some hf
                obtain ⟨h167, hf⟩ := jckT hf
                obtain ⟨h168, hf⟩ := jck_some hf
                obtain ⟨h169, hf⟩ := jck_some hf
                obtain ⟨μ170, hm171, hf⟩ := jlt_e hf
                have e172 : jT μ170 = jT μ145 := by rw [hm171]; exact e164
                refine wa_raast (ν := μ170) (t := 106) (tc := 9) X dX10_rider_195 h166 (by rw [e164]; exact h167) (by decide) (by decide) rfl (fun _ => rfl) (fun z hz => by rw [e164]; exact jkd_is h169 hz) (by rw [e164]; exact h168) hm171 ?_
                refine wa_aload X 0 dX10_rider_196 rfl ?_
                obtain ⟨h173, hf⟩ := jckT hf
                refine wa_getI X dX10_rider_198 lfX10_131 h142 (by rw [e172]; exact h173) rfl ?_
                obtain ⟨rfl, rfl, rfl, rfl⟩ := jret hf
                exact wa_iret X dX10_rider_201 rfl (by omega) (by omega)
              · rw [if_pos h122] at hf
                refine wa_bipush (v := (-2 : Int32)) X dX10_rider_137 (by decide) ?_
                obtain ⟨rfl, rfl, rfl, rfl⟩ := jret hf
                exact wa_iret X dX10_rider_139 rfl (by omega) (by omega)
            · rw [if_neg h96] at hf
              refine wa_bipush (v := (-2 : Int32)) X dX10_rider_105 (by decide) ?_
              obtain ⟨rfl, rfl, rfl, rfl⟩ := jret hf
              exact wa_iret X dX10_rider_107 rfl (by omega) (by omega)
          · rw [if_pos h67] at hf
            refine wa_bipush (v := (-2 : Int32)) X dX10_rider_65 (by decide) ?_
            refine wa_aload_n X 2 dX10_rider_67 rfl ?_
            obtain ⟨h174, hf⟩ := jckT hf
            refine wa_getP X dX10_rider_68 lfX10_50 rfl h174 rfl ?_
            obtain ⟨q175, h176, hf⟩ := jde_some hf
            obtain ⟨h177, hf⟩ := jckT hf
            refine wa_getI X dX10_rider_71 lfX10_114 h176 h177 rfl ?_
            refine wa_isub X dX10_rider_74 ?_
            obtain ⟨rfl, rfl, rfl, rfl⟩ := jret hf
            exact wa_iret X dX10_rider_75 rfl (by omega) (by omega)
        · rw [if_neg h25] at hf
          refine wa_iconst (v := (-1 : Int32)) X dX10_rider_33 (by decide) ?_
          obtain ⟨rfl, rfl, rfl, rfl⟩ := jret hf
          exact wa_iret X dX10_rider_34 rfl (by omega) (by omega)
theorem dX10_takeOff_0 : decode cX10_takeOff 0 = .ok (.aload_n 0, 1) := by decide +kernel
theorem dX10_takeOff_1 : decode cX10_takeOff 1 = .ok (.getfield 135, 3) := by decide +kernel
theorem dX10_takeOff_4 : decode cX10_takeOff 4 = .ok (.ifCond .gt 5, 3) := by decide +kernel
theorem dX10_takeOff_7 : decode cX10_takeOff 7 = .ok (.iconst 0, 1) := by decide +kernel
theorem dX10_takeOff_8 : decode cX10_takeOff 8 = .ok (.ireturn, 1) := by decide +kernel
theorem dX10_takeOff_9 : decode cX10_takeOff 9 = .ok (.aload_n 0, 1) := by decide +kernel
theorem dX10_takeOff_10 : decode cX10_takeOff 10 = .ok (.dup, 1) := by decide +kernel
theorem dX10_takeOff_11 : decode cX10_takeOff 11 = .ok (.getfield 135, 3) := by decide +kernel
theorem dX10_takeOff_14 : decode cX10_takeOff 14 = .ok (.iconst 1, 1) := by decide +kernel
theorem dX10_takeOff_15 : decode cX10_takeOff 15 = .ok (.isub, 1) := by decide +kernel
theorem dX10_takeOff_16 : decode cX10_takeOff 16 = .ok (.putfield 135, 3) := by decide +kernel
theorem dX10_takeOff_19 : decode cX10_takeOff 19 = .ok (.aload_n 0, 1) := by decide +kernel
theorem dX10_takeOff_20 : decode cX10_takeOff 20 = .ok (.getfield 71, 3) := by decide +kernel
theorem dX10_takeOff_23 : decode cX10_takeOff 23 = .ok (.aload_n 0, 1) := by decide +kernel
theorem dX10_takeOff_24 : decode cX10_takeOff 24 = .ok (.getfield 135, 3) := by decide +kernel
theorem dX10_takeOff_27 : decode cX10_takeOff 27 = .ok (.aaload, 1) := by decide +kernel
theorem dX10_takeOff_28 : decode cX10_takeOff 28 = .ok (.astore_n 1, 1) := by decide +kernel
theorem dX10_takeOff_29 : decode cX10_takeOff 29 = .ok (.aload_n 0, 1) := by decide +kernel
theorem dX10_takeOff_30 : decode cX10_takeOff 30 = .ok (.getfield 71, 3) := by decide +kernel
theorem dX10_takeOff_33 : decode cX10_takeOff 33 = .ok (.aload_n 0, 1) := by decide +kernel
theorem dX10_takeOff_34 : decode cX10_takeOff 34 = .ok (.getfield 135, 3) := by decide +kernel
theorem dX10_takeOff_37 : decode cX10_takeOff 37 = .ok (.aconst_null, 1) := by decide +kernel
theorem dX10_takeOff_38 : decode cX10_takeOff 38 = .ok (.aastore, 1) := by decide +kernel
theorem dX10_takeOff_39 : decode cX10_takeOff 39 = .ok (.aload_n 1, 1) := by decide +kernel
theorem dX10_takeOff_40 : decode cX10_takeOff 40 = .ok (.ifnonnull 5, 3) := by decide +kernel
theorem dX10_takeOff_43 : decode cX10_takeOff 43 = .ok (.iconst 0, 1) := by decide +kernel
theorem dX10_takeOff_44 : decode cX10_takeOff 44 = .ok (.ireturn, 1) := by decide +kernel
theorem dX10_takeOff_45 : decode cX10_takeOff 45 = .ok (.aload_n 0, 1) := by decide +kernel
theorem dX10_takeOff_46 : decode cX10_takeOff 46 = .ok (.aload_n 1, 1) := by decide +kernel
theorem dX10_takeOff_47 : decode cX10_takeOff 47 = .ok (.getfield 165, 3) := by decide +kernel
theorem dX10_takeOff_50 : decode cX10_takeOff 50 = .ok (.invokevirtual 132, 3) := by decide +kernel
theorem dX10_takeOff_53 : decode cX10_takeOff 53 = .ok (.astore_n 2, 1) := by decide +kernel
theorem dX10_takeOff_54 : decode cX10_takeOff 54 = .ok (.aload_n 2, 1) := by decide +kernel
theorem dX10_takeOff_55 : decode cX10_takeOff 55 = .ok (.ifnull 14, 3) := by decide +kernel
theorem dX10_takeOff_58 : decode cX10_takeOff 58 = .ok (.aload_n 2, 1) := by decide +kernel
theorem dX10_takeOff_59 : decode cX10_takeOff 59 = .ok (.getfield 159, 3) := by decide +kernel
theorem dX10_takeOff_62 : decode cX10_takeOff 62 = .ok (.aload_n 1, 1) := by decide +kernel
theorem dX10_takeOff_63 : decode cX10_takeOff 63 = .ok (.getfield 168, 3) := by decide +kernel
theorem dX10_takeOff_66 : decode cX10_takeOff 66 = .ok (.if_icmp .eq 5, 3) := by decide +kernel
theorem dX10_takeOff_69 : decode cX10_takeOff 69 = .ok (.iconst 0, 1) := by decide +kernel
theorem dX10_takeOff_70 : decode cX10_takeOff 70 = .ok (.ireturn, 1) := by decide +kernel
theorem dX10_takeOff_71 : decode cX10_takeOff 71 = .ok (.aload_n 0, 1) := by decide +kernel
theorem dX10_takeOff_72 : decode cX10_takeOff 72 = .ok (.getfield 65, 3) := by decide +kernel
theorem dX10_takeOff_75 : decode cX10_takeOff 75 = .ok (.aload_n 1, 1) := by decide +kernel
theorem dX10_takeOff_76 : decode cX10_takeOff 76 = .ok (.getfield 165, 3) := by decide +kernel
theorem dX10_takeOff_79 : decode cX10_takeOff 79 = .ok (.aload_n 1, 1) := by decide +kernel
theorem dX10_takeOff_80 : decode cX10_takeOff 80 = .ok (.getfield 169, 3) := by decide +kernel
theorem dX10_takeOff_83 : decode cX10_takeOff 83 = .ok (.aastore, 1) := by decide +kernel
theorem dX10_takeOff_84 : decode cX10_takeOff 84 = .ok (.iconst 1, 1) := by decide +kernel
theorem dX10_takeOff_85 : decode cX10_takeOff 85 = .ok (.ireturn, 1) := by decide +kernel
def fX10_takeOff (a : Nat) (μ : JM) : JO (Int32) := jck ((jT μ a).1 == 11) <| if 0 < (jI μ a 14) then (jlt (jsI μ a 14 ((jI μ a 14) - (1 : Int32))) fun μ3 => jde (jP μ3 a 9) fun q6 => jck ((jT μ q6).1 == 107) <| jck (jin (jI μ3 a 14) (jT μ q6).2) <| jlt (jsP μ3 q6 ((jI μ3 a 14)).toNatClampNeg none) fun μ10 => if (jP μ3 q6 ((jI μ3 a 14)).toNatClampNeg) = none then (some ((0 : Int32), μ10, 0, 0)) else (jde (jP μ3 q6 ((jI μ3 a 14)).toNatClampNeg) fun q14 => jck ((jT μ q14).1 == 6) <| jcl (fX10_versionAt a (jI μ10 q14 0) μ10) fun r17 μ18 => if r17 = none then (some ((0 : Int32), μ18, 0, 0)) else (jde r17 fun q27 => jck ((jT μ18 q27).1 == 9) <| jck ((jT μ18 q14).1 == 6) <| if (jI μ18 q27 1) = (jI μ18 q14 2) then (jck ((jT μ18 a).1 == 11) <| jde (jP μ18 a 8) fun q33 => jck ((jT μ18 q33).1 == 106) <| jck (jin (jI μ18 q14 0) (jT μ18 q33).2) <| jck (jkd μ18 (jP μ18 q14 1) 9) <| jlt (jsP μ18 q33 ((jI μ18 q14 0)).toNatClampNeg (jP μ18 q14 1)) fun μ38 => some ((1 : Int32), μ38, 0, 0)) else (some ((0 : Int32), μ18, 0, 0))))) else (some ((0 : Int32), μ, 0, 0))
set_option maxHeartbeats 4000000 in
set_option maxRecDepth 100000 in
theorem mX10_takeOff {b : Nat} {a : Nat} {μ : JM} {r : Int32} {ν : JM} {c m : Nat} (hf : fX10_takeOff a μ = some (r, ν, c, m)) : JMet b yX10_takeOff cX10_takeOff 3 (some .boolean) 1 21 [va_rf (some a)] μ (some (.int r)) ν c m := by
  refine JMet.of (by decide) (lg_sl_le (by simp only [List.map_cons, List.map_nil, List.sum_cons, List.sum_nil, va_rf_cat]; exact Nat.le_of_ble_eq_true rfl)) (fun Θ X hin => ?_)
  refine wa_eq (L2 := [(0, va_rf (some a))]) ?_ rfl (by first | rfl | simp [lv_args, va_rf_cat, cat_i, cat_l]) rfl
  obtain ⟨k, hk0⟩ : ∃ k : Nat, k = 0 := ⟨0, rfl⟩
  obtain ⟨n, hn0⟩ : ∃ n : Nat, n = 0 := ⟨0, rfl⟩
  have hk : k + c = c := by omega
  have hn : n + m = m := by omega
  refine wa_costs hk0.symm hn0.symm ?_
  rw [fX10_takeOff] at hf
  refine wa_aload_n X 0 dX10_takeOff_0 rfl ?_
  obtain ⟨h1, hf⟩ := jckT hf
  refine wa_getI X dX10_takeOff_1 lfX10_135 rfl h1 rfl ?_
  refine wa_ifgt (tgt := 9) X dX10_takeOff_4 (by decide) (fun h2 => ?_) (fun h2 => ?_)
  · rw [if_pos h2] at hf
    refine wa_aload_n X 0 dX10_takeOff_9 rfl ?_
    refine wa_dup X dX10_takeOff_10 (va_rf_cat _) ?_
    refine wa_getI X dX10_takeOff_11 lfX10_135 rfl h1 rfl ?_
    refine wa_iconst (v := (1 : Int32)) X dX10_takeOff_14 (by decide) ?_
    refine wa_isub X dX10_takeOff_15 ?_
    obtain ⟨μ3, hm4, hf⟩ := jlt_e hf
    have e5 : jT μ3 = jT μ := by rw [hm4]; rfl
    refine wa_rputI (ν := μ3) X dX10_takeOff_16 lfX10_135 rfl h1 rfl rfl hm4 ?_
    refine wa_aload_n X 0 dX10_takeOff_19 rfl ?_
    refine wa_getP X dX10_takeOff_20 lfX10_71 rfl (by rw [e5]; exact h1) rfl ?_
    refine wa_aload_n X 0 dX10_takeOff_23 rfl ?_
    refine wa_getI X dX10_takeOff_24 lfX10_135 rfl (by rw [e5]; exact h1) rfl ?_
    obtain ⟨q6, h7, hf⟩ := jde_some hf
    obtain ⟨h8, hf⟩ := jckT hf
    obtain ⟨h9, hf⟩ := jck_some hf
    refine wa_raald (t := 107) X dX10_takeOff_27 h7 (by rw [e5]; exact h8) (by decide) rfl rfl (by rw [e5]; exact h9) ?_
    refine wa_astore_n (L2 := [(1, va_rf (jP μ3 q6 ((jI μ3 a 14)).toNatClampNeg)), (0, va_rf (some a))]) X dX10_takeOff_28 (by decide) (by first | rfl | (show (1, _) :: List.filter (fun q : Nat × Value => !(q.1 == 1) && !(q.1 + 1 == 1 && q.2.category == 2)) _ = _; simp [va_rf_cat, cat_i, cat_l])) ?_
    refine wa_aload_n X 1 dX10_takeOff_29 rfl ?_
    refine wa_getP X dX10_takeOff_30 lfX10_71 rfl (by rw [e5]; exact h1) rfl ?_
    refine wa_aload_n X 1 dX10_takeOff_33 rfl ?_
    refine wa_getI X dX10_takeOff_34 lfX10_135 rfl (by rw [e5]; exact h1) rfl ?_
    refine wa_null X dX10_takeOff_37 ?_
    obtain ⟨μ10, hm11, hf⟩ := jlt_e hf
    have e12 : jT μ10 = jT μ := by rw [hm11]; exact e5
    refine wa_raast (ν := μ10) (t := 107) (tc := 6) X dX10_takeOff_38 h7 (by rw [e5]; exact h8) (by decide) (by decide) rfl (fun _ => rfl) (fun z hz => by cases hz) (by rw [e5]; exact h9) hm11 ?_
    refine wa_aload_n X 0 dX10_takeOff_39 rfl ?_
    refine wa_ifnonnull (tgt := 45) X dX10_takeOff_40 (by decide) (fun h13 => ?_) (fun h13 => ?_)
    · rw [if_neg h13] at hf
      refine wa_aload_n X 1 dX10_takeOff_45 rfl ?_
      refine wa_aload_n X 0 dX10_takeOff_46 rfl ?_
      obtain ⟨q14, h15, hf⟩ := jde_some hf
      obtain ⟨h16, hf⟩ := jckT hf
      refine wa_getI X dX10_takeOff_47 lfX10_165 h15 (by rw [e12]; exact h16) rfl ?_
      obtain ⟨r17, μ18, c19, m20, c21, m22, e23, hf, h24, h25⟩ := jcl_some hf
      refine wa_rcallV (st2 := [va_rf r17]) X dX10_takeOff_50 lmX10_132 lMX10_versionAt rfl (by rw [e12]; exact h1) (mX10_versionAt e23) rfl rfl rfl (va_cats (Nat.le_of_ble_eq_true rfl)) (by decide) (by omega) (by omega) ?_
      refine wa_astore_n (L2 := [(2, va_rf r17), (1, va_rf (jP μ3 q6 ((jI μ3 a 14)).toNatClampNeg)), (0, va_rf (some a))]) X dX10_takeOff_53 (by decide) (by first | rfl | (show (2, _) :: List.filter (fun q : Nat × Value => !(q.1 == 2) && !(q.1 + 1 == 2 && q.2.category == 2)) _ = _; simp [va_rf_cat, cat_i, cat_l])) ?_
      refine wa_aload_n X 0 dX10_takeOff_54 rfl ?_
      refine wa_ifnull (tgt := 69) X dX10_takeOff_55 (by decide) (fun h26 => ?_) (fun h26 => ?_)
      · rw [if_pos h26] at hf
        refine wa_iconst (v := (0 : Int32)) X dX10_takeOff_69 (by decide) ?_
        obtain ⟨rfl, rfl, rfl, rfl⟩ := jret hf
        exact wa_iret X dX10_takeOff_70 rfl (by omega) (by omega)
      · rw [if_neg h26] at hf
        refine wa_aload_n X 0 dX10_takeOff_58 rfl ?_
        obtain ⟨q27, h28, hf⟩ := jde_some hf
        obtain ⟨h29, hf⟩ := jckT hf
        refine wa_getI X dX10_takeOff_59 lfX10_159 h28 h29 rfl ?_
        refine wa_aload_n X 1 dX10_takeOff_62 rfl ?_
        obtain ⟨h30, hf⟩ := jckT hf
        refine wa_getI X dX10_takeOff_63 lfX10_168 h15 h30 rfl ?_
        refine wa_iceq (tgt := 71) X dX10_takeOff_66 (by decide) (fun h31 => ?_) (fun h31 => ?_)
        · rw [if_pos h31] at hf
          refine wa_aload_n X 2 dX10_takeOff_71 rfl ?_
          obtain ⟨h32, hf⟩ := jckT hf
          refine wa_getP X dX10_takeOff_72 lfX10_65 rfl h32 rfl ?_
          refine wa_aload_n X 1 dX10_takeOff_75 rfl ?_
          refine wa_getI X dX10_takeOff_76 lfX10_165 h15 h30 rfl ?_
          refine wa_aload_n X 1 dX10_takeOff_79 rfl ?_
          refine wa_getP X dX10_takeOff_80 lfX10_169 h15 h30 rfl ?_
          obtain ⟨q33, h34, hf⟩ := jde_some hf
          obtain ⟨h35, hf⟩ := jckT hf
          obtain ⟨h36, hf⟩ := jck_some hf
          obtain ⟨h37, hf⟩ := jck_some hf
          obtain ⟨μ38, hm39, hf⟩ := jlt_e hf
          have e40 : jT μ38 = jT μ18 := by rw [hm39]; rfl
          refine wa_raast (ν := μ38) (t := 106) (tc := 9) X dX10_takeOff_83 h34 h35 (by decide) (by decide) rfl (fun _ => rfl) (fun z hz => jkd_is h37 hz) h36 hm39 ?_
          refine wa_iconst (v := (1 : Int32)) X dX10_takeOff_84 (by decide) ?_
          obtain ⟨rfl, rfl, rfl, rfl⟩ := jret hf
          exact wa_iret X dX10_takeOff_85 rfl (by omega) (by omega)
        · rw [if_neg h31] at hf
          refine wa_iconst (v := (0 : Int32)) X dX10_takeOff_69 (by decide) ?_
          obtain ⟨rfl, rfl, rfl, rfl⟩ := jret hf
          exact wa_iret X dX10_takeOff_70 rfl (by omega) (by omega)
    · rw [if_pos h13] at hf
      refine wa_iconst (v := (0 : Int32)) X dX10_takeOff_43 (by decide) ?_
      obtain ⟨rfl, rfl, rfl, rfl⟩ := jret hf
      exact wa_iret X dX10_takeOff_44 rfl (by omega) (by omega)
  · rw [if_neg h2] at hf
    refine wa_iconst (v := (0 : Int32)) X dX10_takeOff_7 (by decide) ?_
    obtain ⟨rfl, rfl, rfl, rfl⟩ := jret hf
    exact wa_iret X dX10_takeOff_8 rfl (by omega) (by omega)
theorem dX10_world_0 : decode cX10_world 0 = .ok (.aload_n 0, 1) := by decide +kernel
theorem dX10_world_1 : decode cX10_world 1 = .ok (.invokevirtual 106, 3) := by decide +kernel
theorem dX10_world_4 : decode cX10_world 4 = .ok (.aload_n 0, 1) := by decide +kernel
theorem dX10_world_5 : decode cX10_world 5 = .ok (.getfield 35, 3) := by decide +kernel
theorem dX10_world_8 : decode cX10_world 8 = .ok (.getfield 109, 3) := by decide +kernel
theorem dX10_world_11 : decode cX10_world 11 = .ok (.ifCond .ne 5, 3) := by decide +kernel
theorem dX10_world_14 : decode cX10_world 14 = .ok (.iconst (-1), 1) := by decide +kernel
theorem dX10_world_15 : decode cX10_world 15 = .ok (.ireturn, 1) := by decide +kernel
theorem dX10_world_16 : decode cX10_world 16 = .ok (.aload_n 0, 1) := by decide +kernel
theorem dX10_world_17 : decode cX10_world 17 = .ok (.getfield 59, 3) := by decide +kernel
theorem dX10_world_20 : decode cX10_world 20 = .ok (.invokevirtual 173, 3) := by decide +kernel
theorem dX10_world_23 : decode cX10_world 23 = .ok (.astore_n 1, 1) := by decide +kernel
theorem dX10_world_24 : decode cX10_world 24 = .ok (.aload_n 1, 1) := by decide +kernel
theorem dX10_world_25 : decode cX10_world 25 = .ok (.ifnonnull 14, 3) := by decide +kernel
theorem dX10_world_28 : decode cX10_world 28 = .ok (.bipush (-2), 2) := by decide +kernel
theorem dX10_world_30 : decode cX10_world 30 = .ok (.aload_n 0, 1) := by decide +kernel
theorem dX10_world_31 : decode cX10_world 31 = .ok (.getfield 50, 3) := by decide +kernel
theorem dX10_world_34 : decode cX10_world 34 = .ok (.getfield 114, 3) := by decide +kernel
theorem dX10_world_37 : decode cX10_world 37 = .ok (.isub, 1) := by decide +kernel
theorem dX10_world_38 : decode cX10_world 38 = .ok (.ireturn, 1) := by decide +kernel
theorem dX10_world_39 : decode cX10_world 39 = .ok (.aload_n 0, 1) := by decide +kernel
theorem dX10_world_40 : decode cX10_world 40 = .ok (.getfield 78, 3) := by decide +kernel
theorem dX10_world_43 : decode cX10_world 43 = .ok (.aload_n 0, 1) := by decide +kernel
theorem dX10_world_44 : decode cX10_world 44 = .ok (.invokevirtual 117, 3) := by decide +kernel
theorem dX10_world_47 : decode cX10_world 47 = .ok (.invokevirtual 121, 3) := by decide +kernel
theorem dX10_world_50 : decode cX10_world 50 = .ok (.aload_n 0, 1) := by decide +kernel
theorem dX10_world_51 : decode cX10_world 51 = .ok (.getfield 78, 3) := by decide +kernel
theorem dX10_world_54 : decode cX10_world 54 = .ok (.aload_n 1, 1) := by decide +kernel
theorem dX10_world_55 : decode cX10_world 55 = .ok (.invokevirtual 177, 3) := by decide +kernel
theorem dX10_world_58 : decode cX10_world 58 = .ok (.aload_n 0, 1) := by decide +kernel
theorem dX10_world_59 : decode cX10_world 59 = .ok (.getfield 78, 3) := by decide +kernel
theorem dX10_world_62 : decode cX10_world 62 = .ok (.invokevirtual 181, 3) := by decide +kernel
theorem dX10_world_65 : decode cX10_world 65 = .ok (.ireturn, 1) := by decide +kernel
def fX10_world (a : Nat) (μ : JM) : JO (Int32) := jck ((jT μ a).1 == 11) <| jcl (fX10_useTape a μ) fun u2 μ3 => jck ((jT μ3 a).1 == 11) <| jde (jP μ3 a 3) fun q12 => jck ((jT μ3 q12).1 == 10) <| if (jI μ3 q12 1) = 0 then (some ((-1 : Int32), μ3, 0, 0)) else (jde (jP μ3 a 7) fun q16 => jck ((jT μ3 q16).1 == 5) <| jcl (fX4_readWorld q16 μ3) fun r19 μ20 => if r19 = none then (jck ((jT μ20 a).1 == 11) <| jde (jP μ20 a 6) fun q78 => jck ((jT μ20 q78).1 == 8) <| some (((-2 : Int32) - (jI μ20 q78 5)), μ20, 0, 0)) else (jck ((jT μ20 a).1 == 11) <| jcl (fX10_caseCount a μ20) fun r30 μ31 => jde (jP μ20 a 10) fun q39 => jck ((jT μ31 q39).1 == 2) <| jcl (fX1_setFirst q39 r30 μ31) fun u42 μ43 => jck ((jT μ43 a).1 == 11) <| jde (jP μ43 a 10) fun q52 => jck ((jT μ43 q52).1 == 2) <| jcl (fX1_and q52 r19 μ43) fun u55 μ56 => jck ((jT μ56 a).1 == 11) <| jde (jP μ56 a 10) fun q65 => jck ((jT μ56 q65).1 == 2) <| jcl (fX1_total q65 μ56) fun r68 μ69 => some (r68, μ69, 0, 0)))
set_option maxHeartbeats 4000000 in
set_option maxRecDepth 100000 in
theorem mX10_world {b : Nat} {a : Nat} {μ : JM} {r : Int32} {ν : JM} {c m : Nat} (hf : fX10_world a μ = some (r, ν, c, m)) : JMet b yX10_world cX10_world 2 (some .int) 5 117 [va_rf (some a)] μ (some (.int r)) ν c m := by
  refine JMet.of (by decide) (lg_sl_le (by simp only [List.map_cons, List.map_nil, List.sum_cons, List.sum_nil, va_rf_cat]; exact Nat.le_of_ble_eq_true rfl)) (fun Θ X hin => ?_)
  refine wa_eq (L2 := [(0, va_rf (some a))]) ?_ rfl (by first | rfl | simp [lv_args, va_rf_cat, cat_i, cat_l]) rfl
  obtain ⟨k, hk0⟩ : ∃ k : Nat, k = 0 := ⟨0, rfl⟩
  obtain ⟨n, hn0⟩ : ∃ n : Nat, n = 0 := ⟨0, rfl⟩
  have hk : k + c = c := by omega
  have hn : n + m = m := by omega
  refine wa_costs hk0.symm hn0.symm ?_
  rw [fX10_world] at hf
  refine wa_aload_n X 0 dX10_world_0 rfl ?_
  obtain ⟨h1, hf⟩ := jckT hf
  obtain ⟨u2, μ3, c4, m5, c6, m7, e8, hf, h9, h10⟩ := jcl_some hf
  refine wa_rcallV (st2 := []) X dX10_world_1 lmX10_106 lMX10_useTape rfl h1 (mX10_useTape e8) rfl rfl rfl (va_cats (Nat.le_of_ble_eq_true rfl)) (by decide) (by omega) (by omega) ?_
  refine wa_aload_n X 0 dX10_world_4 rfl ?_
  obtain ⟨h11, hf⟩ := jckT hf
  refine wa_getP X dX10_world_5 lfX10_35 rfl h11 rfl ?_
  obtain ⟨q12, h13, hf⟩ := jde_some hf
  obtain ⟨h14, hf⟩ := jckT hf
  refine wa_getI X dX10_world_8 lfX10_109 h13 h14 rfl ?_
  refine wa_ifne (tgt := 16) X dX10_world_11 (by decide) (fun h15 => ?_) (fun h15 => ?_)
  · rw [if_neg h15] at hf
    refine wa_aload_n X 0 dX10_world_16 rfl ?_
    refine wa_getP X dX10_world_17 lfX10_59 rfl h11 rfl ?_
    obtain ⟨q16, h17, hf⟩ := jde_some hf
    obtain ⟨h18, hf⟩ := jckT hf
    obtain ⟨r19, μ20, c21, m22, c23, m24, e25, hf, h26, h27⟩ := jcl_some hf
    refine wa_rcallV (st2 := [va_rf r19]) X dX10_world_20 lmX10_173 lMX4_readWorld h17 h18 (mX4_readWorld e25) rfl rfl rfl (va_cats (Nat.le_of_ble_eq_true rfl)) (by decide) (by omega) (by omega) ?_
    refine wa_astore_n (L2 := [(1, va_rf r19), (0, va_rf (some a))]) X dX10_world_23 (by decide) (by first | rfl | (show (1, _) :: List.filter (fun q : Nat × Value => !(q.1 == 1) && !(q.1 + 1 == 1 && q.2.category == 2)) _ = _; simp [va_rf_cat, cat_i, cat_l])) ?_
    refine wa_aload_n X 0 dX10_world_24 rfl ?_
    refine wa_ifnonnull (tgt := 39) X dX10_world_25 (by decide) (fun h28 => ?_) (fun h28 => ?_)
    · rw [if_neg h28] at hf
      refine wa_aload_n X 1 dX10_world_39 rfl ?_
      obtain ⟨h29, hf⟩ := jckT hf
      refine wa_getP X dX10_world_40 lfX10_78 rfl h29 rfl ?_
      refine wa_aload_n X 1 dX10_world_43 rfl ?_
      obtain ⟨r30, μ31, c32, m33, c34, m35, e36, hf, h37, h38⟩ := jcl_some hf
      refine wa_rcallV (st2 := [.int r30, va_rf (jP μ20 a 10)]) X dX10_world_44 lmX10_117 lMX10_caseCount rfl h29 (mX10_caseCount e36) rfl rfl rfl (va_cats (Nat.le_of_ble_eq_true rfl)) (by decide) (by omega) (by omega) ?_
      obtain ⟨q39, h40, hf⟩ := jde_some hf
      obtain ⟨h41, hf⟩ := jckT hf
      obtain ⟨u42, μ43, c44, m45, c46, m47, e48, hf, h49, h50⟩ := jcl_some hf
      refine wa_rcallV (st2 := []) X dX10_world_47 lmX10_121 lMX1_setFirst h40 h41 (mX1_setFirst e48) rfl rfl rfl (va_cats (Nat.le_of_ble_eq_true rfl)) (by decide) (by omega) (by omega) ?_
      refine wa_aload_n X 1 dX10_world_50 rfl ?_
      obtain ⟨h51, hf⟩ := jckT hf
      refine wa_getP X dX10_world_51 lfX10_78 rfl h51 rfl ?_
      refine wa_aload_n X 0 dX10_world_54 rfl ?_
      obtain ⟨q52, h53, hf⟩ := jde_some hf
      obtain ⟨h54, hf⟩ := jckT hf
      obtain ⟨u55, μ56, c57, m58, c59, m60, e61, hf, h62, h63⟩ := jcl_some hf
      refine wa_rcallV (st2 := []) X dX10_world_55 lmX10_177 lMX1_and h53 h54 (mX1_and e61) rfl rfl rfl (va_cats (Nat.le_of_ble_eq_true rfl)) (by decide) (by omega) (by omega) ?_
      refine wa_aload_n X 1 dX10_world_58 rfl ?_
      obtain ⟨h64, hf⟩ := jckT hf
      refine wa_getP X dX10_world_59 lfX10_78 rfl h64 rfl ?_
      obtain ⟨q65, h66, hf⟩ := jde_some hf
      obtain ⟨h67, hf⟩ := jckT hf
      obtain ⟨r68, μ69, c70, m71, c72, m73, e74, hf, h75, h76⟩ := jcl_some hf
      refine wa_rcallV (st2 := [.int r68]) X dX10_world_62 lmX10_181 lMX1_total h66 h67 (mX1_total e74) rfl rfl rfl (va_cats (Nat.le_of_ble_eq_true rfl)) (by decide) (by omega) (by omega) ?_
      obtain ⟨rfl, rfl, rfl, rfl⟩ := jret hf
      exact wa_iret X dX10_world_65 rfl (by omega) (by omega)
    · rw [if_pos h28] at hf
      refine wa_bipush (v := (-2 : Int32)) X dX10_world_28 (by decide) ?_
      refine wa_aload_n X 1 dX10_world_30 rfl ?_
      obtain ⟨h77, hf⟩ := jckT hf
      refine wa_getP X dX10_world_31 lfX10_50 rfl h77 rfl ?_
      obtain ⟨q78, h79, hf⟩ := jde_some hf
      obtain ⟨h80, hf⟩ := jckT hf
      refine wa_getI X dX10_world_34 lfX10_114 h79 h80 rfl ?_
      refine wa_isub X dX10_world_37 ?_
      obtain ⟨rfl, rfl, rfl, rfl⟩ := jret hf
      exact wa_iret X dX10_world_38 rfl (by omega) (by omega)
  · rw [if_pos h15] at hf
    refine wa_iconst (v := (-1 : Int32)) X dX10_world_14 (by decide) ?_
    obtain ⟨rfl, rfl, rfl, rfl⟩ := jret hf
    exact wa_iret X dX10_world_15 rfl (by omega) (by omega)
theorem dX10_write_0 : decode cX10_write 0 = .ok (.aload_n 0, 1) := by decide +kernel
theorem dX10_write_1 : decode cX10_write 1 = .ok (.iload_n 1, 1) := by decide +kernel
theorem dX10_write_2 : decode cX10_write 2 = .ok (.invokevirtual 132, 3) := by decide +kernel
theorem dX10_write_5 : decode cX10_write 5 = .ok (.astore_n 2, 1) := by decide +kernel
theorem dX10_write_6 : decode cX10_write 6 = .ok (.aload_n 2, 1) := by decide +kernel
theorem dX10_write_7 : decode cX10_write 7 = .ok (.ifnonnull 5, 3) := by decide +kernel
theorem dX10_write_10 : decode cX10_write 10 = .ok (.iconst (-1), 1) := by decide +kernel
theorem dX10_write_11 : decode cX10_write 11 = .ok (.ireturn, 1) := by decide +kernel
theorem dX10_write_12 : decode cX10_write 12 = .ok (.aload_n 0, 1) := by decide +kernel
theorem dX10_write_13 : decode cX10_write 13 = .ok (.getfield 29, 3) := by decide +kernel
theorem dX10_write_16 : decode cX10_write 16 = .ok (.invokevirtual 149, 3) := by decide +kernel
theorem dX10_write_19 : decode cX10_write 19 = .ok (.aload_n 2, 1) := by decide +kernel
theorem dX10_write_20 : decode cX10_write 20 = .ok (.aload_n 0, 1) := by decide +kernel
theorem dX10_write_21 : decode cX10_write 21 = .ok (.getfield 29, 3) := by decide +kernel
theorem dX10_write_24 : decode cX10_write 24 = .ok (.invokevirtual 152, 3) := by decide +kernel
theorem dX10_write_27 : decode cX10_write 27 = .ok (.aload_n 0, 1) := by decide +kernel
theorem dX10_write_28 : decode cX10_write 28 = .ok (.getfield 29, 3) := by decide +kernel
theorem dX10_write_31 : decode cX10_write 31 = .ok (.getfield 100, 3) := by decide +kernel
theorem dX10_write_34 : decode cX10_write 34 = .ok (.ireturn, 1) := by decide +kernel
def fX10_write (a : Nat) (x1 : Int32) (μ : JM) : JO (Int32) := jck ((jT μ a).1 == 11) <| jcl (fX10_versionAt a x1 μ) fun r2 μ3 => if r2 = none then (some ((-1 : Int32), μ3, 0, 0)) else (jck ((jT μ3 a).1 == 11) <| jde (jP μ3 a 1) fun q13 => jck ((jT μ3 q13).1 == 7) <| jcl (fX6_clear q13 μ3) fun u16 μ17 => jck ((jT μ17 a).1 == 11) <| jde r2 fun q26 => jck ((jT μ17 q26).1 == 9) <| jcl (fX8_putOn q26 (jP μ17 a 1) μ17) fun u29 μ30 => jck ((jT μ30 a).1 == 11) <| jde (jP μ30 a 1) fun q39 => jck ((jT μ30 q39).1 == 7) <| some ((jI μ30 q39 2), μ30, 0, 0))
set_option maxHeartbeats 4000000 in
set_option maxRecDepth 100000 in
theorem mX10_write {b : Nat} {a : Nat} {x1 : Int32} {μ : JM} {r : Int32} {ν : JM} {c m : Nat} (hf : fX10_write a x1 μ = some (r, ν, c, m)) : JMet b yX10_write cX10_write 3 (some .int) 5 117 [va_rf (some a), .int x1] μ (some (.int r)) ν c m := by
  refine JMet.of (by decide) (lg_sl_le (by simp only [List.map_cons, List.map_nil, List.sum_cons, List.sum_nil, va_rf_cat]; exact Nat.le_of_ble_eq_true rfl)) (fun Θ X hin => ?_)
  refine wa_eq (L2 := [(0, va_rf (some a)), (1, .int x1)]) ?_ rfl (by first | rfl | simp [lv_args, va_rf_cat, cat_i, cat_l]) rfl
  obtain ⟨k, hk0⟩ : ∃ k : Nat, k = 0 := ⟨0, rfl⟩
  obtain ⟨n, hn0⟩ : ∃ n : Nat, n = 0 := ⟨0, rfl⟩
  have hk : k + c = c := by omega
  have hn : n + m = m := by omega
  refine wa_costs hk0.symm hn0.symm ?_
  rw [fX10_write] at hf
  refine wa_aload_n X 0 dX10_write_0 rfl ?_
  refine wa_iload_n X 1 dX10_write_1 rfl ?_
  obtain ⟨h1, hf⟩ := jckT hf
  obtain ⟨r2, μ3, c4, m5, c6, m7, e8, hf, h9, h10⟩ := jcl_some hf
  refine wa_rcallV (st2 := [va_rf r2]) X dX10_write_2 lmX10_132 lMX10_versionAt rfl h1 (mX10_versionAt e8) rfl rfl rfl (va_cats (Nat.le_of_ble_eq_true rfl)) (by decide) (by omega) (by omega) ?_
  refine wa_astore_n (L2 := [(2, va_rf r2), (0, va_rf (some a)), (1, .int x1)]) X dX10_write_5 (by decide) (by first | rfl | (show (2, _) :: List.filter (fun q : Nat × Value => !(q.1 == 2) && !(q.1 + 1 == 2 && q.2.category == 2)) _ = _; simp [va_rf_cat, cat_i, cat_l])) ?_
  refine wa_aload_n X 0 dX10_write_6 rfl ?_
  refine wa_ifnonnull (tgt := 12) X dX10_write_7 (by decide) (fun h11 => ?_) (fun h11 => ?_)
  · rw [if_neg h11] at hf
    refine wa_aload_n X 1 dX10_write_12 rfl ?_
    obtain ⟨h12, hf⟩ := jckT hf
    refine wa_getP X dX10_write_13 lfX10_29 rfl h12 rfl ?_
    obtain ⟨q13, h14, hf⟩ := jde_some hf
    obtain ⟨h15, hf⟩ := jckT hf
    obtain ⟨u16, μ17, c18, m19, c20, m21, e22, hf, h23, h24⟩ := jcl_some hf
    refine wa_rcallV (st2 := []) X dX10_write_16 lmX10_149 lMX6_clear h14 h15 (mX6_clear e22) rfl rfl rfl (va_cats (Nat.le_of_ble_eq_true rfl)) (by decide) (by omega) (by omega) ?_
    refine wa_aload_n X 0 dX10_write_19 rfl ?_
    refine wa_aload_n X 1 dX10_write_20 rfl ?_
    obtain ⟨h25, hf⟩ := jckT hf
    refine wa_getP X dX10_write_21 lfX10_29 rfl h25 rfl ?_
    obtain ⟨q26, h27, hf⟩ := jde_some hf
    obtain ⟨h28, hf⟩ := jckT hf
    obtain ⟨u29, μ30, c31, m32, c33, m34, e35, hf, h36, h37⟩ := jcl_some hf
    refine wa_rcallV (st2 := []) X dX10_write_24 lmX10_152 lMX8_putOn h27 h28 (mX8_putOn e35) rfl rfl rfl (va_cats (Nat.le_of_ble_eq_true rfl)) (by decide) (by omega) (by omega) ?_
    refine wa_aload_n X 1 dX10_write_27 rfl ?_
    obtain ⟨h38, hf⟩ := jckT hf
    refine wa_getP X dX10_write_28 lfX10_29 rfl h38 rfl ?_
    obtain ⟨q39, h40, hf⟩ := jde_some hf
    obtain ⟨h41, hf⟩ := jckT hf
    refine wa_getI X dX10_write_31 lfX10_100 h40 h41 rfl ?_
    obtain ⟨rfl, rfl, rfl, rfl⟩ := jret hf
    exact wa_iret X dX10_write_34 rfl (by omega) (by omega)
  · rw [if_pos h11] at hf
    refine wa_iconst (v := (-1 : Int32)) X dX10_write_10 (by decide) ?_
    obtain ⟨rfl, rfl, rfl, rfl⟩ := jret hf
    exact wa_iret X dX10_write_11 rfl (by omega) (by omega)
theorem dX10_octet_0 : decode cX10_octet 0 = .ok (.aload_n 0, 1) := by decide +kernel
theorem dX10_octet_1 : decode cX10_octet 1 = .ok (.getfield 29, 3) := by decide +kernel
theorem dX10_octet_4 : decode cX10_octet 4 = .ok (.iload_n 1, 1) := by decide +kernel
theorem dX10_octet_5 : decode cX10_octet 5 = .ok (.invokevirtual 184, 3) := by decide +kernel
theorem dX10_octet_8 : decode cX10_octet 8 = .ok (.ireturn, 1) := by decide +kernel
def fX10_octet (a : Nat) (x1 : Int32) (μ : JM) : JO (Int32) := jck ((jT μ a).1 == 11) <| jde (jP μ a 1) fun q2 => jck ((jT μ q2).1 == 7) <| jcl (fX6_byteAt q2 x1 μ) fun r5 μ6 => some (r5, μ6, 0, 0)
set_option maxHeartbeats 4000000 in
set_option maxRecDepth 100000 in
theorem mX10_octet {b : Nat} {a : Nat} {x1 : Int32} {μ : JM} {r : Int32} {ν : JM} {c m : Nat} (hf : fX10_octet a x1 μ = some (r, ν, c, m)) : JMet b yX10_octet cX10_octet 2 (some .int) 1 21 [va_rf (some a), .int x1] μ (some (.int r)) ν c m := by
  refine JMet.of (by decide) (lg_sl_le (by simp only [List.map_cons, List.map_nil, List.sum_cons, List.sum_nil, va_rf_cat]; exact Nat.le_of_ble_eq_true rfl)) (fun Θ X hin => ?_)
  refine wa_eq (L2 := [(0, va_rf (some a)), (1, .int x1)]) ?_ rfl (by first | rfl | simp [lv_args, va_rf_cat, cat_i, cat_l]) rfl
  obtain ⟨k, hk0⟩ : ∃ k : Nat, k = 0 := ⟨0, rfl⟩
  obtain ⟨n, hn0⟩ : ∃ n : Nat, n = 0 := ⟨0, rfl⟩
  have hk : k + c = c := by omega
  have hn : n + m = m := by omega
  refine wa_costs hk0.symm hn0.symm ?_
  rw [fX10_octet] at hf
  refine wa_aload_n X 0 dX10_octet_0 rfl ?_
  obtain ⟨h1, hf⟩ := jckT hf
  refine wa_getP X dX10_octet_1 lfX10_29 rfl h1 rfl ?_
  refine wa_iload_n X 1 dX10_octet_4 rfl ?_
  obtain ⟨q2, h3, hf⟩ := jde_some hf
  obtain ⟨h4, hf⟩ := jckT hf
  obtain ⟨r5, μ6, c7, m8, c9, m10, e11, hf, h12, h13⟩ := jcl_some hf
  refine wa_rcallV (st2 := [.int r5]) X dX10_octet_5 lmX10_184 lMX6_byteAt h3 h4 (mX6_byteAt e11) rfl rfl rfl (va_cats (Nat.le_of_ble_eq_true rfl)) (by decide) (by omega) (by omega) ?_
  obtain ⟨rfl, rfl, rfl, rfl⟩ := jret hf
  exact wa_iret X dX10_octet_8 rfl (by omega) (by omega)
theorem dX10_back_0 : decode cX10_back 0 = .ok (.aload_n 0, 1) := by decide +kernel
theorem dX10_back_1 : decode cX10_back 1 = .ok (.getfield 25, 3) := by decide +kernel
theorem dX10_back_4 : decode cX10_back 4 = .ok (.getfield 100, 3) := by decide +kernel
theorem dX10_back_7 : decode cX10_back 7 = .ok (.aload_n 0, 1) := by decide +kernel
theorem dX10_back_8 : decode cX10_back 8 = .ok (.getfield 29, 3) := by decide +kernel
theorem dX10_back_11 : decode cX10_back 11 = .ok (.getfield 100, 3) := by decide +kernel
theorem dX10_back_14 : decode cX10_back 14 = .ok (.iadd, 1) := by decide +kernel
theorem dX10_back_15 : decode cX10_back 15 = .ok (.sipush 900, 3) := by decide +kernel
theorem dX10_back_18 : decode cX10_back 18 = .ok (.if_icmp .le 5, 3) := by decide +kernel
theorem dX10_back_21 : decode cX10_back 21 = .ok (.iconst (-1), 1) := by decide +kernel
theorem dX10_back_22 : decode cX10_back 22 = .ok (.ireturn, 1) := by decide +kernel
theorem dX10_back_23 : decode cX10_back 23 = .ok (.iconst 0, 1) := by decide +kernel
theorem dX10_back_24 : decode cX10_back 24 = .ok (.istore_n 1, 1) := by decide +kernel
theorem dX10_back_25 : decode cX10_back 25 = .ok (.iload_n 1, 1) := by decide +kernel
theorem dX10_back_26 : decode cX10_back 26 = .ok (.aload_n 0, 1) := by decide +kernel
theorem dX10_back_27 : decode cX10_back 27 = .ok (.getfield 29, 3) := by decide +kernel
theorem dX10_back_30 : decode cX10_back 30 = .ok (.getfield 100, 3) := by decide +kernel
theorem dX10_back_33 : decode cX10_back 33 = .ok (.if_icmp .ge 24, 3) := by decide +kernel
theorem dX10_back_36 : decode cX10_back 36 = .ok (.aload_n 0, 1) := by decide +kernel
theorem dX10_back_37 : decode cX10_back 37 = .ok (.getfield 25, 3) := by decide +kernel
theorem dX10_back_40 : decode cX10_back 40 = .ok (.aload_n 0, 1) := by decide +kernel
theorem dX10_back_41 : decode cX10_back 41 = .ok (.getfield 29, 3) := by decide +kernel
theorem dX10_back_44 : decode cX10_back 44 = .ok (.iload_n 1, 1) := by decide +kernel
theorem dX10_back_45 : decode cX10_back 45 = .ok (.invokevirtual 184, 3) := by decide +kernel
theorem dX10_back_48 : decode cX10_back 48 = .ok (.invokevirtual 188, 3) := by decide +kernel
theorem dX10_back_51 : decode cX10_back 51 = .ok (.iinc 1 1, 3) := by decide +kernel
theorem dX10_back_54 : decode cX10_back 54 = .ok (.goto (-29), 3) := by decide +kernel
theorem dX10_back_57 : decode cX10_back 57 = .ok (.aload_n 0, 1) := by decide +kernel
theorem dX10_back_58 : decode cX10_back 58 = .ok (.getfield 29, 3) := by decide +kernel
theorem dX10_back_61 : decode cX10_back 61 = .ok (.invokevirtual 149, 3) := by decide +kernel
theorem dX10_back_64 : decode cX10_back 64 = .ok (.aload_n 0, 1) := by decide +kernel
theorem dX10_back_65 : decode cX10_back 65 = .ok (.getfield 25, 3) := by decide +kernel
theorem dX10_back_68 : decode cX10_back 68 = .ok (.getfield 100, 3) := by decide +kernel
theorem dX10_back_71 : decode cX10_back 71 = .ok (.ireturn, 1) := by decide +kernel
def fX10_back_b25 : Nat → Nat → Int32 → JM → JO (Int32)
  | 0, _, _, _ => none
  | fu + 1, a, x1, μ => jck ((jT μ a).1 == 11) <| jde (jP μ a 1) fun q10 => jck ((jT μ q10).1 == 7) <| if (jI μ q10 2) ≤ x1 then (jcl (fX6_clear q10 μ) fun u14 μ15 => jck ((jT μ15 a).1 == 11) <| jde (jP μ15 a 0) fun q24 => jck ((jT μ15 q24).1 == 7) <| some ((jI μ15 q24 2), μ15, 0, 0)) else (jcl (fX6_byteAt q10 x1 μ) fun r27 μ28 => jde (jP μ a 0) fun q36 => jck ((jT μ28 q36).1 == 7) <| jcl (fX6_addByte q36 r27 μ28) fun u39 μ40 => fX10_back_b25 fu a (x1 + (1 : Int32)) μ40)
set_option maxHeartbeats 4000000 in
set_option maxRecDepth 100000 in
theorem gX10_back_b25 {b : Nat} {Θ : JE} {RC RS : Nat} {r : Int32} {ν : JM} (X : jX b Θ RX10 cX10_back 2 (some .int) 1 21 RC RS) : ∀ (fu : Nat) (a : Nat) (x1 : Int32) (μ : JM) (c m k n : Nat), fX10_back_b25 fu a x1 μ = some (r, ν, c, m) → k + c = RC → n + m = RS → WA b Θ 2 (jE b Θ (some (.int r)) ν RC RS) μ k n 25 [(0, va_rf (some a)), (1, .int x1)] [] := by
  intro fu
  induction fu with
  | zero => intro a x1 μ c m k n hf; cases hf
  | succ fu ih =>
    intro a x1 μ c m k n hf hk hn
    rw [fX10_back_b25] at hf
    refine wa_iload_n X 1 dX10_back_25 rfl ?_
    refine wa_aload_n X 0 dX10_back_26 rfl ?_
    obtain ⟨h9, hf⟩ := jckT hf
    refine wa_getP X dX10_back_27 lfX10_29 rfl h9 rfl ?_
    obtain ⟨q10, h11, hf⟩ := jde_some hf
    obtain ⟨h12, hf⟩ := jckT hf
    refine wa_getI X dX10_back_30 lfX10_100 h11 h12 rfl ?_
    refine wa_icge (tgt := 57) X dX10_back_33 (by decide) (fun h13 => ?_) (fun h13 => ?_)
    · rw [if_pos h13] at hf
      refine wa_aload_n X 0 dX10_back_57 rfl ?_
      refine wa_getP X dX10_back_58 lfX10_29 rfl h9 rfl ?_
      obtain ⟨u14, μ15, c16, m17, c18, m19, e20, hf, h21, h22⟩ := jcl_some hf
      refine wa_rcallV (st2 := []) X dX10_back_61 lmX10_149 lMX6_clear h11 h12 (mX6_clear e20) rfl rfl rfl (va_cats (Nat.le_of_ble_eq_true rfl)) (by decide) (by omega) (by omega) ?_
      refine wa_aload_n X 0 dX10_back_64 rfl ?_
      obtain ⟨h23, hf⟩ := jckT hf
      refine wa_getP X dX10_back_65 lfX10_25 rfl h23 rfl ?_
      obtain ⟨q24, h25, hf⟩ := jde_some hf
      obtain ⟨h26, hf⟩ := jckT hf
      refine wa_getI X dX10_back_68 lfX10_100 h25 h26 rfl ?_
      obtain ⟨rfl, rfl, rfl, rfl⟩ := jret hf
      exact wa_iret X dX10_back_71 rfl (by omega) (by omega)
    · rw [if_neg h13] at hf
      refine wa_aload_n X 0 dX10_back_36 rfl ?_
      refine wa_getP X dX10_back_37 lfX10_25 rfl h9 rfl ?_
      refine wa_aload_n X 0 dX10_back_40 rfl ?_
      refine wa_getP X dX10_back_41 lfX10_29 rfl h9 rfl ?_
      refine wa_iload_n X 1 dX10_back_44 rfl ?_
      obtain ⟨r27, μ28, c29, m30, c31, m32, e33, hf, h34, h35⟩ := jcl_some hf
      refine wa_rcallV (st2 := [.int r27, va_rf (jP μ a 0)]) X dX10_back_45 lmX10_184 lMX6_byteAt h11 h12 (mX6_byteAt e33) rfl rfl rfl (va_cats (Nat.le_of_ble_eq_true rfl)) (by decide) (by omega) (by omega) ?_
      obtain ⟨q36, h37, hf⟩ := jde_some hf
      obtain ⟨h38, hf⟩ := jckT hf
      obtain ⟨u39, μ40, c41, m42, c43, m44, e45, hf, h46, h47⟩ := jcl_some hf
      refine wa_rcallV (st2 := []) X dX10_back_48 lmX10_188 lMX6_addByte h37 h38 (mX6_addByte e45) rfl rfl rfl (va_cats (Nat.le_of_ble_eq_true rfl)) (by decide) (by omega) (by omega) ?_
      refine wa_iinc (v := (x1 + (1 : Int32))) (L2 := [(1, .int (x1 + (1 : Int32))), (0, va_rf (some a))]) X 1 dX10_back_51 rfl rfl (by decide) (by first | rfl | simp [va_rf_cat, cat_i, cat_l]) ?_
      refine wa_goto (tgt := 25) X dX10_back_54 (by decide) ?_
      refine wa_sub (L2 := [(0, va_rf (some a)), (1, .int (x1 + (1 : Int32)))]) [1, 0] rfl ?_
      exact ih a (x1 + (1 : Int32)) μ40 _ _ _ _ hf (by omega) (by omega)
def fX10_back (a : Nat) (μ : JM) : JO (Int32) := jck ((jT μ a).1 == 11) <| jde (jP μ a 0) fun q2 => jck ((jT μ q2).1 == 7) <| jde (jP μ a 1) fun q5 => jck ((jT μ q5).1 == 7) <| if ((jI μ q2 2) + (jI μ q5 2)) ≤ (900 : Int32) then (fX10_back_b25  jfuel a (0 : Int32) μ) else (some ((-1 : Int32), μ, 0, 0))
set_option maxHeartbeats 4000000 in
set_option maxRecDepth 100000 in
theorem mX10_back {b : Nat} {a : Nat} {μ : JM} {r : Int32} {ν : JM} {c m : Nat} (hf : fX10_back a μ = some (r, ν, c, m)) : JMet b yX10_back cX10_back 2 (some .int) 1 21 [va_rf (some a)] μ (some (.int r)) ν c m := by
  refine JMet.of (by decide) (lg_sl_le (by simp only [List.map_cons, List.map_nil, List.sum_cons, List.sum_nil, va_rf_cat]; exact Nat.le_of_ble_eq_true rfl)) (fun Θ X hin => ?_)
  refine wa_eq (L2 := [(0, va_rf (some a))]) ?_ rfl (by first | rfl | simp [lv_args, va_rf_cat, cat_i, cat_l]) rfl
  obtain ⟨k, hk0⟩ : ∃ k : Nat, k = 0 := ⟨0, rfl⟩
  obtain ⟨n, hn0⟩ : ∃ n : Nat, n = 0 := ⟨0, rfl⟩
  have hk : k + c = c := by omega
  have hn : n + m = m := by omega
  refine wa_costs hk0.symm hn0.symm ?_
  rw [fX10_back] at hf
  refine wa_aload_n X 0 dX10_back_0 rfl ?_
  obtain ⟨h1, hf⟩ := jckT hf
  refine wa_getP X dX10_back_1 lfX10_25 rfl h1 rfl ?_
  obtain ⟨q2, h3, hf⟩ := jde_some hf
  obtain ⟨h4, hf⟩ := jckT hf
  refine wa_getI X dX10_back_4 lfX10_100 h3 h4 rfl ?_
  refine wa_aload_n X 0 dX10_back_7 rfl ?_
  refine wa_getP X dX10_back_8 lfX10_29 rfl h1 rfl ?_
  obtain ⟨q5, h6, hf⟩ := jde_some hf
  obtain ⟨h7, hf⟩ := jckT hf
  refine wa_getI X dX10_back_11 lfX10_100 h6 h7 rfl ?_
  refine wa_iadd X dX10_back_14 ?_
  refine wa_sipush (v := (900 : Int32)) X dX10_back_15 (by decide) ?_
  refine wa_icle (tgt := 23) X dX10_back_18 (by decide) (fun h8 => ?_) (fun h8 => ?_)
  · rw [if_pos h8] at hf
    refine wa_iconst (v := (0 : Int32)) X dX10_back_23 (by decide) ?_
    refine wa_istore_n (L2 := [(1, .int (0 : Int32)), (0, va_rf (some a))]) X dX10_back_24 (by decide) (by first | rfl | (show (1, _) :: List.filter (fun q : Nat × Value => !(q.1 == 1) && !(q.1 + 1 == 1 && q.2.category == 2)) _ = _; simp [va_rf_cat, cat_i, cat_l])) ?_
    refine wa_sub (L2 := [(0, va_rf (some a)), (1, .int (0 : Int32))]) [1, 0] rfl ?_
    exact gX10_back_b25 X jfuel a (0 : Int32) μ _ _ _ _ hf (by omega) (by omega)
  · rw [if_neg h8] at hf
    refine wa_iconst (v := (-1 : Int32)) X dX10_back_21 (by decide) ?_
    obtain ⟨rfl, rfl, rfl, rfl⟩ := jret hf
    exact wa_iret X dX10_back_22 rfl (by omega) (by omega)
theorem dX10_clauseAt_0 : decode cX10_clauseAt 0 = .ok (.aload_n 0, 1) := by decide +kernel
theorem dX10_clauseAt_1 : decode cX10_clauseAt 1 = .ok (.iload_n 1, 1) := by decide +kernel
theorem dX10_clauseAt_2 : decode cX10_clauseAt 2 = .ok (.invokevirtual 132, 3) := by decide +kernel
theorem dX10_clauseAt_5 : decode cX10_clauseAt 5 = .ok (.astore_n 3, 1) := by decide +kernel
theorem dX10_clauseAt_6 : decode cX10_clauseAt 6 = .ok (.aload_n 3, 1) := by decide +kernel
theorem dX10_clauseAt_7 : decode cX10_clauseAt 7 = .ok (.ifnonnull 7, 3) := by decide +kernel
theorem dX10_clauseAt_10 : decode cX10_clauseAt 10 = .ok (.aconst_null, 1) := by decide +kernel
theorem dX10_clauseAt_11 : decode cX10_clauseAt 11 = .ok (.goto 8, 3) := by decide +kernel
theorem dX10_clauseAt_14 : decode cX10_clauseAt 14 = .ok (.aload_n 3, 1) := by decide +kernel
theorem dX10_clauseAt_15 : decode cX10_clauseAt 15 = .ok (.iload_n 2, 1) := by decide +kernel
theorem dX10_clauseAt_16 : decode cX10_clauseAt 16 = .ok (.invokevirtual 307, 3) := by decide +kernel
theorem dX10_clauseAt_19 : decode cX10_clauseAt 19 = .ok (.areturn, 1) := by decide +kernel
def fX10_clauseAt (a : Nat) (x1 : Int32) (x2 : Int32) (μ : JM) : JO (Option Nat) := jck ((jT μ a).1 == 11) <| jcl (fX10_versionAt a x1 μ) fun r2 μ3 => if r2 = none then (some (none, μ3, 0, 0)) else (jde r2 fun q12 => jck ((jT μ3 q12).1 == 9) <| jcl (fX8_at q12 x2 μ3) fun r15 μ16 => some (r15, μ16, 0, 0))
set_option maxHeartbeats 4000000 in
set_option maxRecDepth 100000 in
theorem mX10_clauseAt {b : Nat} {a : Nat} {x1 : Int32} {x2 : Int32} {μ : JM} {r : Option Nat} {ν : JM} {c m : Nat} (hf : fX10_clauseAt a x1 x2 μ = some (r, ν, c, m)) : JMet b yX10_clauseAt cX10_clauseAt 4 (some (.object "ClauseBench$Clause")) 1 21 [va_rf (some a), .int x1, .int x2] μ (some (va_rf r)) ν c m := by
  refine JMet.of (by decide) (lg_sl_le (by simp only [List.map_cons, List.map_nil, List.sum_cons, List.sum_nil, va_rf_cat]; exact Nat.le_of_ble_eq_true rfl)) (fun Θ X hin => ?_)
  refine wa_eq (L2 := [(0, va_rf (some a)), (1, .int x1), (2, .int x2)]) ?_ rfl (by first | rfl | simp [lv_args, va_rf_cat, cat_i, cat_l]) rfl
  obtain ⟨k, hk0⟩ : ∃ k : Nat, k = 0 := ⟨0, rfl⟩
  obtain ⟨n, hn0⟩ : ∃ n : Nat, n = 0 := ⟨0, rfl⟩
  have hk : k + c = c := by omega
  have hn : n + m = m := by omega
  refine wa_costs hk0.symm hn0.symm ?_
  rw [fX10_clauseAt] at hf
  refine wa_aload_n X 0 dX10_clauseAt_0 rfl ?_
  refine wa_iload_n X 1 dX10_clauseAt_1 rfl ?_
  obtain ⟨h1, hf⟩ := jckT hf
  obtain ⟨r2, μ3, c4, m5, c6, m7, e8, hf, h9, h10⟩ := jcl_some hf
  refine wa_rcallV (st2 := [va_rf r2]) X dX10_clauseAt_2 lmX10_132 lMX10_versionAt rfl h1 (mX10_versionAt e8) rfl rfl rfl (va_cats (Nat.le_of_ble_eq_true rfl)) (by decide) (by omega) (by omega) ?_
  refine wa_astore_n (L2 := [(3, va_rf r2), (0, va_rf (some a)), (1, .int x1), (2, .int x2)]) X dX10_clauseAt_5 (by decide) (by first | rfl | (show (3, _) :: List.filter (fun q : Nat × Value => !(q.1 == 3) && !(q.1 + 1 == 3 && q.2.category == 2)) _ = _; simp [va_rf_cat, cat_i, cat_l])) ?_
  refine wa_aload_n X 0 dX10_clauseAt_6 rfl ?_
  refine wa_ifnonnull (tgt := 14) X dX10_clauseAt_7 (by decide) (fun h11 => ?_) (fun h11 => ?_)
  · rw [if_neg h11] at hf
    refine wa_aload_n X 0 dX10_clauseAt_14 rfl ?_
    refine wa_iload_n X 3 dX10_clauseAt_15 rfl ?_
    obtain ⟨q12, h13, hf⟩ := jde_some hf
    obtain ⟨h14, hf⟩ := jckT hf
    obtain ⟨r15, μ16, c17, m18, c19, m20, e21, hf, h22, h23⟩ := jcl_some hf
    refine wa_rcallV (st2 := [va_rf r15]) X dX10_clauseAt_16 lmX10_307 lMX8_at h13 h14 (mX8_at e21) rfl rfl rfl (va_cats (Nat.le_of_ble_eq_true rfl)) (by decide) (by omega) (by omega) ?_
    obtain ⟨rfl, rfl, rfl, rfl⟩ := jret hf
    exact wa_aret X dX10_clauseAt_19 (by first | exact Or.inl ⟨_, rfl⟩ | exact Or.inr ⟨_, rfl⟩) (by omega) (by omega)
  · rw [if_pos h11] at hf
    refine wa_null X dX10_clauseAt_10 ?_
    refine wa_goto (tgt := 19) X dX10_clauseAt_11 (by decide) ?_
    obtain ⟨rfl, rfl, rfl, rfl⟩ := jret hf
    exact wa_aret X dX10_clauseAt_19 (by first | exact Or.inl ⟨_, rfl⟩ | exact Or.inr ⟨_, rfl⟩) (by omega) (by omega)
theorem dX10_clause_0 : decode cX10_clause 0 = .ok (.aload_n 0, 1) := by decide +kernel
theorem dX10_clause_1 : decode cX10_clause 1 = .ok (.iload_n 1, 1) := by decide +kernel
theorem dX10_clause_2 : decode cX10_clause 2 = .ok (.iload_n 2, 1) := by decide +kernel
theorem dX10_clause_3 : decode cX10_clause 3 = .ok (.invokevirtual 191, 3) := by decide +kernel
theorem dX10_clause_6 : decode cX10_clause 6 = .ok (.astore 4, 2) := by decide +kernel
theorem dX10_clause_8 : decode cX10_clause 8 = .ok (.aload 4, 2) := by decide +kernel
theorem dX10_clause_10 : decode cX10_clause 10 = .ok (.ifnonnull 5, 3) := by decide +kernel
theorem dX10_clause_13 : decode cX10_clause 13 = .ok (.iconst (-1), 1) := by decide +kernel
theorem dX10_clause_14 : decode cX10_clause 14 = .ok (.ireturn, 1) := by decide +kernel
theorem dX10_clause_15 : decode cX10_clause 15 = .ok (.iload_n 3, 1) := by decide +kernel
theorem dX10_clause_16 : decode cX10_clause 16 = .ok (.tableswitch 92 0 6 #[44, 50, 56, 62, 68, 74, 83], 44) := by decide +kernel
theorem dX10_clause_60 : decode cX10_clause 60 = .ok (.aload 4, 2) := by decide +kernel
theorem dX10_clause_62 : decode cX10_clause 62 = .ok (.getfield 195, 3) := by decide +kernel
theorem dX10_clause_65 : decode cX10_clause 65 = .ok (.ireturn, 1) := by decide +kernel
theorem dX10_clause_66 : decode cX10_clause 66 = .ok (.aload 4, 2) := by decide +kernel
theorem dX10_clause_68 : decode cX10_clause 68 = .ok (.getfield 200, 3) := by decide +kernel
theorem dX10_clause_71 : decode cX10_clause 71 = .ok (.ireturn, 1) := by decide +kernel
theorem dX10_clause_72 : decode cX10_clause 72 = .ok (.aload 4, 2) := by decide +kernel
theorem dX10_clause_74 : decode cX10_clause 74 = .ok (.getfield 203, 3) := by decide +kernel
theorem dX10_clause_77 : decode cX10_clause 77 = .ok (.ireturn, 1) := by decide +kernel
theorem dX10_clause_78 : decode cX10_clause 78 = .ok (.aload 4, 2) := by decide +kernel
theorem dX10_clause_80 : decode cX10_clause 80 = .ok (.getfield 206, 3) := by decide +kernel
theorem dX10_clause_83 : decode cX10_clause 83 = .ok (.ireturn, 1) := by decide +kernel
theorem dX10_clause_84 : decode cX10_clause 84 = .ok (.aload 4, 2) := by decide +kernel
theorem dX10_clause_86 : decode cX10_clause 86 = .ok (.getfield 209, 3) := by decide +kernel
theorem dX10_clause_89 : decode cX10_clause 89 = .ok (.ireturn, 1) := by decide +kernel
theorem dX10_clause_90 : decode cX10_clause 90 = .ok (.aload 4, 2) := by decide +kernel
theorem dX10_clause_92 : decode cX10_clause 92 = .ok (.getfield 212, 3) := by decide +kernel
theorem dX10_clause_95 : decode cX10_clause 95 = .ok (.invokestatic 215, 3) := by decide +kernel
theorem dX10_clause_98 : decode cX10_clause 98 = .ok (.ireturn, 1) := by decide +kernel
theorem dX10_clause_99 : decode cX10_clause 99 = .ok (.aload 4, 2) := by decide +kernel
theorem dX10_clause_101 : decode cX10_clause 101 = .ok (.getfield 220, 3) := by decide +kernel
theorem dX10_clause_104 : decode cX10_clause 104 = .ok (.invokestatic 224, 3) := by decide +kernel
theorem dX10_clause_107 : decode cX10_clause 107 = .ok (.ireturn, 1) := by decide +kernel
theorem dX10_clause_108 : decode cX10_clause 108 = .ok (.iconst (-1), 1) := by decide +kernel
theorem dX10_clause_109 : decode cX10_clause 109 = .ok (.ireturn, 1) := by decide +kernel
def fX10_clause (a : Nat) (x1 : Int32) (x2 : Int32) (x3 : Int32) (μ : JM) : JO (Int32) := jck ((jT μ a).1 == 11) <| jcl (fX10_clauseAt a x1 x2 μ) fun r2 μ3 => if r2 = none then (some ((-1 : Int32), μ3, 0, 0)) else (if x3 = (0 : Int32) then (jde r2 fun q13 => jck ((jT μ3 q13).1 == 3) <| some ((jI μ3 q13 0), μ3, 0, 0)) else (if x3 = (1 : Int32) then (jde r2 fun q17 => jck ((jT μ3 q17).1 == 3) <| some ((jI μ3 q17 2), μ3, 0, 0)) else (if x3 = (2 : Int32) then (jde r2 fun q21 => jck ((jT μ3 q21).1 == 3) <| some ((jI μ3 q21 3), μ3, 0, 0)) else (if x3 = (3 : Int32) then (jde r2 fun q25 => jck ((jT μ3 q25).1 == 3) <| some ((jI μ3 q25 4), μ3, 0, 0)) else (if x3 = (4 : Int32) then (jde r2 fun q29 => jck ((jT μ3 q29).1 == 3) <| some ((jI μ3 q29 5), μ3, 0, 0)) else (if x3 = (5 : Int32) then (jde r2 fun q33 => jck ((jT μ3 q33).1 == 3) <| jcl (fJ6_bitCount_0f7a4 (jI μ3 q33 6) μ3) fun r36 μ37 => some (r36, μ37, 0, 0)) else (if x3 = (6 : Int32) then (jde r2 fun q46 => jck ((jT μ3 q46).1 == 3) <| jcl (fX9_letterCount (jJ μ3 q46 1) μ3) fun r49 μ50 => some (r49, μ50, 0, 0)) else (some ((-1 : Int32), μ3, 0, 0)))))))))
set_option maxHeartbeats 4000000 in
set_option maxRecDepth 100000 in
theorem mX10_clause {b : Nat} {a : Nat} {x1 : Int32} {x2 : Int32} {x3 : Int32} {μ : JM} {r : Int32} {ν : JM} {c m : Nat} (hf : fX10_clause a x1 x2 x3 μ = some (r, ν, c, m)) : JMet b yX10_clause cX10_clause 5 (some .int) 2 44 [va_rf (some a), .int x1, .int x2, .int x3] μ (some (.int r)) ν c m := by
  refine JMet.of (by decide) (lg_sl_le (by simp only [List.map_cons, List.map_nil, List.sum_cons, List.sum_nil, va_rf_cat]; exact Nat.le_of_ble_eq_true rfl)) (fun Θ X hin => ?_)
  refine wa_eq (L2 := [(0, va_rf (some a)), (1, .int x1), (2, .int x2), (3, .int x3)]) ?_ rfl (by first | rfl | simp [lv_args, va_rf_cat, cat_i, cat_l]) rfl
  obtain ⟨k, hk0⟩ : ∃ k : Nat, k = 0 := ⟨0, rfl⟩
  obtain ⟨n, hn0⟩ : ∃ n : Nat, n = 0 := ⟨0, rfl⟩
  have hk : k + c = c := by omega
  have hn : n + m = m := by omega
  refine wa_costs hk0.symm hn0.symm ?_
  rw [fX10_clause] at hf
  refine wa_aload_n X 0 dX10_clause_0 rfl ?_
  refine wa_iload_n X 1 dX10_clause_1 rfl ?_
  refine wa_iload_n X 2 dX10_clause_2 rfl ?_
  obtain ⟨h1, hf⟩ := jckT hf
  obtain ⟨r2, μ3, c4, m5, c6, m7, e8, hf, h9, h10⟩ := jcl_some hf
  refine wa_rcallV (st2 := [va_rf r2]) X dX10_clause_3 lmX10_191 lMX10_clauseAt rfl h1 (mX10_clauseAt e8) rfl rfl rfl (va_cats (Nat.le_of_ble_eq_true rfl)) (by decide) (by omega) (by omega) ?_
  refine wa_astore (L2 := [(4, va_rf r2), (0, va_rf (some a)), (1, .int x1), (2, .int x2), (3, .int x3)]) X dX10_clause_6 (by decide) (by first | rfl | (show (4, _) :: List.filter (fun q : Nat × Value => !(q.1 == 4) && !(q.1 + 1 == 4 && q.2.category == 2)) _ = _; simp [va_rf_cat, cat_i, cat_l])) ?_
  refine wa_aload X 0 dX10_clause_8 rfl ?_
  refine wa_ifnonnull (tgt := 15) X dX10_clause_10 (by decide) (fun h11 => ?_) (fun h11 => ?_)
  · rw [if_neg h11] at hf
    refine wa_iload_n X 4 dX10_clause_15 rfl ?_
    by_cases h12 : x3 = (0 : Int32)
    · rw [if_pos h12] at hf
      refine wa_tin (tgt := 60) X dX10_clause_16 h12 (by decide) (by decide) rfl (by decide) ?_
      refine wa_aload X 0 dX10_clause_60 rfl ?_
      obtain ⟨q13, h14, hf⟩ := jde_some hf
      obtain ⟨h15, hf⟩ := jckT hf
      refine wa_getI X dX10_clause_62 lfX10_195 h14 h15 rfl ?_
      obtain ⟨rfl, rfl, rfl, rfl⟩ := jret hf
      exact wa_iret X dX10_clause_65 rfl (by omega) (by omega)
    rw [if_neg h12] at hf
    by_cases h16 : x3 = (1 : Int32)
    · rw [if_pos h16] at hf
      refine wa_tin (tgt := 66) X dX10_clause_16 h16 (by decide) (by decide) rfl (by decide) ?_
      refine wa_aload X 0 dX10_clause_66 rfl ?_
      obtain ⟨q17, h18, hf⟩ := jde_some hf
      obtain ⟨h19, hf⟩ := jckT hf
      refine wa_getI X dX10_clause_68 lfX10_200 h18 h19 rfl ?_
      obtain ⟨rfl, rfl, rfl, rfl⟩ := jret hf
      exact wa_iret X dX10_clause_71 rfl (by omega) (by omega)
    rw [if_neg h16] at hf
    by_cases h20 : x3 = (2 : Int32)
    · rw [if_pos h20] at hf
      refine wa_tin (tgt := 72) X dX10_clause_16 h20 (by decide) (by decide) rfl (by decide) ?_
      refine wa_aload X 0 dX10_clause_72 rfl ?_
      obtain ⟨q21, h22, hf⟩ := jde_some hf
      obtain ⟨h23, hf⟩ := jckT hf
      refine wa_getI X dX10_clause_74 lfX10_203 h22 h23 rfl ?_
      obtain ⟨rfl, rfl, rfl, rfl⟩ := jret hf
      exact wa_iret X dX10_clause_77 rfl (by omega) (by omega)
    rw [if_neg h20] at hf
    by_cases h24 : x3 = (3 : Int32)
    · rw [if_pos h24] at hf
      refine wa_tin (tgt := 78) X dX10_clause_16 h24 (by decide) (by decide) rfl (by decide) ?_
      refine wa_aload X 0 dX10_clause_78 rfl ?_
      obtain ⟨q25, h26, hf⟩ := jde_some hf
      obtain ⟨h27, hf⟩ := jckT hf
      refine wa_getI X dX10_clause_80 lfX10_206 h26 h27 rfl ?_
      obtain ⟨rfl, rfl, rfl, rfl⟩ := jret hf
      exact wa_iret X dX10_clause_83 rfl (by omega) (by omega)
    rw [if_neg h24] at hf
    by_cases h28 : x3 = (4 : Int32)
    · rw [if_pos h28] at hf
      refine wa_tin (tgt := 84) X dX10_clause_16 h28 (by decide) (by decide) rfl (by decide) ?_
      refine wa_aload X 0 dX10_clause_84 rfl ?_
      obtain ⟨q29, h30, hf⟩ := jde_some hf
      obtain ⟨h31, hf⟩ := jckT hf
      refine wa_getI X dX10_clause_86 lfX10_209 h30 h31 rfl ?_
      obtain ⟨rfl, rfl, rfl, rfl⟩ := jret hf
      exact wa_iret X dX10_clause_89 rfl (by omega) (by omega)
    rw [if_neg h28] at hf
    by_cases h32 : x3 = (5 : Int32)
    · rw [if_pos h32] at hf
      refine wa_tin (tgt := 90) X dX10_clause_16 h32 (by decide) (by decide) rfl (by decide) ?_
      refine wa_aload X 0 dX10_clause_90 rfl ?_
      obtain ⟨q33, h34, hf⟩ := jde_some hf
      obtain ⟨h35, hf⟩ := jckT hf
      refine wa_getI X dX10_clause_92 lfX10_212 h34 h35 rfl ?_
      obtain ⟨r36, μ37, c38, m39, c40, m41, e42, hf, h43, h44⟩ := jcl_some hf
      refine wa_rcallS (st2 := [.int r36]) X dX10_clause_95 lmX10_215 lMJ6_bitCount_0f7a4 (mJ6_bitCount_0f7a4 e42) rfl rfl rfl (va_cats (Nat.le_of_ble_eq_true rfl)) (by decide) (by omega) (by omega) ?_
      obtain ⟨rfl, rfl, rfl, rfl⟩ := jret hf
      exact wa_iret X dX10_clause_98 rfl (by omega) (by omega)
    rw [if_neg h32] at hf
    by_cases h45 : x3 = (6 : Int32)
    · rw [if_pos h45] at hf
      refine wa_tin (tgt := 99) X dX10_clause_16 h45 (by decide) (by decide) rfl (by decide) ?_
      refine wa_aload X 0 dX10_clause_99 rfl ?_
      obtain ⟨q46, h47, hf⟩ := jde_some hf
      obtain ⟨h48, hf⟩ := jckT hf
      refine wa_getJ X dX10_clause_101 lfX10_220 h47 h48 rfl ?_
      obtain ⟨r49, μ50, c51, m52, c53, m54, e55, hf, h56, h57⟩ := jcl_some hf
      refine wa_rcallS (st2 := [.int r49]) X dX10_clause_104 lmX10_224 lMX9_letterCount (mX9_letterCount e55) rfl rfl rfl (va_cats (Nat.le_of_ble_eq_true rfl)) (by decide) (by omega) (by omega) ?_
      obtain ⟨rfl, rfl, rfl, rfl⟩ := jret hf
      exact wa_iret X dX10_clause_107 rfl (by omega) (by omega)
    rw [if_neg h45] at hf
    have ih12 := lv_neT h12 (show ((0 : Int32)).toInt = 0 from rfl)
    have ih16 := lv_neT h16 (show ((1 : Int32)).toInt = 1 from rfl)
    have ih20 := lv_neT h20 (show ((2 : Int32)).toInt = 2 from rfl)
    have ih24 := lv_neT h24 (show ((3 : Int32)).toInt = 3 from rfl)
    have ih28 := lv_neT h28 (show ((4 : Int32)).toInt = 4 from rfl)
    have ih32 := lv_neT h32 (show ((5 : Int32)).toInt = 5 from rfl)
    have ih45 := lv_neT h45 (show ((6 : Int32)).toInt = 6 from rfl)
    refine wa_tout (tgt := 108) X dX10_clause_16 (by omega) (by decide) ?_
    refine wa_iconst (v := (-1 : Int32)) X dX10_clause_108 (by decide) ?_
    obtain ⟨rfl, rfl, rfl, rfl⟩ := jret hf
    exact wa_iret X dX10_clause_109 rfl (by omega) (by omega)
  · rw [if_pos h11] at hf
    refine wa_iconst (v := (-1 : Int32)) X dX10_clause_13 (by decide) ?_
    obtain ⟨rfl, rfl, rfl, rfl⟩ := jret hf
    exact wa_iret X dX10_clause_14 rfl (by omega) (by omega)
theorem dX10_letter_0 : decode cX10_letter 0 = .ok (.aload_n 0, 1) := by decide +kernel
theorem dX10_letter_1 : decode cX10_letter 1 = .ok (.iload_n 1, 1) := by decide +kernel
theorem dX10_letter_2 : decode cX10_letter 2 = .ok (.iload_n 2, 1) := by decide +kernel
theorem dX10_letter_3 : decode cX10_letter 3 = .ok (.invokevirtual 191, 3) := by decide +kernel
theorem dX10_letter_6 : decode cX10_letter 6 = .ok (.astore 4, 2) := by decide +kernel
theorem dX10_letter_8 : decode cX10_letter 8 = .ok (.aload 4, 2) := by decide +kernel
theorem dX10_letter_10 : decode cX10_letter 10 = .ok (.ifnonnull 7, 3) := by decide +kernel
theorem dX10_letter_13 : decode cX10_letter 13 = .ok (.iconst (-1), 1) := by decide +kernel
theorem dX10_letter_14 : decode cX10_letter 14 = .ok (.goto 12, 3) := by decide +kernel
theorem dX10_letter_17 : decode cX10_letter 17 = .ok (.aload 4, 2) := by decide +kernel
theorem dX10_letter_19 : decode cX10_letter 19 = .ok (.getfield 220, 3) := by decide +kernel
theorem dX10_letter_22 : decode cX10_letter 22 = .ok (.iload_n 3, 1) := by decide +kernel
theorem dX10_letter_23 : decode cX10_letter 23 = .ok (.invokestatic 228, 3) := by decide +kernel
theorem dX10_letter_26 : decode cX10_letter 26 = .ok (.ireturn, 1) := by decide +kernel
def fX10_letter (a : Nat) (x1 : Int32) (x2 : Int32) (x3 : Int32) (μ : JM) : JO (Int32) := jck ((jT μ a).1 == 11) <| jcl (fX10_clauseAt a x1 x2 μ) fun r2 μ3 => if r2 = none then (some ((-1 : Int32), μ3, 0, 0)) else (jde r2 fun q12 => jck ((jT μ3 q12).1 == 3) <| jcl (fX9_letterAt (jJ μ3 q12 1) x3 μ3) fun r15 μ16 => some (r15, μ16, 0, 0))
set_option maxHeartbeats 4000000 in
set_option maxRecDepth 100000 in
theorem mX10_letter {b : Nat} {a : Nat} {x1 : Int32} {x2 : Int32} {x3 : Int32} {μ : JM} {r : Int32} {ν : JM} {c m : Nat} (hf : fX10_letter a x1 x2 x3 μ = some (r, ν, c, m)) : JMet b yX10_letter cX10_letter 5 (some .int) 2 46 [va_rf (some a), .int x1, .int x2, .int x3] μ (some (.int r)) ν c m := by
  refine JMet.of (by decide) (lg_sl_le (by simp only [List.map_cons, List.map_nil, List.sum_cons, List.sum_nil, va_rf_cat]; exact Nat.le_of_ble_eq_true rfl)) (fun Θ X hin => ?_)
  refine wa_eq (L2 := [(0, va_rf (some a)), (1, .int x1), (2, .int x2), (3, .int x3)]) ?_ rfl (by first | rfl | simp [lv_args, va_rf_cat, cat_i, cat_l]) rfl
  obtain ⟨k, hk0⟩ : ∃ k : Nat, k = 0 := ⟨0, rfl⟩
  obtain ⟨n, hn0⟩ : ∃ n : Nat, n = 0 := ⟨0, rfl⟩
  have hk : k + c = c := by omega
  have hn : n + m = m := by omega
  refine wa_costs hk0.symm hn0.symm ?_
  rw [fX10_letter] at hf
  refine wa_aload_n X 0 dX10_letter_0 rfl ?_
  refine wa_iload_n X 1 dX10_letter_1 rfl ?_
  refine wa_iload_n X 2 dX10_letter_2 rfl ?_
  obtain ⟨h1, hf⟩ := jckT hf
  obtain ⟨r2, μ3, c4, m5, c6, m7, e8, hf, h9, h10⟩ := jcl_some hf
  refine wa_rcallV (st2 := [va_rf r2]) X dX10_letter_3 lmX10_191 lMX10_clauseAt rfl h1 (mX10_clauseAt e8) rfl rfl rfl (va_cats (Nat.le_of_ble_eq_true rfl)) (by decide) (by omega) (by omega) ?_
  refine wa_astore (L2 := [(4, va_rf r2), (0, va_rf (some a)), (1, .int x1), (2, .int x2), (3, .int x3)]) X dX10_letter_6 (by decide) (by first | rfl | (show (4, _) :: List.filter (fun q : Nat × Value => !(q.1 == 4) && !(q.1 + 1 == 4 && q.2.category == 2)) _ = _; simp [va_rf_cat, cat_i, cat_l])) ?_
  refine wa_aload X 0 dX10_letter_8 rfl ?_
  refine wa_ifnonnull (tgt := 17) X dX10_letter_10 (by decide) (fun h11 => ?_) (fun h11 => ?_)
  · rw [if_neg h11] at hf
    refine wa_aload X 0 dX10_letter_17 rfl ?_
    obtain ⟨q12, h13, hf⟩ := jde_some hf
    obtain ⟨h14, hf⟩ := jckT hf
    refine wa_getJ X dX10_letter_19 lfX10_220 h13 h14 rfl ?_
    refine wa_iload_n X 4 dX10_letter_22 rfl ?_
    obtain ⟨r15, μ16, c17, m18, c19, m20, e21, hf, h22, h23⟩ := jcl_some hf
    refine wa_rcallS (st2 := [.int r15]) X dX10_letter_23 lmX10_228 lMX9_letterAt (mX9_letterAt e21) rfl rfl rfl (va_cats (Nat.le_of_ble_eq_true rfl)) (by decide) (by omega) (by omega) ?_
    obtain ⟨rfl, rfl, rfl, rfl⟩ := jret hf
    exact wa_iret X dX10_letter_26 rfl (by omega) (by omega)
  · rw [if_pos h11] at hf
    refine wa_iconst (v := (-1 : Int32)) X dX10_letter_13 (by decide) ?_
    refine wa_goto (tgt := 26) X dX10_letter_14 (by decide) ?_
    obtain ⟨rfl, rfl, rfl, rfl⟩ := jret hf
    exact wa_iret X dX10_letter_26 rfl (by omega) (by omega)
theorem dX10_isCase_0 : decode cX10_isCase 0 = .ok (.aload_n 0, 1) := by decide +kernel
theorem dX10_isCase_1 : decode cX10_isCase 1 = .ok (.getfield 35, 3) := by decide +kernel
theorem dX10_isCase_4 : decode cX10_isCase 4 = .ok (.getfield 109, 3) := by decide +kernel
theorem dX10_isCase_7 : decode cX10_isCase 7 = .ok (.ifCond .le 19, 3) := by decide +kernel
theorem dX10_isCase_10 : decode cX10_isCase 10 = .ok (.iload_n 1, 1) := by decide +kernel
theorem dX10_isCase_11 : decode cX10_isCase 11 = .ok (.ifCond .lt 15, 3) := by decide +kernel
theorem dX10_isCase_14 : decode cX10_isCase 14 = .ok (.iload_n 1, 1) := by decide +kernel
theorem dX10_isCase_15 : decode cX10_isCase 15 = .ok (.aload_n 0, 1) := by decide +kernel
theorem dX10_isCase_16 : decode cX10_isCase 16 = .ok (.invokevirtual 117, 3) := by decide +kernel
theorem dX10_isCase_19 : decode cX10_isCase 19 = .ok (.if_icmp .ge 7, 3) := by decide +kernel
theorem dX10_isCase_22 : decode cX10_isCase 22 = .ok (.iconst 1, 1) := by decide +kernel
theorem dX10_isCase_23 : decode cX10_isCase 23 = .ok (.goto 4, 3) := by decide +kernel
theorem dX10_isCase_26 : decode cX10_isCase 26 = .ok (.iconst 0, 1) := by decide +kernel
theorem dX10_isCase_27 : decode cX10_isCase 27 = .ok (.ireturn, 1) := by decide +kernel
def fX10_isCase (a : Nat) (x1 : Int32) (μ : JM) : JO (Int32) := jck ((jT μ a).1 == 11) <| jde (jP μ a 3) fun q2 => jck ((jT μ q2).1 == 10) <| if (jI μ q2 1) ≤ 0 then (some ((0 : Int32), μ, 0, 0)) else (if x1 < 0 then (some ((0 : Int32), μ, 0, 0)) else (jcl (fX10_caseCount a μ) fun r7 μ8 => if r7 ≤ x1 then (some ((0 : Int32), μ8, 0, 0)) else (some ((1 : Int32), μ8, 0, 0))))
set_option maxHeartbeats 4000000 in
set_option maxRecDepth 100000 in
theorem mX10_isCase {b : Nat} {a : Nat} {x1 : Int32} {μ : JM} {r : Int32} {ν : JM} {c m : Nat} (hf : fX10_isCase a x1 μ = some (r, ν, c, m)) : JMet b yX10_isCase cX10_isCase 2 (some .boolean) 1 20 [va_rf (some a), .int x1] μ (some (.int r)) ν c m := by
  refine JMet.of (by decide) (lg_sl_le (by simp only [List.map_cons, List.map_nil, List.sum_cons, List.sum_nil, va_rf_cat]; exact Nat.le_of_ble_eq_true rfl)) (fun Θ X hin => ?_)
  refine wa_eq (L2 := [(0, va_rf (some a)), (1, .int x1)]) ?_ rfl (by first | rfl | simp [lv_args, va_rf_cat, cat_i, cat_l]) rfl
  obtain ⟨k, hk0⟩ : ∃ k : Nat, k = 0 := ⟨0, rfl⟩
  obtain ⟨n, hn0⟩ : ∃ n : Nat, n = 0 := ⟨0, rfl⟩
  have hk : k + c = c := by omega
  have hn : n + m = m := by omega
  refine wa_costs hk0.symm hn0.symm ?_
  rw [fX10_isCase] at hf
  refine wa_aload_n X 0 dX10_isCase_0 rfl ?_
  obtain ⟨h1, hf⟩ := jckT hf
  refine wa_getP X dX10_isCase_1 lfX10_35 rfl h1 rfl ?_
  obtain ⟨q2, h3, hf⟩ := jde_some hf
  obtain ⟨h4, hf⟩ := jckT hf
  refine wa_getI X dX10_isCase_4 lfX10_109 h3 h4 rfl ?_
  refine wa_ifle (tgt := 26) X dX10_isCase_7 (by decide) (fun h5 => ?_) (fun h5 => ?_)
  · rw [if_pos h5] at hf
    refine wa_iconst (v := (0 : Int32)) X dX10_isCase_26 (by decide) ?_
    obtain ⟨rfl, rfl, rfl, rfl⟩ := jret hf
    exact wa_iret X dX10_isCase_27 rfl (by omega) (by omega)
  · rw [if_neg h5] at hf
    refine wa_iload_n X 1 dX10_isCase_10 rfl ?_
    refine wa_iflt (tgt := 26) X dX10_isCase_11 (by decide) (fun h6 => ?_) (fun h6 => ?_)
    · rw [if_pos h6] at hf
      refine wa_iconst (v := (0 : Int32)) X dX10_isCase_26 (by decide) ?_
      obtain ⟨rfl, rfl, rfl, rfl⟩ := jret hf
      exact wa_iret X dX10_isCase_27 rfl (by omega) (by omega)
    · rw [if_neg h6] at hf
      refine wa_iload_n X 1 dX10_isCase_14 rfl ?_
      refine wa_aload_n X 0 dX10_isCase_15 rfl ?_
      obtain ⟨r7, μ8, c9, m10, c11, m12, e13, hf, h14, h15⟩ := jcl_some hf
      refine wa_rcallV (st2 := [.int r7, .int x1]) X dX10_isCase_16 lmX10_117 lMX10_caseCount rfl h1 (mX10_caseCount e13) rfl rfl rfl (va_cats (Nat.le_of_ble_eq_true rfl)) (by decide) (by omega) (by omega) ?_
      refine wa_icge (tgt := 26) X dX10_isCase_19 (by decide) (fun h16 => ?_) (fun h16 => ?_)
      · rw [if_pos h16] at hf
        refine wa_iconst (v := (0 : Int32)) X dX10_isCase_26 (by decide) ?_
        obtain ⟨rfl, rfl, rfl, rfl⟩ := jret hf
        exact wa_iret X dX10_isCase_27 rfl (by omega) (by omega)
      · rw [if_neg h16] at hf
        refine wa_iconst (v := (1 : Int32)) X dX10_isCase_22 (by decide) ?_
        refine wa_goto (tgt := 27) X dX10_isCase_23 (by decide) ?_
        obtain ⟨rfl, rfl, rfl, rfl⟩ := jret hf
        exact wa_iret X dX10_isCase_27 rfl (by omega) (by omega)
theorem dX10_holds_0 : decode cX10_holds 0 = .ok (.aload_n 0, 1) := by decide +kernel
theorem dX10_holds_1 : decode cX10_holds 1 = .ok (.iload_n 1, 1) := by decide +kernel
theorem dX10_holds_2 : decode cX10_holds 2 = .ok (.iload_n 2, 1) := by decide +kernel
theorem dX10_holds_3 : decode cX10_holds 3 = .ok (.invokevirtual 191, 3) := by decide +kernel
theorem dX10_holds_6 : decode cX10_holds 6 = .ok (.astore 4, 2) := by decide +kernel
theorem dX10_holds_8 : decode cX10_holds 8 = .ok (.aload 4, 2) := by decide +kernel
theorem dX10_holds_10 : decode cX10_holds 10 = .ok (.ifnull 11, 3) := by decide +kernel
theorem dX10_holds_13 : decode cX10_holds 13 = .ok (.aload_n 0, 1) := by decide +kernel
theorem dX10_holds_14 : decode cX10_holds 14 = .ok (.iload_n 3, 1) := by decide +kernel
theorem dX10_holds_15 : decode cX10_holds 15 = .ok (.invokevirtual 232, 3) := by decide +kernel
theorem dX10_holds_18 : decode cX10_holds 18 = .ok (.ifCond .ne 5, 3) := by decide +kernel
theorem dX10_holds_21 : decode cX10_holds 21 = .ok (.iconst (-1), 1) := by decide +kernel
theorem dX10_holds_22 : decode cX10_holds 22 = .ok (.ireturn, 1) := by decide +kernel
theorem dX10_holds_23 : decode cX10_holds 23 = .ok (.aload 4, 2) := by decide +kernel
theorem dX10_holds_25 : decode cX10_holds 25 = .ok (.getfield 236, 3) := by decide +kernel
theorem dX10_holds_28 : decode cX10_holds 28 = .ok (.iload_n 3, 1) := by decide +kernel
theorem dX10_holds_29 : decode cX10_holds 29 = .ok (.invokevirtual 239, 3) := by decide +kernel
theorem dX10_holds_32 : decode cX10_holds 32 = .ok (.ifCond .eq 7, 3) := by decide +kernel
theorem dX10_holds_35 : decode cX10_holds 35 = .ok (.iconst 1, 1) := by decide +kernel
theorem dX10_holds_36 : decode cX10_holds 36 = .ok (.goto 4, 3) := by decide +kernel
theorem dX10_holds_39 : decode cX10_holds 39 = .ok (.iconst 0, 1) := by decide +kernel
theorem dX10_holds_40 : decode cX10_holds 40 = .ok (.ireturn, 1) := by decide +kernel
def fX10_holds (a : Nat) (x1 : Int32) (x2 : Int32) (x3 : Int32) (μ : JM) : JO (Int32) := jck ((jT μ a).1 == 11) <| jcl (fX10_clauseAt a x1 x2 μ) fun r2 μ3 => if r2 = none then (some ((-1 : Int32), μ3, 0, 0)) else (jck ((jT μ3 a).1 == 11) <| jcl (fX10_isCase a x3 μ3) fun r13 μ14 => if r13 = 0 then (some ((-1 : Int32), μ14, 0, 0)) else (jde r2 fun q23 => jck ((jT μ14 q23).1 == 3) <| jde (jP μ14 q23 8) fun q26 => jck ((jT μ14 q26).1 == 2) <| jcl (fX1_has q26 x3 μ14) fun r29 μ30 => if r29 = 0 then (some ((0 : Int32), μ30, 0, 0)) else (some ((1 : Int32), μ30, 0, 0))))
set_option maxHeartbeats 4000000 in
set_option maxRecDepth 100000 in
theorem mX10_holds {b : Nat} {a : Nat} {x1 : Int32} {x2 : Int32} {x3 : Int32} {μ : JM} {r : Int32} {ν : JM} {c m : Nat} (hf : fX10_holds a x1 x2 x3 μ = some (r, ν, c, m)) : JMet b yX10_holds cX10_holds 5 (some .int) 2 44 [va_rf (some a), .int x1, .int x2, .int x3] μ (some (.int r)) ν c m := by
  refine JMet.of (by decide) (lg_sl_le (by simp only [List.map_cons, List.map_nil, List.sum_cons, List.sum_nil, va_rf_cat]; exact Nat.le_of_ble_eq_true rfl)) (fun Θ X hin => ?_)
  refine wa_eq (L2 := [(0, va_rf (some a)), (1, .int x1), (2, .int x2), (3, .int x3)]) ?_ rfl (by first | rfl | simp [lv_args, va_rf_cat, cat_i, cat_l]) rfl
  obtain ⟨k, hk0⟩ : ∃ k : Nat, k = 0 := ⟨0, rfl⟩
  obtain ⟨n, hn0⟩ : ∃ n : Nat, n = 0 := ⟨0, rfl⟩
  have hk : k + c = c := by omega
  have hn : n + m = m := by omega
  refine wa_costs hk0.symm hn0.symm ?_
  rw [fX10_holds] at hf
  refine wa_aload_n X 0 dX10_holds_0 rfl ?_
  refine wa_iload_n X 1 dX10_holds_1 rfl ?_
  refine wa_iload_n X 2 dX10_holds_2 rfl ?_
  obtain ⟨h1, hf⟩ := jckT hf
  obtain ⟨r2, μ3, c4, m5, c6, m7, e8, hf, h9, h10⟩ := jcl_some hf
  refine wa_rcallV (st2 := [va_rf r2]) X dX10_holds_3 lmX10_191 lMX10_clauseAt rfl h1 (mX10_clauseAt e8) rfl rfl rfl (va_cats (Nat.le_of_ble_eq_true rfl)) (by decide) (by omega) (by omega) ?_
  refine wa_astore (L2 := [(4, va_rf r2), (0, va_rf (some a)), (1, .int x1), (2, .int x2), (3, .int x3)]) X dX10_holds_6 (by decide) (by first | rfl | (show (4, _) :: List.filter (fun q : Nat × Value => !(q.1 == 4) && !(q.1 + 1 == 4 && q.2.category == 2)) _ = _; simp [va_rf_cat, cat_i, cat_l])) ?_
  refine wa_aload X 0 dX10_holds_8 rfl ?_
  refine wa_ifnull (tgt := 21) X dX10_holds_10 (by decide) (fun h11 => ?_) (fun h11 => ?_)
  · rw [if_pos h11] at hf
    refine wa_iconst (v := (-1 : Int32)) X dX10_holds_21 (by decide) ?_
    obtain ⟨rfl, rfl, rfl, rfl⟩ := jret hf
    exact wa_iret X dX10_holds_22 rfl (by omega) (by omega)
  · rw [if_neg h11] at hf
    refine wa_aload_n X 1 dX10_holds_13 rfl ?_
    refine wa_iload_n X 4 dX10_holds_14 rfl ?_
    obtain ⟨h12, hf⟩ := jckT hf
    obtain ⟨r13, μ14, c15, m16, c17, m18, e19, hf, h20, h21⟩ := jcl_some hf
    refine wa_rcallV (st2 := [.int r13]) X dX10_holds_15 lmX10_232 lMX10_isCase rfl h12 (mX10_isCase e19) rfl rfl rfl (va_cats (Nat.le_of_ble_eq_true rfl)) (by decide) (by omega) (by omega) ?_
    refine wa_ifne (tgt := 23) X dX10_holds_18 (by decide) (fun h22 => ?_) (fun h22 => ?_)
    · rw [if_neg h22] at hf
      refine wa_aload X 0 dX10_holds_23 rfl ?_
      obtain ⟨q23, h24, hf⟩ := jde_some hf
      obtain ⟨h25, hf⟩ := jckT hf
      refine wa_getP X dX10_holds_25 lfX10_236 h24 h25 rfl ?_
      refine wa_iload_n X 4 dX10_holds_28 rfl ?_
      obtain ⟨q26, h27, hf⟩ := jde_some hf
      obtain ⟨h28, hf⟩ := jckT hf
      obtain ⟨r29, μ30, c31, m32, c33, m34, e35, hf, h36, h37⟩ := jcl_some hf
      refine wa_rcallV (st2 := [.int r29]) X dX10_holds_29 lmX10_239 lMX1_has h27 h28 (mX1_has e35) rfl rfl rfl (va_cats (Nat.le_of_ble_eq_true rfl)) (by decide) (by omega) (by omega) ?_
      refine wa_ifeq (tgt := 39) X dX10_holds_32 (by decide) (fun h38 => ?_) (fun h38 => ?_)
      · rw [if_pos h38] at hf
        refine wa_iconst (v := (0 : Int32)) X dX10_holds_39 (by decide) ?_
        obtain ⟨rfl, rfl, rfl, rfl⟩ := jret hf
        exact wa_iret X dX10_holds_40 rfl (by omega) (by omega)
      · rw [if_neg h38] at hf
        refine wa_iconst (v := (1 : Int32)) X dX10_holds_35 (by decide) ?_
        refine wa_goto (tgt := 40) X dX10_holds_36 (by decide) ?_
        obtain ⟨rfl, rfl, rfl, rfl⟩ := jret hf
        exact wa_iret X dX10_holds_40 rfl (by omega) (by omega)
    · rw [if_pos h22] at hf
      refine wa_iconst (v := (-1 : Int32)) X dX10_holds_21 (by decide) ?_
      obtain ⟨rfl, rfl, rfl, rfl⟩ := jret hf
      exact wa_iret X dX10_holds_22 rfl (by omega) (by omega)
theorem dX10_outcomes_0 : decode cX10_outcomes 0 = .ok (.aload_n 0, 1) := by decide +kernel
theorem dX10_outcomes_1 : decode cX10_outcomes 1 = .ok (.iload_n 1, 1) := by decide +kernel
theorem dX10_outcomes_2 : decode cX10_outcomes 2 = .ok (.invokevirtual 132, 3) := by decide +kernel
theorem dX10_outcomes_5 : decode cX10_outcomes 5 = .ok (.astore_n 3, 1) := by decide +kernel
theorem dX10_outcomes_6 : decode cX10_outcomes 6 = .ok (.aload_n 3, 1) := by decide +kernel
theorem dX10_outcomes_7 : decode cX10_outcomes 7 = .ok (.ifnull 11, 3) := by decide +kernel
theorem dX10_outcomes_10 : decode cX10_outcomes 10 = .ok (.aload_n 0, 1) := by decide +kernel
theorem dX10_outcomes_11 : decode cX10_outcomes 11 = .ok (.iload_n 2, 1) := by decide +kernel
theorem dX10_outcomes_12 : decode cX10_outcomes 12 = .ok (.invokevirtual 232, 3) := by decide +kernel
theorem dX10_outcomes_15 : decode cX10_outcomes 15 = .ok (.ifCond .ne 5, 3) := by decide +kernel
theorem dX10_outcomes_18 : decode cX10_outcomes 18 = .ok (.iconst (-1), 1) := by decide +kernel
theorem dX10_outcomes_19 : decode cX10_outcomes 19 = .ok (.ireturn, 1) := by decide +kernel
theorem dX10_outcomes_20 : decode cX10_outcomes 20 = .ok (.aload_n 3, 1) := by decide +kernel
theorem dX10_outcomes_21 : decode cX10_outcomes 21 = .ok (.iload_n 2, 1) := by decide +kernel
theorem dX10_outcomes_22 : decode cX10_outcomes 22 = .ok (.aload_n 0, 1) := by decide +kernel
theorem dX10_outcomes_23 : decode cX10_outcomes 23 = .ok (.getfield 89, 3) := by decide +kernel
theorem dX10_outcomes_26 : decode cX10_outcomes 26 = .ok (.invokevirtual 242, 3) := by decide +kernel
theorem dX10_outcomes_29 : decode cX10_outcomes 29 = .ok (.ireturn, 1) := by decide +kernel
def fX10_outcomes (a : Nat) (x1 : Int32) (x2 : Int32) (μ : JM) : JO (Int32) := jck ((jT μ a).1 == 11) <| jcl (fX10_versionAt a x1 μ) fun r2 μ3 => if r2 = none then (some ((-1 : Int32), μ3, 0, 0)) else (jck ((jT μ3 a).1 == 11) <| jcl (fX10_isCase a x2 μ3) fun r13 μ14 => if r13 = 0 then (some ((-1 : Int32), μ14, 0, 0)) else (jck ((jT μ14 a).1 == 11) <| jde r2 fun q24 => jck ((jT μ14 q24).1 == 9) <| jcl (fX8_gatherKeys q24 x2 (jP μ14 a 12) μ14) fun r27 μ28 => some (r27, μ28, 0, 0)))
set_option maxHeartbeats 4000000 in
set_option maxRecDepth 100000 in
theorem mX10_outcomes {b : Nat} {a : Nat} {x1 : Int32} {x2 : Int32} {μ : JM} {r : Int32} {ν : JM} {c m : Nat} (hf : fX10_outcomes a x1 x2 μ = some (r, ν, c, m)) : JMet b yX10_outcomes cX10_outcomes 4 (some .int) 2 49 [va_rf (some a), .int x1, .int x2] μ (some (.int r)) ν c m := by
  refine JMet.of (by decide) (lg_sl_le (by simp only [List.map_cons, List.map_nil, List.sum_cons, List.sum_nil, va_rf_cat]; exact Nat.le_of_ble_eq_true rfl)) (fun Θ X hin => ?_)
  refine wa_eq (L2 := [(0, va_rf (some a)), (1, .int x1), (2, .int x2)]) ?_ rfl (by first | rfl | simp [lv_args, va_rf_cat, cat_i, cat_l]) rfl
  obtain ⟨k, hk0⟩ : ∃ k : Nat, k = 0 := ⟨0, rfl⟩
  obtain ⟨n, hn0⟩ : ∃ n : Nat, n = 0 := ⟨0, rfl⟩
  have hk : k + c = c := by omega
  have hn : n + m = m := by omega
  refine wa_costs hk0.symm hn0.symm ?_
  rw [fX10_outcomes] at hf
  refine wa_aload_n X 0 dX10_outcomes_0 rfl ?_
  refine wa_iload_n X 1 dX10_outcomes_1 rfl ?_
  obtain ⟨h1, hf⟩ := jckT hf
  obtain ⟨r2, μ3, c4, m5, c6, m7, e8, hf, h9, h10⟩ := jcl_some hf
  refine wa_rcallV (st2 := [va_rf r2]) X dX10_outcomes_2 lmX10_132 lMX10_versionAt rfl h1 (mX10_versionAt e8) rfl rfl rfl (va_cats (Nat.le_of_ble_eq_true rfl)) (by decide) (by omega) (by omega) ?_
  refine wa_astore_n (L2 := [(3, va_rf r2), (0, va_rf (some a)), (1, .int x1), (2, .int x2)]) X dX10_outcomes_5 (by decide) (by first | rfl | (show (3, _) :: List.filter (fun q : Nat × Value => !(q.1 == 3) && !(q.1 + 1 == 3 && q.2.category == 2)) _ = _; simp [va_rf_cat, cat_i, cat_l])) ?_
  refine wa_aload_n X 0 dX10_outcomes_6 rfl ?_
  refine wa_ifnull (tgt := 18) X dX10_outcomes_7 (by decide) (fun h11 => ?_) (fun h11 => ?_)
  · rw [if_pos h11] at hf
    refine wa_iconst (v := (-1 : Int32)) X dX10_outcomes_18 (by decide) ?_
    obtain ⟨rfl, rfl, rfl, rfl⟩ := jret hf
    exact wa_iret X dX10_outcomes_19 rfl (by omega) (by omega)
  · rw [if_neg h11] at hf
    refine wa_aload_n X 1 dX10_outcomes_10 rfl ?_
    refine wa_iload_n X 3 dX10_outcomes_11 rfl ?_
    obtain ⟨h12, hf⟩ := jckT hf
    obtain ⟨r13, μ14, c15, m16, c17, m18, e19, hf, h20, h21⟩ := jcl_some hf
    refine wa_rcallV (st2 := [.int r13]) X dX10_outcomes_12 lmX10_232 lMX10_isCase rfl h12 (mX10_isCase e19) rfl rfl rfl (va_cats (Nat.le_of_ble_eq_true rfl)) (by decide) (by omega) (by omega) ?_
    refine wa_ifne (tgt := 20) X dX10_outcomes_15 (by decide) (fun h22 => ?_) (fun h22 => ?_)
    · rw [if_neg h22] at hf
      refine wa_aload_n X 0 dX10_outcomes_20 rfl ?_
      refine wa_iload_n X 3 dX10_outcomes_21 rfl ?_
      refine wa_aload_n X 1 dX10_outcomes_22 rfl ?_
      obtain ⟨h23, hf⟩ := jckT hf
      refine wa_getP X dX10_outcomes_23 lfX10_89 rfl h23 rfl ?_
      obtain ⟨q24, h25, hf⟩ := jde_some hf
      obtain ⟨h26, hf⟩ := jckT hf
      obtain ⟨r27, μ28, c29, m30, c31, m32, e33, hf, h34, h35⟩ := jcl_some hf
      refine wa_rcallV (st2 := [.int r27]) X dX10_outcomes_26 lmX10_242 lMX8_gatherKeys h25 h26 (mX8_gatherKeys e33) rfl rfl rfl (va_cats (Nat.le_of_ble_eq_true rfl)) (by decide) (by omega) (by omega) ?_
      obtain ⟨rfl, rfl, rfl, rfl⟩ := jret hf
      exact wa_iret X dX10_outcomes_29 rfl (by omega) (by omega)
    · rw [if_pos h22] at hf
      refine wa_iconst (v := (-1 : Int32)) X dX10_outcomes_18 (by decide) ?_
      obtain ⟨rfl, rfl, rfl, rfl⟩ := jret hf
      exact wa_iret X dX10_outcomes_19 rfl (by omega) (by omega)
theorem dX10_keyAt_0 : decode cX10_keyAt 0 = .ok (.aload_n 0, 1) := by decide +kernel
theorem dX10_keyAt_1 : decode cX10_keyAt 1 = .ok (.iload_n 1, 1) := by decide +kernel
theorem dX10_keyAt_2 : decode cX10_keyAt 2 = .ok (.iload_n 2, 1) := by decide +kernel
theorem dX10_keyAt_3 : decode cX10_keyAt 3 = .ok (.invokevirtual 311, 3) := by decide +kernel
theorem dX10_keyAt_6 : decode cX10_keyAt 6 = .ok (.istore 4, 2) := by decide +kernel
theorem dX10_keyAt_8 : decode cX10_keyAt 8 = .ok (.iload_n 3, 1) := by decide +kernel
theorem dX10_keyAt_9 : decode cX10_keyAt 9 = .ok (.ifCond .lt 18, 3) := by decide +kernel
theorem dX10_keyAt_12 : decode cX10_keyAt 12 = .ok (.iload_n 3, 1) := by decide +kernel
theorem dX10_keyAt_13 : decode cX10_keyAt 13 = .ok (.iload 4, 2) := by decide +kernel
theorem dX10_keyAt_15 : decode cX10_keyAt 15 = .ok (.if_icmp .ge 12, 3) := by decide +kernel
theorem dX10_keyAt_18 : decode cX10_keyAt 18 = .ok (.iload_n 3, 1) := by decide +kernel
theorem dX10_keyAt_19 : decode cX10_keyAt 19 = .ok (.aload_n 0, 1) := by decide +kernel
theorem dX10_keyAt_20 : decode cX10_keyAt 20 = .ok (.getfield 89, 3) := by decide +kernel
theorem dX10_keyAt_23 : decode cX10_keyAt 23 = .ok (.arraylength, 1) := by decide +kernel
theorem dX10_keyAt_24 : decode cX10_keyAt 24 = .ok (.if_icmp .lt 7, 3) := by decide +kernel
theorem dX10_keyAt_27 : decode cX10_keyAt 27 = .ok (.iconst (-1), 1) := by decide +kernel
theorem dX10_keyAt_28 : decode cX10_keyAt 28 = .ok (.goto 9, 3) := by decide +kernel
theorem dX10_keyAt_31 : decode cX10_keyAt 31 = .ok (.aload_n 0, 1) := by decide +kernel
theorem dX10_keyAt_32 : decode cX10_keyAt 32 = .ok (.getfield 89, 3) := by decide +kernel
theorem dX10_keyAt_35 : decode cX10_keyAt 35 = .ok (.iload_n 3, 1) := by decide +kernel
theorem dX10_keyAt_36 : decode cX10_keyAt 36 = .ok (.iaload, 1) := by decide +kernel
theorem dX10_keyAt_37 : decode cX10_keyAt 37 = .ok (.ireturn, 1) := by decide +kernel
def fX10_keyAt (a : Nat) (x1 : Int32) (x2 : Int32) (x3 : Int32) (μ : JM) : JO (Int32) := jck ((jT μ a).1 == 11) <| jcl (fX10_outcomes a x1 x2 μ) fun r2 μ3 => if x3 < 0 then (some ((-1 : Int32), μ3, 0, 0)) else (if r2 ≤ x3 then (some ((-1 : Int32), μ3, 0, 0)) else (jck ((jT μ3 a).1 == 11) <| jde (jP μ3 a 12) fun q14 => jck ((jT μ3 q14).1 == 101) <| if x3 < (nI (jT μ3 q14).2) then (jck (jin x3 (jT μ3 q14).2) <| some ((jI μ3 q14 (x3).toNatClampNeg), μ3, 0, 0)) else (some ((-1 : Int32), μ3, 0, 0))))
set_option maxHeartbeats 4000000 in
set_option maxRecDepth 100000 in
theorem mX10_keyAt {b : Nat} {a : Nat} {x1 : Int32} {x2 : Int32} {x3 : Int32} {μ : JM} {r : Int32} {ν : JM} {c m : Nat} (hf : fX10_keyAt a x1 x2 x3 μ = some (r, ν, c, m)) : JMet b yX10_keyAt cX10_keyAt 5 (some .int) 3 72 [va_rf (some a), .int x1, .int x2, .int x3] μ (some (.int r)) ν c m := by
  refine JMet.of (by decide) (lg_sl_le (by simp only [List.map_cons, List.map_nil, List.sum_cons, List.sum_nil, va_rf_cat]; exact Nat.le_of_ble_eq_true rfl)) (fun Θ X hin => ?_)
  refine wa_eq (L2 := [(0, va_rf (some a)), (1, .int x1), (2, .int x2), (3, .int x3)]) ?_ rfl (by first | rfl | simp [lv_args, va_rf_cat, cat_i, cat_l]) rfl
  obtain ⟨k, hk0⟩ : ∃ k : Nat, k = 0 := ⟨0, rfl⟩
  obtain ⟨n, hn0⟩ : ∃ n : Nat, n = 0 := ⟨0, rfl⟩
  have hk : k + c = c := by omega
  have hn : n + m = m := by omega
  refine wa_costs hk0.symm hn0.symm ?_
  rw [fX10_keyAt] at hf
  refine wa_aload_n X 0 dX10_keyAt_0 rfl ?_
  refine wa_iload_n X 1 dX10_keyAt_1 rfl ?_
  refine wa_iload_n X 2 dX10_keyAt_2 rfl ?_
  obtain ⟨h1, hf⟩ := jckT hf
  obtain ⟨r2, μ3, c4, m5, c6, m7, e8, hf, h9, h10⟩ := jcl_some hf
  refine wa_rcallV (st2 := [.int r2]) X dX10_keyAt_3 lmX10_311 lMX10_outcomes rfl h1 (mX10_outcomes e8) rfl rfl rfl (va_cats (Nat.le_of_ble_eq_true rfl)) (by decide) (by omega) (by omega) ?_
  refine wa_istore (L2 := [(4, .int r2), (0, va_rf (some a)), (1, .int x1), (2, .int x2), (3, .int x3)]) X dX10_keyAt_6 (by decide) (by first | rfl | (show (4, _) :: List.filter (fun q : Nat × Value => !(q.1 == 4) && !(q.1 + 1 == 4 && q.2.category == 2)) _ = _; simp [va_rf_cat, cat_i, cat_l])) ?_
  refine wa_iload_n X 4 dX10_keyAt_8 rfl ?_
  refine wa_iflt (tgt := 27) X dX10_keyAt_9 (by decide) (fun h11 => ?_) (fun h11 => ?_)
  · rw [if_pos h11] at hf
    refine wa_iconst (v := (-1 : Int32)) X dX10_keyAt_27 (by decide) ?_
    refine wa_goto (tgt := 37) X dX10_keyAt_28 (by decide) ?_
    obtain ⟨rfl, rfl, rfl, rfl⟩ := jret hf
    exact wa_iret X dX10_keyAt_37 rfl (by omega) (by omega)
  · rw [if_neg h11] at hf
    refine wa_iload_n X 4 dX10_keyAt_12 rfl ?_
    refine wa_iload X 0 dX10_keyAt_13 rfl ?_
    refine wa_icge (tgt := 27) X dX10_keyAt_15 (by decide) (fun h12 => ?_) (fun h12 => ?_)
    · rw [if_pos h12] at hf
      refine wa_iconst (v := (-1 : Int32)) X dX10_keyAt_27 (by decide) ?_
      refine wa_goto (tgt := 37) X dX10_keyAt_28 (by decide) ?_
      obtain ⟨rfl, rfl, rfl, rfl⟩ := jret hf
      exact wa_iret X dX10_keyAt_37 rfl (by omega) (by omega)
    · rw [if_neg h12] at hf
      refine wa_iload_n X 4 dX10_keyAt_18 rfl ?_
      refine wa_aload_n X 1 dX10_keyAt_19 rfl ?_
      obtain ⟨h13, hf⟩ := jckT hf
      refine wa_getP X dX10_keyAt_20 lfX10_89 rfl h13 rfl ?_
      obtain ⟨q14, h15, hf⟩ := jde_some hf
      obtain ⟨h16, hf⟩ := jckT hf
      refine wa_ralen (t := 101) X dX10_keyAt_23 h15 h16 (by decide) ?_
      refine wa_iclt (tgt := 31) X dX10_keyAt_24 (by decide) (fun h17 => ?_) (fun h17 => ?_)
      · rw [if_pos h17] at hf
        refine wa_aload_n X 1 dX10_keyAt_31 rfl ?_
        refine wa_getP X dX10_keyAt_32 lfX10_89 rfl h13 rfl ?_
        refine wa_iload_n X 4 dX10_keyAt_35 rfl ?_
        obtain ⟨h18, hf⟩ := jck_some hf
        refine wa_riald X dX10_keyAt_36 h15 h16 h18 ?_
        obtain ⟨rfl, rfl, rfl, rfl⟩ := jret hf
        exact wa_iret X dX10_keyAt_37 rfl (by omega) (by omega)
      · rw [if_neg h17] at hf
        refine wa_iconst (v := (-1 : Int32)) X dX10_keyAt_27 (by decide) ?_
        refine wa_goto (tgt := 37) X dX10_keyAt_28 (by decide) ?_
        obtain ⟨rfl, rfl, rfl, rfl⟩ := jret hf
        exact wa_iret X dX10_keyAt_37 rfl (by omega) (by omega)
theorem dX10_outcome_0 : decode cX10_outcome 0 = .ok (.aload_n 0, 1) := by decide +kernel
theorem dX10_outcome_1 : decode cX10_outcome 1 = .ok (.iload_n 1, 1) := by decide +kernel
theorem dX10_outcome_2 : decode cX10_outcome 2 = .ok (.iload_n 2, 1) := by decide +kernel
theorem dX10_outcome_3 : decode cX10_outcome 3 = .ok (.iload_n 3, 1) := by decide +kernel
theorem dX10_outcome_4 : decode cX10_outcome 4 = .ok (.invokevirtual 246, 3) := by decide +kernel
theorem dX10_outcome_7 : decode cX10_outcome 7 = .ok (.istore 5, 2) := by decide +kernel
theorem dX10_outcome_9 : decode cX10_outcome 9 = .ok (.iload 5, 2) := by decide +kernel
theorem dX10_outcome_11 : decode cX10_outcome 11 = .ok (.iconst (-1), 1) := by decide +kernel
theorem dX10_outcome_12 : decode cX10_outcome 12 = .ok (.if_icmp .ne 5, 3) := by decide +kernel
theorem dX10_outcome_15 : decode cX10_outcome 15 = .ok (.iconst (-1), 1) := by decide +kernel
theorem dX10_outcome_16 : decode cX10_outcome 16 = .ok (.ireturn, 1) := by decide +kernel
theorem dX10_outcome_17 : decode cX10_outcome 17 = .ok (.iload 5, 2) := by decide +kernel
theorem dX10_outcome_19 : decode cX10_outcome 19 = .ok (.invokestatic 250, 3) := by decide +kernel
theorem dX10_outcome_22 : decode cX10_outcome 22 = .ok (.iconst 1, 1) := by decide +kernel
theorem dX10_outcome_23 : decode cX10_outcome 23 = .ok (.if_icmp .ne 7, 3) := by decide +kernel
theorem dX10_outcome_26 : decode cX10_outcome 26 = .ok (.iconst 1, 1) := by decide +kernel
theorem dX10_outcome_27 : decode cX10_outcome 27 = .ok (.goto 4, 3) := by decide +kernel
theorem dX10_outcome_30 : decode cX10_outcome 30 = .ok (.iconst 0, 1) := by decide +kernel
theorem dX10_outcome_31 : decode cX10_outcome 31 = .ok (.istore 6, 2) := by decide +kernel
theorem dX10_outcome_33 : decode cX10_outcome 33 = .ok (.iload 4, 2) := by decide +kernel
theorem dX10_outcome_35 : decode cX10_outcome 35 = .ok (.tableswitch 81 0 4 #[33, 39, 45, 51, 66], 33) := by decide +kernel
theorem dX10_outcome_68 : decode cX10_outcome 68 = .ok (.iload 5, 2) := by decide +kernel
theorem dX10_outcome_70 : decode cX10_outcome 70 = .ok (.invokestatic 250, 3) := by decide +kernel
theorem dX10_outcome_73 : decode cX10_outcome 73 = .ok (.ireturn, 1) := by decide +kernel
theorem dX10_outcome_74 : decode cX10_outcome 74 = .ok (.iload 5, 2) := by decide +kernel
theorem dX10_outcome_76 : decode cX10_outcome 76 = .ok (.invokestatic 253, 3) := by decide +kernel
theorem dX10_outcome_79 : decode cX10_outcome 79 = .ok (.ireturn, 1) := by decide +kernel
theorem dX10_outcome_80 : decode cX10_outcome 80 = .ok (.iload 5, 2) := by decide +kernel
theorem dX10_outcome_82 : decode cX10_outcome 82 = .ok (.invokestatic 256, 3) := by decide +kernel
theorem dX10_outcome_85 : decode cX10_outcome 85 = .ok (.ireturn, 1) := by decide +kernel
theorem dX10_outcome_86 : decode cX10_outcome 86 = .ok (.iload 6, 2) := by decide +kernel
theorem dX10_outcome_88 : decode cX10_outcome 88 = .ok (.ifCond .eq 11, 3) := by decide +kernel
theorem dX10_outcome_91 : decode cX10_outcome 91 = .ok (.iload 5, 2) := by decide +kernel
theorem dX10_outcome_93 : decode cX10_outcome 93 = .ok (.invokestatic 259, 3) := by decide +kernel
theorem dX10_outcome_96 : decode cX10_outcome 96 = .ok (.goto 4, 3) := by decide +kernel
theorem dX10_outcome_99 : decode cX10_outcome 99 = .ok (.iconst (-1), 1) := by decide +kernel
theorem dX10_outcome_100 : decode cX10_outcome 100 = .ok (.ireturn, 1) := by decide +kernel
theorem dX10_outcome_101 : decode cX10_outcome 101 = .ok (.iload 6, 2) := by decide +kernel
theorem dX10_outcome_103 : decode cX10_outcome 103 = .ok (.ifCond .eq 11, 3) := by decide +kernel
theorem dX10_outcome_106 : decode cX10_outcome 106 = .ok (.iload 5, 2) := by decide +kernel
theorem dX10_outcome_108 : decode cX10_outcome 108 = .ok (.invokestatic 262, 3) := by decide +kernel
theorem dX10_outcome_111 : decode cX10_outcome 111 = .ok (.goto 4, 3) := by decide +kernel
theorem dX10_outcome_114 : decode cX10_outcome 114 = .ok (.iconst (-1), 1) := by decide +kernel
theorem dX10_outcome_115 : decode cX10_outcome 115 = .ok (.ireturn, 1) := by decide +kernel
theorem dX10_outcome_116 : decode cX10_outcome 116 = .ok (.iconst (-1), 1) := by decide +kernel
theorem dX10_outcome_117 : decode cX10_outcome 117 = .ok (.ireturn, 1) := by decide +kernel
def fX10_outcome_b31 (x4 : Int32) (x5 : Int32) (s0 : Int32) (μ : JM) : JO (Int32) := if x4 = (0 : Int32) then (jcl (fX2_keyKind x5 μ) fun r23 μ24 => some (r23, μ24, 0, 0)) else (if x4 = (1 : Int32) then (jcl (fX2_keyParty x5 μ) fun r33 μ34 => some (r33, μ34, 0, 0)) else (if x4 = (2 : Int32) then (jcl (fX2_keyAct x5 μ) fun r43 μ44 => some (r43, μ44, 0, 0)) else (if x4 = (3 : Int32) then (if s0 = 0 then (some ((-1 : Int32), μ, 0, 0)) else (jcl (fX2_keyNumber x5 μ) fun r54 μ55 => some (r54, μ55, 0, 0))) else (if x4 = (4 : Int32) then (if s0 = 0 then (some ((-1 : Int32), μ, 0, 0)) else (jcl (fX2_keyWorkdays x5 μ) fun r65 μ66 => some (r65, μ66, 0, 0))) else (some ((-1 : Int32), μ, 0, 0))))))
set_option maxHeartbeats 4000000 in
set_option maxRecDepth 100000 in
theorem gX10_outcome_b31 {b : Nat} {Θ : JE} {RC RS : Nat} {r : Int32} {ν : JM} (X : jX b Θ RX10 cX10_outcome 7 (some .int) 4 96 RC RS) (x4 : Int32) (x5 : Int32) (s0 : Int32) (μ : JM) (c m k n : Nat) (hf : fX10_outcome_b31 x4 x5 s0 μ = some (r, ν, c, m)) (hk : k + c = RC) (hn : n + m = RS) : WA b Θ 7 (jE b Θ (some (.int r)) ν RC RS) μ k n 31 [(4, .int x4), (5, .int x5)] [.int s0] := by
  rw [fX10_outcome_b31] at hf
  refine wa_istore (L2 := [(6, .int s0), (4, .int x4), (5, .int x5)]) X dX10_outcome_31 (by decide) (by first | rfl | (show (6, _) :: List.filter (fun q : Nat × Value => !(q.1 == 6) && !(q.1 + 1 == 6 && q.2.category == 2)) _ = _; simp [va_rf_cat, cat_i, cat_l])) ?_
  refine wa_iload X 1 dX10_outcome_33 rfl ?_
  by_cases h22 : x4 = (0 : Int32)
  · rw [if_pos h22] at hf
    refine wa_tin (tgt := 68) X dX10_outcome_35 h22 (by decide) (by decide) rfl (by decide) ?_
    refine wa_iload X 2 dX10_outcome_68 rfl ?_
    obtain ⟨r23, μ24, c25, m26, c27, m28, e29, hf, h30, h31⟩ := jcl_some hf
    refine wa_rcallS (st2 := [.int r23]) X dX10_outcome_70 lmX10_250 lMX2_keyKind (mX2_keyKind e29) rfl rfl rfl (va_cats (Nat.le_of_ble_eq_true rfl)) (by decide) (by omega) (by omega) ?_
    obtain ⟨rfl, rfl, rfl, rfl⟩ := jret hf
    exact wa_iret X dX10_outcome_73 rfl (by omega) (by omega)
  rw [if_neg h22] at hf
  by_cases h32 : x4 = (1 : Int32)
  · rw [if_pos h32] at hf
    refine wa_tin (tgt := 74) X dX10_outcome_35 h32 (by decide) (by decide) rfl (by decide) ?_
    refine wa_iload X 2 dX10_outcome_74 rfl ?_
    obtain ⟨r33, μ34, c35, m36, c37, m38, e39, hf, h40, h41⟩ := jcl_some hf
    refine wa_rcallS (st2 := [.int r33]) X dX10_outcome_76 lmX10_253 lMX2_keyParty (mX2_keyParty e39) rfl rfl rfl (va_cats (Nat.le_of_ble_eq_true rfl)) (by decide) (by omega) (by omega) ?_
    obtain ⟨rfl, rfl, rfl, rfl⟩ := jret hf
    exact wa_iret X dX10_outcome_79 rfl (by omega) (by omega)
  rw [if_neg h32] at hf
  by_cases h42 : x4 = (2 : Int32)
  · rw [if_pos h42] at hf
    refine wa_tin (tgt := 80) X dX10_outcome_35 h42 (by decide) (by decide) rfl (by decide) ?_
    refine wa_iload X 2 dX10_outcome_80 rfl ?_
    obtain ⟨r43, μ44, c45, m46, c47, m48, e49, hf, h50, h51⟩ := jcl_some hf
    refine wa_rcallS (st2 := [.int r43]) X dX10_outcome_82 lmX10_256 lMX2_keyAct (mX2_keyAct e49) rfl rfl rfl (va_cats (Nat.le_of_ble_eq_true rfl)) (by decide) (by omega) (by omega) ?_
    obtain ⟨rfl, rfl, rfl, rfl⟩ := jret hf
    exact wa_iret X dX10_outcome_85 rfl (by omega) (by omega)
  rw [if_neg h42] at hf
  by_cases h52 : x4 = (3 : Int32)
  · rw [if_pos h52] at hf
    refine wa_tin (tgt := 86) X dX10_outcome_35 h52 (by decide) (by decide) rfl (by decide) ?_
    refine wa_iload X 0 dX10_outcome_86 rfl ?_
    refine wa_ifeq (tgt := 99) X dX10_outcome_88 (by decide) (fun h53 => ?_) (fun h53 => ?_)
    · rw [if_pos h53] at hf
      refine wa_iconst (v := (-1 : Int32)) X dX10_outcome_99 (by decide) ?_
      obtain ⟨rfl, rfl, rfl, rfl⟩ := jret hf
      exact wa_iret X dX10_outcome_100 rfl (by omega) (by omega)
    · rw [if_neg h53] at hf
      refine wa_iload X 2 dX10_outcome_91 rfl ?_
      obtain ⟨r54, μ55, c56, m57, c58, m59, e60, hf, h61, h62⟩ := jcl_some hf
      refine wa_rcallS (st2 := [.int r54]) X dX10_outcome_93 lmX10_259 lMX2_keyNumber (mX2_keyNumber e60) rfl rfl rfl (va_cats (Nat.le_of_ble_eq_true rfl)) (by decide) (by omega) (by omega) ?_
      refine wa_goto (tgt := 100) X dX10_outcome_96 (by decide) ?_
      obtain ⟨rfl, rfl, rfl, rfl⟩ := jret hf
      exact wa_iret X dX10_outcome_100 rfl (by omega) (by omega)
  rw [if_neg h52] at hf
  by_cases h63 : x4 = (4 : Int32)
  · rw [if_pos h63] at hf
    refine wa_tin (tgt := 101) X dX10_outcome_35 h63 (by decide) (by decide) rfl (by decide) ?_
    refine wa_iload X 0 dX10_outcome_101 rfl ?_
    refine wa_ifeq (tgt := 114) X dX10_outcome_103 (by decide) (fun h64 => ?_) (fun h64 => ?_)
    · rw [if_pos h64] at hf
      refine wa_iconst (v := (-1 : Int32)) X dX10_outcome_114 (by decide) ?_
      obtain ⟨rfl, rfl, rfl, rfl⟩ := jret hf
      exact wa_iret X dX10_outcome_115 rfl (by omega) (by omega)
    · rw [if_neg h64] at hf
      refine wa_iload X 2 dX10_outcome_106 rfl ?_
      obtain ⟨r65, μ66, c67, m68, c69, m70, e71, hf, h72, h73⟩ := jcl_some hf
      refine wa_rcallS (st2 := [.int r65]) X dX10_outcome_108 lmX10_262 lMX2_keyWorkdays (mX2_keyWorkdays e71) rfl rfl rfl (va_cats (Nat.le_of_ble_eq_true rfl)) (by decide) (by omega) (by omega) ?_
      refine wa_goto (tgt := 115) X dX10_outcome_111 (by decide) ?_
      obtain ⟨rfl, rfl, rfl, rfl⟩ := jret hf
      exact wa_iret X dX10_outcome_115 rfl (by omega) (by omega)
  rw [if_neg h63] at hf
  have ih22 := lv_neT h22 (show ((0 : Int32)).toInt = 0 from rfl)
  have ih32 := lv_neT h32 (show ((1 : Int32)).toInt = 1 from rfl)
  have ih42 := lv_neT h42 (show ((2 : Int32)).toInt = 2 from rfl)
  have ih52 := lv_neT h52 (show ((3 : Int32)).toInt = 3 from rfl)
  have ih63 := lv_neT h63 (show ((4 : Int32)).toInt = 4 from rfl)
  refine wa_tout (tgt := 116) X dX10_outcome_35 (by omega) (by decide) ?_
  refine wa_iconst (v := (-1 : Int32)) X dX10_outcome_116 (by decide) ?_
  obtain ⟨rfl, rfl, rfl, rfl⟩ := jret hf
  exact wa_iret X dX10_outcome_117 rfl (by omega) (by omega)
def fX10_outcome (a : Nat) (x1 : Int32) (x2 : Int32) (x3 : Int32) (x4 : Int32) (μ : JM) : JO (Int32) := jck ((jT μ a).1 == 11) <| jcl (fX10_keyAt a x1 x2 x3 μ) fun r2 μ3 => if r2 = (-1 : Int32) then (some ((-1 : Int32), μ3, 0, 0)) else (jcl (fX2_keyKind r2 μ3) fun r12 μ13 => if r12 = (1 : Int32) then (fX10_outcome_b31  x4 r2 (1 : Int32) μ13) else (fX10_outcome_b31  x4 r2 (0 : Int32) μ13))
set_option maxHeartbeats 4000000 in
set_option maxRecDepth 100000 in
theorem mX10_outcome {b : Nat} {a : Nat} {x1 : Int32} {x2 : Int32} {x3 : Int32} {x4 : Int32} {μ : JM} {r : Int32} {ν : JM} {c m : Nat} (hf : fX10_outcome a x1 x2 x3 x4 μ = some (r, ν, c, m)) : JMet b yX10_outcome cX10_outcome 7 (some .int) 4 96 [va_rf (some a), .int x1, .int x2, .int x3, .int x4] μ (some (.int r)) ν c m := by
  refine JMet.of (by decide) (lg_sl_le (by simp only [List.map_cons, List.map_nil, List.sum_cons, List.sum_nil, va_rf_cat]; exact Nat.le_of_ble_eq_true rfl)) (fun Θ X hin => ?_)
  refine wa_eq (L2 := [(0, va_rf (some a)), (1, .int x1), (2, .int x2), (3, .int x3), (4, .int x4)]) ?_ rfl (by first | rfl | simp [lv_args, va_rf_cat, cat_i, cat_l]) rfl
  obtain ⟨k, hk0⟩ : ∃ k : Nat, k = 0 := ⟨0, rfl⟩
  obtain ⟨n, hn0⟩ : ∃ n : Nat, n = 0 := ⟨0, rfl⟩
  have hk : k + c = c := by omega
  have hn : n + m = m := by omega
  refine wa_costs hk0.symm hn0.symm ?_
  rw [fX10_outcome] at hf
  refine wa_aload_n X 0 dX10_outcome_0 rfl ?_
  refine wa_iload_n X 1 dX10_outcome_1 rfl ?_
  refine wa_iload_n X 2 dX10_outcome_2 rfl ?_
  refine wa_iload_n X 3 dX10_outcome_3 rfl ?_
  obtain ⟨h1, hf⟩ := jckT hf
  obtain ⟨r2, μ3, c4, m5, c6, m7, e8, hf, h9, h10⟩ := jcl_some hf
  refine wa_rcallV (st2 := [.int r2]) X dX10_outcome_4 lmX10_246 lMX10_keyAt rfl h1 (mX10_keyAt e8) rfl rfl rfl (va_cats (Nat.le_of_ble_eq_true rfl)) (by decide) (by omega) (by omega) ?_
  refine wa_istore (L2 := [(5, .int r2), (0, va_rf (some a)), (1, .int x1), (2, .int x2), (3, .int x3), (4, .int x4)]) X dX10_outcome_7 (by decide) (by first | rfl | (show (5, _) :: List.filter (fun q : Nat × Value => !(q.1 == 5) && !(q.1 + 1 == 5 && q.2.category == 2)) _ = _; simp [va_rf_cat, cat_i, cat_l])) ?_
  refine wa_iload X 0 dX10_outcome_9 rfl ?_
  refine wa_iconst (v := (-1 : Int32)) X dX10_outcome_11 (by decide) ?_
  refine wa_icne (tgt := 17) X dX10_outcome_12 (by decide) (fun h11 => ?_) (fun h11 => ?_)
  · rw [if_neg h11] at hf
    refine wa_iload X 0 dX10_outcome_17 rfl ?_
    obtain ⟨r12, μ13, c14, m15, c16, m17, e18, hf, h19, h20⟩ := jcl_some hf
    refine wa_rcallS (st2 := [.int r12]) X dX10_outcome_19 lmX10_250 lMX2_keyKind (mX2_keyKind e18) rfl rfl rfl (va_cats (Nat.le_of_ble_eq_true rfl)) (by decide) (by omega) (by omega) ?_
    refine wa_iconst (v := (1 : Int32)) X dX10_outcome_22 (by decide) ?_
    refine wa_icne (tgt := 30) X dX10_outcome_23 (by decide) (fun h21 => ?_) (fun h21 => ?_)
    · rw [if_neg h21] at hf
      refine wa_iconst (v := (0 : Int32)) X dX10_outcome_30 (by decide) ?_
      refine wa_sub (L2 := [(4, .int x4), (5, .int r2)]) [5, 0] rfl ?_
      exact gX10_outcome_b31 X x4 r2 (0 : Int32) μ13 _ _ _ _ hf (by omega) (by omega)
    · rw [if_pos h21] at hf
      refine wa_iconst (v := (1 : Int32)) X dX10_outcome_26 (by decide) ?_
      refine wa_goto (tgt := 31) X dX10_outcome_27 (by decide) ?_
      refine wa_sub (L2 := [(4, .int x4), (5, .int r2)]) [5, 0] rfl ?_
      exact gX10_outcome_b31 X x4 r2 (1 : Int32) μ13 _ _ _ _ hf (by omega) (by omega)
  · rw [if_pos h11] at hf
    refine wa_iconst (v := (-1 : Int32)) X dX10_outcome_15 (by decide) ?_
    obtain ⟨rfl, rfl, rfl, rfl⟩ := jret hf
    exact wa_iret X dX10_outcome_16 rfl (by omega) (by omega)
theorem dX10_differs_0 : decode cX10_differs 0 = .ok (.aload_n 0, 1) := by decide +kernel
theorem dX10_differs_1 : decode cX10_differs 1 = .ok (.iload_n 1, 1) := by decide +kernel
theorem dX10_differs_2 : decode cX10_differs 2 = .ok (.invokevirtual 132, 3) := by decide +kernel
theorem dX10_differs_5 : decode cX10_differs 5 = .ok (.astore_n 3, 1) := by decide +kernel
theorem dX10_differs_6 : decode cX10_differs 6 = .ok (.aload_n 0, 1) := by decide +kernel
theorem dX10_differs_7 : decode cX10_differs 7 = .ok (.iload_n 2, 1) := by decide +kernel
theorem dX10_differs_8 : decode cX10_differs 8 = .ok (.invokevirtual 132, 3) := by decide +kernel
theorem dX10_differs_11 : decode cX10_differs 11 = .ok (.astore 4, 2) := by decide +kernel
theorem dX10_differs_13 : decode cX10_differs 13 = .ok (.aload_n 3, 1) := by decide +kernel
theorem dX10_differs_14 : decode cX10_differs 14 = .ok (.ifnull 8, 3) := by decide +kernel
theorem dX10_differs_17 : decode cX10_differs 17 = .ok (.aload 4, 2) := by decide +kernel
theorem dX10_differs_19 : decode cX10_differs 19 = .ok (.ifnonnull 6, 3) := by decide +kernel
theorem dX10_differs_22 : decode cX10_differs 22 = .ok (.bipush (-2), 2) := by decide +kernel
theorem dX10_differs_24 : decode cX10_differs 24 = .ok (.ireturn, 1) := by decide +kernel
theorem dX10_differs_25 : decode cX10_differs 25 = .ok (.new 75, 3) := by decide +kernel
theorem dX10_differs_28 : decode cX10_differs 28 = .ok (.dup, 1) := by decide +kernel
theorem dX10_differs_29 : decode cX10_differs 29 = .ok (.invokespecial 77, 3) := by decide +kernel
theorem dX10_differs_32 : decode cX10_differs 32 = .ok (.astore 5, 2) := by decide +kernel
theorem dX10_differs_34 : decode cX10_differs 34 = .ok (.aload_n 3, 1) := by decide +kernel
theorem dX10_differs_35 : decode cX10_differs 35 = .ok (.aload 4, 2) := by decide +kernel
theorem dX10_differs_37 : decode cX10_differs 37 = .ok (.aload 5, 2) := by decide +kernel
theorem dX10_differs_39 : decode cX10_differs 39 = .ok (.invokevirtual 265, 3) := by decide +kernel
theorem dX10_differs_42 : decode cX10_differs 42 = .ok (.aload 4, 2) := by decide +kernel
theorem dX10_differs_44 : decode cX10_differs 44 = .ok (.aload_n 3, 1) := by decide +kernel
theorem dX10_differs_45 : decode cX10_differs 45 = .ok (.aload 5, 2) := by decide +kernel
theorem dX10_differs_47 : decode cX10_differs 47 = .ok (.invokevirtual 265, 3) := by decide +kernel
theorem dX10_differs_50 : decode cX10_differs 50 = .ok (.aload 5, 2) := by decide +kernel
theorem dX10_differs_52 : decode cX10_differs 52 = .ok (.aload_n 0, 1) := by decide +kernel
theorem dX10_differs_53 : decode cX10_differs 53 = .ok (.getfield 78, 3) := by decide +kernel
theorem dX10_differs_56 : decode cX10_differs 56 = .ok (.invokevirtual 177, 3) := by decide +kernel
theorem dX10_differs_59 : decode cX10_differs 59 = .ok (.aload 5, 2) := by decide +kernel
theorem dX10_differs_61 : decode cX10_differs 61 = .ok (.invokevirtual 269, 3) := by decide +kernel
theorem dX10_differs_64 : decode cX10_differs 64 = .ok (.ireturn, 1) := by decide +kernel
def fX10_differs (a : Nat) (x1 : Int32) (x2 : Int32) (μ : JM) : JO (Int32) := jck ((jT μ a).1 == 11) <| jcl (fX10_versionAt a x1 μ) fun r2 μ3 => jck ((jT μ3 a).1 == 11) <| jcl (fX10_versionAt a x2 μ3) fun r12 μ13 => if r2 = none then (some ((-2 : Int32), μ13, 0, 0)) else (if r12 = none then (some ((-2 : Int32), μ13, 0, 0)) else (jnwo μ13 2 1 fun q23 μ24 => jcl (fX1_init q23 μ24) fun u32 μ33 => jde r2 fun q41 => jck ((jT μ33 q41).1 == 9) <| jcl (fX8_addUnlike q41 r12 (some q23) μ33) fun u44 μ45 => jde r12 fun q53 => jck ((jT μ45 q53).1 == 9) <| jcl (fX8_addUnlike q53 r2 (some q23) μ45) fun u56 μ57 => jck ((jT μ57 a).1 == 11) <| jck ((jT μ57 q23).1 == 2) <| jcl (fX1_and q23 (jP μ57 a 10) μ57) fun u67 μ68 => jck ((jT μ68 q23).1 == 2) <| jcl (fX1_least q23 μ68) fun r77 μ78 => some (r77, μ78, 0, 0)))
set_option maxHeartbeats 4000000 in
set_option maxRecDepth 100000 in
theorem mX10_differs {b : Nat} {a : Nat} {x1 : Int32} {x2 : Int32} {μ : JM} {r : Int32} {ν : JM} {c m : Nat} (hf : fX10_differs a x1 x2 μ = some (r, ν, c, m)) : JMet b yX10_differs cX10_differs 6 (some .int) 3 70 [va_rf (some a), .int x1, .int x2] μ (some (.int r)) ν c m := by
  refine JMet.of (by decide) (lg_sl_le (by simp only [List.map_cons, List.map_nil, List.sum_cons, List.sum_nil, va_rf_cat]; exact Nat.le_of_ble_eq_true rfl)) (fun Θ X hin => ?_)
  refine wa_eq (L2 := [(0, va_rf (some a)), (1, .int x1), (2, .int x2)]) ?_ rfl (by first | rfl | simp [lv_args, va_rf_cat, cat_i, cat_l]) rfl
  obtain ⟨k, hk0⟩ : ∃ k : Nat, k = 0 := ⟨0, rfl⟩
  obtain ⟨n, hn0⟩ : ∃ n : Nat, n = 0 := ⟨0, rfl⟩
  have hk : k + c = c := by omega
  have hn : n + m = m := by omega
  refine wa_costs hk0.symm hn0.symm ?_
  rw [fX10_differs] at hf
  refine wa_aload_n X 0 dX10_differs_0 rfl ?_
  refine wa_iload_n X 1 dX10_differs_1 rfl ?_
  obtain ⟨h1, hf⟩ := jckT hf
  obtain ⟨r2, μ3, c4, m5, c6, m7, e8, hf, h9, h10⟩ := jcl_some hf
  refine wa_rcallV (st2 := [va_rf r2]) X dX10_differs_2 lmX10_132 lMX10_versionAt rfl h1 (mX10_versionAt e8) rfl rfl rfl (va_cats (Nat.le_of_ble_eq_true rfl)) (by decide) (by omega) (by omega) ?_
  refine wa_astore_n (L2 := [(3, va_rf r2), (0, va_rf (some a)), (1, .int x1), (2, .int x2)]) X dX10_differs_5 (by decide) (by first | rfl | (show (3, _) :: List.filter (fun q : Nat × Value => !(q.1 == 3) && !(q.1 + 1 == 3 && q.2.category == 2)) _ = _; simp [va_rf_cat, cat_i, cat_l])) ?_
  refine wa_aload_n X 1 dX10_differs_6 rfl ?_
  refine wa_iload_n X 3 dX10_differs_7 rfl ?_
  obtain ⟨h11, hf⟩ := jckT hf
  obtain ⟨r12, μ13, c14, m15, c16, m17, e18, hf, h19, h20⟩ := jcl_some hf
  refine wa_rcallV (st2 := [va_rf r12]) X dX10_differs_8 lmX10_132 lMX10_versionAt rfl h11 (mX10_versionAt e18) rfl rfl rfl (va_cats (Nat.le_of_ble_eq_true rfl)) (by decide) (by omega) (by omega) ?_
  refine wa_astore (L2 := [(4, va_rf r12), (3, va_rf r2), (0, va_rf (some a)), (1, .int x1), (2, .int x2)]) X dX10_differs_11 (by decide) (by first | rfl | (show (4, _) :: List.filter (fun q : Nat × Value => !(q.1 == 4) && !(q.1 + 1 == 4 && q.2.category == 2)) _ = _; simp [va_rf_cat, cat_i, cat_l])) ?_
  refine wa_aload_n X 1 dX10_differs_13 rfl ?_
  refine wa_ifnull (tgt := 22) X dX10_differs_14 (by decide) (fun h21 => ?_) (fun h21 => ?_)
  · rw [if_pos h21] at hf
    refine wa_bipush (v := (-2 : Int32)) X dX10_differs_22 (by decide) ?_
    obtain ⟨rfl, rfl, rfl, rfl⟩ := jret hf
    exact wa_iret X dX10_differs_24 rfl (by omega) (by omega)
  · rw [if_neg h21] at hf
    refine wa_aload X 0 dX10_differs_17 rfl ?_
    refine wa_ifnonnull (tgt := 25) X dX10_differs_19 (by decide) (fun h22 => ?_) (fun h22 => ?_)
    · rw [if_neg h22] at hf
      obtain ⟨q23, μ24, c27, m28, h25, hm26, hf, h29, h30⟩ := jnwo_some hf
      refine wa_new (t := 2) (N := 1) X dX10_differs_25 (by decide) rfl lcX10_75 li_RX1 ln_RX1 (by omega) (by omega) ?_
      rw [← h25, ← hm26]
      have h31 : (jT μ24 q23).1 = 2 := by rw [jT_at h25 hm26]
      refine wa_dup X dX10_differs_28 (va_rf_cat _) ?_
      obtain ⟨u32, μ33, c34, m35, c36, m37, e38, hf, h39, h40⟩ := jcl_some hf
      refine wa_rcallI (st2 := [va_rf (some q23)]) X dX10_differs_29 lmX10_77 lMX1_init rfl (mX1_init e38) rfl rfl rfl (va_cats (Nat.le_of_ble_eq_true rfl)) (by decide) (by omega) (by omega) ?_
      refine wa_astore (L2 := [(5, va_rf (some q23)), (4, va_rf r12), (3, va_rf r2), (0, va_rf (some a)), (1, .int x1), (2, .int x2)]) X dX10_differs_32 (by decide) (by first | rfl | (show (5, _) :: List.filter (fun q : Nat × Value => !(q.1 == 5) && !(q.1 + 1 == 5 && q.2.category == 2)) _ = _; simp [va_rf_cat, cat_i, cat_l])) ?_
      refine wa_aload_n X 2 dX10_differs_34 rfl ?_
      refine wa_aload X 1 dX10_differs_35 rfl ?_
      refine wa_aload X 0 dX10_differs_37 rfl ?_
      obtain ⟨q41, h42, hf⟩ := jde_some hf
      obtain ⟨h43, hf⟩ := jckT hf
      obtain ⟨u44, μ45, c46, m47, c48, m49, e50, hf, h51, h52⟩ := jcl_some hf
      refine wa_rcallV (st2 := []) X dX10_differs_39 lmX10_265 lMX8_addUnlike h42 h43 (mX8_addUnlike e50) rfl rfl rfl (va_cats (Nat.le_of_ble_eq_true rfl)) (by decide) (by omega) (by omega) ?_
      refine wa_aload X 1 dX10_differs_42 rfl ?_
      refine wa_aload_n X 2 dX10_differs_44 rfl ?_
      refine wa_aload X 0 dX10_differs_45 rfl ?_
      obtain ⟨q53, h54, hf⟩ := jde_some hf
      obtain ⟨h55, hf⟩ := jckT hf
      obtain ⟨u56, μ57, c58, m59, c60, m61, e62, hf, h63, h64⟩ := jcl_some hf
      refine wa_rcallV (st2 := []) X dX10_differs_47 lmX10_265 lMX8_addUnlike h54 h55 (mX8_addUnlike e62) rfl rfl rfl (va_cats (Nat.le_of_ble_eq_true rfl)) (by decide) (by omega) (by omega) ?_
      refine wa_aload X 0 dX10_differs_50 rfl ?_
      refine wa_aload_n X 3 dX10_differs_52 rfl ?_
      obtain ⟨h65, hf⟩ := jckT hf
      refine wa_getP X dX10_differs_53 lfX10_78 rfl h65 rfl ?_
      obtain ⟨h66, hf⟩ := jckT hf
      obtain ⟨u67, μ68, c69, m70, c71, m72, e73, hf, h74, h75⟩ := jcl_some hf
      refine wa_rcallV (st2 := []) X dX10_differs_56 lmX10_177 lMX1_and rfl h66 (mX1_and e73) rfl rfl rfl (va_cats (Nat.le_of_ble_eq_true rfl)) (by decide) (by omega) (by omega) ?_
      refine wa_aload X 0 dX10_differs_59 rfl ?_
      obtain ⟨h76, hf⟩ := jckT hf
      obtain ⟨r77, μ78, c79, m80, c81, m82, e83, hf, h84, h85⟩ := jcl_some hf
      refine wa_rcallV (st2 := [.int r77]) X dX10_differs_61 lmX10_269 lMX1_least rfl h76 (mX1_least e83) rfl rfl rfl (va_cats (Nat.le_of_ble_eq_true rfl)) (by decide) (by omega) (by omega) ?_
      obtain ⟨rfl, rfl, rfl, rfl⟩ := jret hf
      exact wa_iret X dX10_differs_64 rfl (by omega) (by omega)
    · rw [if_pos h22] at hf
      refine wa_bipush (v := (-2 : Int32)) X dX10_differs_22 (by decide) ?_
      obtain ⟨rfl, rfl, rfl, rfl⟩ := jret hf
      exact wa_iret X dX10_differs_24 rfl (by omega) (by omega)
theorem dX10_changed_0 : decode cX10_changed 0 = .ok (.aload_n 0, 1) := by decide +kernel
theorem dX10_changed_1 : decode cX10_changed 1 = .ok (.iload_n 1, 1) := by decide +kernel
theorem dX10_changed_2 : decode cX10_changed 2 = .ok (.invokevirtual 132, 3) := by decide +kernel
theorem dX10_changed_5 : decode cX10_changed 5 = .ok (.astore 5, 2) := by decide +kernel
theorem dX10_changed_7 : decode cX10_changed 7 = .ok (.aload_n 0, 1) := by decide +kernel
theorem dX10_changed_8 : decode cX10_changed 8 = .ok (.iload_n 2, 1) := by decide +kernel
theorem dX10_changed_9 : decode cX10_changed 9 = .ok (.invokevirtual 132, 3) := by decide +kernel
theorem dX10_changed_12 : decode cX10_changed 12 = .ok (.astore 6, 2) := by decide +kernel
theorem dX10_changed_14 : decode cX10_changed 14 = .ok (.aload 5, 2) := by decide +kernel
theorem dX10_changed_16 : decode cX10_changed 16 = .ok (.ifnull 23, 3) := by decide +kernel
theorem dX10_changed_19 : decode cX10_changed 19 = .ok (.aload 6, 2) := by decide +kernel
theorem dX10_changed_21 : decode cX10_changed 21 = .ok (.ifnull 18, 3) := by decide +kernel
theorem dX10_changed_24 : decode cX10_changed 24 = .ok (.iload_n 3, 1) := by decide +kernel
theorem dX10_changed_25 : decode cX10_changed 25 = .ok (.ifCond .lt 14, 3) := by decide +kernel
theorem dX10_changed_28 : decode cX10_changed 28 = .ok (.iload 4, 2) := by decide +kernel
theorem dX10_changed_30 : decode cX10_changed 30 = .ok (.ifCond .lt 9, 3) := by decide +kernel
theorem dX10_changed_33 : decode cX10_changed 33 = .ok (.iload 4, 2) := by decide +kernel
theorem dX10_changed_35 : decode cX10_changed 35 = .ok (.iconst 1, 1) := by decide +kernel
theorem dX10_changed_36 : decode cX10_changed 36 = .ok (.if_icmp .le 5, 3) := by decide +kernel
theorem dX10_changed_39 : decode cX10_changed 39 = .ok (.iconst (-1), 1) := by decide +kernel
theorem dX10_changed_40 : decode cX10_changed 40 = .ok (.ireturn, 1) := by decide +kernel
theorem dX10_changed_41 : decode cX10_changed 41 = .ok (.new 75, 3) := by decide +kernel
theorem dX10_changed_44 : decode cX10_changed 44 = .ok (.dup, 1) := by decide +kernel
theorem dX10_changed_45 : decode cX10_changed 45 = .ok (.invokespecial 77, 3) := by decide +kernel
theorem dX10_changed_48 : decode cX10_changed 48 = .ok (.astore 7, 2) := by decide +kernel
theorem dX10_changed_50 : decode cX10_changed 50 = .ok (.iconst 0, 1) := by decide +kernel
theorem dX10_changed_51 : decode cX10_changed 51 = .ok (.istore 8, 2) := by decide +kernel
theorem dX10_changed_53 : decode cX10_changed 53 = .ok (.iconst 0, 1) := by decide +kernel
theorem dX10_changed_54 : decode cX10_changed 54 = .ok (.istore 9, 2) := by decide +kernel
theorem dX10_changed_56 : decode cX10_changed 56 = .ok (.iload 9, 2) := by decide +kernel
theorem dX10_changed_58 : decode cX10_changed 58 = .ok (.aload 5, 2) := by decide +kernel
theorem dX10_changed_60 : decode cX10_changed 60 = .ok (.getfield 131, 3) := by decide +kernel
theorem dX10_changed_63 : decode cX10_changed 63 = .ok (.if_icmp .ge 67, 3) := by decide +kernel
theorem dX10_changed_66 : decode cX10_changed 66 = .ok (.aload 5, 2) := by decide +kernel
theorem dX10_changed_68 : decode cX10_changed 68 = .ok (.iload 9, 2) := by decide +kernel
theorem dX10_changed_70 : decode cX10_changed 70 = .ok (.aload 6, 2) := by decide +kernel
theorem dX10_changed_72 : decode cX10_changed 72 = .ok (.aload 7, 2) := by decide +kernel
theorem dX10_changed_74 : decode cX10_changed 74 = .ok (.invokevirtual 272, 3) := by decide +kernel
theorem dX10_changed_77 : decode cX10_changed 77 = .ok (.aload 7, 2) := by decide +kernel
theorem dX10_changed_79 : decode cX10_changed 79 = .ok (.aload_n 0, 1) := by decide +kernel
theorem dX10_changed_80 : decode cX10_changed 80 = .ok (.getfield 78, 3) := by decide +kernel
theorem dX10_changed_83 : decode cX10_changed 83 = .ok (.invokevirtual 177, 3) := by decide +kernel
theorem dX10_changed_86 : decode cX10_changed 86 = .ok (.aload 7, 2) := by decide +kernel
theorem dX10_changed_88 : decode cX10_changed 88 = .ok (.invokevirtual 269, 3) := by decide +kernel
theorem dX10_changed_91 : decode cX10_changed 91 = .ok (.istore 10, 2) := by decide +kernel
theorem dX10_changed_93 : decode cX10_changed 93 = .ok (.iload 10, 2) := by decide +kernel
theorem dX10_changed_95 : decode cX10_changed 95 = .ok (.iconst (-1), 1) := by decide +kernel
theorem dX10_changed_96 : decode cX10_changed 96 = .ok (.if_icmp .ne 6, 3) := by decide +kernel
theorem dX10_changed_99 : decode cX10_changed 99 = .ok (.goto 25, 3) := by decide +kernel
theorem dX10_changed_102 : decode cX10_changed 102 = .ok (.iload 8, 2) := by decide +kernel
theorem dX10_changed_104 : decode cX10_changed 104 = .ok (.iload_n 3, 1) := by decide +kernel
theorem dX10_changed_105 : decode cX10_changed 105 = .ok (.if_icmp .ne 16, 3) := by decide +kernel
theorem dX10_changed_108 : decode cX10_changed 108 = .ok (.iload 4, 2) := by decide +kernel
theorem dX10_changed_110 : decode cX10_changed 110 = .ok (.ifCond .ne 8, 3) := by decide +kernel
theorem dX10_changed_113 : decode cX10_changed 113 = .ok (.iload 9, 2) := by decide +kernel
theorem dX10_changed_115 : decode cX10_changed 115 = .ok (.goto 5, 3) := by decide +kernel
theorem dX10_changed_118 : decode cX10_changed 118 = .ok (.iload 10, 2) := by decide +kernel
theorem dX10_changed_120 : decode cX10_changed 120 = .ok (.ireturn, 1) := by decide +kernel
theorem dX10_changed_121 : decode cX10_changed 121 = .ok (.iinc 8 1, 3) := by decide +kernel
theorem dX10_changed_124 : decode cX10_changed 124 = .ok (.iinc 9 1, 3) := by decide +kernel
theorem dX10_changed_127 : decode cX10_changed 127 = .ok (.goto (-71), 3) := by decide +kernel
theorem dX10_changed_130 : decode cX10_changed 130 = .ok (.iconst (-1), 1) := by decide +kernel
theorem dX10_changed_131 : decode cX10_changed 131 = .ok (.ireturn, 1) := by decide +kernel
def fX10_changed_b124 (rec56 : Nat → Int32 → Int32 → Option Nat → Option Nat → Option Nat → Int32 → Int32 → JM → JO (Int32)) (a : Nat) (x3 : Int32) (x4 : Int32) (p5 : Option Nat) (p6 : Option Nat) (p7 : Option Nat) (x8 : Int32) (x9 : Int32) (μ : JM) : JO (Int32) := rec56 a x3 x4 p5 p6 p7 x8 (x9 + (1 : Int32)) μ
set_option maxHeartbeats 4000000 in
set_option maxRecDepth 100000 in
theorem gX10_changed_b124 {b : Nat} {Θ : JE} {RC RS : Nat} {r : Int32} {ν : JM} (X : jX b Θ RX10 cX10_changed 11 (some .int) 3 64 RC RS) {rec56 : Nat → Int32 → Int32 → Option Nat → Option Nat → Option Nat → Int32 → Int32 → JM → JO (Int32)} (hrec56 : ∀ (a : Nat) (x3 : Int32) (x4 : Int32) (p5 : Option Nat) (p6 : Option Nat) (p7 : Option Nat) (x8 : Int32) (x9 : Int32) (μ : JM) (c m k n : Nat), rec56 a x3 x4 p5 p6 p7 x8 x9 μ = some (r, ν, c, m) → k + c = RC → n + m = RS → WA b Θ 11 (jE b Θ (some (.int r)) ν RC RS) μ k n 56 [(0, va_rf (some a)), (3, .int x3), (4, .int x4), (5, va_rf p5), (6, va_rf p6), (7, va_rf p7), (8, .int x8), (9, .int x9)] []) (a : Nat) (x3 : Int32) (x4 : Int32) (p5 : Option Nat) (p6 : Option Nat) (p7 : Option Nat) (x8 : Int32) (x9 : Int32) (μ : JM) (c m k n : Nat) (hf : fX10_changed_b124 rec56 a x3 x4 p5 p6 p7 x8 x9 μ = some (r, ν, c, m)) (hk : k + c = RC) (hn : n + m = RS) : WA b Θ 11 (jE b Θ (some (.int r)) ν RC RS) μ k n 124 [(0, va_rf (some a)), (3, .int x3), (4, .int x4), (5, va_rf p5), (6, va_rf p6), (7, va_rf p7), (8, .int x8), (9, .int x9)] [] := by
  rw [fX10_changed_b124] at hf
  refine wa_iinc (v := (x9 + (1 : Int32))) (L2 := [(9, .int (x9 + (1 : Int32))), (0, va_rf (some a)), (3, .int x3), (4, .int x4), (5, va_rf p5), (6, va_rf p6), (7, va_rf p7), (8, .int x8)]) X 7 dX10_changed_124 rfl rfl (by decide) (by first | rfl | simp [va_rf_cat, cat_i, cat_l]) ?_
  refine wa_goto (tgt := 56) X dX10_changed_127 (by decide) ?_
  refine wa_sub (L2 := [(0, va_rf (some a)), (3, .int x3), (4, .int x4), (5, va_rf p5), (6, va_rf p6), (7, va_rf p7), (8, .int x8), (9, .int (x9 + (1 : Int32)))]) [1, 2, 3, 4, 5, 6, 7, 0] rfl ?_
  exact hrec56 a x3 x4 p5 p6 p7 x8 (x9 + (1 : Int32)) μ _ _ _ _ hf (by omega) (by omega)
def fX10_changed_b56 : Nat → Nat → Int32 → Int32 → Option Nat → Option Nat → Option Nat → Int32 → Int32 → JM → JO (Int32)
  | 0, _, _, _, _, _, _, _, _, _ => none
  | fu + 1, a, x3, x4, p5, p6, p7, x8, x9, μ => jde p5 fun q44 => jck ((jT μ q44).1 == 9) <| if (jI μ q44 2) ≤ x9 then (some ((-1 : Int32), μ, 0, 0)) else (jcl (fX8_compareClause q44 x9 p6 p7 μ) fun u48 μ49 => jck ((jT μ49 a).1 == 11) <| jde p7 fun q58 => jck ((jT μ49 q58).1 == 2) <| jcl (fX1_and q58 (jP μ49 a 10) μ49) fun u61 μ62 => jck ((jT μ62 q58).1 == 2) <| jcl (fX1_least q58 μ62) fun r71 μ72 => if r71 = (-1 : Int32) then (fX10_changed_b124 (fX10_changed_b56 fu) a x3 x4 p5 p6 p7 x8 x9 μ72) else (if x8 = x3 then (if x4 = 0 then (some (x9, μ72, 0, 0)) else (some (r71, μ72, 0, 0))) else (fX10_changed_b124 (fX10_changed_b56 fu) a x3 x4 p5 p6 p7 (x8 + (1 : Int32)) x9 μ72)))
set_option maxHeartbeats 4000000 in
set_option maxRecDepth 100000 in
theorem gX10_changed_b56 {b : Nat} {Θ : JE} {RC RS : Nat} {r : Int32} {ν : JM} (X : jX b Θ RX10 cX10_changed 11 (some .int) 3 64 RC RS) : ∀ (fu : Nat) (a : Nat) (x3 : Int32) (x4 : Int32) (p5 : Option Nat) (p6 : Option Nat) (p7 : Option Nat) (x8 : Int32) (x9 : Int32) (μ : JM) (c m k n : Nat), fX10_changed_b56 fu a x3 x4 p5 p6 p7 x8 x9 μ = some (r, ν, c, m) → k + c = RC → n + m = RS → WA b Θ 11 (jE b Θ (some (.int r)) ν RC RS) μ k n 56 [(0, va_rf (some a)), (3, .int x3), (4, .int x4), (5, va_rf p5), (6, va_rf p6), (7, va_rf p7), (8, .int x8), (9, .int x9)] [] := by
  intro fu
  induction fu with
  | zero => intro a x3 x4 p5 p6 p7 x8 x9 μ c m k n hf; cases hf
  | succ fu ih =>
    intro a x3 x4 p5 p6 p7 x8 x9 μ c m k n hf hk hn
    rw [fX10_changed_b56] at hf
    refine wa_iload X 7 dX10_changed_56 rfl ?_
    refine wa_aload X 3 dX10_changed_58 rfl ?_
    obtain ⟨q44, h45, hf⟩ := jde_some hf
    obtain ⟨h46, hf⟩ := jckT hf
    refine wa_getI X dX10_changed_60 lfX10_131 h45 h46 rfl ?_
    refine wa_icge (tgt := 130) X dX10_changed_63 (by decide) (fun h47 => ?_) (fun h47 => ?_)
    · rw [if_pos h47] at hf
      refine wa_iconst (v := (-1 : Int32)) X dX10_changed_130 (by decide) ?_
      obtain ⟨rfl, rfl, rfl, rfl⟩ := jret hf
      exact wa_iret X dX10_changed_131 rfl (by omega) (by omega)
    · rw [if_neg h47] at hf
      refine wa_aload X 3 dX10_changed_66 rfl ?_
      refine wa_iload X 7 dX10_changed_68 rfl ?_
      refine wa_aload X 4 dX10_changed_70 rfl ?_
      refine wa_aload X 5 dX10_changed_72 rfl ?_
      obtain ⟨u48, μ49, c50, m51, c52, m53, e54, hf, h55, h56⟩ := jcl_some hf
      refine wa_rcallV (st2 := []) X dX10_changed_74 lmX10_272 lMX8_compareClause h45 h46 (mX8_compareClause e54) rfl rfl rfl (va_cats (Nat.le_of_ble_eq_true rfl)) (by decide) (by omega) (by omega) ?_
      refine wa_aload X 5 dX10_changed_77 rfl ?_
      refine wa_aload_n X 0 dX10_changed_79 rfl ?_
      obtain ⟨h57, hf⟩ := jckT hf
      refine wa_getP X dX10_changed_80 lfX10_78 rfl h57 rfl ?_
      obtain ⟨q58, h59, hf⟩ := jde_some hf
      obtain ⟨h60, hf⟩ := jckT hf
      obtain ⟨u61, μ62, c63, m64, c65, m66, e67, hf, h68, h69⟩ := jcl_some hf
      refine wa_rcallV (st2 := []) X dX10_changed_83 lmX10_177 lMX1_and h59 h60 (mX1_and e67) rfl rfl rfl (va_cats (Nat.le_of_ble_eq_true rfl)) (by decide) (by omega) (by omega) ?_
      refine wa_aload X 5 dX10_changed_86 rfl ?_
      obtain ⟨h70, hf⟩ := jckT hf
      obtain ⟨r71, μ72, c73, m74, c75, m76, e77, hf, h78, h79⟩ := jcl_some hf
      refine wa_rcallV (st2 := [.int r71]) X dX10_changed_88 lmX10_269 lMX1_least h59 h70 (mX1_least e77) rfl rfl rfl (va_cats (Nat.le_of_ble_eq_true rfl)) (by decide) (by omega) (by omega) ?_
      refine wa_istore (L2 := [(10, .int r71), (0, va_rf (some a)), (3, .int x3), (4, .int x4), (5, va_rf p5), (6, va_rf p6), (7, va_rf p7), (8, .int x8), (9, .int x9)]) X dX10_changed_91 (by decide) (by first | rfl | (show (10, _) :: List.filter (fun q : Nat × Value => !(q.1 == 10) && !(q.1 + 1 == 10 && q.2.category == 2)) _ = _; simp [va_rf_cat, cat_i, cat_l])) ?_
      refine wa_iload X 0 dX10_changed_93 rfl ?_
      refine wa_iconst (v := (-1 : Int32)) X dX10_changed_95 (by decide) ?_
      refine wa_icne (tgt := 102) X dX10_changed_96 (by decide) (fun h80 => ?_) (fun h80 => ?_)
      · rw [if_neg h80] at hf
        refine wa_iload X 7 dX10_changed_102 rfl ?_
        refine wa_iload_n X 2 dX10_changed_104 rfl ?_
        refine wa_icne (tgt := 121) X dX10_changed_105 (by decide) (fun h81 => ?_) (fun h81 => ?_)
        · rw [if_neg h81] at hf
          refine wa_iinc (v := (x8 + (1 : Int32))) (L2 := [(8, .int (x8 + (1 : Int32))), (10, .int r71), (0, va_rf (some a)), (3, .int x3), (4, .int x4), (5, va_rf p5), (6, va_rf p6), (7, va_rf p7), (9, .int x9)]) X 7 dX10_changed_121 rfl rfl (by decide) (by first | rfl | simp [va_rf_cat, cat_i, cat_l]) ?_
          refine wa_sub (L2 := [(0, va_rf (some a)), (3, .int x3), (4, .int x4), (5, va_rf p5), (6, va_rf p6), (7, va_rf p7), (8, .int (x8 + (1 : Int32))), (9, .int x9)]) [2, 3, 4, 5, 6, 7, 0, 8] rfl ?_
          exact gX10_changed_b124 X ih a x3 x4 p5 p6 p7 (x8 + (1 : Int32)) x9 μ72 _ _ _ _ hf (by omega) (by omega)
        · rw [if_pos h81] at hf
          refine wa_iload X 3 dX10_changed_108 rfl ?_
          refine wa_ifne (tgt := 118) X dX10_changed_110 (by decide) (fun h82 => ?_) (fun h82 => ?_)
          · rw [if_neg h82] at hf
            refine wa_iload X 0 dX10_changed_118 rfl ?_
            obtain ⟨rfl, rfl, rfl, rfl⟩ := jret hf
            exact wa_iret X dX10_changed_120 rfl (by omega) (by omega)
          · rw [if_pos h82] at hf
            refine wa_iload X 8 dX10_changed_113 rfl ?_
            refine wa_goto (tgt := 120) X dX10_changed_115 (by decide) ?_
            obtain ⟨rfl, rfl, rfl, rfl⟩ := jret hf
            exact wa_iret X dX10_changed_120 rfl (by omega) (by omega)
      · rw [if_pos h80] at hf
        refine wa_goto (tgt := 124) X dX10_changed_99 (by decide) ?_
        refine wa_sub (L2 := [(0, va_rf (some a)), (3, .int x3), (4, .int x4), (5, va_rf p5), (6, va_rf p6), (7, va_rf p7), (8, .int x8), (9, .int x9)]) [1, 2, 3, 4, 5, 6, 7, 8] rfl ?_
        exact gX10_changed_b124 X ih a x3 x4 p5 p6 p7 x8 x9 μ72 _ _ _ _ hf (by omega) (by omega)
def fX10_changed (a : Nat) (x1 : Int32) (x2 : Int32) (x3 : Int32) (x4 : Int32) (μ : JM) : JO (Int32) := jck ((jT μ a).1 == 11) <| jcl (fX10_versionAt a x1 μ) fun r2 μ3 => jck ((jT μ3 a).1 == 11) <| jcl (fX10_versionAt a x2 μ3) fun r12 μ13 => if r2 = none then (some ((-1 : Int32), μ13, 0, 0)) else (if r12 = none then (some ((-1 : Int32), μ13, 0, 0)) else (if x3 < 0 then (some ((-1 : Int32), μ13, 0, 0)) else (if x4 < 0 then (some ((-1 : Int32), μ13, 0, 0)) else (if x4 ≤ (1 : Int32) then (jnwo μ13 2 1 fun q26 μ27 => jcl (fX1_init q26 μ27) fun u35 μ36 => fX10_changed_b56  jfuel a x3 x4 r2 r12 (some q26) (0 : Int32) (0 : Int32) μ36) else (some ((-1 : Int32), μ13, 0, 0))))))
set_option maxHeartbeats 4000000 in
set_option maxRecDepth 100000 in
theorem mX10_changed {b : Nat} {a : Nat} {x1 : Int32} {x2 : Int32} {x3 : Int32} {x4 : Int32} {μ : JM} {r : Int32} {ν : JM} {c m : Nat} (hf : fX10_changed a x1 x2 x3 x4 μ = some (r, ν, c, m)) : JMet b yX10_changed cX10_changed 11 (some .int) 3 64 [va_rf (some a), .int x1, .int x2, .int x3, .int x4] μ (some (.int r)) ν c m := by
  refine JMet.of (by decide) (lg_sl_le (by simp only [List.map_cons, List.map_nil, List.sum_cons, List.sum_nil, va_rf_cat]; exact Nat.le_of_ble_eq_true rfl)) (fun Θ X hin => ?_)
  refine wa_eq (L2 := [(0, va_rf (some a)), (1, .int x1), (2, .int x2), (3, .int x3), (4, .int x4)]) ?_ rfl (by first | rfl | simp [lv_args, va_rf_cat, cat_i, cat_l]) rfl
  obtain ⟨k, hk0⟩ : ∃ k : Nat, k = 0 := ⟨0, rfl⟩
  obtain ⟨n, hn0⟩ : ∃ n : Nat, n = 0 := ⟨0, rfl⟩
  have hk : k + c = c := by omega
  have hn : n + m = m := by omega
  refine wa_costs hk0.symm hn0.symm ?_
  rw [fX10_changed] at hf
  refine wa_aload_n X 0 dX10_changed_0 rfl ?_
  refine wa_iload_n X 1 dX10_changed_1 rfl ?_
  obtain ⟨h1, hf⟩ := jckT hf
  obtain ⟨r2, μ3, c4, m5, c6, m7, e8, hf, h9, h10⟩ := jcl_some hf
  refine wa_rcallV (st2 := [va_rf r2]) X dX10_changed_2 lmX10_132 lMX10_versionAt rfl h1 (mX10_versionAt e8) rfl rfl rfl (va_cats (Nat.le_of_ble_eq_true rfl)) (by decide) (by omega) (by omega) ?_
  refine wa_astore (L2 := [(5, va_rf r2), (0, va_rf (some a)), (1, .int x1), (2, .int x2), (3, .int x3), (4, .int x4)]) X dX10_changed_5 (by decide) (by first | rfl | (show (5, _) :: List.filter (fun q : Nat × Value => !(q.1 == 5) && !(q.1 + 1 == 5 && q.2.category == 2)) _ = _; simp [va_rf_cat, cat_i, cat_l])) ?_
  refine wa_aload_n X 1 dX10_changed_7 rfl ?_
  refine wa_iload_n X 3 dX10_changed_8 rfl ?_
  obtain ⟨h11, hf⟩ := jckT hf
  obtain ⟨r12, μ13, c14, m15, c16, m17, e18, hf, h19, h20⟩ := jcl_some hf
  refine wa_rcallV (st2 := [va_rf r12]) X dX10_changed_9 lmX10_132 lMX10_versionAt rfl h11 (mX10_versionAt e18) rfl rfl rfl (va_cats (Nat.le_of_ble_eq_true rfl)) (by decide) (by omega) (by omega) ?_
  refine wa_astore (L2 := [(6, va_rf r12), (5, va_rf r2), (0, va_rf (some a)), (1, .int x1), (2, .int x2), (3, .int x3), (4, .int x4)]) X dX10_changed_12 (by decide) (by first | rfl | (show (6, _) :: List.filter (fun q : Nat × Value => !(q.1 == 6) && !(q.1 + 1 == 6 && q.2.category == 2)) _ = _; simp [va_rf_cat, cat_i, cat_l])) ?_
  refine wa_aload X 1 dX10_changed_14 rfl ?_
  refine wa_ifnull (tgt := 39) X dX10_changed_16 (by decide) (fun h21 => ?_) (fun h21 => ?_)
  · rw [if_pos h21] at hf
    refine wa_iconst (v := (-1 : Int32)) X dX10_changed_39 (by decide) ?_
    obtain ⟨rfl, rfl, rfl, rfl⟩ := jret hf
    exact wa_iret X dX10_changed_40 rfl (by omega) (by omega)
  · rw [if_neg h21] at hf
    refine wa_aload X 0 dX10_changed_19 rfl ?_
    refine wa_ifnull (tgt := 39) X dX10_changed_21 (by decide) (fun h22 => ?_) (fun h22 => ?_)
    · rw [if_pos h22] at hf
      refine wa_iconst (v := (-1 : Int32)) X dX10_changed_39 (by decide) ?_
      obtain ⟨rfl, rfl, rfl, rfl⟩ := jret hf
      exact wa_iret X dX10_changed_40 rfl (by omega) (by omega)
    · rw [if_neg h22] at hf
      refine wa_iload_n X 5 dX10_changed_24 rfl ?_
      refine wa_iflt (tgt := 39) X dX10_changed_25 (by decide) (fun h23 => ?_) (fun h23 => ?_)
      · rw [if_pos h23] at hf
        refine wa_iconst (v := (-1 : Int32)) X dX10_changed_39 (by decide) ?_
        obtain ⟨rfl, rfl, rfl, rfl⟩ := jret hf
        exact wa_iret X dX10_changed_40 rfl (by omega) (by omega)
      · rw [if_neg h23] at hf
        refine wa_iload X 6 dX10_changed_28 rfl ?_
        refine wa_iflt (tgt := 39) X dX10_changed_30 (by decide) (fun h24 => ?_) (fun h24 => ?_)
        · rw [if_pos h24] at hf
          refine wa_iconst (v := (-1 : Int32)) X dX10_changed_39 (by decide) ?_
          obtain ⟨rfl, rfl, rfl, rfl⟩ := jret hf
          exact wa_iret X dX10_changed_40 rfl (by omega) (by omega)
        · rw [if_neg h24] at hf
          refine wa_iload X 6 dX10_changed_33 rfl ?_
          refine wa_iconst (v := (1 : Int32)) X dX10_changed_35 (by decide) ?_
          refine wa_icle (tgt := 41) X dX10_changed_36 (by decide) (fun h25 => ?_) (fun h25 => ?_)
          · rw [if_pos h25] at hf
            obtain ⟨q26, μ27, c30, m31, h28, hm29, hf, h32, h33⟩ := jnwo_some hf
            refine wa_new (t := 2) (N := 1) X dX10_changed_41 (by decide) rfl lcX10_75 li_RX1 ln_RX1 (by omega) (by omega) ?_
            rw [← h28, ← hm29]
            have h34 : (jT μ27 q26).1 = 2 := by rw [jT_at h28 hm29]
            refine wa_dup X dX10_changed_44 (va_rf_cat _) ?_
            obtain ⟨u35, μ36, c37, m38, c39, m40, e41, hf, h42, h43⟩ := jcl_some hf
            refine wa_rcallI (st2 := [va_rf (some q26)]) X dX10_changed_45 lmX10_77 lMX1_init rfl (mX1_init e41) rfl rfl rfl (va_cats (Nat.le_of_ble_eq_true rfl)) (by decide) (by omega) (by omega) ?_
            refine wa_astore (L2 := [(7, va_rf (some q26)), (6, va_rf r12), (5, va_rf r2), (0, va_rf (some a)), (1, .int x1), (2, .int x2), (3, .int x3), (4, .int x4)]) X dX10_changed_48 (by decide) (by first | rfl | (show (7, _) :: List.filter (fun q : Nat × Value => !(q.1 == 7) && !(q.1 + 1 == 7 && q.2.category == 2)) _ = _; simp [va_rf_cat, cat_i, cat_l])) ?_
            refine wa_iconst (v := (0 : Int32)) X dX10_changed_50 (by decide) ?_
            refine wa_istore (L2 := [(8, .int (0 : Int32)), (7, va_rf (some q26)), (6, va_rf r12), (5, va_rf r2), (0, va_rf (some a)), (1, .int x1), (2, .int x2), (3, .int x3), (4, .int x4)]) X dX10_changed_51 (by decide) (by first | rfl | (show (8, _) :: List.filter (fun q : Nat × Value => !(q.1 == 8) && !(q.1 + 1 == 8 && q.2.category == 2)) _ = _; simp [va_rf_cat, cat_i, cat_l])) ?_
            refine wa_iconst (v := (0 : Int32)) X dX10_changed_53 (by decide) ?_
            refine wa_istore (L2 := [(9, .int (0 : Int32)), (8, .int (0 : Int32)), (7, va_rf (some q26)), (6, va_rf r12), (5, va_rf r2), (0, va_rf (some a)), (1, .int x1), (2, .int x2), (3, .int x3), (4, .int x4)]) X dX10_changed_54 (by decide) (by first | rfl | (show (9, _) :: List.filter (fun q : Nat × Value => !(q.1 == 9) && !(q.1 + 1 == 9 && q.2.category == 2)) _ = _; simp [va_rf_cat, cat_i, cat_l])) ?_
            refine wa_sub (L2 := [(0, va_rf (some a)), (3, .int x3), (4, .int x4), (5, va_rf r2), (6, va_rf r12), (7, va_rf (some q26)), (8, .int (0 : Int32)), (9, .int (0 : Int32))]) [5, 8, 9, 4, 3, 2, 1, 0] rfl ?_
            exact gX10_changed_b56 X jfuel a x3 x4 r2 r12 (some q26) (0 : Int32) (0 : Int32) μ36 _ _ _ _ hf (by omega) (by omega)
          · rw [if_neg h25] at hf
            refine wa_iconst (v := (-1 : Int32)) X dX10_changed_39 (by decide) ?_
            obtain ⟨rfl, rfl, rfl, rfl⟩ := jret hf
            exact wa_iret X dX10_changed_40 rfl (by omega) (by omega)
theorem dX10_quarrel_0 : decode cX10_quarrel 0 = .ok (.aload_n 0, 1) := by decide +kernel
theorem dX10_quarrel_1 : decode cX10_quarrel 1 = .ok (.iload_n 1, 1) := by decide +kernel
theorem dX10_quarrel_2 : decode cX10_quarrel 2 = .ok (.invokevirtual 132, 3) := by decide +kernel
theorem dX10_quarrel_5 : decode cX10_quarrel 5 = .ok (.astore_n 2, 1) := by decide +kernel
theorem dX10_quarrel_6 : decode cX10_quarrel 6 = .ok (.aload_n 2, 1) := by decide +kernel
theorem dX10_quarrel_7 : decode cX10_quarrel 7 = .ok (.ifnonnull 6, 3) := by decide +kernel
theorem dX10_quarrel_10 : decode cX10_quarrel 10 = .ok (.bipush (-2), 2) := by decide +kernel
theorem dX10_quarrel_12 : decode cX10_quarrel 12 = .ok (.ireturn, 1) := by decide +kernel
theorem dX10_quarrel_13 : decode cX10_quarrel 13 = .ok (.new 75, 3) := by decide +kernel
theorem dX10_quarrel_16 : decode cX10_quarrel 16 = .ok (.dup, 1) := by decide +kernel
theorem dX10_quarrel_17 : decode cX10_quarrel 17 = .ok (.invokespecial 77, 3) := by decide +kernel
theorem dX10_quarrel_20 : decode cX10_quarrel 20 = .ok (.astore_n 3, 1) := by decide +kernel
theorem dX10_quarrel_21 : decode cX10_quarrel 21 = .ok (.iconst (-1), 1) := by decide +kernel
theorem dX10_quarrel_22 : decode cX10_quarrel 22 = .ok (.istore 4, 2) := by decide +kernel
theorem dX10_quarrel_24 : decode cX10_quarrel 24 = .ok (.iconst 0, 1) := by decide +kernel
theorem dX10_quarrel_25 : decode cX10_quarrel 25 = .ok (.istore 5, 2) := by decide +kernel
theorem dX10_quarrel_27 : decode cX10_quarrel 27 = .ok (.iload 5, 2) := by decide +kernel
theorem dX10_quarrel_29 : decode cX10_quarrel 29 = .ok (.aload_n 2, 1) := by decide +kernel
theorem dX10_quarrel_30 : decode cX10_quarrel 30 = .ok (.getfield 131, 3) := by decide +kernel
theorem dX10_quarrel_33 : decode cX10_quarrel 33 = .ok (.if_icmp .ge 85, 3) := by decide +kernel
theorem dX10_quarrel_36 : decode cX10_quarrel 36 = .ok (.iconst 0, 1) := by decide +kernel
theorem dX10_quarrel_37 : decode cX10_quarrel 37 = .ok (.istore 6, 2) := by decide +kernel
theorem dX10_quarrel_39 : decode cX10_quarrel 39 = .ok (.iload 6, 2) := by decide +kernel
theorem dX10_quarrel_41 : decode cX10_quarrel 41 = .ok (.aload_n 2, 1) := by decide +kernel
theorem dX10_quarrel_42 : decode cX10_quarrel 42 = .ok (.getfield 131, 3) := by decide +kernel
theorem dX10_quarrel_45 : decode cX10_quarrel 45 = .ok (.if_icmp .ge 67, 3) := by decide +kernel
theorem dX10_quarrel_48 : decode cX10_quarrel 48 = .ok (.aload_n 2, 1) := by decide +kernel
theorem dX10_quarrel_49 : decode cX10_quarrel 49 = .ok (.iload 5, 2) := by decide +kernel
theorem dX10_quarrel_51 : decode cX10_quarrel 51 = .ok (.iload 6, 2) := by decide +kernel
theorem dX10_quarrel_53 : decode cX10_quarrel 53 = .ok (.aload_n 3, 1) := by decide +kernel
theorem dX10_quarrel_54 : decode cX10_quarrel 54 = .ok (.invokevirtual 276, 3) := by decide +kernel
theorem dX10_quarrel_57 : decode cX10_quarrel 57 = .ok (.aload_n 3, 1) := by decide +kernel
theorem dX10_quarrel_58 : decode cX10_quarrel 58 = .ok (.aload_n 0, 1) := by decide +kernel
theorem dX10_quarrel_59 : decode cX10_quarrel 59 = .ok (.getfield 78, 3) := by decide +kernel
theorem dX10_quarrel_62 : decode cX10_quarrel 62 = .ok (.invokevirtual 177, 3) := by decide +kernel
theorem dX10_quarrel_65 : decode cX10_quarrel 65 = .ok (.aload_n 3, 1) := by decide +kernel
theorem dX10_quarrel_66 : decode cX10_quarrel 66 = .ok (.invokevirtual 269, 3) := by decide +kernel
theorem dX10_quarrel_69 : decode cX10_quarrel 69 = .ok (.istore 7, 2) := by decide +kernel
theorem dX10_quarrel_71 : decode cX10_quarrel 71 = .ok (.iload 7, 2) := by decide +kernel
theorem dX10_quarrel_73 : decode cX10_quarrel 73 = .ok (.iconst (-1), 1) := by decide +kernel
theorem dX10_quarrel_74 : decode cX10_quarrel 74 = .ok (.if_icmp .eq 32, 3) := by decide +kernel
theorem dX10_quarrel_77 : decode cX10_quarrel 77 = .ok (.iload 4, 2) := by decide +kernel
theorem dX10_quarrel_79 : decode cX10_quarrel 79 = .ok (.iconst (-1), 1) := by decide +kernel
theorem dX10_quarrel_80 : decode cX10_quarrel 80 = .ok (.if_icmp .eq 10, 3) := by decide +kernel
theorem dX10_quarrel_83 : decode cX10_quarrel 83 = .ok (.iload 7, 2) := by decide +kernel
theorem dX10_quarrel_85 : decode cX10_quarrel 85 = .ok (.iload 4, 2) := by decide +kernel
theorem dX10_quarrel_87 : decode cX10_quarrel 87 = .ok (.if_icmp .ge 19, 3) := by decide +kernel
theorem dX10_quarrel_90 : decode cX10_quarrel 90 = .ok (.iload 7, 2) := by decide +kernel
theorem dX10_quarrel_92 : decode cX10_quarrel 92 = .ok (.istore 4, 2) := by decide +kernel
theorem dX10_quarrel_94 : decode cX10_quarrel 94 = .ok (.aload_n 0, 1) := by decide +kernel
theorem dX10_quarrel_95 : decode cX10_quarrel 95 = .ok (.iload 5, 2) := by decide +kernel
theorem dX10_quarrel_97 : decode cX10_quarrel 97 = .ok (.putfield 93, 3) := by decide +kernel
theorem dX10_quarrel_100 : decode cX10_quarrel 100 = .ok (.aload_n 0, 1) := by decide +kernel
theorem dX10_quarrel_101 : decode cX10_quarrel 101 = .ok (.iload 6, 2) := by decide +kernel
theorem dX10_quarrel_103 : decode cX10_quarrel 103 = .ok (.putfield 97, 3) := by decide +kernel
theorem dX10_quarrel_106 : decode cX10_quarrel 106 = .ok (.iinc 6 1, 3) := by decide +kernel
theorem dX10_quarrel_109 : decode cX10_quarrel 109 = .ok (.goto (-70), 3) := by decide +kernel
theorem dX10_quarrel_112 : decode cX10_quarrel 112 = .ok (.iinc 5 1, 3) := by decide +kernel
theorem dX10_quarrel_115 : decode cX10_quarrel 115 = .ok (.goto (-88), 3) := by decide +kernel
theorem dX10_quarrel_118 : decode cX10_quarrel 118 = .ok (.iload 4, 2) := by decide +kernel
theorem dX10_quarrel_120 : decode cX10_quarrel 120 = .ok (.ireturn, 1) := by decide +kernel
def fX10_quarrel_b106 (rec27 : Nat → Option Nat → Option Nat → Int32 → Int32 → JM → JO (Int32)) (rec39 : Nat → Option Nat → Option Nat → Int32 → Int32 → Int32 → JM → JO (Int32)) (a : Nat) (p2 : Option Nat) (p3 : Option Nat) (x4 : Int32) (x5 : Int32) (x6 : Int32) (μ : JM) : JO (Int32) := rec39 a p2 p3 x4 x5 (x6 + (1 : Int32)) μ
set_option maxHeartbeats 4000000 in
set_option maxRecDepth 100000 in
theorem gX10_quarrel_b106 {b : Nat} {Θ : JE} {RC RS : Nat} {r : Int32} {ν : JM} (X : jX b Θ RX10 cX10_quarrel 8 (some .int) 3 64 RC RS) {rec27 : Nat → Option Nat → Option Nat → Int32 → Int32 → JM → JO (Int32)} (hrec27 : ∀ (a : Nat) (p2 : Option Nat) (p3 : Option Nat) (x4 : Int32) (x5 : Int32) (μ : JM) (c m k n : Nat), rec27 a p2 p3 x4 x5 μ = some (r, ν, c, m) → k + c = RC → n + m = RS → WA b Θ 8 (jE b Θ (some (.int r)) ν RC RS) μ k n 27 [(0, va_rf (some a)), (2, va_rf p2), (3, va_rf p3), (4, .int x4), (5, .int x5)] []) {rec39 : Nat → Option Nat → Option Nat → Int32 → Int32 → Int32 → JM → JO (Int32)} (hrec39 : ∀ (a : Nat) (p2 : Option Nat) (p3 : Option Nat) (x4 : Int32) (x5 : Int32) (x6 : Int32) (μ : JM) (c m k n : Nat), rec39 a p2 p3 x4 x5 x6 μ = some (r, ν, c, m) → k + c = RC → n + m = RS → WA b Θ 8 (jE b Θ (some (.int r)) ν RC RS) μ k n 39 [(0, va_rf (some a)), (2, va_rf p2), (3, va_rf p3), (4, .int x4), (5, .int x5), (6, .int x6)] []) (a : Nat) (p2 : Option Nat) (p3 : Option Nat) (x4 : Int32) (x5 : Int32) (x6 : Int32) (μ : JM) (c m k n : Nat) (hf : fX10_quarrel_b106 rec27 rec39 a p2 p3 x4 x5 x6 μ = some (r, ν, c, m)) (hk : k + c = RC) (hn : n + m = RS) : WA b Θ 8 (jE b Θ (some (.int r)) ν RC RS) μ k n 106 [(0, va_rf (some a)), (2, va_rf p2), (3, va_rf p3), (4, .int x4), (5, .int x5), (6, .int x6)] [] := by
  rw [fX10_quarrel_b106] at hf
  refine wa_iinc (v := (x6 + (1 : Int32))) (L2 := [(6, .int (x6 + (1 : Int32))), (0, va_rf (some a)), (2, va_rf p2), (3, va_rf p3), (4, .int x4), (5, .int x5)]) X 5 dX10_quarrel_106 rfl rfl (by decide) (by first | rfl | simp [va_rf_cat, cat_i, cat_l]) ?_
  refine wa_goto (tgt := 39) X dX10_quarrel_109 (by decide) ?_
  refine wa_sub (L2 := [(0, va_rf (some a)), (2, va_rf p2), (3, va_rf p3), (4, .int x4), (5, .int x5), (6, .int (x6 + (1 : Int32)))]) [1, 2, 3, 4, 5, 0] rfl ?_
  exact hrec39 a p2 p3 x4 x5 (x6 + (1 : Int32)) μ _ _ _ _ hf (by omega) (by omega)
def fX10_quarrel_b90 (rec27 : Nat → Option Nat → Option Nat → Int32 → Int32 → JM → JO (Int32)) (rec39 : Nat → Option Nat → Option Nat → Int32 → Int32 → Int32 → JM → JO (Int32)) (a : Nat) (p2 : Option Nat) (p3 : Option Nat) (x5 : Int32) (x6 : Int32) (x7 : Int32) (μ : JM) : JO (Int32) := jck ((jT μ a).1 == 11) <| jlt (jsI μ a 15 x5) fun μ74 => jlt (jsI μ74 a 16 x6) fun μ77 => fX10_quarrel_b106 rec27 rec39 a p2 p3 x7 x5 x6 μ77
set_option maxHeartbeats 4000000 in
set_option maxRecDepth 100000 in
theorem gX10_quarrel_b90 {b : Nat} {Θ : JE} {RC RS : Nat} {r : Int32} {ν : JM} (X : jX b Θ RX10 cX10_quarrel 8 (some .int) 3 64 RC RS) {rec27 : Nat → Option Nat → Option Nat → Int32 → Int32 → JM → JO (Int32)} (hrec27 : ∀ (a : Nat) (p2 : Option Nat) (p3 : Option Nat) (x4 : Int32) (x5 : Int32) (μ : JM) (c m k n : Nat), rec27 a p2 p3 x4 x5 μ = some (r, ν, c, m) → k + c = RC → n + m = RS → WA b Θ 8 (jE b Θ (some (.int r)) ν RC RS) μ k n 27 [(0, va_rf (some a)), (2, va_rf p2), (3, va_rf p3), (4, .int x4), (5, .int x5)] []) {rec39 : Nat → Option Nat → Option Nat → Int32 → Int32 → Int32 → JM → JO (Int32)} (hrec39 : ∀ (a : Nat) (p2 : Option Nat) (p3 : Option Nat) (x4 : Int32) (x5 : Int32) (x6 : Int32) (μ : JM) (c m k n : Nat), rec39 a p2 p3 x4 x5 x6 μ = some (r, ν, c, m) → k + c = RC → n + m = RS → WA b Θ 8 (jE b Θ (some (.int r)) ν RC RS) μ k n 39 [(0, va_rf (some a)), (2, va_rf p2), (3, va_rf p3), (4, .int x4), (5, .int x5), (6, .int x6)] []) (a : Nat) (p2 : Option Nat) (p3 : Option Nat) (x5 : Int32) (x6 : Int32) (x7 : Int32) (μ : JM) (c m k n : Nat) (hf : fX10_quarrel_b90 rec27 rec39 a p2 p3 x5 x6 x7 μ = some (r, ν, c, m)) (hk : k + c = RC) (hn : n + m = RS) : WA b Θ 8 (jE b Θ (some (.int r)) ν RC RS) μ k n 90 [(0, va_rf (some a)), (2, va_rf p2), (3, va_rf p3), (5, .int x5), (6, .int x6), (7, .int x7)] [] := by
  rw [fX10_quarrel_b90] at hf
  refine wa_iload X 5 dX10_quarrel_90 rfl ?_
  refine wa_istore (L2 := [(4, .int x7), (0, va_rf (some a)), (2, va_rf p2), (3, va_rf p3), (5, .int x5), (6, .int x6), (7, .int x7)]) X dX10_quarrel_92 (by decide) (by first | rfl | (show (4, _) :: List.filter (fun q : Nat × Value => !(q.1 == 4) && !(q.1 + 1 == 4 && q.2.category == 2)) _ = _; simp [va_rf_cat, cat_i, cat_l])) ?_
  refine wa_aload_n X 1 dX10_quarrel_94 rfl ?_
  refine wa_iload X 4 dX10_quarrel_95 rfl ?_
  obtain ⟨h73, hf⟩ := jckT hf
  obtain ⟨μ74, hm75, hf⟩ := jlt_e hf
  have e76 : jT μ74 = jT μ := by rw [hm75]; rfl
  refine wa_rputI (ν := μ74) X dX10_quarrel_97 lfX10_93 rfl h73 rfl rfl hm75 ?_
  refine wa_aload_n X 1 dX10_quarrel_100 rfl ?_
  refine wa_iload X 5 dX10_quarrel_101 rfl ?_
  obtain ⟨μ77, hm78, hf⟩ := jlt_e hf
  have e79 : jT μ77 = jT μ := by rw [hm78]; exact e76
  refine wa_rputI (ν := μ77) X dX10_quarrel_103 lfX10_97 rfl (by rw [e76]; exact h73) rfl rfl hm78 ?_
  refine wa_sub (L2 := [(0, va_rf (some a)), (2, va_rf p2), (3, va_rf p3), (4, .int x7), (5, .int x5), (6, .int x6)]) [1, 2, 3, 0, 4, 5] rfl ?_
  exact gX10_quarrel_b106 X hrec27 hrec39 a p2 p3 x7 x5 x6 μ77 _ _ _ _ hf (by omega) (by omega)
def fX10_quarrel_b39 (rec27 : Nat → Option Nat → Option Nat → Int32 → Int32 → JM → JO (Int32)) : Nat → Nat → Option Nat → Option Nat → Int32 → Int32 → Int32 → JM → JO (Int32)
  | 0, _, _, _, _, _, _, _ => none
  | fu + 1, a, p2, p3, x4, x5, x6, μ => jde p2 fun q34 => jck ((jT μ q34).1 == 9) <| if (jI μ q34 2) ≤ x6 then (rec27 a p2 p3 x4 (x5 + (1 : Int32)) μ) else (jcl (fX8_clash q34 x5 x6 p3 μ) fun u38 μ39 => jck ((jT μ39 a).1 == 11) <| jde p3 fun q48 => jck ((jT μ39 q48).1 == 2) <| jcl (fX1_and q48 (jP μ39 a 10) μ39) fun u51 μ52 => jck ((jT μ52 q48).1 == 2) <| jcl (fX1_least q48 μ52) fun r61 μ62 => if r61 = (-1 : Int32) then (fX10_quarrel_b106 rec27 (fX10_quarrel_b39 rec27 fu) a p2 p3 x4 x5 x6 μ62) else (if x4 = (-1 : Int32) then (fX10_quarrel_b90 rec27 (fX10_quarrel_b39 rec27 fu) a p2 p3 x5 x6 r61 μ62) else (if x4 ≤ r61 then (fX10_quarrel_b106 rec27 (fX10_quarrel_b39 rec27 fu) a p2 p3 x4 x5 x6 μ62) else (fX10_quarrel_b90 rec27 (fX10_quarrel_b39 rec27 fu) a p2 p3 x5 x6 r61 μ62))))
set_option maxHeartbeats 4000000 in
set_option maxRecDepth 100000 in
theorem gX10_quarrel_b39 {b : Nat} {Θ : JE} {RC RS : Nat} {r : Int32} {ν : JM} (X : jX b Θ RX10 cX10_quarrel 8 (some .int) 3 64 RC RS) {rec27 : Nat → Option Nat → Option Nat → Int32 → Int32 → JM → JO (Int32)} (hrec27 : ∀ (a : Nat) (p2 : Option Nat) (p3 : Option Nat) (x4 : Int32) (x5 : Int32) (μ : JM) (c m k n : Nat), rec27 a p2 p3 x4 x5 μ = some (r, ν, c, m) → k + c = RC → n + m = RS → WA b Θ 8 (jE b Θ (some (.int r)) ν RC RS) μ k n 27 [(0, va_rf (some a)), (2, va_rf p2), (3, va_rf p3), (4, .int x4), (5, .int x5)] []) : ∀ (fu : Nat) (a : Nat) (p2 : Option Nat) (p3 : Option Nat) (x4 : Int32) (x5 : Int32) (x6 : Int32) (μ : JM) (c m k n : Nat), fX10_quarrel_b39 rec27 fu a p2 p3 x4 x5 x6 μ = some (r, ν, c, m) → k + c = RC → n + m = RS → WA b Θ 8 (jE b Θ (some (.int r)) ν RC RS) μ k n 39 [(0, va_rf (some a)), (2, va_rf p2), (3, va_rf p3), (4, .int x4), (5, .int x5), (6, .int x6)] [] := by
  intro fu
  induction fu with
  | zero => intro a p2 p3 x4 x5 x6 μ c m k n hf; cases hf
  | succ fu ih =>
    intro a p2 p3 x4 x5 x6 μ c m k n hf hk hn
    rw [fX10_quarrel_b39] at hf
    refine wa_iload X 5 dX10_quarrel_39 rfl ?_
    refine wa_aload_n X 1 dX10_quarrel_41 rfl ?_
    obtain ⟨q34, h35, hf⟩ := jde_some hf
    obtain ⟨h36, hf⟩ := jckT hf
    refine wa_getI X dX10_quarrel_42 lfX10_131 h35 h36 rfl ?_
    refine wa_icge (tgt := 112) X dX10_quarrel_45 (by decide) (fun h37 => ?_) (fun h37 => ?_)
    · rw [if_pos h37] at hf
      refine wa_iinc (v := (x5 + (1 : Int32))) (L2 := [(5, .int (x5 + (1 : Int32))), (0, va_rf (some a)), (2, va_rf p2), (3, va_rf p3), (4, .int x4), (6, .int x6)]) X 4 dX10_quarrel_112 rfl rfl (by decide) (by first | rfl | simp [va_rf_cat, cat_i, cat_l]) ?_
      refine wa_goto (tgt := 27) X dX10_quarrel_115 (by decide) ?_
      refine wa_sub (L2 := [(0, va_rf (some a)), (2, va_rf p2), (3, va_rf p3), (4, .int x4), (5, .int (x5 + (1 : Int32)))]) [1, 2, 3, 4, 0] rfl ?_
      exact hrec27 a p2 p3 x4 (x5 + (1 : Int32)) μ _ _ _ _ hf (by omega) (by omega)
    · rw [if_neg h37] at hf
      refine wa_aload_n X 1 dX10_quarrel_48 rfl ?_
      refine wa_iload X 4 dX10_quarrel_49 rfl ?_
      refine wa_iload X 5 dX10_quarrel_51 rfl ?_
      refine wa_aload_n X 2 dX10_quarrel_53 rfl ?_
      obtain ⟨u38, μ39, c40, m41, c42, m43, e44, hf, h45, h46⟩ := jcl_some hf
      refine wa_rcallV (st2 := []) X dX10_quarrel_54 lmX10_276 lMX8_clash h35 h36 (mX8_clash e44) rfl rfl rfl (va_cats (Nat.le_of_ble_eq_true rfl)) (by decide) (by omega) (by omega) ?_
      refine wa_aload_n X 2 dX10_quarrel_57 rfl ?_
      refine wa_aload_n X 0 dX10_quarrel_58 rfl ?_
      obtain ⟨h47, hf⟩ := jckT hf
      refine wa_getP X dX10_quarrel_59 lfX10_78 rfl h47 rfl ?_
      obtain ⟨q48, h49, hf⟩ := jde_some hf
      obtain ⟨h50, hf⟩ := jckT hf
      obtain ⟨u51, μ52, c53, m54, c55, m56, e57, hf, h58, h59⟩ := jcl_some hf
      refine wa_rcallV (st2 := []) X dX10_quarrel_62 lmX10_177 lMX1_and h49 h50 (mX1_and e57) rfl rfl rfl (va_cats (Nat.le_of_ble_eq_true rfl)) (by decide) (by omega) (by omega) ?_
      refine wa_aload_n X 2 dX10_quarrel_65 rfl ?_
      obtain ⟨h60, hf⟩ := jckT hf
      obtain ⟨r61, μ62, c63, m64, c65, m66, e67, hf, h68, h69⟩ := jcl_some hf
      refine wa_rcallV (st2 := [.int r61]) X dX10_quarrel_66 lmX10_269 lMX1_least h49 h60 (mX1_least e67) rfl rfl rfl (va_cats (Nat.le_of_ble_eq_true rfl)) (by decide) (by omega) (by omega) ?_
      refine wa_istore (L2 := [(7, .int r61), (0, va_rf (some a)), (2, va_rf p2), (3, va_rf p3), (4, .int x4), (5, .int x5), (6, .int x6)]) X dX10_quarrel_69 (by decide) (by first | rfl | (show (7, _) :: List.filter (fun q : Nat × Value => !(q.1 == 7) && !(q.1 + 1 == 7 && q.2.category == 2)) _ = _; simp [va_rf_cat, cat_i, cat_l])) ?_
      refine wa_iload X 0 dX10_quarrel_71 rfl ?_
      refine wa_iconst (v := (-1 : Int32)) X dX10_quarrel_73 (by decide) ?_
      refine wa_iceq (tgt := 106) X dX10_quarrel_74 (by decide) (fun h70 => ?_) (fun h70 => ?_)
      · rw [if_pos h70] at hf
        refine wa_sub (L2 := [(0, va_rf (some a)), (2, va_rf p2), (3, va_rf p3), (4, .int x4), (5, .int x5), (6, .int x6)]) [1, 2, 3, 4, 5, 6] rfl ?_
        exact gX10_quarrel_b106 X hrec27 ih a p2 p3 x4 x5 x6 μ62 _ _ _ _ hf (by omega) (by omega)
      · rw [if_neg h70] at hf
        refine wa_iload X 4 dX10_quarrel_77 rfl ?_
        refine wa_iconst (v := (-1 : Int32)) X dX10_quarrel_79 (by decide) ?_
        refine wa_iceq (tgt := 90) X dX10_quarrel_80 (by decide) (fun h71 => ?_) (fun h71 => ?_)
        · rw [if_pos h71] at hf
          refine wa_sub (L2 := [(0, va_rf (some a)), (2, va_rf p2), (3, va_rf p3), (5, .int x5), (6, .int x6), (7, .int r61)]) [1, 2, 3, 5, 6, 0] rfl ?_
          exact gX10_quarrel_b90 X hrec27 ih a p2 p3 x5 x6 r61 μ62 _ _ _ _ hf (by omega) (by omega)
        · rw [if_neg h71] at hf
          refine wa_iload X 0 dX10_quarrel_83 rfl ?_
          refine wa_iload X 4 dX10_quarrel_85 rfl ?_
          refine wa_icge (tgt := 106) X dX10_quarrel_87 (by decide) (fun h72 => ?_) (fun h72 => ?_)
          · rw [if_pos h72] at hf
            refine wa_sub (L2 := [(0, va_rf (some a)), (2, va_rf p2), (3, va_rf p3), (4, .int x4), (5, .int x5), (6, .int x6)]) [1, 2, 3, 4, 5, 6] rfl ?_
            exact gX10_quarrel_b106 X hrec27 ih a p2 p3 x4 x5 x6 μ62 _ _ _ _ hf (by omega) (by omega)
          · rw [if_neg h72] at hf
            refine wa_sub (L2 := [(0, va_rf (some a)), (2, va_rf p2), (3, va_rf p3), (5, .int x5), (6, .int x6), (7, .int r61)]) [1, 2, 3, 5, 6, 0] rfl ?_
            exact gX10_quarrel_b90 X hrec27 ih a p2 p3 x5 x6 r61 μ62 _ _ _ _ hf (by omega) (by omega)
def fX10_quarrel_b27 : Nat → Nat → Option Nat → Option Nat → Int32 → Int32 → JM → JO (Int32)
  | 0, _, _, _, _, _, _ => none
  | fu + 1, a, p2, p3, x4, x5, μ => jde p2 fun q30 => jck ((jT μ q30).1 == 9) <| if (jI μ q30 2) ≤ x5 then (some (x4, μ, 0, 0)) else (fX10_quarrel_b39 (fX10_quarrel_b27 fu) jfuel a p2 p3 x4 x5 (0 : Int32) μ)
set_option maxHeartbeats 4000000 in
set_option maxRecDepth 100000 in
theorem gX10_quarrel_b27 {b : Nat} {Θ : JE} {RC RS : Nat} {r : Int32} {ν : JM} (X : jX b Θ RX10 cX10_quarrel 8 (some .int) 3 64 RC RS) : ∀ (fu : Nat) (a : Nat) (p2 : Option Nat) (p3 : Option Nat) (x4 : Int32) (x5 : Int32) (μ : JM) (c m k n : Nat), fX10_quarrel_b27 fu a p2 p3 x4 x5 μ = some (r, ν, c, m) → k + c = RC → n + m = RS → WA b Θ 8 (jE b Θ (some (.int r)) ν RC RS) μ k n 27 [(0, va_rf (some a)), (2, va_rf p2), (3, va_rf p3), (4, .int x4), (5, .int x5)] [] := by
  intro fu
  induction fu with
  | zero => intro a p2 p3 x4 x5 μ c m k n hf; cases hf
  | succ fu ih =>
    intro a p2 p3 x4 x5 μ c m k n hf hk hn
    rw [fX10_quarrel_b27] at hf
    refine wa_iload X 4 dX10_quarrel_27 rfl ?_
    refine wa_aload_n X 1 dX10_quarrel_29 rfl ?_
    obtain ⟨q30, h31, hf⟩ := jde_some hf
    obtain ⟨h32, hf⟩ := jckT hf
    refine wa_getI X dX10_quarrel_30 lfX10_131 h31 h32 rfl ?_
    refine wa_icge (tgt := 118) X dX10_quarrel_33 (by decide) (fun h33 => ?_) (fun h33 => ?_)
    · rw [if_pos h33] at hf
      refine wa_iload X 3 dX10_quarrel_118 rfl ?_
      obtain ⟨rfl, rfl, rfl, rfl⟩ := jret hf
      exact wa_iret X dX10_quarrel_120 rfl (by omega) (by omega)
    · rw [if_neg h33] at hf
      refine wa_iconst (v := (0 : Int32)) X dX10_quarrel_36 (by decide) ?_
      refine wa_istore (L2 := [(6, .int (0 : Int32)), (0, va_rf (some a)), (2, va_rf p2), (3, va_rf p3), (4, .int x4), (5, .int x5)]) X dX10_quarrel_37 (by decide) (by first | rfl | (show (6, _) :: List.filter (fun q : Nat × Value => !(q.1 == 6) && !(q.1 + 1 == 6 && q.2.category == 2)) _ = _; simp [va_rf_cat, cat_i, cat_l])) ?_
      refine wa_sub (L2 := [(0, va_rf (some a)), (2, va_rf p2), (3, va_rf p3), (4, .int x4), (5, .int x5), (6, .int (0 : Int32))]) [1, 2, 3, 4, 5, 0] rfl ?_
      exact gX10_quarrel_b39 X ih jfuel a p2 p3 x4 x5 (0 : Int32) μ _ _ _ _ hf (by omega) (by omega)
def fX10_quarrel (a : Nat) (x1 : Int32) (μ : JM) : JO (Int32) := jck ((jT μ a).1 == 11) <| jcl (fX10_versionAt a x1 μ) fun r2 μ3 => if r2 = none then (some ((-2 : Int32), μ3, 0, 0)) else (jnwo μ3 2 1 fun q12 μ13 => jcl (fX1_init q12 μ13) fun u21 μ22 => fX10_quarrel_b27  jfuel a r2 (some q12) (-1 : Int32) (0 : Int32) μ22)
set_option maxHeartbeats 4000000 in
set_option maxRecDepth 100000 in
theorem mX10_quarrel {b : Nat} {a : Nat} {x1 : Int32} {μ : JM} {r : Int32} {ν : JM} {c m : Nat} (hf : fX10_quarrel a x1 μ = some (r, ν, c, m)) : JMet b yX10_quarrel cX10_quarrel 8 (some .int) 3 64 [va_rf (some a), .int x1] μ (some (.int r)) ν c m := by
  refine JMet.of (by decide) (lg_sl_le (by simp only [List.map_cons, List.map_nil, List.sum_cons, List.sum_nil, va_rf_cat]; exact Nat.le_of_ble_eq_true rfl)) (fun Θ X hin => ?_)
  refine wa_eq (L2 := [(0, va_rf (some a)), (1, .int x1)]) ?_ rfl (by first | rfl | simp [lv_args, va_rf_cat, cat_i, cat_l]) rfl
  obtain ⟨k, hk0⟩ : ∃ k : Nat, k = 0 := ⟨0, rfl⟩
  obtain ⟨n, hn0⟩ : ∃ n : Nat, n = 0 := ⟨0, rfl⟩
  have hk : k + c = c := by omega
  have hn : n + m = m := by omega
  refine wa_costs hk0.symm hn0.symm ?_
  rw [fX10_quarrel] at hf
  refine wa_aload_n X 0 dX10_quarrel_0 rfl ?_
  refine wa_iload_n X 1 dX10_quarrel_1 rfl ?_
  obtain ⟨h1, hf⟩ := jckT hf
  obtain ⟨r2, μ3, c4, m5, c6, m7, e8, hf, h9, h10⟩ := jcl_some hf
  refine wa_rcallV (st2 := [va_rf r2]) X dX10_quarrel_2 lmX10_132 lMX10_versionAt rfl h1 (mX10_versionAt e8) rfl rfl rfl (va_cats (Nat.le_of_ble_eq_true rfl)) (by decide) (by omega) (by omega) ?_
  refine wa_astore_n (L2 := [(2, va_rf r2), (0, va_rf (some a)), (1, .int x1)]) X dX10_quarrel_5 (by decide) (by first | rfl | (show (2, _) :: List.filter (fun q : Nat × Value => !(q.1 == 2) && !(q.1 + 1 == 2 && q.2.category == 2)) _ = _; simp [va_rf_cat, cat_i, cat_l])) ?_
  refine wa_aload_n X 0 dX10_quarrel_6 rfl ?_
  refine wa_ifnonnull (tgt := 13) X dX10_quarrel_7 (by decide) (fun h11 => ?_) (fun h11 => ?_)
  · rw [if_neg h11] at hf
    obtain ⟨q12, μ13, c16, m17, h14, hm15, hf, h18, h19⟩ := jnwo_some hf
    refine wa_new (t := 2) (N := 1) X dX10_quarrel_13 (by decide) rfl lcX10_75 li_RX1 ln_RX1 (by omega) (by omega) ?_
    rw [← h14, ← hm15]
    have h20 : (jT μ13 q12).1 = 2 := by rw [jT_at h14 hm15]
    refine wa_dup X dX10_quarrel_16 (va_rf_cat _) ?_
    obtain ⟨u21, μ22, c23, m24, c25, m26, e27, hf, h28, h29⟩ := jcl_some hf
    refine wa_rcallI (st2 := [va_rf (some q12)]) X dX10_quarrel_17 lmX10_77 lMX1_init rfl (mX1_init e27) rfl rfl rfl (va_cats (Nat.le_of_ble_eq_true rfl)) (by decide) (by omega) (by omega) ?_
    refine wa_astore_n (L2 := [(3, va_rf (some q12)), (2, va_rf r2), (0, va_rf (some a)), (1, .int x1)]) X dX10_quarrel_20 (by decide) (by first | rfl | (show (3, _) :: List.filter (fun q : Nat × Value => !(q.1 == 3) && !(q.1 + 1 == 3 && q.2.category == 2)) _ = _; simp [va_rf_cat, cat_i, cat_l])) ?_
    refine wa_iconst (v := (-1 : Int32)) X dX10_quarrel_21 (by decide) ?_
    refine wa_istore (L2 := [(4, .int (-1 : Int32)), (3, va_rf (some q12)), (2, va_rf r2), (0, va_rf (some a)), (1, .int x1)]) X dX10_quarrel_22 (by decide) (by first | rfl | (show (4, _) :: List.filter (fun q : Nat × Value => !(q.1 == 4) && !(q.1 + 1 == 4 && q.2.category == 2)) _ = _; simp [va_rf_cat, cat_i, cat_l])) ?_
    refine wa_iconst (v := (0 : Int32)) X dX10_quarrel_24 (by decide) ?_
    refine wa_istore (L2 := [(5, .int (0 : Int32)), (4, .int (-1 : Int32)), (3, va_rf (some q12)), (2, va_rf r2), (0, va_rf (some a)), (1, .int x1)]) X dX10_quarrel_25 (by decide) (by first | rfl | (show (5, _) :: List.filter (fun q : Nat × Value => !(q.1 == 5) && !(q.1 + 1 == 5 && q.2.category == 2)) _ = _; simp [va_rf_cat, cat_i, cat_l])) ?_
    refine wa_sub (L2 := [(0, va_rf (some a)), (2, va_rf r2), (3, va_rf (some q12)), (4, .int (-1 : Int32)), (5, .int (0 : Int32))]) [4, 3, 2, 1, 0] rfl ?_
    exact gX10_quarrel_b27 X jfuel a r2 (some q12) (-1 : Int32) (0 : Int32) μ22 _ _ _ _ hf (by omega) (by omega)
  · rw [if_pos h11] at hf
    refine wa_bipush (v := (-2 : Int32)) X dX10_quarrel_10 (by decide) ?_
    obtain ⟨rfl, rfl, rfl, rfl⟩ := jret hf
    exact wa_iret X dX10_quarrel_12 rfl (by omega) (by omega)
theorem dX10_quarreling_0 : decode cX10_quarreling 0 = .ok (.iload_n 1, 1) := by decide +kernel
theorem dX10_quarreling_1 : decode cX10_quarreling 1 = .ok (.lookupswitch 37 #[(0, 27), (1, 32)], 27) := by decide +kernel
theorem dX10_quarreling_28 : decode cX10_quarreling 28 = .ok (.aload_n 0, 1) := by decide +kernel
theorem dX10_quarreling_29 : decode cX10_quarreling 29 = .ok (.getfield 93, 3) := by decide +kernel
theorem dX10_quarreling_32 : decode cX10_quarreling 32 = .ok (.ireturn, 1) := by decide +kernel
theorem dX10_quarreling_33 : decode cX10_quarreling 33 = .ok (.aload_n 0, 1) := by decide +kernel
theorem dX10_quarreling_34 : decode cX10_quarreling 34 = .ok (.getfield 97, 3) := by decide +kernel
theorem dX10_quarreling_37 : decode cX10_quarreling 37 = .ok (.ireturn, 1) := by decide +kernel
theorem dX10_quarreling_38 : decode cX10_quarreling 38 = .ok (.iconst (-1), 1) := by decide +kernel
theorem dX10_quarreling_39 : decode cX10_quarreling 39 = .ok (.ireturn, 1) := by decide +kernel
def fX10_quarreling (a : Nat) (x1 : Int32) (μ : JM) : JO (Int32) := if x1 = (0 : Int32) then (jck ((jT μ a).1 == 11) <| some ((jI μ a 15), μ, 0, 0)) else (if x1 = (1 : Int32) then (jck ((jT μ a).1 == 11) <| some ((jI μ a 16), μ, 0, 0)) else (some ((-1 : Int32), μ, 0, 0)))
set_option maxHeartbeats 4000000 in
set_option maxRecDepth 100000 in
theorem mX10_quarreling {b : Nat} {a : Nat} {x1 : Int32} {μ : JM} {r : Int32} {ν : JM} {c m : Nat} (hf : fX10_quarreling a x1 μ = some (r, ν, c, m)) : JMet b yX10_quarreling cX10_quarreling 2 (some .int) 0 0 [va_rf (some a), .int x1] μ (some (.int r)) ν c m := by
  refine JMet.of (by decide) (lg_sl_le (by simp only [List.map_cons, List.map_nil, List.sum_cons, List.sum_nil, va_rf_cat]; exact Nat.le_of_ble_eq_true rfl)) (fun Θ X hin => ?_)
  refine wa_eq (L2 := [(0, va_rf (some a)), (1, .int x1)]) ?_ rfl (by first | rfl | simp [lv_args, va_rf_cat, cat_i, cat_l]) rfl
  obtain ⟨k, hk0⟩ : ∃ k : Nat, k = 0 := ⟨0, rfl⟩
  obtain ⟨n, hn0⟩ : ∃ n : Nat, n = 0 := ⟨0, rfl⟩
  have hk : k + c = c := by omega
  have hn : n + m = m := by omega
  refine wa_costs hk0.symm hn0.symm ?_
  rw [fX10_quarreling] at hf
  refine wa_iload_n X 1 dX10_quarreling_0 rfl ?_
  by_cases h1 : x1 = (0 : Int32)
  · rw [if_pos h1] at hf
    refine wa_look (tgt := 28) (off := 27) X dX10_quarreling_1 (by decide) (by rw [h1]; rfl) (by decide) ?_
    refine wa_aload_n X 0 dX10_quarreling_28 rfl ?_
    obtain ⟨h2, hf⟩ := jckT hf
    refine wa_getI X dX10_quarreling_29 lfX10_93 rfl h2 rfl ?_
    obtain ⟨rfl, rfl, rfl, rfl⟩ := jret hf
    exact wa_iret X dX10_quarreling_32 rfl (by omega) (by omega)
  rw [if_neg h1] at hf
  by_cases h3 : x1 = (1 : Int32)
  · rw [if_pos h3] at hf
    refine wa_look (tgt := 33) (off := 32) X dX10_quarreling_1 (by decide) (by rw [h3]; rfl) (by decide) ?_
    refine wa_aload_n X 0 dX10_quarreling_33 rfl ?_
    obtain ⟨h4, hf⟩ := jckT hf
    refine wa_getI X dX10_quarreling_34 lfX10_97 rfl h4 rfl ?_
    obtain ⟨rfl, rfl, rfl, rfl⟩ := jret hf
    exact wa_iret X dX10_quarreling_37 rfl (by omega) (by omega)
  rw [if_neg h3] at hf
  refine wa_look (tgt := 38) (off := 37) X dX10_quarreling_1 (by decide) (by show Op.lookupswitch.offset [(0, 27), (1, 32)] 37 _ = _; rw [lv_osw h1 (show ((0 : Int32)).toInt = 0 from rfl), lv_osw h3 (show ((1 : Int32)).toInt = 1 from rfl)]; rfl) (by decide) ?_
  refine wa_iconst (v := (-1 : Int32)) X dX10_quarreling_38 (by decide) ?_
  obtain ⟨rfl, rfl, rfl, rfl⟩ := jret hf
  exact wa_iret X dX10_quarreling_39 rfl (by omega) (by omega)
theorem dX10_gap_0 : decode cX10_gap 0 = .ok (.aload_n 0, 1) := by decide +kernel
theorem dX10_gap_1 : decode cX10_gap 1 = .ok (.iload_n 1, 1) := by decide +kernel
theorem dX10_gap_2 : decode cX10_gap 2 = .ok (.invokevirtual 132, 3) := by decide +kernel
theorem dX10_gap_5 : decode cX10_gap 5 = .ok (.astore_n 3, 1) := by decide +kernel
theorem dX10_gap_6 : decode cX10_gap 6 = .ok (.aload_n 3, 1) := by decide +kernel
theorem dX10_gap_7 : decode cX10_gap 7 = .ok (.ifnull 18, 3) := by decide +kernel
theorem dX10_gap_10 : decode cX10_gap 10 = .ok (.iload_n 2, 1) := by decide +kernel
theorem dX10_gap_11 : decode cX10_gap 11 = .ok (.ifCond .lt 14, 3) := by decide +kernel
theorem dX10_gap_14 : decode cX10_gap 14 = .ok (.iload_n 2, 1) := by decide +kernel
theorem dX10_gap_15 : decode cX10_gap 15 = .ok (.aload_n 0, 1) := by decide +kernel
theorem dX10_gap_16 : decode cX10_gap 16 = .ok (.getfield 42, 3) := by decide +kernel
theorem dX10_gap_19 : decode cX10_gap 19 = .ok (.getfield 109, 3) := by decide +kernel
theorem dX10_gap_22 : decode cX10_gap 22 = .ok (.if_icmp .lt 6, 3) := by decide +kernel
theorem dX10_gap_25 : decode cX10_gap 25 = .ok (.bipush (-2), 2) := by decide +kernel
theorem dX10_gap_27 : decode cX10_gap 27 = .ok (.ireturn, 1) := by decide +kernel
theorem dX10_gap_28 : decode cX10_gap 28 = .ok (.new 75, 3) := by decide +kernel
theorem dX10_gap_31 : decode cX10_gap 31 = .ok (.dup, 1) := by decide +kernel
theorem dX10_gap_32 : decode cX10_gap 32 = .ok (.invokespecial 77, 3) := by decide +kernel
theorem dX10_gap_35 : decode cX10_gap 35 = .ok (.astore 4, 2) := by decide +kernel
theorem dX10_gap_37 : decode cX10_gap 37 = .ok (.aload_n 3, 1) := by decide +kernel
theorem dX10_gap_38 : decode cX10_gap 38 = .ok (.iload_n 2, 1) := by decide +kernel
theorem dX10_gap_39 : decode cX10_gap 39 = .ok (.aload 4, 2) := by decide +kernel
theorem dX10_gap_41 : decode cX10_gap 41 = .ok (.invokevirtual 280, 3) := by decide +kernel
theorem dX10_gap_44 : decode cX10_gap 44 = .ok (.aload 4, 2) := by decide +kernel
theorem dX10_gap_46 : decode cX10_gap 46 = .ok (.invokevirtual 284, 3) := by decide +kernel
theorem dX10_gap_49 : decode cX10_gap 49 = .ok (.aload 4, 2) := by decide +kernel
theorem dX10_gap_51 : decode cX10_gap 51 = .ok (.aload_n 0, 1) := by decide +kernel
theorem dX10_gap_52 : decode cX10_gap 52 = .ok (.getfield 78, 3) := by decide +kernel
theorem dX10_gap_55 : decode cX10_gap 55 = .ok (.invokevirtual 177, 3) := by decide +kernel
theorem dX10_gap_58 : decode cX10_gap 58 = .ok (.aload 4, 2) := by decide +kernel
theorem dX10_gap_60 : decode cX10_gap 60 = .ok (.invokevirtual 269, 3) := by decide +kernel
theorem dX10_gap_63 : decode cX10_gap 63 = .ok (.ireturn, 1) := by decide +kernel
def fX10_gap (a : Nat) (x1 : Int32) (x2 : Int32) (μ : JM) : JO (Int32) := jck ((jT μ a).1 == 11) <| jcl (fX10_versionAt a x1 μ) fun r2 μ3 => if r2 = none then (some ((-2 : Int32), μ3, 0, 0)) else (if x2 < 0 then (some ((-2 : Int32), μ3, 0, 0)) else (jck ((jT μ3 a).1 == 11) <| jde (jP μ3 a 5) fun q14 => jck ((jT μ3 q14).1 == 10) <| if x2 < (jI μ3 q14 1) then (jnwo μ3 2 1 fun q18 μ19 => jcl (fX1_init q18 μ19) fun u27 μ28 => jde r2 fun q36 => jck ((jT μ28 q36).1 == 9) <| jcl (fX8_addOwing q36 x2 (some q18) μ28) fun u39 μ40 => jck ((jT μ40 q18).1 == 2) <| jcl (fX1_flip q18 μ40) fun u49 μ50 => jck ((jT μ50 a).1 == 11) <| jck ((jT μ50 q18).1 == 2) <| jcl (fX1_and q18 (jP μ50 a 10) μ50) fun u60 μ61 => jck ((jT μ61 q18).1 == 2) <| jcl (fX1_least q18 μ61) fun r70 μ71 => some (r70, μ71, 0, 0)) else (some ((-2 : Int32), μ3, 0, 0))))
set_option maxHeartbeats 4000000 in
set_option maxRecDepth 100000 in
theorem mX10_gap {b : Nat} {a : Nat} {x1 : Int32} {x2 : Int32} {μ : JM} {r : Int32} {ν : JM} {c m : Nat} (hf : fX10_gap a x1 x2 μ = some (r, ν, c, m)) : JMet b yX10_gap cX10_gap 5 (some .int) 3 64 [va_rf (some a), .int x1, .int x2] μ (some (.int r)) ν c m := by
  refine JMet.of (by decide) (lg_sl_le (by simp only [List.map_cons, List.map_nil, List.sum_cons, List.sum_nil, va_rf_cat]; exact Nat.le_of_ble_eq_true rfl)) (fun Θ X hin => ?_)
  refine wa_eq (L2 := [(0, va_rf (some a)), (1, .int x1), (2, .int x2)]) ?_ rfl (by first | rfl | simp [lv_args, va_rf_cat, cat_i, cat_l]) rfl
  obtain ⟨k, hk0⟩ : ∃ k : Nat, k = 0 := ⟨0, rfl⟩
  obtain ⟨n, hn0⟩ : ∃ n : Nat, n = 0 := ⟨0, rfl⟩
  have hk : k + c = c := by omega
  have hn : n + m = m := by omega
  refine wa_costs hk0.symm hn0.symm ?_
  rw [fX10_gap] at hf
  refine wa_aload_n X 0 dX10_gap_0 rfl ?_
  refine wa_iload_n X 1 dX10_gap_1 rfl ?_
  obtain ⟨h1, hf⟩ := jckT hf
  obtain ⟨r2, μ3, c4, m5, c6, m7, e8, hf, h9, h10⟩ := jcl_some hf
  refine wa_rcallV (st2 := [va_rf r2]) X dX10_gap_2 lmX10_132 lMX10_versionAt rfl h1 (mX10_versionAt e8) rfl rfl rfl (va_cats (Nat.le_of_ble_eq_true rfl)) (by decide) (by omega) (by omega) ?_
  refine wa_astore_n (L2 := [(3, va_rf r2), (0, va_rf (some a)), (1, .int x1), (2, .int x2)]) X dX10_gap_5 (by decide) (by first | rfl | (show (3, _) :: List.filter (fun q : Nat × Value => !(q.1 == 3) && !(q.1 + 1 == 3 && q.2.category == 2)) _ = _; simp [va_rf_cat, cat_i, cat_l])) ?_
  refine wa_aload_n X 0 dX10_gap_6 rfl ?_
  refine wa_ifnull (tgt := 25) X dX10_gap_7 (by decide) (fun h11 => ?_) (fun h11 => ?_)
  · rw [if_pos h11] at hf
    refine wa_bipush (v := (-2 : Int32)) X dX10_gap_25 (by decide) ?_
    obtain ⟨rfl, rfl, rfl, rfl⟩ := jret hf
    exact wa_iret X dX10_gap_27 rfl (by omega) (by omega)
  · rw [if_neg h11] at hf
    refine wa_iload_n X 3 dX10_gap_10 rfl ?_
    refine wa_iflt (tgt := 25) X dX10_gap_11 (by decide) (fun h12 => ?_) (fun h12 => ?_)
    · rw [if_pos h12] at hf
      refine wa_bipush (v := (-2 : Int32)) X dX10_gap_25 (by decide) ?_
      obtain ⟨rfl, rfl, rfl, rfl⟩ := jret hf
      exact wa_iret X dX10_gap_27 rfl (by omega) (by omega)
    · rw [if_neg h12] at hf
      refine wa_iload_n X 3 dX10_gap_14 rfl ?_
      refine wa_aload_n X 1 dX10_gap_15 rfl ?_
      obtain ⟨h13, hf⟩ := jckT hf
      refine wa_getP X dX10_gap_16 lfX10_42 rfl h13 rfl ?_
      obtain ⟨q14, h15, hf⟩ := jde_some hf
      obtain ⟨h16, hf⟩ := jckT hf
      refine wa_getI X dX10_gap_19 lfX10_109 h15 h16 rfl ?_
      refine wa_iclt (tgt := 28) X dX10_gap_22 (by decide) (fun h17 => ?_) (fun h17 => ?_)
      · rw [if_pos h17] at hf
        obtain ⟨q18, μ19, c22, m23, h20, hm21, hf, h24, h25⟩ := jnwo_some hf
        refine wa_new (t := 2) (N := 1) X dX10_gap_28 (by decide) rfl lcX10_75 li_RX1 ln_RX1 (by omega) (by omega) ?_
        rw [← h20, ← hm21]
        have h26 : (jT μ19 q18).1 = 2 := by rw [jT_at h20 hm21]
        refine wa_dup X dX10_gap_31 (va_rf_cat _) ?_
        obtain ⟨u27, μ28, c29, m30, c31, m32, e33, hf, h34, h35⟩ := jcl_some hf
        refine wa_rcallI (st2 := [va_rf (some q18)]) X dX10_gap_32 lmX10_77 lMX1_init rfl (mX1_init e33) rfl rfl rfl (va_cats (Nat.le_of_ble_eq_true rfl)) (by decide) (by omega) (by omega) ?_
        refine wa_astore (L2 := [(4, va_rf (some q18)), (3, va_rf r2), (0, va_rf (some a)), (1, .int x1), (2, .int x2)]) X dX10_gap_35 (by decide) (by first | rfl | (show (4, _) :: List.filter (fun q : Nat × Value => !(q.1 == 4) && !(q.1 + 1 == 4 && q.2.category == 2)) _ = _; simp [va_rf_cat, cat_i, cat_l])) ?_
        refine wa_aload_n X 1 dX10_gap_37 rfl ?_
        refine wa_iload_n X 4 dX10_gap_38 rfl ?_
        refine wa_aload X 0 dX10_gap_39 rfl ?_
        obtain ⟨q36, h37, hf⟩ := jde_some hf
        obtain ⟨h38, hf⟩ := jckT hf
        obtain ⟨u39, μ40, c41, m42, c43, m44, e45, hf, h46, h47⟩ := jcl_some hf
        refine wa_rcallV (st2 := []) X dX10_gap_41 lmX10_280 lMX8_addOwing h37 h38 (mX8_addOwing e45) rfl rfl rfl (va_cats (Nat.le_of_ble_eq_true rfl)) (by decide) (by omega) (by omega) ?_
        refine wa_aload X 0 dX10_gap_44 rfl ?_
        obtain ⟨h48, hf⟩ := jckT hf
        obtain ⟨u49, μ50, c51, m52, c53, m54, e55, hf, h56, h57⟩ := jcl_some hf
        refine wa_rcallV (st2 := []) X dX10_gap_46 lmX10_284 lMX1_flip rfl h48 (mX1_flip e55) rfl rfl rfl (va_cats (Nat.le_of_ble_eq_true rfl)) (by decide) (by omega) (by omega) ?_
        refine wa_aload X 0 dX10_gap_49 rfl ?_
        refine wa_aload_n X 2 dX10_gap_51 rfl ?_
        obtain ⟨h58, hf⟩ := jckT hf
        refine wa_getP X dX10_gap_52 lfX10_78 rfl h58 rfl ?_
        obtain ⟨h59, hf⟩ := jckT hf
        obtain ⟨u60, μ61, c62, m63, c64, m65, e66, hf, h67, h68⟩ := jcl_some hf
        refine wa_rcallV (st2 := []) X dX10_gap_55 lmX10_177 lMX1_and rfl h59 (mX1_and e66) rfl rfl rfl (va_cats (Nat.le_of_ble_eq_true rfl)) (by decide) (by omega) (by omega) ?_
        refine wa_aload X 0 dX10_gap_58 rfl ?_
        obtain ⟨h69, hf⟩ := jckT hf
        obtain ⟨r70, μ71, c72, m73, c74, m75, e76, hf, h77, h78⟩ := jcl_some hf
        refine wa_rcallV (st2 := [.int r70]) X dX10_gap_60 lmX10_269 lMX1_least rfl h69 (mX1_least e76) rfl rfl rfl (va_cats (Nat.le_of_ble_eq_true rfl)) (by decide) (by omega) (by omega) ?_
        obtain ⟨rfl, rfl, rfl, rfl⟩ := jret hf
        exact wa_iret X dX10_gap_63 rfl (by omega) (by omega)
      · rw [if_neg h17] at hf
        refine wa_bipush (v := (-2 : Int32)) X dX10_gap_25 (by decide) ?_
        obtain ⟨rfl, rfl, rfl, rfl⟩ := jret hf
        exact wa_iret X dX10_gap_27 rfl (by omega) (by omega)
theorem dX10_free_0 : decode cX10_free 0 = .ok (.aload_n 0, 1) := by decide +kernel
theorem dX10_free_1 : decode cX10_free 1 = .ok (.getfield 85, 3) := by decide +kernel
theorem dX10_free_4 : decode cX10_free 4 = .ok (.iload_n 1, 1) := by decide +kernel
theorem dX10_free_5 : decode cX10_free 5 = .ok (.iload_n 2, 1) := by decide +kernel
theorem dX10_free_6 : decode cX10_free 6 = .ok (.invokevirtual 287, 3) := by decide +kernel
theorem dX10_free_9 : decode cX10_free 9 = .ok (.ireturn, 1) := by decide +kernel
def fX10_free (a : Nat) (x1 : Int32) (x2 : Int32) (μ : JM) : JO (Int32) := jck ((jT μ a).1 == 11) <| jde (jP μ a 11) fun q2 => jck ((jT μ q2).1 == 1) <| jcl (fX0_mark q2 x1 x2 μ) fun r5 μ6 => jck (jbl r5) <| some (r5, μ6, 0, 0)
set_option maxHeartbeats 4000000 in
set_option maxRecDepth 100000 in
theorem mX10_free {b : Nat} {a : Nat} {x1 : Int32} {x2 : Int32} {μ : JM} {r : Int32} {ν : JM} {c m : Nat} (hf : fX10_free a x1 x2 μ = some (r, ν, c, m)) : JMet b yX10_free cX10_free 3 (some .boolean) 3 63 [va_rf (some a), .int x1, .int x2] μ (some (.int r)) ν c m := by
  refine JMet.of (by decide) (lg_sl_le (by simp only [List.map_cons, List.map_nil, List.sum_cons, List.sum_nil, va_rf_cat]; exact Nat.le_of_ble_eq_true rfl)) (fun Θ X hin => ?_)
  refine wa_eq (L2 := [(0, va_rf (some a)), (1, .int x1), (2, .int x2)]) ?_ rfl (by first | rfl | simp [lv_args, va_rf_cat, cat_i, cat_l]) rfl
  obtain ⟨k, hk0⟩ : ∃ k : Nat, k = 0 := ⟨0, rfl⟩
  obtain ⟨n, hn0⟩ : ∃ n : Nat, n = 0 := ⟨0, rfl⟩
  have hk : k + c = c := by omega
  have hn : n + m = m := by omega
  refine wa_costs hk0.symm hn0.symm ?_
  rw [fX10_free] at hf
  refine wa_aload_n X 0 dX10_free_0 rfl ?_
  obtain ⟨h1, hf⟩ := jckT hf
  refine wa_getP X dX10_free_1 lfX10_85 rfl h1 rfl ?_
  refine wa_iload_n X 1 dX10_free_4 rfl ?_
  refine wa_iload_n X 2 dX10_free_5 rfl ?_
  obtain ⟨q2, h3, hf⟩ := jde_some hf
  obtain ⟨h4, hf⟩ := jckT hf
  obtain ⟨r5, μ6, c7, m8, c9, m10, e11, hf, h12, h13⟩ := jcl_some hf
  refine wa_rcallV (st2 := [.int r5]) X dX10_free_6 lmX10_287 lMX0_mark h3 h4 (mX0_mark e11) rfl rfl rfl (va_cats (Nat.le_of_ble_eq_true rfl)) (by decide) (by omega) (by omega) ?_
  obtain ⟨h14, hf⟩ := jck_some hf
  obtain ⟨rfl, rfl, rfl, rfl⟩ := jret hf
  exact wa_iret X dX10_free_9 (jbl_nar h14) (by omega) (by omega)
theorem dX10_due_0 : decode cX10_due 0 = .ok (.aload_n 0, 1) := by decide +kernel
theorem dX10_due_1 : decode cX10_due 1 = .ok (.iload_n 1, 1) := by decide +kernel
theorem dX10_due_2 : decode cX10_due 2 = .ok (.iload_n 2, 1) := by decide +kernel
theorem dX10_due_3 : decode cX10_due 3 = .ok (.iload_n 3, 1) := by decide +kernel
theorem dX10_due_4 : decode cX10_due 4 = .ok (.invokevirtual 246, 3) := by decide +kernel
theorem dX10_due_7 : decode cX10_due 7 = .ok (.istore 5, 2) := by decide +kernel
theorem dX10_due_9 : decode cX10_due 9 = .ok (.iload 5, 2) := by decide +kernel
theorem dX10_due_11 : decode cX10_due 11 = .ok (.iconst (-1), 1) := by decide +kernel
theorem dX10_due_12 : decode cX10_due 12 = .ok (.if_icmp .eq 20, 3) := by decide +kernel
theorem dX10_due_15 : decode cX10_due 15 = .ok (.iload 5, 2) := by decide +kernel
theorem dX10_due_17 : decode cX10_due 17 = .ok (.invokestatic 250, 3) := by decide +kernel
theorem dX10_due_20 : decode cX10_due 20 = .ok (.iconst 1, 1) := by decide +kernel
theorem dX10_due_21 : decode cX10_due 21 = .ok (.if_icmp .ne 11, 3) := by decide +kernel
theorem dX10_due_24 : decode cX10_due 24 = .ok (.iload 4, 2) := by decide +kernel
theorem dX10_due_26 : decode cX10_due 26 = .ok (.invokestatic 291, 3) := by decide +kernel
theorem dX10_due_29 : decode cX10_due 29 = .ok (.ifCond .ne 5, 3) := by decide +kernel
theorem dX10_due_32 : decode cX10_due 32 = .ok (.iconst (-1), 1) := by decide +kernel
theorem dX10_due_33 : decode cX10_due 33 = .ok (.ireturn, 1) := by decide +kernel
theorem dX10_due_34 : decode cX10_due 34 = .ok (.iload 5, 2) := by decide +kernel
theorem dX10_due_36 : decode cX10_due 36 = .ok (.invokestatic 259, 3) := by decide +kernel
theorem dX10_due_39 : decode cX10_due 39 = .ok (.istore 6, 2) := by decide +kernel
theorem dX10_due_41 : decode cX10_due 41 = .ok (.iload 5, 2) := by decide +kernel
theorem dX10_due_43 : decode cX10_due 43 = .ok (.invokestatic 262, 3) := by decide +kernel
theorem dX10_due_46 : decode cX10_due 46 = .ok (.iconst 1, 1) := by decide +kernel
theorem dX10_due_47 : decode cX10_due 47 = .ok (.if_icmp .ne 17, 3) := by decide +kernel
theorem dX10_due_50 : decode cX10_due 50 = .ok (.aload_n 0, 1) := by decide +kernel
theorem dX10_due_51 : decode cX10_due 51 = .ok (.getfield 85, 3) := by decide +kernel
theorem dX10_due_54 : decode cX10_due 54 = .ok (.iload 4, 2) := by decide +kernel
theorem dX10_due_56 : decode cX10_due 56 = .ok (.iload 6, 2) := by decide +kernel
theorem dX10_due_58 : decode cX10_due 58 = .ok (.invokevirtual 294, 3) := by decide +kernel
theorem dX10_due_61 : decode cX10_due 61 = .ok (.goto 10, 3) := by decide +kernel
theorem dX10_due_64 : decode cX10_due 64 = .ok (.iload 4, 2) := by decide +kernel
theorem dX10_due_66 : decode cX10_due 66 = .ok (.iload 6, 2) := by decide +kernel
theorem dX10_due_68 : decode cX10_due 68 = .ok (.invokestatic 298, 3) := by decide +kernel
theorem dX10_due_71 : decode cX10_due 71 = .ok (.ireturn, 1) := by decide +kernel
def fX10_due (a : Nat) (x1 : Int32) (x2 : Int32) (x3 : Int32) (x4 : Int32) (μ : JM) : JO (Int32) := jck ((jT μ a).1 == 11) <| jcl (fX10_keyAt a x1 x2 x3 μ) fun r2 μ3 => if r2 = (-1 : Int32) then (some ((-1 : Int32), μ3, 0, 0)) else (jcl (fX2_keyKind r2 μ3) fun r12 μ13 => if r12 = (1 : Int32) then (jcl (fX0_isDay x4 μ13) fun r22 μ23 => if r22 = 0 then (some ((-1 : Int32), μ23, 0, 0)) else (jcl (fX2_keyNumber r2 μ23) fun r32 μ33 => jcl (fX2_keyWorkdays r2 μ33) fun r41 μ42 => if r41 = (1 : Int32) then (jck ((jT μ42 a).1 == 11) <| jde (jP μ42 a 11) fun q61 => jck ((jT μ42 q61).1 == 1) <| jcl (fX0_workdaysOn q61 x4 r32 μ42) fun r64 μ65 => some (r64, μ65, 0, 0)) else (jcl (fX0_daysOn x4 r32 μ42) fun r51 μ52 => some (r51, μ52, 0, 0)))) else (some ((-1 : Int32), μ13, 0, 0)))
set_option maxHeartbeats 4000000 in
set_option maxRecDepth 100000 in
theorem mX10_due {b : Nat} {a : Nat} {x1 : Int32} {x2 : Int32} {x3 : Int32} {x4 : Int32} {μ : JM} {r : Int32} {ν : JM} {c m : Nat} (hf : fX10_due a x1 x2 x3 x4 μ = some (r, ν, c, m)) : JMet b yX10_due cX10_due 7 (some .int) 4 96 [va_rf (some a), .int x1, .int x2, .int x3, .int x4] μ (some (.int r)) ν c m := by
  refine JMet.of (by decide) (lg_sl_le (by simp only [List.map_cons, List.map_nil, List.sum_cons, List.sum_nil, va_rf_cat]; exact Nat.le_of_ble_eq_true rfl)) (fun Θ X hin => ?_)
  refine wa_eq (L2 := [(0, va_rf (some a)), (1, .int x1), (2, .int x2), (3, .int x3), (4, .int x4)]) ?_ rfl (by first | rfl | simp [lv_args, va_rf_cat, cat_i, cat_l]) rfl
  obtain ⟨k, hk0⟩ : ∃ k : Nat, k = 0 := ⟨0, rfl⟩
  obtain ⟨n, hn0⟩ : ∃ n : Nat, n = 0 := ⟨0, rfl⟩
  have hk : k + c = c := by omega
  have hn : n + m = m := by omega
  refine wa_costs hk0.symm hn0.symm ?_
  rw [fX10_due] at hf
  refine wa_aload_n X 0 dX10_due_0 rfl ?_
  refine wa_iload_n X 1 dX10_due_1 rfl ?_
  refine wa_iload_n X 2 dX10_due_2 rfl ?_
  refine wa_iload_n X 3 dX10_due_3 rfl ?_
  obtain ⟨h1, hf⟩ := jckT hf
  obtain ⟨r2, μ3, c4, m5, c6, m7, e8, hf, h9, h10⟩ := jcl_some hf
  refine wa_rcallV (st2 := [.int r2]) X dX10_due_4 lmX10_246 lMX10_keyAt rfl h1 (mX10_keyAt e8) rfl rfl rfl (va_cats (Nat.le_of_ble_eq_true rfl)) (by decide) (by omega) (by omega) ?_
  refine wa_istore (L2 := [(5, .int r2), (0, va_rf (some a)), (1, .int x1), (2, .int x2), (3, .int x3), (4, .int x4)]) X dX10_due_7 (by decide) (by first | rfl | (show (5, _) :: List.filter (fun q : Nat × Value => !(q.1 == 5) && !(q.1 + 1 == 5 && q.2.category == 2)) _ = _; simp [va_rf_cat, cat_i, cat_l])) ?_
  refine wa_iload X 0 dX10_due_9 rfl ?_
  refine wa_iconst (v := (-1 : Int32)) X dX10_due_11 (by decide) ?_
  refine wa_iceq (tgt := 32) X dX10_due_12 (by decide) (fun h11 => ?_) (fun h11 => ?_)
  · rw [if_pos h11] at hf
    refine wa_iconst (v := (-1 : Int32)) X dX10_due_32 (by decide) ?_
    obtain ⟨rfl, rfl, rfl, rfl⟩ := jret hf
    exact wa_iret X dX10_due_33 rfl (by omega) (by omega)
  · rw [if_neg h11] at hf
    refine wa_iload X 0 dX10_due_15 rfl ?_
    obtain ⟨r12, μ13, c14, m15, c16, m17, e18, hf, h19, h20⟩ := jcl_some hf
    refine wa_rcallS (st2 := [.int r12]) X dX10_due_17 lmX10_250 lMX2_keyKind (mX2_keyKind e18) rfl rfl rfl (va_cats (Nat.le_of_ble_eq_true rfl)) (by decide) (by omega) (by omega) ?_
    refine wa_iconst (v := (1 : Int32)) X dX10_due_20 (by decide) ?_
    refine wa_icne (tgt := 32) X dX10_due_21 (by decide) (fun h21 => ?_) (fun h21 => ?_)
    · rw [if_neg h21] at hf
      refine wa_iconst (v := (-1 : Int32)) X dX10_due_32 (by decide) ?_
      obtain ⟨rfl, rfl, rfl, rfl⟩ := jret hf
      exact wa_iret X dX10_due_33 rfl (by omega) (by omega)
    · rw [if_pos h21] at hf
      refine wa_iload X 5 dX10_due_24 rfl ?_
      obtain ⟨r22, μ23, c24, m25, c26, m27, e28, hf, h29, h30⟩ := jcl_some hf
      refine wa_rcallS (st2 := [.int r22]) X dX10_due_26 lmX10_291 lMX0_isDay (mX0_isDay e28) rfl rfl rfl (va_cats (Nat.le_of_ble_eq_true rfl)) (by decide) (by omega) (by omega) ?_
      refine wa_ifne (tgt := 34) X dX10_due_29 (by decide) (fun h31 => ?_) (fun h31 => ?_)
      · rw [if_neg h31] at hf
        refine wa_iload X 0 dX10_due_34 rfl ?_
        obtain ⟨r32, μ33, c34, m35, c36, m37, e38, hf, h39, h40⟩ := jcl_some hf
        refine wa_rcallS (st2 := [.int r32]) X dX10_due_36 lmX10_259 lMX2_keyNumber (mX2_keyNumber e38) rfl rfl rfl (va_cats (Nat.le_of_ble_eq_true rfl)) (by decide) (by omega) (by omega) ?_
        refine wa_istore (L2 := [(6, .int r32), (5, .int r2), (0, va_rf (some a)), (1, .int x1), (2, .int x2), (3, .int x3), (4, .int x4)]) X dX10_due_39 (by decide) (by first | rfl | (show (6, _) :: List.filter (fun q : Nat × Value => !(q.1 == 6) && !(q.1 + 1 == 6 && q.2.category == 2)) _ = _; simp [va_rf_cat, cat_i, cat_l])) ?_
        refine wa_iload X 1 dX10_due_41 rfl ?_
        obtain ⟨r41, μ42, c43, m44, c45, m46, e47, hf, h48, h49⟩ := jcl_some hf
        refine wa_rcallS (st2 := [.int r41]) X dX10_due_43 lmX10_262 lMX2_keyWorkdays (mX2_keyWorkdays e47) rfl rfl rfl (va_cats (Nat.le_of_ble_eq_true rfl)) (by decide) (by omega) (by omega) ?_
        refine wa_iconst (v := (1 : Int32)) X dX10_due_46 (by decide) ?_
        refine wa_icne (tgt := 64) X dX10_due_47 (by decide) (fun h50 => ?_) (fun h50 => ?_)
        · rw [if_neg h50] at hf
          refine wa_iload X 6 dX10_due_64 rfl ?_
          refine wa_iload X 0 dX10_due_66 rfl ?_
          obtain ⟨r51, μ52, c53, m54, c55, m56, e57, hf, h58, h59⟩ := jcl_some hf
          refine wa_rcallS (st2 := [.int r51]) X dX10_due_68 lmX10_298 lMX0_daysOn (mX0_daysOn e57) rfl rfl rfl (va_cats (Nat.le_of_ble_eq_true rfl)) (by decide) (by omega) (by omega) ?_
          obtain ⟨rfl, rfl, rfl, rfl⟩ := jret hf
          exact wa_iret X dX10_due_71 rfl (by omega) (by omega)
        · rw [if_pos h50] at hf
          refine wa_aload_n X 2 dX10_due_50 rfl ?_
          obtain ⟨h60, hf⟩ := jckT hf
          refine wa_getP X dX10_due_51 lfX10_85 rfl h60 rfl ?_
          refine wa_iload X 6 dX10_due_54 rfl ?_
          refine wa_iload X 0 dX10_due_56 rfl ?_
          obtain ⟨q61, h62, hf⟩ := jde_some hf
          obtain ⟨h63, hf⟩ := jckT hf
          obtain ⟨r64, μ65, c66, m67, c68, m69, e70, hf, h71, h72⟩ := jcl_some hf
          refine wa_rcallV (st2 := [.int r64]) X dX10_due_58 lmX10_294 lMX0_workdaysOn h62 h63 (mX0_workdaysOn e70) rfl rfl rfl (va_cats (Nat.le_of_ble_eq_true rfl)) (by decide) (by omega) (by omega) ?_
          refine wa_goto (tgt := 71) X dX10_due_61 (by decide) ?_
          obtain ⟨rfl, rfl, rfl, rfl⟩ := jret hf
          exact wa_iret X dX10_due_71 rfl (by omega) (by omega)
      · rw [if_pos h31] at hf
        refine wa_iconst (v := (-1 : Int32)) X dX10_due_32 (by decide) ?_
        obtain ⟨rfl, rfl, rfl, rfl⟩ := jret hf
        exact wa_iret X dX10_due_33 rfl (by omega) (by omega)
theorem dX10_clauseCount_0 : decode cX10_clauseCount 0 = .ok (.iload_n 1, 1) := by decide +kernel
theorem dX10_clauseCount_1 : decode cX10_clauseCount 1 = .ok (.bipush 10, 2) := by decide +kernel
theorem dX10_clauseCount_3 : decode cX10_clauseCount 3 = .ok (.if_icmp .ge 5, 3) := by decide +kernel
theorem dX10_clauseCount_6 : decode cX10_clauseCount 6 = .ok (.iconst (-1), 1) := by decide +kernel
theorem dX10_clauseCount_7 : decode cX10_clauseCount 7 = .ok (.ireturn, 1) := by decide +kernel
theorem dX10_clauseCount_8 : decode cX10_clauseCount 8 = .ok (.aload_n 0, 1) := by decide +kernel
theorem dX10_clauseCount_9 : decode cX10_clauseCount 9 = .ok (.iload_n 1, 1) := by decide +kernel
theorem dX10_clauseCount_10 : decode cX10_clauseCount 10 = .ok (.bipush 10, 2) := by decide +kernel
theorem dX10_clauseCount_12 : decode cX10_clauseCount 12 = .ok (.isub, 1) := by decide +kernel
theorem dX10_clauseCount_13 : decode cX10_clauseCount 13 = .ok (.invokevirtual 132, 3) := by decide +kernel
theorem dX10_clauseCount_16 : decode cX10_clauseCount 16 = .ok (.astore_n 2, 1) := by decide +kernel
theorem dX10_clauseCount_17 : decode cX10_clauseCount 17 = .ok (.aload_n 2, 1) := by decide +kernel
theorem dX10_clauseCount_18 : decode cX10_clauseCount 18 = .ok (.ifnonnull 7, 3) := by decide +kernel
theorem dX10_clauseCount_21 : decode cX10_clauseCount 21 = .ok (.iconst (-1), 1) := by decide +kernel
theorem dX10_clauseCount_22 : decode cX10_clauseCount 22 = .ok (.goto 7, 3) := by decide +kernel
theorem dX10_clauseCount_25 : decode cX10_clauseCount 25 = .ok (.aload_n 2, 1) := by decide +kernel
theorem dX10_clauseCount_26 : decode cX10_clauseCount 26 = .ok (.getfield 131, 3) := by decide +kernel
theorem dX10_clauseCount_29 : decode cX10_clauseCount 29 = .ok (.ireturn, 1) := by decide +kernel
def fX10_clauseCount (a : Nat) (x1 : Int32) (μ : JM) : JO (Int32) := if (10 : Int32) ≤ x1 then (jck ((jT μ a).1 == 11) <| jcl (fX10_versionAt a (x1 - (10 : Int32)) μ) fun r3 μ4 => if r3 = none then (some ((-1 : Int32), μ4, 0, 0)) else (jde r3 fun q13 => jck ((jT μ4 q13).1 == 9) <| some ((jI μ4 q13 2), μ4, 0, 0))) else (some ((-1 : Int32), μ, 0, 0))
set_option maxHeartbeats 4000000 in
set_option maxRecDepth 100000 in
theorem mX10_clauseCount {b : Nat} {a : Nat} {x1 : Int32} {μ : JM} {r : Int32} {ν : JM} {c m : Nat} (hf : fX10_clauseCount a x1 μ = some (r, ν, c, m)) : JMet b yX10_clauseCount cX10_clauseCount 3 (some .int) 1 21 [va_rf (some a), .int x1] μ (some (.int r)) ν c m := by
  refine JMet.of (by decide) (lg_sl_le (by simp only [List.map_cons, List.map_nil, List.sum_cons, List.sum_nil, va_rf_cat]; exact Nat.le_of_ble_eq_true rfl)) (fun Θ X hin => ?_)
  refine wa_eq (L2 := [(0, va_rf (some a)), (1, .int x1)]) ?_ rfl (by first | rfl | simp [lv_args, va_rf_cat, cat_i, cat_l]) rfl
  obtain ⟨k, hk0⟩ : ∃ k : Nat, k = 0 := ⟨0, rfl⟩
  obtain ⟨n, hn0⟩ : ∃ n : Nat, n = 0 := ⟨0, rfl⟩
  have hk : k + c = c := by omega
  have hn : n + m = m := by omega
  refine wa_costs hk0.symm hn0.symm ?_
  rw [fX10_clauseCount] at hf
  refine wa_iload_n X 1 dX10_clauseCount_0 rfl ?_
  refine wa_bipush (v := (10 : Int32)) X dX10_clauseCount_1 (by decide) ?_
  refine wa_icge (tgt := 8) X dX10_clauseCount_3 (by decide) (fun h1 => ?_) (fun h1 => ?_)
  · rw [if_pos h1] at hf
    refine wa_aload_n X 0 dX10_clauseCount_8 rfl ?_
    refine wa_iload_n X 1 dX10_clauseCount_9 rfl ?_
    refine wa_bipush (v := (10 : Int32)) X dX10_clauseCount_10 (by decide) ?_
    refine wa_isub X dX10_clauseCount_12 ?_
    obtain ⟨h2, hf⟩ := jckT hf
    obtain ⟨r3, μ4, c5, m6, c7, m8, e9, hf, h10, h11⟩ := jcl_some hf
    refine wa_rcallV (st2 := [va_rf r3]) X dX10_clauseCount_13 lmX10_132 lMX10_versionAt rfl h2 (mX10_versionAt e9) rfl rfl rfl (va_cats (Nat.le_of_ble_eq_true rfl)) (by decide) (by omega) (by omega) ?_
    refine wa_astore_n (L2 := [(2, va_rf r3), (0, va_rf (some a)), (1, .int x1)]) X dX10_clauseCount_16 (by decide) (by first | rfl | (show (2, _) :: List.filter (fun q : Nat × Value => !(q.1 == 2) && !(q.1 + 1 == 2 && q.2.category == 2)) _ = _; simp [va_rf_cat, cat_i, cat_l])) ?_
    refine wa_aload_n X 0 dX10_clauseCount_17 rfl ?_
    refine wa_ifnonnull (tgt := 25) X dX10_clauseCount_18 (by decide) (fun h12 => ?_) (fun h12 => ?_)
    · rw [if_neg h12] at hf
      refine wa_aload_n X 0 dX10_clauseCount_25 rfl ?_
      obtain ⟨q13, h14, hf⟩ := jde_some hf
      obtain ⟨h15, hf⟩ := jckT hf
      refine wa_getI X dX10_clauseCount_26 lfX10_131 h14 h15 rfl ?_
      obtain ⟨rfl, rfl, rfl, rfl⟩ := jret hf
      exact wa_iret X dX10_clauseCount_29 rfl (by omega) (by omega)
    · rw [if_pos h12] at hf
      refine wa_iconst (v := (-1 : Int32)) X dX10_clauseCount_21 (by decide) ?_
      refine wa_goto (tgt := 29) X dX10_clauseCount_22 (by decide) ?_
      obtain ⟨rfl, rfl, rfl, rfl⟩ := jret hf
      exact wa_iret X dX10_clauseCount_29 rfl (by omega) (by omega)
  · rw [if_neg h1] at hf
    refine wa_iconst (v := (-1 : Int32)) X dX10_clauseCount_6 (by decide) ?_
    obtain ⟨rfl, rfl, rfl, rfl⟩ := jret hf
    exact wa_iret X dX10_clauseCount_7 rfl (by omega) (by omega)
theorem dX10_count_0 : decode cX10_count 0 = .ok (.iload_n 1, 1) := by decide +kernel
theorem dX10_count_1 : decode cX10_count 1 = .ok (.tableswitch 108 0 7 #[47, 55, 63, 71, 79, 84, 92, 100], 47) := by decide +kernel
theorem dX10_count_48 : decode cX10_count 48 = .ok (.aload_n 0, 1) := by decide +kernel
theorem dX10_count_49 : decode cX10_count 49 = .ok (.getfield 35, 3) := by decide +kernel
theorem dX10_count_52 : decode cX10_count 52 = .ok (.getfield 109, 3) := by decide +kernel
theorem dX10_count_55 : decode cX10_count 55 = .ok (.ireturn, 1) := by decide +kernel
theorem dX10_count_56 : decode cX10_count 56 = .ok (.aload_n 0, 1) := by decide +kernel
theorem dX10_count_57 : decode cX10_count 57 = .ok (.getfield 39, 3) := by decide +kernel
theorem dX10_count_60 : decode cX10_count 60 = .ok (.getfield 109, 3) := by decide +kernel
theorem dX10_count_63 : decode cX10_count 63 = .ok (.ireturn, 1) := by decide +kernel
theorem dX10_count_64 : decode cX10_count 64 = .ok (.aload_n 0, 1) := by decide +kernel
theorem dX10_count_65 : decode cX10_count 65 = .ok (.getfield 42, 3) := by decide +kernel
theorem dX10_count_68 : decode cX10_count 68 = .ok (.getfield 109, 3) := by decide +kernel
theorem dX10_count_71 : decode cX10_count 71 = .ok (.ireturn, 1) := by decide +kernel
theorem dX10_count_72 : decode cX10_count 72 = .ok (.aload_n 0, 1) := by decide +kernel
theorem dX10_count_73 : decode cX10_count 73 = .ok (.getfield 78, 3) := by decide +kernel
theorem dX10_count_76 : decode cX10_count 76 = .ok (.invokevirtual 181, 3) := by decide +kernel
theorem dX10_count_79 : decode cX10_count 79 = .ok (.ireturn, 1) := by decide +kernel
theorem dX10_count_80 : decode cX10_count 80 = .ok (.aload_n 0, 1) := by decide +kernel
theorem dX10_count_81 : decode cX10_count 81 = .ok (.getfield 135, 3) := by decide +kernel
theorem dX10_count_84 : decode cX10_count 84 = .ok (.ireturn, 1) := by decide +kernel
theorem dX10_count_85 : decode cX10_count 85 = .ok (.aload_n 0, 1) := by decide +kernel
theorem dX10_count_86 : decode cX10_count 86 = .ok (.getfield 25, 3) := by decide +kernel
theorem dX10_count_89 : decode cX10_count 89 = .ok (.getfield 100, 3) := by decide +kernel
theorem dX10_count_92 : decode cX10_count 92 = .ok (.ireturn, 1) := by decide +kernel
theorem dX10_count_93 : decode cX10_count 93 = .ok (.aload_n 0, 1) := by decide +kernel
theorem dX10_count_94 : decode cX10_count 94 = .ok (.getfield 29, 3) := by decide +kernel
theorem dX10_count_97 : decode cX10_count 97 = .ok (.getfield 100, 3) := by decide +kernel
theorem dX10_count_100 : decode cX10_count 100 = .ok (.ireturn, 1) := by decide +kernel
theorem dX10_count_101 : decode cX10_count 101 = .ok (.aload_n 0, 1) := by decide +kernel
theorem dX10_count_102 : decode cX10_count 102 = .ok (.getfield 85, 3) := by decide +kernel
theorem dX10_count_105 : decode cX10_count 105 = .ok (.getfield 301, 3) := by decide +kernel
theorem dX10_count_108 : decode cX10_count 108 = .ok (.ireturn, 1) := by decide +kernel
theorem dX10_count_109 : decode cX10_count 109 = .ok (.aload_n 0, 1) := by decide +kernel
theorem dX10_count_110 : decode cX10_count 110 = .ok (.iload_n 1, 1) := by decide +kernel
theorem dX10_count_111 : decode cX10_count 111 = .ok (.invokevirtual 304, 3) := by decide +kernel
theorem dX10_count_114 : decode cX10_count 114 = .ok (.ireturn, 1) := by decide +kernel
def fX10_count (a : Nat) (x1 : Int32) (μ : JM) : JO (Int32) := if x1 = (0 : Int32) then (jck ((jT μ a).1 == 11) <| jde (jP μ a 3) fun q3 => jck ((jT μ q3).1 == 10) <| some ((jI μ q3 1), μ, 0, 0)) else (if x1 = (1 : Int32) then (jck ((jT μ a).1 == 11) <| jde (jP μ a 4) fun q8 => jck ((jT μ q8).1 == 10) <| some ((jI μ q8 1), μ, 0, 0)) else (if x1 = (2 : Int32) then (jck ((jT μ a).1 == 11) <| jde (jP μ a 5) fun q13 => jck ((jT μ q13).1 == 10) <| some ((jI μ q13 1), μ, 0, 0)) else (if x1 = (3 : Int32) then (jck ((jT μ a).1 == 11) <| jde (jP μ a 10) fun q18 => jck ((jT μ q18).1 == 2) <| jcl (fX1_total q18 μ) fun r21 μ22 => some (r21, μ22, 0, 0)) else (if x1 = (4 : Int32) then (jck ((jT μ a).1 == 11) <| some ((jI μ a 14), μ, 0, 0)) else (if x1 = (5 : Int32) then (jck ((jT μ a).1 == 11) <| jde (jP μ a 0) fun q34 => jck ((jT μ q34).1 == 7) <| some ((jI μ q34 2), μ, 0, 0)) else (if x1 = (6 : Int32) then (jck ((jT μ a).1 == 11) <| jde (jP μ a 1) fun q39 => jck ((jT μ q39).1 == 7) <| some ((jI μ q39 2), μ, 0, 0)) else (if x1 = (7 : Int32) then (jck ((jT μ a).1 == 11) <| jde (jP μ a 11) fun q44 => jck ((jT μ q44).1 == 1) <| some ((jI μ q44 1), μ, 0, 0)) else (jck ((jT μ a).1 == 11) <| jcl (fX10_clauseCount a x1 μ) fun r48 μ49 => some (r48, μ49, 0, 0)))))))))
set_option maxHeartbeats 4000000 in
set_option maxRecDepth 100000 in
theorem mX10_count {b : Nat} {a : Nat} {x1 : Int32} {μ : JM} {r : Int32} {ν : JM} {c m : Nat} (hf : fX10_count a x1 μ = some (r, ν, c, m)) : JMet b yX10_count cX10_count 2 (some .int) 2 43 [va_rf (some a), .int x1] μ (some (.int r)) ν c m := by
  refine JMet.of (by decide) (lg_sl_le (by simp only [List.map_cons, List.map_nil, List.sum_cons, List.sum_nil, va_rf_cat]; exact Nat.le_of_ble_eq_true rfl)) (fun Θ X hin => ?_)
  refine wa_eq (L2 := [(0, va_rf (some a)), (1, .int x1)]) ?_ rfl (by first | rfl | simp [lv_args, va_rf_cat, cat_i, cat_l]) rfl
  obtain ⟨k, hk0⟩ : ∃ k : Nat, k = 0 := ⟨0, rfl⟩
  obtain ⟨n, hn0⟩ : ∃ n : Nat, n = 0 := ⟨0, rfl⟩
  have hk : k + c = c := by omega
  have hn : n + m = m := by omega
  refine wa_costs hk0.symm hn0.symm ?_
  rw [fX10_count] at hf
  refine wa_iload_n X 1 dX10_count_0 rfl ?_
  by_cases h1 : x1 = (0 : Int32)
  · rw [if_pos h1] at hf
    refine wa_tin (tgt := 48) X dX10_count_1 h1 (by decide) (by decide) rfl (by decide) ?_
    refine wa_aload_n X 0 dX10_count_48 rfl ?_
    obtain ⟨h2, hf⟩ := jckT hf
    refine wa_getP X dX10_count_49 lfX10_35 rfl h2 rfl ?_
    obtain ⟨q3, h4, hf⟩ := jde_some hf
    obtain ⟨h5, hf⟩ := jckT hf
    refine wa_getI X dX10_count_52 lfX10_109 h4 h5 rfl ?_
    obtain ⟨rfl, rfl, rfl, rfl⟩ := jret hf
    exact wa_iret X dX10_count_55 rfl (by omega) (by omega)
  rw [if_neg h1] at hf
  by_cases h6 : x1 = (1 : Int32)
  · rw [if_pos h6] at hf
    refine wa_tin (tgt := 56) X dX10_count_1 h6 (by decide) (by decide) rfl (by decide) ?_
    refine wa_aload_n X 0 dX10_count_56 rfl ?_
    obtain ⟨h7, hf⟩ := jckT hf
    refine wa_getP X dX10_count_57 lfX10_39 rfl h7 rfl ?_
    obtain ⟨q8, h9, hf⟩ := jde_some hf
    obtain ⟨h10, hf⟩ := jckT hf
    refine wa_getI X dX10_count_60 lfX10_109 h9 h10 rfl ?_
    obtain ⟨rfl, rfl, rfl, rfl⟩ := jret hf
    exact wa_iret X dX10_count_63 rfl (by omega) (by omega)
  rw [if_neg h6] at hf
  by_cases h11 : x1 = (2 : Int32)
  · rw [if_pos h11] at hf
    refine wa_tin (tgt := 64) X dX10_count_1 h11 (by decide) (by decide) rfl (by decide) ?_
    refine wa_aload_n X 0 dX10_count_64 rfl ?_
    obtain ⟨h12, hf⟩ := jckT hf
    refine wa_getP X dX10_count_65 lfX10_42 rfl h12 rfl ?_
    obtain ⟨q13, h14, hf⟩ := jde_some hf
    obtain ⟨h15, hf⟩ := jckT hf
    refine wa_getI X dX10_count_68 lfX10_109 h14 h15 rfl ?_
    obtain ⟨rfl, rfl, rfl, rfl⟩ := jret hf
    exact wa_iret X dX10_count_71 rfl (by omega) (by omega)
  rw [if_neg h11] at hf
  by_cases h16 : x1 = (3 : Int32)
  · rw [if_pos h16] at hf
    refine wa_tin (tgt := 72) X dX10_count_1 h16 (by decide) (by decide) rfl (by decide) ?_
    refine wa_aload_n X 0 dX10_count_72 rfl ?_
    obtain ⟨h17, hf⟩ := jckT hf
    refine wa_getP X dX10_count_73 lfX10_78 rfl h17 rfl ?_
    obtain ⟨q18, h19, hf⟩ := jde_some hf
    obtain ⟨h20, hf⟩ := jckT hf
    obtain ⟨r21, μ22, c23, m24, c25, m26, e27, hf, h28, h29⟩ := jcl_some hf
    refine wa_rcallV (st2 := [.int r21]) X dX10_count_76 lmX10_181 lMX1_total h19 h20 (mX1_total e27) rfl rfl rfl (va_cats (Nat.le_of_ble_eq_true rfl)) (by decide) (by omega) (by omega) ?_
    obtain ⟨rfl, rfl, rfl, rfl⟩ := jret hf
    exact wa_iret X dX10_count_79 rfl (by omega) (by omega)
  rw [if_neg h16] at hf
  by_cases h30 : x1 = (4 : Int32)
  · rw [if_pos h30] at hf
    refine wa_tin (tgt := 80) X dX10_count_1 h30 (by decide) (by decide) rfl (by decide) ?_
    refine wa_aload_n X 0 dX10_count_80 rfl ?_
    obtain ⟨h31, hf⟩ := jckT hf
    refine wa_getI X dX10_count_81 lfX10_135 rfl h31 rfl ?_
    obtain ⟨rfl, rfl, rfl, rfl⟩ := jret hf
    exact wa_iret X dX10_count_84 rfl (by omega) (by omega)
  rw [if_neg h30] at hf
  by_cases h32 : x1 = (5 : Int32)
  · rw [if_pos h32] at hf
    refine wa_tin (tgt := 85) X dX10_count_1 h32 (by decide) (by decide) rfl (by decide) ?_
    refine wa_aload_n X 0 dX10_count_85 rfl ?_
    obtain ⟨h33, hf⟩ := jckT hf
    refine wa_getP X dX10_count_86 lfX10_25 rfl h33 rfl ?_
    obtain ⟨q34, h35, hf⟩ := jde_some hf
    obtain ⟨h36, hf⟩ := jckT hf
    refine wa_getI X dX10_count_89 lfX10_100 h35 h36 rfl ?_
    obtain ⟨rfl, rfl, rfl, rfl⟩ := jret hf
    exact wa_iret X dX10_count_92 rfl (by omega) (by omega)
  rw [if_neg h32] at hf
  by_cases h37 : x1 = (6 : Int32)
  · rw [if_pos h37] at hf
    refine wa_tin (tgt := 93) X dX10_count_1 h37 (by decide) (by decide) rfl (by decide) ?_
    refine wa_aload_n X 0 dX10_count_93 rfl ?_
    obtain ⟨h38, hf⟩ := jckT hf
    refine wa_getP X dX10_count_94 lfX10_29 rfl h38 rfl ?_
    obtain ⟨q39, h40, hf⟩ := jde_some hf
    obtain ⟨h41, hf⟩ := jckT hf
    refine wa_getI X dX10_count_97 lfX10_100 h40 h41 rfl ?_
    obtain ⟨rfl, rfl, rfl, rfl⟩ := jret hf
    exact wa_iret X dX10_count_100 rfl (by omega) (by omega)
  rw [if_neg h37] at hf
  by_cases h42 : x1 = (7 : Int32)
  · rw [if_pos h42] at hf
    refine wa_tin (tgt := 101) X dX10_count_1 h42 (by decide) (by decide) rfl (by decide) ?_
    refine wa_aload_n X 0 dX10_count_101 rfl ?_
    obtain ⟨h43, hf⟩ := jckT hf
    refine wa_getP X dX10_count_102 lfX10_85 rfl h43 rfl ?_
    obtain ⟨q44, h45, hf⟩ := jde_some hf
    obtain ⟨h46, hf⟩ := jckT hf
    refine wa_getI X dX10_count_105 lfX10_301 h45 h46 rfl ?_
    obtain ⟨rfl, rfl, rfl, rfl⟩ := jret hf
    exact wa_iret X dX10_count_108 rfl (by omega) (by omega)
  rw [if_neg h42] at hf
  have ih1 := lv_neT h1 (show ((0 : Int32)).toInt = 0 from rfl)
  have ih6 := lv_neT h6 (show ((1 : Int32)).toInt = 1 from rfl)
  have ih11 := lv_neT h11 (show ((2 : Int32)).toInt = 2 from rfl)
  have ih16 := lv_neT h16 (show ((3 : Int32)).toInt = 3 from rfl)
  have ih30 := lv_neT h30 (show ((4 : Int32)).toInt = 4 from rfl)
  have ih32 := lv_neT h32 (show ((5 : Int32)).toInt = 5 from rfl)
  have ih37 := lv_neT h37 (show ((6 : Int32)).toInt = 6 from rfl)
  have ih42 := lv_neT h42 (show ((7 : Int32)).toInt = 7 from rfl)
  refine wa_tout (tgt := 109) X dX10_count_1 (by omega) (by decide) ?_
  refine wa_aload_n X 0 dX10_count_109 rfl ?_
  refine wa_iload_n X 1 dX10_count_110 rfl ?_
  obtain ⟨h47, hf⟩ := jckT hf
  obtain ⟨r48, μ49, c50, m51, c52, m53, e54, hf, h55, h56⟩ := jcl_some hf
  refine wa_rcallV (st2 := [.int r48]) X dX10_count_111 lmX10_304 lMX10_clauseCount rfl h47 (mX10_clauseCount e54) rfl rfl rfl (va_cats (Nat.le_of_ble_eq_true rfl)) (by decide) (by omega) (by omega) ?_
  obtain ⟨rfl, rfl, rfl, rfl⟩ := jret hf
  exact wa_iret X dX10_count_114 rfl (by omega) (by omega)
