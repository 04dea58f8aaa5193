/-! functions and walks, by program -/
theorem dX11_outcomes_0 : decode cX11_outcomes 0 = .ok (.aload_n 0, 1) := by decide +kernel
theorem dX11_outcomes_1 : decode cX11_outcomes 1 = .ok (.iload_n 1, 1) := by decide +kernel
theorem dX11_outcomes_2 : decode cX11_outcomes 2 = .ok (.invokevirtual 393, 3) := by decide +kernel
theorem dX11_outcomes_5 : decode cX11_outcomes 5 = .ok (.ifCond .eq 11, 3) := by decide +kernel
theorem dX11_outcomes_8 : decode cX11_outcomes 8 = .ok (.aload_n 0, 1) := by decide +kernel
theorem dX11_outcomes_9 : decode cX11_outcomes 9 = .ok (.iload_n 2, 1) := by decide +kernel
theorem dX11_outcomes_10 : decode cX11_outcomes 10 = .ok (.invokevirtual 417, 3) := by decide +kernel
theorem dX11_outcomes_13 : decode cX11_outcomes 13 = .ok (.ifCond .ne 5, 3) := by decide +kernel
theorem dX11_outcomes_16 : decode cX11_outcomes 16 = .ok (.iconst (-1), 1) := by decide +kernel
theorem dX11_outcomes_17 : decode cX11_outcomes 17 = .ok (.ireturn, 1) := by decide +kernel
theorem dX11_outcomes_18 : decode cX11_outcomes 18 = .ok (.aload_n 0, 1) := by decide +kernel
theorem dX11_outcomes_19 : decode cX11_outcomes 19 = .ok (.iload_n 1, 1) := by decide +kernel
theorem dX11_outcomes_20 : decode cX11_outcomes 20 = .ok (.iload_n 2, 1) := by decide +kernel
theorem dX11_outcomes_21 : decode cX11_outcomes 21 = .ok (.invokevirtual 429, 3) := by decide +kernel
theorem dX11_outcomes_24 : decode cX11_outcomes 24 = .ok (.aload_n 0, 1) := by decide +kernel
theorem dX11_outcomes_25 : decode cX11_outcomes 25 = .ok (.getfield 423, 3) := by decide +kernel
theorem dX11_outcomes_28 : decode cX11_outcomes 28 = .ok (.ireturn, 1) := by decide +kernel
def fX11_outcomes (a : Nat) (x1 : Int32) (x2 : Int32) (μ : JM) : JO (Int32) := jck ((jT μ a).1 == 12) <| jcl (fX11_isVersion a x1 μ) fun r2 μ3 => if r2 = 0 then (some ((-1 : Int32), μ3, 0, 0)) else (jck ((jT μ3 a).1 == 12) <| jcl (fX11_isCase a x2 μ3) fun r13 μ14 => if r13 = 0 then (some ((-1 : Int32), μ14, 0, 0)) else (jck ((jT μ14 a).1 == 12) <| jcl (fX11_finds a x1 x2 μ14) fun u24 μ25 => jck ((jT μ25 a).1 == 12) <| some ((jI μ25 a 65), μ25, 0, 0)))
set_option maxHeartbeats 4000000 in
set_option maxRecDepth 100000 in
theorem mX11_outcomes {b : Nat} {a : Nat} {x1 : Int32} {x2 : Int32} {μ : JM} {r : Int32} {ν : JM} {c m : Nat} (hf : fX11_outcomes a x1 x2 μ = some (r, ν, c, m)) : JMet b yX11_outcomes cX11_outcomes 3 (some .int) 3 63 [va_rf (some a), .int x1, .int x2] μ (some (.int r)) ν c m := by
  refine JMet.of (by decide) (lg_sl_le (by simp only [List.map_cons, List.map_nil, List.sum_cons, List.sum_nil, va_rf_cat]; exact Nat.le_of_ble_eq_true rfl)) (fun Θ X hin => ?_)
  refine wa_eq (L2 := [(0, va_rf (some a)), (1, .int x1), (2, .int x2)]) ?_ rfl (by first | rfl | simp [lv_args, va_rf_cat, cat_i, cat_l]) rfl
  obtain ⟨k, hk0⟩ : ∃ k : Nat, k = 0 := ⟨0, rfl⟩
  obtain ⟨n, hn0⟩ : ∃ n : Nat, n = 0 := ⟨0, rfl⟩
  have hk : k + c = c := by omega
  have hn : n + m = m := by omega
  refine wa_costs hk0.symm hn0.symm ?_
  rw [fX11_outcomes] at hf
  refine wa_aload_n X 0 dX11_outcomes_0 rfl ?_
  refine wa_iload_n X 1 dX11_outcomes_1 rfl ?_
  obtain ⟨h1, hf⟩ := jckT hf
  obtain ⟨r2, μ3, c4, m5, c6, m7, e8, hf, h9, h10⟩ := jcl_some hf
  refine wa_rcallV (st2 := [.int r2]) X dX11_outcomes_2 lmX11_393 lMX11_isVersion rfl h1 (mX11_isVersion e8) rfl rfl rfl (va_cats (Nat.le_of_ble_eq_true rfl)) (by decide) (by omega) (by omega) ?_
  refine wa_ifeq (tgt := 16) X dX11_outcomes_5 (by decide) (fun h11 => ?_) (fun h11 => ?_)
  · rw [if_pos h11] at hf
    refine wa_iconst (v := (-1 : Int32)) X dX11_outcomes_16 (by decide) ?_
    obtain ⟨rfl, rfl, rfl, rfl⟩ := jret hf
    exact wa_iret X dX11_outcomes_17 rfl (by omega) (by omega)
  · rw [if_neg h11] at hf
    refine wa_aload_n X 0 dX11_outcomes_8 rfl ?_
    refine wa_iload_n X 2 dX11_outcomes_9 rfl ?_
    obtain ⟨h12, hf⟩ := jckT hf
    obtain ⟨r13, μ14, c15, m16, c17, m18, e19, hf, h20, h21⟩ := jcl_some hf
    refine wa_rcallV (st2 := [.int r13]) X dX11_outcomes_10 lmX11_417 lMX11_isCase rfl h12 (mX11_isCase e19) rfl rfl rfl (va_cats (Nat.le_of_ble_eq_true rfl)) (by decide) (by omega) (by omega) ?_
    refine wa_ifne (tgt := 18) X dX11_outcomes_13 (by decide) (fun h22 => ?_) (fun h22 => ?_)
    · rw [if_neg h22] at hf
      refine wa_aload_n X 0 dX11_outcomes_18 rfl ?_
      refine wa_iload_n X 1 dX11_outcomes_19 rfl ?_
      refine wa_iload_n X 2 dX11_outcomes_20 rfl ?_
      obtain ⟨h23, hf⟩ := jckT hf
      obtain ⟨u24, μ25, c26, m27, c28, m29, e30, hf, h31, h32⟩ := jcl_some hf
      refine wa_rcallV (st2 := []) X dX11_outcomes_21 lmX11_429 lMX11_finds rfl h23 (mX11_finds e30) rfl rfl rfl (va_cats (Nat.le_of_ble_eq_true rfl)) (by decide) (by omega) (by omega) ?_
      refine wa_aload_n X 0 dX11_outcomes_24 rfl ?_
      obtain ⟨h33, hf⟩ := jckT hf
      refine wa_getI X dX11_outcomes_25 lfX11_423 rfl h33 rfl ?_
      obtain ⟨rfl, rfl, rfl, rfl⟩ := jret hf
      exact wa_iret X dX11_outcomes_28 rfl (by omega) (by omega)
    · rw [if_pos h22] at hf
      refine wa_iconst (v := (-1 : Int32)) X dX11_outcomes_16 (by decide) ?_
      obtain ⟨rfl, rfl, rfl, rfl⟩ := jret hf
      exact wa_iret X dX11_outcomes_17 rfl (by omega) (by omega)
theorem dX11_outcome_0 : decode cX11_outcome 0 = .ok (.aload_n 0, 1) := by decide +kernel
theorem dX11_outcome_1 : decode cX11_outcome 1 = .ok (.iload_n 1, 1) := by decide +kernel
theorem dX11_outcome_2 : decode cX11_outcome 2 = .ok (.invokevirtual 393, 3) := by decide +kernel
theorem dX11_outcome_5 : decode cX11_outcome 5 = .ok (.ifCond .eq 11, 3) := by decide +kernel
theorem dX11_outcome_8 : decode cX11_outcome 8 = .ok (.aload_n 0, 1) := by decide +kernel
theorem dX11_outcome_9 : decode cX11_outcome 9 = .ok (.iload_n 2, 1) := by decide +kernel
theorem dX11_outcome_10 : decode cX11_outcome 10 = .ok (.invokevirtual 417, 3) := by decide +kernel
theorem dX11_outcome_13 : decode cX11_outcome 13 = .ok (.ifCond .ne 5, 3) := by decide +kernel
theorem dX11_outcome_16 : decode cX11_outcome 16 = .ok (.iconst (-1), 1) := by decide +kernel
theorem dX11_outcome_17 : decode cX11_outcome 17 = .ok (.ireturn, 1) := by decide +kernel
theorem dX11_outcome_18 : decode cX11_outcome 18 = .ok (.aload_n 0, 1) := by decide +kernel
theorem dX11_outcome_19 : decode cX11_outcome 19 = .ok (.iload_n 1, 1) := by decide +kernel
theorem dX11_outcome_20 : decode cX11_outcome 20 = .ok (.iload_n 2, 1) := by decide +kernel
theorem dX11_outcome_21 : decode cX11_outcome 21 = .ok (.invokevirtual 429, 3) := by decide +kernel
theorem dX11_outcome_24 : decode cX11_outcome 24 = .ok (.iload_n 3, 1) := by decide +kernel
theorem dX11_outcome_25 : decode cX11_outcome 25 = .ok (.iconst 0, 1) := by decide +kernel
theorem dX11_outcome_26 : decode cX11_outcome 26 = .ok (.aload_n 0, 1) := by decide +kernel
theorem dX11_outcome_27 : decode cX11_outcome 27 = .ok (.getfield 423, 3) := by decide +kernel
theorem dX11_outcome_30 : decode cX11_outcome 30 = .ok (.iconst 1, 1) := by decide +kernel
theorem dX11_outcome_31 : decode cX11_outcome 31 = .ok (.isub, 1) := by decide +kernel
theorem dX11_outcome_32 : decode cX11_outcome 32 = .ok (.invokestatic 347, 3) := by decide +kernel
theorem dX11_outcome_35 : decode cX11_outcome 35 = .ok (.ifCond .ne 5, 3) := by decide +kernel
theorem dX11_outcome_38 : decode cX11_outcome 38 = .ok (.iconst (-1), 1) := by decide +kernel
theorem dX11_outcome_39 : decode cX11_outcome 39 = .ok (.ireturn, 1) := by decide +kernel
theorem dX11_outcome_40 : decode cX11_outcome 40 = .ok (.aload_n 0, 1) := by decide +kernel
theorem dX11_outcome_41 : decode cX11_outcome 41 = .ok (.getfield 140, 3) := by decide +kernel
theorem dX11_outcome_44 : decode cX11_outcome 44 = .ok (.iload_n 3, 1) := by decide +kernel
theorem dX11_outcome_45 : decode cX11_outcome 45 = .ok (.iaload, 1) := by decide +kernel
theorem dX11_outcome_46 : decode cX11_outcome 46 = .ok (.istore 5, 2) := by decide +kernel
theorem dX11_outcome_48 : decode cX11_outcome 48 = .ok (.iload 5, 2) := by decide +kernel
theorem dX11_outcome_50 : decode cX11_outcome 50 = .ok (.bipush 17, 2) := by decide +kernel
theorem dX11_outcome_52 : decode cX11_outcome 52 = .ok (.ishr, 1) := by decide +kernel
theorem dX11_outcome_53 : decode cX11_outcome 53 = .ok (.istore 6, 2) := by decide +kernel
theorem dX11_outcome_55 : decode cX11_outcome 55 = .ok (.iload 4, 2) := by decide +kernel
theorem dX11_outcome_57 : decode cX11_outcome 57 = .ok (.tableswitch 90 0 4 #[35, 38, 47, 56, 75], 35) := by decide +kernel
theorem dX11_outcome_92 : decode cX11_outcome 92 = .ok (.iload 6, 2) := by decide +kernel
theorem dX11_outcome_94 : decode cX11_outcome 94 = .ok (.ireturn, 1) := by decide +kernel
theorem dX11_outcome_95 : decode cX11_outcome 95 = .ok (.iload 5, 2) := by decide +kernel
theorem dX11_outcome_97 : decode cX11_outcome 97 = .ok (.bipush 14, 2) := by decide +kernel
theorem dX11_outcome_99 : decode cX11_outcome 99 = .ok (.ishr, 1) := by decide +kernel
theorem dX11_outcome_100 : decode cX11_outcome 100 = .ok (.bipush 7, 2) := by decide +kernel
theorem dX11_outcome_102 : decode cX11_outcome 102 = .ok (.iand, 1) := by decide +kernel
theorem dX11_outcome_103 : decode cX11_outcome 103 = .ok (.ireturn, 1) := by decide +kernel
theorem dX11_outcome_104 : decode cX11_outcome 104 = .ok (.iload 5, 2) := by decide +kernel
theorem dX11_outcome_106 : decode cX11_outcome 106 = .ok (.bipush 10, 2) := by decide +kernel
theorem dX11_outcome_108 : decode cX11_outcome 108 = .ok (.ishr, 1) := by decide +kernel
theorem dX11_outcome_109 : decode cX11_outcome 109 = .ok (.bipush 15, 2) := by decide +kernel
theorem dX11_outcome_111 : decode cX11_outcome 111 = .ok (.iand, 1) := by decide +kernel
theorem dX11_outcome_112 : decode cX11_outcome 112 = .ok (.ireturn, 1) := by decide +kernel
theorem dX11_outcome_113 : decode cX11_outcome 113 = .ok (.iload 6, 2) := by decide +kernel
theorem dX11_outcome_115 : decode cX11_outcome 115 = .ok (.iconst 1, 1) := by decide +kernel
theorem dX11_outcome_116 : decode cX11_outcome 116 = .ok (.if_icmp .ne 14, 3) := by decide +kernel
theorem dX11_outcome_119 : decode cX11_outcome 119 = .ok (.iload 5, 2) := by decide +kernel
theorem dX11_outcome_121 : decode cX11_outcome 121 = .ok (.sipush 1023, 3) := by decide +kernel
theorem dX11_outcome_124 : decode cX11_outcome 124 = .ok (.iand, 1) := by decide +kernel
theorem dX11_outcome_125 : decode cX11_outcome 125 = .ok (.iconst 1, 1) := by decide +kernel
theorem dX11_outcome_126 : decode cX11_outcome 126 = .ok (.ishr, 1) := by decide +kernel
theorem dX11_outcome_127 : decode cX11_outcome 127 = .ok (.goto 4, 3) := by decide +kernel
theorem dX11_outcome_130 : decode cX11_outcome 130 = .ok (.iconst (-1), 1) := by decide +kernel
theorem dX11_outcome_131 : decode cX11_outcome 131 = .ok (.ireturn, 1) := by decide +kernel
theorem dX11_outcome_132 : decode cX11_outcome 132 = .ok (.iload 6, 2) := by decide +kernel
theorem dX11_outcome_134 : decode cX11_outcome 134 = .ok (.iconst 1, 1) := by decide +kernel
theorem dX11_outcome_135 : decode cX11_outcome 135 = .ok (.if_icmp .ne 10, 3) := by decide +kernel
theorem dX11_outcome_138 : decode cX11_outcome 138 = .ok (.iload 5, 2) := by decide +kernel
theorem dX11_outcome_140 : decode cX11_outcome 140 = .ok (.iconst 1, 1) := by decide +kernel
theorem dX11_outcome_141 : decode cX11_outcome 141 = .ok (.iand, 1) := by decide +kernel
theorem dX11_outcome_142 : decode cX11_outcome 142 = .ok (.goto 4, 3) := by decide +kernel
theorem dX11_outcome_145 : decode cX11_outcome 145 = .ok (.iconst (-1), 1) := by decide +kernel
theorem dX11_outcome_146 : decode cX11_outcome 146 = .ok (.ireturn, 1) := by decide +kernel
theorem dX11_outcome_147 : decode cX11_outcome 147 = .ok (.iconst (-1), 1) := by decide +kernel
theorem dX11_outcome_148 : decode cX11_outcome 148 = .ok (.ireturn, 1) := by decide +kernel
def fX11_outcome (a : Nat) (x1 : Int32) (x2 : Int32) (x3 : Int32) (x4 : Int32) (μ : JM) : JO (Int32) := jck ((jT μ a).1 == 12) <| jcl (fX11_isVersion a x1 μ) fun r2 μ3 => if r2 = 0 then (some ((-1 : Int32), μ3, 0, 0)) else (jck ((jT μ3 a).1 == 12) <| jcl (fX11_isCase a x2 μ3) fun r13 μ14 => if r13 = 0 then (some ((-1 : Int32), μ14, 0, 0)) else (jck ((jT μ14 a).1 == 12) <| jcl (fX11_finds a x1 x2 μ14) fun u24 μ25 => jck ((jT μ25 a).1 == 12) <| jcl (fX11_in x3 (0 : Int32) ((jI μ25 a 65) - (1 : Int32)) μ25) fun r34 μ35 => if r34 = 0 then (some ((-1 : Int32), μ35, 0, 0)) else (jck ((jT μ35 a).1 == 12) <| jde (jP μ35 a 64) fun q45 => jck ((jT μ35 q45).1 == 101) <| jck (jin x3 (jT μ35 q45).2) <| if x4 = (0 : Int32) then (some ((jshr (jI μ35 q45 (x3).toNatClampNeg) (17 : Int32)), μ35, 0, 0)) else (if x4 = (1 : Int32) then (some (((jshr (jI μ35 q45 (x3).toNatClampNeg) (14 : Int32)) &&& (7 : Int32)), μ35, 0, 0)) else (if x4 = (2 : Int32) then (some (((jshr (jI μ35 q45 (x3).toNatClampNeg) (10 : Int32)) &&& (15 : Int32)), μ35, 0, 0)) else (if x4 = (3 : Int32) then (if (jshr (jI μ35 q45 (x3).toNatClampNeg) (17 : Int32)) = (1 : Int32) then (some ((jshr ((jI μ35 q45 (x3).toNatClampNeg) &&& (1023 : Int32)) (1 : Int32)), μ35, 0, 0)) else (some ((-1 : Int32), μ35, 0, 0))) else (if x4 = (4 : Int32) then (if (jshr (jI μ35 q45 (x3).toNatClampNeg) (17 : Int32)) = (1 : Int32) then (some (((jI μ35 q45 (x3).toNatClampNeg) &&& (1 : Int32)), μ35, 0, 0)) else (some ((-1 : Int32), μ35, 0, 0))) else (some ((-1 : Int32), μ35, 0, 0)))))))))
set_option maxHeartbeats 4000000 in
set_option maxRecDepth 100000 in
theorem mX11_outcome {b : Nat} {a : Nat} {x1 : Int32} {x2 : Int32} {x3 : Int32} {x4 : Int32} {μ : JM} {r : Int32} {ν : JM} {c m : Nat} (hf : fX11_outcome a x1 x2 x3 x4 μ = some (r, ν, c, m)) : JMet b yX11_outcome cX11_outcome 7 (some .int) 3 63 [va_rf (some a), .int x1, .int x2, .int x3, .int x4] μ (some (.int r)) ν c m := by
  refine JMet.of (by decide) (lg_sl_le (by simp only [List.map_cons, List.map_nil, List.sum_cons, List.sum_nil, va_rf_cat]; exact Nat.le_of_ble_eq_true rfl)) (fun Θ X hin => ?_)
  refine wa_eq (L2 := [(0, va_rf (some a)), (1, .int x1), (2, .int x2), (3, .int x3), (4, .int x4)]) ?_ rfl (by first | rfl | simp [lv_args, va_rf_cat, cat_i, cat_l]) rfl
  obtain ⟨k, hk0⟩ : ∃ k : Nat, k = 0 := ⟨0, rfl⟩
  obtain ⟨n, hn0⟩ : ∃ n : Nat, n = 0 := ⟨0, rfl⟩
  have hk : k + c = c := by omega
  have hn : n + m = m := by omega
  refine wa_costs hk0.symm hn0.symm ?_
  rw [fX11_outcome] at hf
  refine wa_aload_n X 0 dX11_outcome_0 rfl ?_
  refine wa_iload_n X 1 dX11_outcome_1 rfl ?_
  obtain ⟨h1, hf⟩ := jckT hf
  obtain ⟨r2, μ3, c4, m5, c6, m7, e8, hf, h9, h10⟩ := jcl_some hf
  refine wa_rcallV (st2 := [.int r2]) X dX11_outcome_2 lmX11_393 lMX11_isVersion rfl h1 (mX11_isVersion e8) rfl rfl rfl (va_cats (Nat.le_of_ble_eq_true rfl)) (by decide) (by omega) (by omega) ?_
  refine wa_ifeq (tgt := 16) X dX11_outcome_5 (by decide) (fun h11 => ?_) (fun h11 => ?_)
  · rw [if_pos h11] at hf
    refine wa_iconst (v := (-1 : Int32)) X dX11_outcome_16 (by decide) ?_
    obtain ⟨rfl, rfl, rfl, rfl⟩ := jret hf
    exact wa_iret X dX11_outcome_17 rfl (by omega) (by omega)
  · rw [if_neg h11] at hf
    refine wa_aload_n X 0 dX11_outcome_8 rfl ?_
    refine wa_iload_n X 2 dX11_outcome_9 rfl ?_
    obtain ⟨h12, hf⟩ := jckT hf
    obtain ⟨r13, μ14, c15, m16, c17, m18, e19, hf, h20, h21⟩ := jcl_some hf
    refine wa_rcallV (st2 := [.int r13]) X dX11_outcome_10 lmX11_417 lMX11_isCase rfl h12 (mX11_isCase e19) rfl rfl rfl (va_cats (Nat.le_of_ble_eq_true rfl)) (by decide) (by omega) (by omega) ?_
    refine wa_ifne (tgt := 18) X dX11_outcome_13 (by decide) (fun h22 => ?_) (fun h22 => ?_)
    · rw [if_neg h22] at hf
      refine wa_aload_n X 0 dX11_outcome_18 rfl ?_
      refine wa_iload_n X 1 dX11_outcome_19 rfl ?_
      refine wa_iload_n X 2 dX11_outcome_20 rfl ?_
      obtain ⟨h23, hf⟩ := jckT hf
      obtain ⟨u24, μ25, c26, m27, c28, m29, e30, hf, h31, h32⟩ := jcl_some hf
      refine wa_rcallV (st2 := []) X dX11_outcome_21 lmX11_429 lMX11_finds rfl h23 (mX11_finds e30) rfl rfl rfl (va_cats (Nat.le_of_ble_eq_true rfl)) (by decide) (by omega) (by omega) ?_
      refine wa_iload_n X 3 dX11_outcome_24 rfl ?_
      refine wa_iconst (v := (0 : Int32)) X dX11_outcome_25 (by decide) ?_
      refine wa_aload_n X 0 dX11_outcome_26 rfl ?_
      obtain ⟨h33, hf⟩ := jckT hf
      refine wa_getI X dX11_outcome_27 lfX11_423 rfl h33 rfl ?_
      refine wa_iconst (v := (1 : Int32)) X dX11_outcome_30 (by decide) ?_
      refine wa_isub X dX11_outcome_31 ?_
      obtain ⟨r34, μ35, c36, m37, c38, m39, e40, hf, h41, h42⟩ := jcl_some hf
      refine wa_rcallS (st2 := [.int r34]) X dX11_outcome_32 lmX11_347 lMX11_in (mX11_in e40) rfl rfl rfl (va_cats (Nat.le_of_ble_eq_true rfl)) (by decide) (by omega) (by omega) ?_
      refine wa_ifne (tgt := 40) X dX11_outcome_35 (by decide) (fun h43 => ?_) (fun h43 => ?_)
      · rw [if_neg h43] at hf
        refine wa_aload_n X 0 dX11_outcome_40 rfl ?_
        obtain ⟨h44, hf⟩ := jckT hf
        refine wa_getP X dX11_outcome_41 lfX11_140 rfl h44 rfl ?_
        refine wa_iload_n X 3 dX11_outcome_44 rfl ?_
        obtain ⟨q45, h46, hf⟩ := jde_some hf
        obtain ⟨h47, hf⟩ := jckT hf
        obtain ⟨h48, hf⟩ := jck_some hf
        refine wa_riald X dX11_outcome_45 h46 h47 h48 ?_
        refine wa_istore (L2 := [(5, .int (jI μ35 q45 (x3).toNatClampNeg)), (0, va_rf (some a)), (1, .int x1), (2, .int x2), (3, .int x3), (4, .int x4)]) X dX11_outcome_46 (by decide) (by first | rfl | (show (5, _) :: List.filter (fun q : Nat × Value => !(q.1 == 5) && !(q.1 + 1 == 5 && q.2.category == 2)) _ = _; simp [va_rf_cat, cat_i, cat_l])) ?_
        refine wa_iload X 0 dX11_outcome_48 rfl ?_
        refine wa_bipush (v := (17 : Int32)) X dX11_outcome_50 (by decide) ?_
        refine wa_ishr X dX11_outcome_52 ?_
        refine wa_istore (L2 := [(6, .int (jshr (jI μ35 q45 (x3).toNatClampNeg) (17 : Int32))), (5, .int (jI μ35 q45 (x3).toNatClampNeg)), (0, va_rf (some a)), (1, .int x1), (2, .int x2), (3, .int x3), (4, .int x4)]) X dX11_outcome_53 (by decide) (by first | rfl | (show (6, _) :: List.filter (fun q : Nat × Value => !(q.1 == 6) && !(q.1 + 1 == 6 && q.2.category == 2)) _ = _; simp [va_rf_cat, cat_i, cat_l])) ?_
        refine wa_iload X 6 dX11_outcome_55 rfl ?_
        by_cases h49 : x4 = (0 : Int32)
        · rw [if_pos h49] at hf
          refine wa_tin (tgt := 92) X dX11_outcome_57 h49 (by decide) (by decide) rfl (by decide) ?_
          refine wa_iload X 0 dX11_outcome_92 rfl ?_
          obtain ⟨rfl, rfl, rfl, rfl⟩ := jret hf
          exact wa_iret X dX11_outcome_94 rfl (by omega) (by omega)
        rw [if_neg h49] at hf
        by_cases h50 : x4 = (1 : Int32)
        · rw [if_pos h50] at hf
          refine wa_tin (tgt := 95) X dX11_outcome_57 h50 (by decide) (by decide) rfl (by decide) ?_
          refine wa_iload X 1 dX11_outcome_95 rfl ?_
          refine wa_bipush (v := (14 : Int32)) X dX11_outcome_97 (by decide) ?_
          refine wa_ishr X dX11_outcome_99 ?_
          refine wa_bipush (v := (7 : Int32)) X dX11_outcome_100 (by decide) ?_
          refine wa_iand X dX11_outcome_102 ?_
          obtain ⟨rfl, rfl, rfl, rfl⟩ := jret hf
          exact wa_iret X dX11_outcome_103 rfl (by omega) (by omega)
        rw [if_neg h50] at hf
        by_cases h51 : x4 = (2 : Int32)
        · rw [if_pos h51] at hf
          refine wa_tin (tgt := 104) X dX11_outcome_57 h51 (by decide) (by decide) rfl (by decide) ?_
          refine wa_iload X 1 dX11_outcome_104 rfl ?_
          refine wa_bipush (v := (10 : Int32)) X dX11_outcome_106 (by decide) ?_
          refine wa_ishr X dX11_outcome_108 ?_
          refine wa_bipush (v := (15 : Int32)) X dX11_outcome_109 (by decide) ?_
          refine wa_iand X dX11_outcome_111 ?_
          obtain ⟨rfl, rfl, rfl, rfl⟩ := jret hf
          exact wa_iret X dX11_outcome_112 rfl (by omega) (by omega)
        rw [if_neg h51] at hf
        by_cases h52 : x4 = (3 : Int32)
        · rw [if_pos h52] at hf
          refine wa_tin (tgt := 113) X dX11_outcome_57 h52 (by decide) (by decide) rfl (by decide) ?_
          refine wa_iload X 0 dX11_outcome_113 rfl ?_
          refine wa_iconst (v := (1 : Int32)) X dX11_outcome_115 (by decide) ?_
          refine wa_icne (tgt := 130) X dX11_outcome_116 (by decide) (fun h53 => ?_) (fun h53 => ?_)
          · rw [if_neg h53] at hf
            refine wa_iconst (v := (-1 : Int32)) X dX11_outcome_130 (by decide) ?_
            obtain ⟨rfl, rfl, rfl, rfl⟩ := jret hf
            exact wa_iret X dX11_outcome_131 rfl (by omega) (by omega)
          · rw [if_pos h53] at hf
            refine wa_iload X 1 dX11_outcome_119 rfl ?_
            refine wa_sipush (v := (1023 : Int32)) X dX11_outcome_121 (by decide) ?_
            refine wa_iand X dX11_outcome_124 ?_
            refine wa_iconst (v := (1 : Int32)) X dX11_outcome_125 (by decide) ?_
            refine wa_ishr X dX11_outcome_126 ?_
            refine wa_goto (tgt := 131) X dX11_outcome_127 (by decide) ?_
            obtain ⟨rfl, rfl, rfl, rfl⟩ := jret hf
            exact wa_iret X dX11_outcome_131 rfl (by omega) (by omega)
        rw [if_neg h52] at hf
        by_cases h54 : x4 = (4 : Int32)
        · rw [if_pos h54] at hf
          refine wa_tin (tgt := 132) X dX11_outcome_57 h54 (by decide) (by decide) rfl (by decide) ?_
          refine wa_iload X 0 dX11_outcome_132 rfl ?_
          refine wa_iconst (v := (1 : Int32)) X dX11_outcome_134 (by decide) ?_
          refine wa_icne (tgt := 145) X dX11_outcome_135 (by decide) (fun h55 => ?_) (fun h55 => ?_)
          · rw [if_neg h55] at hf
            refine wa_iconst (v := (-1 : Int32)) X dX11_outcome_145 (by decide) ?_
            obtain ⟨rfl, rfl, rfl, rfl⟩ := jret hf
            exact wa_iret X dX11_outcome_146 rfl (by omega) (by omega)
          · rw [if_pos h55] at hf
            refine wa_iload X 1 dX11_outcome_138 rfl ?_
            refine wa_iconst (v := (1 : Int32)) X dX11_outcome_140 (by decide) ?_
            refine wa_iand X dX11_outcome_141 ?_
            refine wa_goto (tgt := 146) X dX11_outcome_142 (by decide) ?_
            obtain ⟨rfl, rfl, rfl, rfl⟩ := jret hf
            exact wa_iret X dX11_outcome_146 rfl (by omega) (by omega)
        rw [if_neg h54] at hf
        have ih49 := lv_neT h49 (show ((0 : Int32)).toInt = 0 from rfl)
        have ih50 := lv_neT h50 (show ((1 : Int32)).toInt = 1 from rfl)
        have ih51 := lv_neT h51 (show ((2 : Int32)).toInt = 2 from rfl)
        have ih52 := lv_neT h52 (show ((3 : Int32)).toInt = 3 from rfl)
        have ih54 := lv_neT h54 (show ((4 : Int32)).toInt = 4 from rfl)
        refine wa_tout (tgt := 147) X dX11_outcome_57 (by omega) (by decide) ?_
        refine wa_iconst (v := (-1 : Int32)) X dX11_outcome_147 (by decide) ?_
        obtain ⟨rfl, rfl, rfl, rfl⟩ := jret hf
        exact wa_iret X dX11_outcome_148 rfl (by omega) (by omega)
      · rw [if_pos h43] at hf
        refine wa_iconst (v := (-1 : Int32)) X dX11_outcome_38 (by decide) ?_
        obtain ⟨rfl, rfl, rfl, rfl⟩ := jret hf
        exact wa_iret X dX11_outcome_39 rfl (by omega) (by omega)
    · rw [if_pos h22] at hf
      refine wa_iconst (v := (-1 : Int32)) X dX11_outcome_16 (by decide) ?_
      obtain ⟨rfl, rfl, rfl, rfl⟩ := jret hf
      exact wa_iret X dX11_outcome_17 rfl (by omega) (by omega)
theorem dX11_differs_0 : decode cX11_differs 0 = .ok (.aload_n 0, 1) := by decide +kernel
theorem dX11_differs_1 : decode cX11_differs 1 = .ok (.iload_n 1, 1) := by decide +kernel
theorem dX11_differs_2 : decode cX11_differs 2 = .ok (.invokevirtual 393, 3) := by decide +kernel
theorem dX11_differs_5 : decode cX11_differs 5 = .ok (.ifCond .eq 11, 3) := by decide +kernel
theorem dX11_differs_8 : decode cX11_differs 8 = .ok (.aload_n 0, 1) := by decide +kernel
theorem dX11_differs_9 : decode cX11_differs 9 = .ok (.iload_n 2, 1) := by decide +kernel
theorem dX11_differs_10 : decode cX11_differs 10 = .ok (.invokevirtual 393, 3) := by decide +kernel
theorem dX11_differs_13 : decode cX11_differs 13 = .ok (.ifCond .ne 6, 3) := by decide +kernel
theorem dX11_differs_16 : decode cX11_differs 16 = .ok (.bipush (-2), 2) := by decide +kernel
theorem dX11_differs_18 : decode cX11_differs 18 = .ok (.ireturn, 1) := by decide +kernel
theorem dX11_differs_19 : decode cX11_differs 19 = .ok (.iconst 0, 1) := by decide +kernel
theorem dX11_differs_20 : decode cX11_differs 20 = .ok (.istore_n 3, 1) := by decide +kernel
theorem dX11_differs_21 : decode cX11_differs 21 = .ok (.iload_n 3, 1) := by decide +kernel
theorem dX11_differs_22 : decode cX11_differs 22 = .ok (.iconst 1, 1) := by decide +kernel
theorem dX11_differs_23 : decode cX11_differs 23 = .ok (.aload_n 0, 1) := by decide +kernel
theorem dX11_differs_24 : decode cX11_differs 24 = .ok (.getfield 13, 3) := by decide +kernel
theorem dX11_differs_27 : decode cX11_differs 27 = .ok (.ishl, 1) := by decide +kernel
theorem dX11_differs_28 : decode cX11_differs 28 = .ok (.if_icmp .ge 136, 3) := by decide +kernel
theorem dX11_differs_31 : decode cX11_differs 31 = .ok (.aload_n 0, 1) := by decide +kernel
theorem dX11_differs_32 : decode cX11_differs 32 = .ok (.iload_n 3, 1) := by decide +kernel
theorem dX11_differs_33 : decode cX11_differs 33 = .ok (.invokevirtual 408, 3) := by decide +kernel
theorem dX11_differs_36 : decode cX11_differs 36 = .ok (.ifCond .ne 6, 3) := by decide +kernel
theorem dX11_differs_39 : decode cX11_differs 39 = .ok (.goto 119, 3) := by decide +kernel
theorem dX11_differs_42 : decode cX11_differs 42 = .ok (.aload_n 0, 1) := by decide +kernel
theorem dX11_differs_43 : decode cX11_differs 43 = .ok (.iload_n 1, 1) := by decide +kernel
theorem dX11_differs_44 : decode cX11_differs 44 = .ok (.iload_n 3, 1) := by decide +kernel
theorem dX11_differs_45 : decode cX11_differs 45 = .ok (.invokevirtual 429, 3) := by decide +kernel
theorem dX11_differs_48 : decode cX11_differs 48 = .ok (.aload_n 0, 1) := by decide +kernel
theorem dX11_differs_49 : decode cX11_differs 49 = .ok (.getfield 423, 3) := by decide +kernel
theorem dX11_differs_52 : decode cX11_differs 52 = .ok (.istore 4, 2) := by decide +kernel
theorem dX11_differs_54 : decode cX11_differs 54 = .ok (.iconst 0, 1) := by decide +kernel
theorem dX11_differs_55 : decode cX11_differs 55 = .ok (.istore 5, 2) := by decide +kernel
theorem dX11_differs_57 : decode cX11_differs 57 = .ok (.iload 5, 2) := by decide +kernel
theorem dX11_differs_59 : decode cX11_differs 59 = .ok (.iload 4, 2) := by decide +kernel
theorem dX11_differs_61 : decode cX11_differs 61 = .ok (.if_icmp .ge 23, 3) := by decide +kernel
theorem dX11_differs_64 : decode cX11_differs 64 = .ok (.aload_n 0, 1) := by decide +kernel
theorem dX11_differs_65 : decode cX11_differs 65 = .ok (.getfield 143, 3) := by decide +kernel
theorem dX11_differs_68 : decode cX11_differs 68 = .ok (.iload 5, 2) := by decide +kernel
theorem dX11_differs_70 : decode cX11_differs 70 = .ok (.aload_n 0, 1) := by decide +kernel
theorem dX11_differs_71 : decode cX11_differs 71 = .ok (.getfield 140, 3) := by decide +kernel
theorem dX11_differs_74 : decode cX11_differs 74 = .ok (.iload 5, 2) := by decide +kernel
theorem dX11_differs_76 : decode cX11_differs 76 = .ok (.iaload, 1) := by decide +kernel
theorem dX11_differs_77 : decode cX11_differs 77 = .ok (.iastore, 1) := by decide +kernel
theorem dX11_differs_78 : decode cX11_differs 78 = .ok (.iinc 5 1, 3) := by decide +kernel
theorem dX11_differs_81 : decode cX11_differs 81 = .ok (.goto (-24), 3) := by decide +kernel
theorem dX11_differs_84 : decode cX11_differs 84 = .ok (.aload_n 0, 1) := by decide +kernel
theorem dX11_differs_85 : decode cX11_differs 85 = .ok (.iload_n 2, 1) := by decide +kernel
theorem dX11_differs_86 : decode cX11_differs 86 = .ok (.iload_n 3, 1) := by decide +kernel
theorem dX11_differs_87 : decode cX11_differs 87 = .ok (.invokevirtual 429, 3) := by decide +kernel
theorem dX11_differs_90 : decode cX11_differs 90 = .ok (.iload 4, 2) := by decide +kernel
theorem dX11_differs_92 : decode cX11_differs 92 = .ok (.aload_n 0, 1) := by decide +kernel
theorem dX11_differs_93 : decode cX11_differs 93 = .ok (.getfield 423, 3) := by decide +kernel
theorem dX11_differs_96 : decode cX11_differs 96 = .ok (.if_icmp .ne 7, 3) := by decide +kernel
theorem dX11_differs_99 : decode cX11_differs 99 = .ok (.iconst 1, 1) := by decide +kernel
theorem dX11_differs_100 : decode cX11_differs 100 = .ok (.goto 4, 3) := by decide +kernel
theorem dX11_differs_103 : decode cX11_differs 103 = .ok (.iconst 0, 1) := by decide +kernel
theorem dX11_differs_104 : decode cX11_differs 104 = .ok (.istore 5, 2) := by decide +kernel
theorem dX11_differs_106 : decode cX11_differs 106 = .ok (.iconst 0, 1) := by decide +kernel
theorem dX11_differs_107 : decode cX11_differs 107 = .ok (.istore 6, 2) := by decide +kernel
theorem dX11_differs_109 : decode cX11_differs 109 = .ok (.iload 5, 2) := by decide +kernel
theorem dX11_differs_111 : decode cX11_differs 111 = .ok (.ifCond .eq 40, 3) := by decide +kernel
theorem dX11_differs_114 : decode cX11_differs 114 = .ok (.iload 6, 2) := by decide +kernel
theorem dX11_differs_116 : decode cX11_differs 116 = .ok (.iload 4, 2) := by decide +kernel
theorem dX11_differs_118 : decode cX11_differs 118 = .ok (.if_icmp .ge 33, 3) := by decide +kernel
theorem dX11_differs_121 : decode cX11_differs 121 = .ok (.aload_n 0, 1) := by decide +kernel
theorem dX11_differs_122 : decode cX11_differs 122 = .ok (.getfield 143, 3) := by decide +kernel
theorem dX11_differs_125 : decode cX11_differs 125 = .ok (.iload 6, 2) := by decide +kernel
theorem dX11_differs_127 : decode cX11_differs 127 = .ok (.iaload, 1) := by decide +kernel
theorem dX11_differs_128 : decode cX11_differs 128 = .ok (.aload_n 0, 1) := by decide +kernel
theorem dX11_differs_129 : decode cX11_differs 129 = .ok (.getfield 140, 3) := by decide +kernel
theorem dX11_differs_132 : decode cX11_differs 132 = .ok (.iload 6, 2) := by decide +kernel
theorem dX11_differs_134 : decode cX11_differs 134 = .ok (.iaload, 1) := by decide +kernel
theorem dX11_differs_135 : decode cX11_differs 135 = .ok (.if_icmp .ne 7, 3) := by decide +kernel
theorem dX11_differs_138 : decode cX11_differs 138 = .ok (.iconst 1, 1) := by decide +kernel
theorem dX11_differs_139 : decode cX11_differs 139 = .ok (.goto 4, 3) := by decide +kernel
theorem dX11_differs_142 : decode cX11_differs 142 = .ok (.iconst 0, 1) := by decide +kernel
theorem dX11_differs_143 : decode cX11_differs 143 = .ok (.istore 5, 2) := by decide +kernel
theorem dX11_differs_145 : decode cX11_differs 145 = .ok (.iinc 6 1, 3) := by decide +kernel
theorem dX11_differs_148 : decode cX11_differs 148 = .ok (.goto (-39), 3) := by decide +kernel
theorem dX11_differs_151 : decode cX11_differs 151 = .ok (.iload 5, 2) := by decide +kernel
theorem dX11_differs_153 : decode cX11_differs 153 = .ok (.ifCond .ne 5, 3) := by decide +kernel
theorem dX11_differs_156 : decode cX11_differs 156 = .ok (.iload_n 3, 1) := by decide +kernel
theorem dX11_differs_157 : decode cX11_differs 157 = .ok (.ireturn, 1) := by decide +kernel
theorem dX11_differs_158 : decode cX11_differs 158 = .ok (.iinc 3 1, 3) := by decide +kernel
theorem dX11_differs_161 : decode cX11_differs 161 = .ok (.goto (-140), 3) := by decide +kernel
theorem dX11_differs_164 : decode cX11_differs 164 = .ok (.iconst (-1), 1) := by decide +kernel
theorem dX11_differs_165 : decode cX11_differs 165 = .ok (.ireturn, 1) := by decide +kernel
def fX11_differs_b143 (rec21 : Nat → Int32 → Int32 → Int32 → JM → JO (Int32)) (rec109 : Nat → Int32 → Int32 → Int32 → Int32 → Int32 → Int32 → JM → JO (Int32)) (a : Nat) (x1 : Int32) (x2 : Int32) (x3 : Int32) (x4 : Int32) (x6 : Int32) (s0 : Int32) (μ : JM) : JO (Int32) := rec109 a x1 x2 x3 x4 s0 (x6 + (1 : Int32)) μ
set_option maxHeartbeats 4000000 in
set_option maxRecDepth 100000 in
theorem gX11_differs_b143 {b : Nat} {Θ : JE} {RC RS : Nat} {r : Int32} {ν : JM} (X : jX b Θ RX11 cX11_differs 7 (some .int) 3 63 RC RS) {rec21 : Nat → Int32 → Int32 → Int32 → JM → JO (Int32)} (hrec21 : ∀ (a : Nat) (x1 : Int32) (x2 : Int32) (x3 : Int32) (μ : JM) (c m k n : Nat), rec21 a x1 x2 x3 μ = some (r, ν, c, m) → k + c = RC → n + m = RS → WA b Θ 7 (jE b Θ (some (.int r)) ν RC RS) μ k n 21 [(0, va_rf (some a)), (1, .int x1), (2, .int x2), (3, .int x3)] []) {rec109 : Nat → Int32 → Int32 → Int32 → Int32 → Int32 → Int32 → JM → JO (Int32)} (hrec109 : ∀ (a : Nat) (x1 : Int32) (x2 : Int32) (x3 : Int32) (x4 : Int32) (x5 : Int32) (x6 : Int32) (μ : JM) (c m k n : Nat), rec109 a x1 x2 x3 x4 x5 x6 μ = some (r, ν, c, m) → k + c = RC → n + m = RS → WA b Θ 7 (jE b Θ (some (.int r)) ν RC RS) μ k n 109 [(0, va_rf (some a)), (1, .int x1), (2, .int x2), (3, .int x3), (4, .int x4), (5, .int x5), (6, .int x6)] []) (a : Nat) (x1 : Int32) (x2 : Int32) (x3 : Int32) (x4 : Int32) (x6 : Int32) (s0 : Int32) (μ : JM) (c m k n : Nat) (hf : fX11_differs_b143 rec21 rec109 a x1 x2 x3 x4 x6 s0 μ = some (r, ν, c, m)) (hk : k + c = RC) (hn : n + m = RS) : WA b Θ 7 (jE b Θ (some (.int r)) ν RC RS) μ k n 143 [(0, va_rf (some a)), (1, .int x1), (2, .int x2), (3, .int x3), (4, .int x4), (6, .int x6)] [.int s0] := by
  rw [fX11_differs_b143] at hf
  refine wa_istore (L2 := [(5, .int s0), (0, va_rf (some a)), (1, .int x1), (2, .int x2), (3, .int x3), (4, .int x4), (6, .int x6)]) X dX11_differs_143 (by decide) (by first | rfl | (show (5, _) :: List.filter (fun q : Nat × Value => !(q.1 == 5) && !(q.1 + 1 == 5 && q.2.category == 2)) _ = _; simp [va_rf_cat, cat_i, cat_l])) ?_
  refine wa_iinc (v := (x6 + (1 : Int32))) (L2 := [(6, .int (x6 + (1 : Int32))), (5, .int s0), (0, va_rf (some a)), (1, .int x1), (2, .int x2), (3, .int x3), (4, .int x4)]) X 6 dX11_differs_145 rfl rfl (by decide) (by first | rfl | simp [va_rf_cat, cat_i, cat_l]) ?_
  refine wa_goto (tgt := 109) X dX11_differs_148 (by decide) ?_
  refine wa_sub (L2 := [(0, va_rf (some a)), (1, .int x1), (2, .int x2), (3, .int x3), (4, .int x4), (5, .int s0), (6, .int (x6 + (1 : Int32)))]) [2, 3, 4, 5, 6, 1, 0] rfl ?_
  exact hrec109 a x1 x2 x3 x4 s0 (x6 + (1 : Int32)) μ _ _ _ _ hf (by omega) (by omega)
def fX11_differs_b158 (rec21 : Nat → Int32 → Int32 → Int32 → JM → JO (Int32)) (a : Nat) (x1 : Int32) (x2 : Int32) (x3 : Int32) (μ : JM) : JO (Int32) := rec21 a x1 x2 (x3 + (1 : Int32)) μ
set_option maxHeartbeats 4000000 in
set_option maxRecDepth 100000 in
theorem gX11_differs_b158 {b : Nat} {Θ : JE} {RC RS : Nat} {r : Int32} {ν : JM} (X : jX b Θ RX11 cX11_differs 7 (some .int) 3 63 RC RS) {rec21 : Nat → Int32 → Int32 → Int32 → JM → JO (Int32)} (hrec21 : ∀ (a : Nat) (x1 : Int32) (x2 : Int32) (x3 : Int32) (μ : JM) (c m k n : Nat), rec21 a x1 x2 x3 μ = some (r, ν, c, m) → k + c = RC → n + m = RS → WA b Θ 7 (jE b Θ (some (.int r)) ν RC RS) μ k n 21 [(0, va_rf (some a)), (1, .int x1), (2, .int x2), (3, .int x3)] []) (a : Nat) (x1 : Int32) (x2 : Int32) (x3 : Int32) (μ : JM) (c m k n : Nat) (hf : fX11_differs_b158 rec21 a x1 x2 x3 μ = some (r, ν, c, m)) (hk : k + c = RC) (hn : n + m = RS) : WA b Θ 7 (jE b Θ (some (.int r)) ν RC RS) μ k n 158 [(0, va_rf (some a)), (1, .int x1), (2, .int x2), (3, .int x3)] [] := by
  rw [fX11_differs_b158] at hf
  refine wa_iinc (v := (x3 + (1 : Int32))) (L2 := [(3, .int (x3 + (1 : Int32))), (0, va_rf (some a)), (1, .int x1), (2, .int x2)]) X 3 dX11_differs_158 rfl rfl (by decide) (by first | rfl | simp [va_rf_cat, cat_i, cat_l]) ?_
  refine wa_goto (tgt := 21) X dX11_differs_161 (by decide) ?_
  refine wa_sub (L2 := [(0, va_rf (some a)), (1, .int x1), (2, .int x2), (3, .int (x3 + (1 : Int32)))]) [1, 2, 3, 0] rfl ?_
  exact hrec21 a x1 x2 (x3 + (1 : Int32)) μ _ _ _ _ hf (by omega) (by omega)
def fX11_differs_b151 (rec21 : Nat → Int32 → Int32 → Int32 → JM → JO (Int32)) (a : Nat) (x1 : Int32) (x2 : Int32) (x3 : Int32) (x5 : Int32) (μ : JM) : JO (Int32) := if x5 = 0 then (some (x3, μ, 0, 0)) else (fX11_differs_b158 rec21 a x1 x2 x3 μ)
set_option maxHeartbeats 4000000 in
set_option maxRecDepth 100000 in
theorem gX11_differs_b151 {b : Nat} {Θ : JE} {RC RS : Nat} {r : Int32} {ν : JM} (X : jX b Θ RX11 cX11_differs 7 (some .int) 3 63 RC RS) {rec21 : Nat → Int32 → Int32 → Int32 → JM → JO (Int32)} (hrec21 : ∀ (a : Nat) (x1 : Int32) (x2 : Int32) (x3 : Int32) (μ : JM) (c m k n : Nat), rec21 a x1 x2 x3 μ = some (r, ν, c, m) → k + c = RC → n + m = RS → WA b Θ 7 (jE b Θ (some (.int r)) ν RC RS) μ k n 21 [(0, va_rf (some a)), (1, .int x1), (2, .int x2), (3, .int x3)] []) (a : Nat) (x1 : Int32) (x2 : Int32) (x3 : Int32) (x5 : Int32) (μ : JM) (c m k n : Nat) (hf : fX11_differs_b151 rec21 a x1 x2 x3 x5 μ = some (r, ν, c, m)) (hk : k + c = RC) (hn : n + m = RS) : WA b Θ 7 (jE b Θ (some (.int r)) ν RC RS) μ k n 151 [(0, va_rf (some a)), (1, .int x1), (2, .int x2), (3, .int x3), (5, .int x5)] [] := by
  rw [fX11_differs_b151] at hf
  refine wa_iload X 4 dX11_differs_151 rfl ?_
  refine wa_ifne (tgt := 158) X dX11_differs_153 (by decide) (fun h83 => ?_) (fun h83 => ?_)
  · rw [if_neg h83] at hf
    refine wa_sub (L2 := [(0, va_rf (some a)), (1, .int x1), (2, .int x2), (3, .int x3)]) [0, 1, 2, 3] rfl ?_
    exact gX11_differs_b158 X hrec21 a x1 x2 x3 μ _ _ _ _ hf (by omega) (by omega)
  · rw [if_pos h83] at hf
    refine wa_iload_n X 3 dX11_differs_156 rfl ?_
    obtain ⟨rfl, rfl, rfl, rfl⟩ := jret hf
    exact wa_iret X dX11_differs_157 rfl (by omega) (by omega)
def fX11_differs_b109 (rec21 : Nat → Int32 → Int32 → Int32 → JM → JO (Int32)) : Nat → Nat → Int32 → Int32 → Int32 → Int32 → Int32 → Int32 → JM → JO (Int32)
  | 0, _, _, _, _, _, _, _, _ => none
  | fu + 1, a, x1, x2, x3, x4, x5, x6, μ => if x5 = 0 then (fX11_differs_b151 rec21 a x1 x2 x3 x5 μ) else (if x4 ≤ x6 then (fX11_differs_b151 rec21 a x1 x2 x3 x5 μ) else (jck ((jT μ a).1 == 12) <| jde (jP μ a 66) fun q74 => jck ((jT μ q74).1 == 101) <| jck (jin x6 (jT μ q74).2) <| jde (jP μ a 64) fun q78 => jck ((jT μ q78).1 == 101) <| jck (jin x6 (jT μ q78).2) <| if (jI μ q74 (x6).toNatClampNeg) = (jI μ q78 (x6).toNatClampNeg) then (fX11_differs_b143 rec21 (fX11_differs_b109 rec21 fu) a x1 x2 x3 x4 x6 (1 : Int32) μ) else (fX11_differs_b143 rec21 (fX11_differs_b109 rec21 fu) a x1 x2 x3 x4 x6 (0 : Int32) μ)))
set_option maxHeartbeats 4000000 in
set_option maxRecDepth 100000 in
theorem gX11_differs_b109 {b : Nat} {Θ : JE} {RC RS : Nat} {r : Int32} {ν : JM} (X : jX b Θ RX11 cX11_differs 7 (some .int) 3 63 RC RS) {rec21 : Nat → Int32 → Int32 → Int32 → JM → JO (Int32)} (hrec21 : ∀ (a : Nat) (x1 : Int32) (x2 : Int32) (x3 : Int32) (μ : JM) (c m k n : Nat), rec21 a x1 x2 x3 μ = some (r, ν, c, m) → k + c = RC → n + m = RS → WA b Θ 7 (jE b Θ (some (.int r)) ν RC RS) μ k n 21 [(0, va_rf (some a)), (1, .int x1), (2, .int x2), (3, .int x3)] []) : ∀ (fu : Nat) (a : Nat) (x1 : Int32) (x2 : Int32) (x3 : Int32) (x4 : Int32) (x5 : Int32) (x6 : Int32) (μ : JM) (c m k n : Nat), fX11_differs_b109 rec21 fu a x1 x2 x3 x4 x5 x6 μ = some (r, ν, c, m) → k + c = RC → n + m = RS → WA b Θ 7 (jE b Θ (some (.int r)) ν RC RS) μ k n 109 [(0, va_rf (some a)), (1, .int x1), (2, .int x2), (3, .int x3), (4, .int x4), (5, .int x5), (6, .int x6)] [] := by
  intro fu
  induction fu with
  | zero => intro a x1 x2 x3 x4 x5 x6 μ c m k n hf; cases hf
  | succ fu ih =>
    intro a x1 x2 x3 x4 x5 x6 μ c m k n hf hk hn
    rw [fX11_differs_b109] at hf
    refine wa_iload X 5 dX11_differs_109 rfl ?_
    refine wa_ifeq (tgt := 151) X dX11_differs_111 (by decide) (fun h71 => ?_) (fun h71 => ?_)
    · rw [if_pos h71] at hf
      refine wa_sub (L2 := [(0, va_rf (some a)), (1, .int x1), (2, .int x2), (3, .int x3), (5, .int x5)]) [0, 1, 2, 3, 5] rfl ?_
      exact gX11_differs_b151 X hrec21 a x1 x2 x3 x5 μ _ _ _ _ hf (by omega) (by omega)
    · rw [if_neg h71] at hf
      refine wa_iload X 6 dX11_differs_114 rfl ?_
      refine wa_iload X 4 dX11_differs_116 rfl ?_
      refine wa_icge (tgt := 151) X dX11_differs_118 (by decide) (fun h72 => ?_) (fun h72 => ?_)
      · rw [if_pos h72] at hf
        refine wa_sub (L2 := [(0, va_rf (some a)), (1, .int x1), (2, .int x2), (3, .int x3), (5, .int x5)]) [0, 1, 2, 3, 5] rfl ?_
        exact gX11_differs_b151 X hrec21 a x1 x2 x3 x5 μ _ _ _ _ hf (by omega) (by omega)
      · rw [if_neg h72] at hf
        refine wa_aload_n X 0 dX11_differs_121 rfl ?_
        obtain ⟨h73, hf⟩ := jckT hf
        refine wa_getP X dX11_differs_122 lfX11_143 rfl h73 rfl ?_
        refine wa_iload X 6 dX11_differs_125 rfl ?_
        obtain ⟨q74, h75, hf⟩ := jde_some hf
        obtain ⟨h76, hf⟩ := jckT hf
        obtain ⟨h77, hf⟩ := jck_some hf
        refine wa_riald X dX11_differs_127 h75 h76 h77 ?_
        refine wa_aload_n X 0 dX11_differs_128 rfl ?_
        refine wa_getP X dX11_differs_129 lfX11_140 rfl h73 rfl ?_
        refine wa_iload X 6 dX11_differs_132 rfl ?_
        obtain ⟨q78, h79, hf⟩ := jde_some hf
        obtain ⟨h80, hf⟩ := jckT hf
        obtain ⟨h81, hf⟩ := jck_some hf
        refine wa_riald X dX11_differs_134 h79 h80 h81 ?_
        refine wa_icne (tgt := 142) X dX11_differs_135 (by decide) (fun h82 => ?_) (fun h82 => ?_)
        · rw [if_neg h82] at hf
          refine wa_iconst (v := (0 : Int32)) X dX11_differs_142 (by decide) ?_
          refine wa_sub (L2 := [(0, va_rf (some a)), (1, .int x1), (2, .int x2), (3, .int x3), (4, .int x4), (6, .int x6)]) [0, 1, 2, 3, 4, 6] rfl ?_
          exact gX11_differs_b143 X hrec21 ih a x1 x2 x3 x4 x6 (0 : Int32) μ _ _ _ _ hf (by omega) (by omega)
        · rw [if_pos h82] at hf
          refine wa_iconst (v := (1 : Int32)) X dX11_differs_138 (by decide) ?_
          refine wa_goto (tgt := 143) X dX11_differs_139 (by decide) ?_
          refine wa_sub (L2 := [(0, va_rf (some a)), (1, .int x1), (2, .int x2), (3, .int x3), (4, .int x4), (6, .int x6)]) [0, 1, 2, 3, 4, 6] rfl ?_
          exact gX11_differs_b143 X hrec21 ih a x1 x2 x3 x4 x6 (1 : Int32) μ _ _ _ _ hf (by omega) (by omega)
def fX11_differs_b104 (rec21 : Nat → Int32 → Int32 → Int32 → JM → JO (Int32)) (a : Nat) (x1 : Int32) (x2 : Int32) (x3 : Int32) (x4 : Int32) (s0 : Int32) (μ : JM) : JO (Int32) := fX11_differs_b109 rec21 jfuel a x1 x2 x3 x4 s0 (0 : Int32) μ
set_option maxHeartbeats 4000000 in
set_option maxRecDepth 100000 in
theorem gX11_differs_b104 {b : Nat} {Θ : JE} {RC RS : Nat} {r : Int32} {ν : JM} (X : jX b Θ RX11 cX11_differs 7 (some .int) 3 63 RC RS) {rec21 : Nat → Int32 → Int32 → Int32 → JM → JO (Int32)} (hrec21 : ∀ (a : Nat) (x1 : Int32) (x2 : Int32) (x3 : Int32) (μ : JM) (c m k n : Nat), rec21 a x1 x2 x3 μ = some (r, ν, c, m) → k + c = RC → n + m = RS → WA b Θ 7 (jE b Θ (some (.int r)) ν RC RS) μ k n 21 [(0, va_rf (some a)), (1, .int x1), (2, .int x2), (3, .int x3)] []) (a : Nat) (x1 : Int32) (x2 : Int32) (x3 : Int32) (x4 : Int32) (s0 : Int32) (μ : JM) (c m k n : Nat) (hf : fX11_differs_b104 rec21 a x1 x2 x3 x4 s0 μ = some (r, ν, c, m)) (hk : k + c = RC) (hn : n + m = RS) : WA b Θ 7 (jE b Θ (some (.int r)) ν RC RS) μ k n 104 [(0, va_rf (some a)), (1, .int x1), (2, .int x2), (3, .int x3), (4, .int x4)] [.int s0] := by
  rw [fX11_differs_b104] at hf
  refine wa_istore (L2 := [(5, .int s0), (0, va_rf (some a)), (1, .int x1), (2, .int x2), (3, .int x3), (4, .int x4)]) X dX11_differs_104 (by decide) (by first | rfl | (show (5, _) :: List.filter (fun q : Nat × Value => !(q.1 == 5) && !(q.1 + 1 == 5 && q.2.category == 2)) _ = _; simp [va_rf_cat, cat_i, cat_l])) ?_
  refine wa_iconst (v := (0 : Int32)) X dX11_differs_106 (by decide) ?_
  refine wa_istore (L2 := [(6, .int (0 : Int32)), (5, .int s0), (0, va_rf (some a)), (1, .int x1), (2, .int x2), (3, .int x3), (4, .int x4)]) X dX11_differs_107 (by decide) (by first | rfl | (show (6, _) :: List.filter (fun q : Nat × Value => !(q.1 == 6) && !(q.1 + 1 == 6 && q.2.category == 2)) _ = _; simp [va_rf_cat, cat_i, cat_l])) ?_
  refine wa_sub (L2 := [(0, va_rf (some a)), (1, .int x1), (2, .int x2), (3, .int x3), (4, .int x4), (5, .int s0), (6, .int (0 : Int32))]) [2, 3, 4, 5, 6, 1, 0] rfl ?_
  exact gX11_differs_b109 X hrec21 jfuel a x1 x2 x3 x4 s0 (0 : Int32) μ _ _ _ _ hf (by omega) (by omega)
def fX11_differs_b57 (rec21 : Nat → Int32 → Int32 → Int32 → JM → JO (Int32)) : Nat → Nat → Int32 → Int32 → Int32 → Int32 → Int32 → JM → JO (Int32)
  | 0, _, _, _, _, _, _, _ => none
  | fu + 1, a, x1, x2, x3, x4, x5, μ => if x4 ≤ x5 then (jck ((jT μ a).1 == 12) <| jcl (fX11_finds a x2 x3 μ) fun u48 μ49 => jck ((jT μ49 a).1 == 12) <| if x4 = (jI μ49 a 65) then (fX11_differs_b104 rec21 a x1 x2 x3 x4 (1 : Int32) μ49) else (fX11_differs_b104 rec21 a x1 x2 x3 x4 (0 : Int32) μ49)) else (jck ((jT μ a).1 == 12) <| jde (jP μ a 64) fun q60 => jck ((jT μ q60).1 == 101) <| jck (jin x5 (jT μ q60).2) <| jde (jP μ a 66) fun q64 => jck ((jT μ q64).1 == 101) <| jck (jin x5 (jT μ q64).2) <| jlt (jsI μ q64 (x5).toNatClampNeg (jI μ q60 (x5).toNatClampNeg)) fun μ68 => fX11_differs_b57 rec21 fu a x1 x2 x3 x4 (x5 + (1 : Int32)) μ68)
set_option maxHeartbeats 4000000 in
set_option maxRecDepth 100000 in
theorem gX11_differs_b57 {b : Nat} {Θ : JE} {RC RS : Nat} {r : Int32} {ν : JM} (X : jX b Θ RX11 cX11_differs 7 (some .int) 3 63 RC RS) {rec21 : Nat → Int32 → Int32 → Int32 → JM → JO (Int32)} (hrec21 : ∀ (a : Nat) (x1 : Int32) (x2 : Int32) (x3 : Int32) (μ : JM) (c m k n : Nat), rec21 a x1 x2 x3 μ = some (r, ν, c, m) → k + c = RC → n + m = RS → WA b Θ 7 (jE b Θ (some (.int r)) ν RC RS) μ k n 21 [(0, va_rf (some a)), (1, .int x1), (2, .int x2), (3, .int x3)] []) : ∀ (fu : Nat) (a : Nat) (x1 : Int32) (x2 : Int32) (x3 : Int32) (x4 : Int32) (x5 : Int32) (μ : JM) (c m k n : Nat), fX11_differs_b57 rec21 fu a x1 x2 x3 x4 x5 μ = some (r, ν, c, m) → k + c = RC → n + m = RS → WA b Θ 7 (jE b Θ (some (.int r)) ν RC RS) μ k n 57 [(0, va_rf (some a)), (1, .int x1), (2, .int x2), (3, .int x3), (4, .int x4), (5, .int x5)] [] := by
  intro fu
  induction fu with
  | zero => intro a x1 x2 x3 x4 x5 μ c m k n hf; cases hf
  | succ fu ih =>
    intro a x1 x2 x3 x4 x5 μ c m k n hf hk hn
    rw [fX11_differs_b57] at hf
    refine wa_iload X 5 dX11_differs_57 rfl ?_
    refine wa_iload X 4 dX11_differs_59 rfl ?_
    refine wa_icge (tgt := 84) X dX11_differs_61 (by decide) (fun h46 => ?_) (fun h46 => ?_)
    · rw [if_pos h46] at hf
      refine wa_aload_n X 0 dX11_differs_84 rfl ?_
      refine wa_iload_n X 2 dX11_differs_85 rfl ?_
      refine wa_iload_n X 3 dX11_differs_86 rfl ?_
      obtain ⟨h47, hf⟩ := jckT hf
      obtain ⟨u48, μ49, c50, m51, c52, m53, e54, hf, h55, h56⟩ := jcl_some hf
      refine wa_rcallV (st2 := []) X dX11_differs_87 lmX11_429 lMX11_finds rfl h47 (mX11_finds e54) rfl rfl rfl (va_cats (Nat.le_of_ble_eq_true rfl)) (by decide) (by omega) (by omega) ?_
      refine wa_iload X 4 dX11_differs_90 rfl ?_
      refine wa_aload_n X 0 dX11_differs_92 rfl ?_
      obtain ⟨h57, hf⟩ := jckT hf
      refine wa_getI X dX11_differs_93 lfX11_423 rfl h57 rfl ?_
      refine wa_icne (tgt := 103) X dX11_differs_96 (by decide) (fun h58 => ?_) (fun h58 => ?_)
      · rw [if_neg h58] at hf
        refine wa_iconst (v := (0 : Int32)) X dX11_differs_103 (by decide) ?_
        refine wa_sub (L2 := [(0, va_rf (some a)), (1, .int x1), (2, .int x2), (3, .int x3), (4, .int x4)]) [0, 1, 2, 3, 4] rfl ?_
        exact gX11_differs_b104 X hrec21 a x1 x2 x3 x4 (0 : Int32) μ49 _ _ _ _ hf (by omega) (by omega)
      · rw [if_pos h58] at hf
        refine wa_iconst (v := (1 : Int32)) X dX11_differs_99 (by decide) ?_
        refine wa_goto (tgt := 104) X dX11_differs_100 (by decide) ?_
        refine wa_sub (L2 := [(0, va_rf (some a)), (1, .int x1), (2, .int x2), (3, .int x3), (4, .int x4)]) [0, 1, 2, 3, 4] rfl ?_
        exact gX11_differs_b104 X hrec21 a x1 x2 x3 x4 (1 : Int32) μ49 _ _ _ _ hf (by omega) (by omega)
    · rw [if_neg h46] at hf
      refine wa_aload_n X 0 dX11_differs_64 rfl ?_
      obtain ⟨h59, hf⟩ := jckT hf
      refine wa_getP X dX11_differs_65 lfX11_143 rfl h59 rfl ?_
      refine wa_iload X 5 dX11_differs_68 rfl ?_
      refine wa_aload_n X 0 dX11_differs_70 rfl ?_
      refine wa_getP X dX11_differs_71 lfX11_140 rfl h59 rfl ?_
      refine wa_iload X 5 dX11_differs_74 rfl ?_
      obtain ⟨q60, h61, hf⟩ := jde_some hf
      obtain ⟨h62, hf⟩ := jckT hf
      obtain ⟨h63, hf⟩ := jck_some hf
      refine wa_riald X dX11_differs_76 h61 h62 h63 ?_
      obtain ⟨q64, h65, hf⟩ := jde_some hf
      obtain ⟨h66, hf⟩ := jckT hf
      obtain ⟨h67, hf⟩ := jck_some hf
      obtain ⟨μ68, hm69, hf⟩ := jlt_e hf
      have e70 : jT μ68 = jT μ := by rw [hm69]; rfl
      refine wa_riast (ν := μ68) X dX11_differs_77 h65 h66 h67 hm69 ?_
      refine wa_iinc (v := (x5 + (1 : Int32))) (L2 := [(5, .int (x5 + (1 : Int32))), (0, va_rf (some a)), (1, .int x1), (2, .int x2), (3, .int x3), (4, .int x4)]) X 5 dX11_differs_78 rfl rfl (by decide) (by first | rfl | simp [va_rf_cat, cat_i, cat_l]) ?_
      refine wa_goto (tgt := 57) X dX11_differs_81 (by decide) ?_
      refine wa_sub (L2 := [(0, va_rf (some a)), (1, .int x1), (2, .int x2), (3, .int x3), (4, .int x4), (5, .int (x5 + (1 : Int32)))]) [1, 2, 3, 4, 5, 0] rfl ?_
      exact ih a x1 x2 x3 x4 (x5 + (1 : Int32)) μ68 _ _ _ _ hf (by omega) (by omega)
def fX11_differs_b21 : Nat → Nat → Int32 → Int32 → Int32 → JM → JO (Int32)
  | 0, _, _, _, _, _ => none
  | fu + 1, a, x1, x2, x3, μ => jck ((jT μ a).1 == 12) <| if (jshl (1 : Int32) (jI μ a 2)) ≤ x3 then (some ((-1 : Int32), μ, 0, 0)) else (jcl (fX11_isIn a x3 μ) fun r25 μ26 => if r25 = 0 then (fX11_differs_b158 (fX11_differs_b21 fu) a x1 x2 x3 μ26) else (jck ((jT μ26 a).1 == 12) <| jcl (fX11_finds a x1 x3 μ26) fun u36 μ37 => jck ((jT μ37 a).1 == 12) <| fX11_differs_b57 (fX11_differs_b21 fu) jfuel a x1 x2 x3 (jI μ37 a 65) (0 : Int32) μ37))
set_option maxHeartbeats 4000000 in
set_option maxRecDepth 100000 in
theorem gX11_differs_b21 {b : Nat} {Θ : JE} {RC RS : Nat} {r : Int32} {ν : JM} (X : jX b Θ RX11 cX11_differs 7 (some .int) 3 63 RC RS) : ∀ (fu : Nat) (a : Nat) (x1 : Int32) (x2 : Int32) (x3 : Int32) (μ : JM) (c m k n : Nat), fX11_differs_b21 fu a x1 x2 x3 μ = some (r, ν, c, m) → k + c = RC → n + m = RS → WA b Θ 7 (jE b Θ (some (.int r)) ν RC RS) μ k n 21 [(0, va_rf (some a)), (1, .int x1), (2, .int x2), (3, .int x3)] [] := by
  intro fu
  induction fu with
  | zero => intro a x1 x2 x3 μ c m k n hf; cases hf
  | succ fu ih =>
    intro a x1 x2 x3 μ c m k n hf hk hn
    rw [fX11_differs_b21] at hf
    refine wa_iload_n X 3 dX11_differs_21 rfl ?_
    refine wa_iconst (v := (1 : Int32)) X dX11_differs_22 (by decide) ?_
    refine wa_aload_n X 0 dX11_differs_23 rfl ?_
    obtain ⟨h23, hf⟩ := jckT hf
    refine wa_getI X dX11_differs_24 lfX11_13 rfl h23 rfl ?_
    refine wa_ishl X dX11_differs_27 ?_
    refine wa_icge (tgt := 164) X dX11_differs_28 (by decide) (fun h24 => ?_) (fun h24 => ?_)
    · rw [if_pos h24] at hf
      refine wa_iconst (v := (-1 : Int32)) X dX11_differs_164 (by decide) ?_
      obtain ⟨rfl, rfl, rfl, rfl⟩ := jret hf
      exact wa_iret X dX11_differs_165 rfl (by omega) (by omega)
    · rw [if_neg h24] at hf
      refine wa_aload_n X 0 dX11_differs_31 rfl ?_
      refine wa_iload_n X 3 dX11_differs_32 rfl ?_
      obtain ⟨r25, μ26, c27, m28, c29, m30, e31, hf, h32, h33⟩ := jcl_some hf
      refine wa_rcallV (st2 := [.int r25]) X dX11_differs_33 lmX11_408 lMX11_isIn rfl h23 (mX11_isIn e31) rfl rfl rfl (va_cats (Nat.le_of_ble_eq_true rfl)) (by decide) (by omega) (by omega) ?_
      refine wa_ifne (tgt := 42) X dX11_differs_36 (by decide) (fun h34 => ?_) (fun h34 => ?_)
      · rw [if_neg h34] at hf
        refine wa_aload_n X 0 dX11_differs_42 rfl ?_
        refine wa_iload_n X 1 dX11_differs_43 rfl ?_
        refine wa_iload_n X 3 dX11_differs_44 rfl ?_
        obtain ⟨h35, hf⟩ := jckT hf
        obtain ⟨u36, μ37, c38, m39, c40, m41, e42, hf, h43, h44⟩ := jcl_some hf
        refine wa_rcallV (st2 := []) X dX11_differs_45 lmX11_429 lMX11_finds rfl h35 (mX11_finds e42) rfl rfl rfl (va_cats (Nat.le_of_ble_eq_true rfl)) (by decide) (by omega) (by omega) ?_
        refine wa_aload_n X 0 dX11_differs_48 rfl ?_
        obtain ⟨h45, hf⟩ := jckT hf
        refine wa_getI X dX11_differs_49 lfX11_423 rfl h45 rfl ?_
        refine wa_istore (L2 := [(4, .int (jI μ37 a 65)), (0, va_rf (some a)), (1, .int x1), (2, .int x2), (3, .int x3)]) X dX11_differs_52 (by decide) (by first | rfl | (show (4, _) :: List.filter (fun q : Nat × Value => !(q.1 == 4) && !(q.1 + 1 == 4 && q.2.category == 2)) _ = _; simp [va_rf_cat, cat_i, cat_l])) ?_
        refine wa_iconst (v := (0 : Int32)) X dX11_differs_54 (by decide) ?_
        refine wa_istore (L2 := [(5, .int (0 : Int32)), (4, .int (jI μ37 a 65)), (0, va_rf (some a)), (1, .int x1), (2, .int x2), (3, .int x3)]) X dX11_differs_55 (by decide) (by first | rfl | (show (5, _) :: List.filter (fun q : Nat × Value => !(q.1 == 5) && !(q.1 + 1 == 5 && q.2.category == 2)) _ = _; simp [va_rf_cat, cat_i, cat_l])) ?_
        refine wa_sub (L2 := [(0, va_rf (some a)), (1, .int x1), (2, .int x2), (3, .int x3), (4, .int (jI μ37 a 65)), (5, .int (0 : Int32))]) [2, 3, 4, 5, 1, 0] rfl ?_
        exact gX11_differs_b57 X ih jfuel a x1 x2 x3 (jI μ37 a 65) (0 : Int32) μ37 _ _ _ _ hf (by omega) (by omega)
      · rw [if_pos h34] at hf
        refine wa_goto (tgt := 158) X dX11_differs_39 (by decide) ?_
        refine wa_sub (L2 := [(0, va_rf (some a)), (1, .int x1), (2, .int x2), (3, .int x3)]) [0, 1, 2, 3] rfl ?_
        exact gX11_differs_b158 X ih a x1 x2 x3 μ26 _ _ _ _ hf (by omega) (by omega)
def fX11_differs (a : Nat) (x1 : Int32) (x2 : Int32) (μ : JM) : JO (Int32) := jck ((jT μ a).1 == 12) <| jcl (fX11_isVersion a x1 μ) fun r2 μ3 => if r2 = 0 then (some ((-2 : Int32), μ3, 0, 0)) else (jck ((jT μ3 a).1 == 12) <| jcl (fX11_isVersion a x2 μ3) fun r13 μ14 => if r13 = 0 then (some ((-2 : Int32), μ14, 0, 0)) else (fX11_differs_b21  jfuel a x1 x2 (0 : Int32) μ14))
set_option maxHeartbeats 4000000 in
set_option maxRecDepth 100000 in
theorem mX11_differs {b : Nat} {a : Nat} {x1 : Int32} {x2 : Int32} {μ : JM} {r : Int32} {ν : JM} {c m : Nat} (hf : fX11_differs a x1 x2 μ = some (r, ν, c, m)) : JMet b yX11_differs cX11_differs 7 (some .int) 3 63 [va_rf (some a), .int x1, .int x2] μ (some (.int r)) ν c m := by
  refine JMet.of (by decide) (lg_sl_le (by simp only [List.map_cons, List.map_nil, List.sum_cons, List.sum_nil, va_rf_cat]; exact Nat.le_of_ble_eq_true rfl)) (fun Θ X hin => ?_)
  refine wa_eq (L2 := [(0, va_rf (some a)), (1, .int x1), (2, .int x2)]) ?_ rfl (by first | rfl | simp [lv_args, va_rf_cat, cat_i, cat_l]) rfl
  obtain ⟨k, hk0⟩ : ∃ k : Nat, k = 0 := ⟨0, rfl⟩
  obtain ⟨n, hn0⟩ : ∃ n : Nat, n = 0 := ⟨0, rfl⟩
  have hk : k + c = c := by omega
  have hn : n + m = m := by omega
  refine wa_costs hk0.symm hn0.symm ?_
  rw [fX11_differs] at hf
  refine wa_aload_n X 0 dX11_differs_0 rfl ?_
  refine wa_iload_n X 1 dX11_differs_1 rfl ?_
  obtain ⟨h1, hf⟩ := jckT hf
  obtain ⟨r2, μ3, c4, m5, c6, m7, e8, hf, h9, h10⟩ := jcl_some hf
  refine wa_rcallV (st2 := [.int r2]) X dX11_differs_2 lmX11_393 lMX11_isVersion rfl h1 (mX11_isVersion e8) rfl rfl rfl (va_cats (Nat.le_of_ble_eq_true rfl)) (by decide) (by omega) (by omega) ?_
  refine wa_ifeq (tgt := 16) X dX11_differs_5 (by decide) (fun h11 => ?_) (fun h11 => ?_)
  · rw [if_pos h11] at hf
    refine wa_bipush (v := (-2 : Int32)) X dX11_differs_16 (by decide) ?_
    obtain ⟨rfl, rfl, rfl, rfl⟩ := jret hf
    exact wa_iret X dX11_differs_18 rfl (by omega) (by omega)
  · rw [if_neg h11] at hf
    refine wa_aload_n X 0 dX11_differs_8 rfl ?_
    refine wa_iload_n X 2 dX11_differs_9 rfl ?_
    obtain ⟨h12, hf⟩ := jckT hf
    obtain ⟨r13, μ14, c15, m16, c17, m18, e19, hf, h20, h21⟩ := jcl_some hf
    refine wa_rcallV (st2 := [.int r13]) X dX11_differs_10 lmX11_393 lMX11_isVersion rfl h12 (mX11_isVersion e19) rfl rfl rfl (va_cats (Nat.le_of_ble_eq_true rfl)) (by decide) (by omega) (by omega) ?_
    refine wa_ifne (tgt := 19) X dX11_differs_13 (by decide) (fun h22 => ?_) (fun h22 => ?_)
    · rw [if_neg h22] at hf
      refine wa_iconst (v := (0 : Int32)) X dX11_differs_19 (by decide) ?_
      refine wa_istore_n (L2 := [(3, .int (0 : Int32)), (0, va_rf (some a)), (1, .int x1), (2, .int x2)]) X dX11_differs_20 (by decide) (by first | rfl | (show (3, _) :: List.filter (fun q : Nat × Value => !(q.1 == 3) && !(q.1 + 1 == 3 && q.2.category == 2)) _ = _; simp [va_rf_cat, cat_i, cat_l])) ?_
      refine wa_sub (L2 := [(0, va_rf (some a)), (1, .int x1), (2, .int x2), (3, .int (0 : Int32))]) [1, 2, 3, 0] rfl ?_
      exact gX11_differs_b21 X jfuel a x1 x2 (0 : Int32) μ14 _ _ _ _ hf (by omega) (by omega)
    · rw [if_pos h22] at hf
      refine wa_bipush (v := (-2 : Int32)) X dX11_differs_16 (by decide) ?_
      obtain ⟨rfl, rfl, rfl, rfl⟩ := jret hf
      exact wa_iret X dX11_differs_18 rfl (by omega) (by omega)
theorem dX11_likewise_0 : decode cX11_likewise 0 = .ok (.bipush 24, 2) := by decide +kernel
theorem dX11_likewise_2 : decode cX11_likewise 2 = .ok (.iload_n 1, 1) := by decide +kernel
theorem dX11_likewise_3 : decode cX11_likewise 3 = .ok (.imul, 1) := by decide +kernel
theorem dX11_likewise_4 : decode cX11_likewise 4 = .ok (.iload_n 2, 1) := by decide +kernel
theorem dX11_likewise_5 : decode cX11_likewise 5 = .ok (.iadd, 1) := by decide +kernel
theorem dX11_likewise_6 : decode cX11_likewise 6 = .ok (.istore 4, 2) := by decide +kernel
theorem dX11_likewise_8 : decode cX11_likewise 8 = .ok (.iconst 0, 1) := by decide +kernel
theorem dX11_likewise_9 : decode cX11_likewise 9 = .ok (.istore 5, 2) := by decide +kernel
theorem dX11_likewise_11 : decode cX11_likewise 11 = .ok (.iload 5, 2) := by decide +kernel
theorem dX11_likewise_13 : decode cX11_likewise 13 = .ok (.aload_n 0, 1) := by decide +kernel
theorem dX11_likewise_14 : decode cX11_likewise 14 = .ok (.getfield 73, 3) := by decide +kernel
theorem dX11_likewise_17 : decode cX11_likewise 17 = .ok (.iload_n 3, 1) := by decide +kernel
theorem dX11_likewise_18 : decode cX11_likewise 18 = .ok (.iaload, 1) := by decide +kernel
theorem dX11_likewise_19 : decode cX11_likewise 19 = .ok (.if_icmp .ge 122, 3) := by decide +kernel
theorem dX11_likewise_22 : decode cX11_likewise 22 = .ok (.bipush 24, 2) := by decide +kernel
theorem dX11_likewise_24 : decode cX11_likewise 24 = .ok (.iload_n 3, 1) := by decide +kernel
theorem dX11_likewise_25 : decode cX11_likewise 25 = .ok (.imul, 1) := by decide +kernel
theorem dX11_likewise_26 : decode cX11_likewise 26 = .ok (.iload 5, 2) := by decide +kernel
theorem dX11_likewise_28 : decode cX11_likewise 28 = .ok (.iadd, 1) := by decide +kernel
theorem dX11_likewise_29 : decode cX11_likewise 29 = .ok (.istore 6, 2) := by decide +kernel
theorem dX11_likewise_31 : decode cX11_likewise 31 = .ok (.aload_n 0, 1) := by decide +kernel
theorem dX11_likewise_32 : decode cX11_likewise 32 = .ok (.getfield 76, 3) := by decide +kernel
theorem dX11_likewise_35 : decode cX11_likewise 35 = .ok (.iload 6, 2) := by decide +kernel
theorem dX11_likewise_37 : decode cX11_likewise 37 = .ok (.iaload, 1) := by decide +kernel
theorem dX11_likewise_38 : decode cX11_likewise 38 = .ok (.ifCond .eq 24, 3) := by decide +kernel
theorem dX11_likewise_41 : decode cX11_likewise 41 = .ok (.aload_n 0, 1) := by decide +kernel
theorem dX11_likewise_42 : decode cX11_likewise 42 = .ok (.getfield 100, 3) := by decide +kernel
theorem dX11_likewise_45 : decode cX11_likewise 45 = .ok (.iload 6, 2) := by decide +kernel
theorem dX11_likewise_47 : decode cX11_likewise 47 = .ok (.iaload, 1) := by decide +kernel
theorem dX11_likewise_48 : decode cX11_likewise 48 = .ok (.aload_n 0, 1) := by decide +kernel
theorem dX11_likewise_49 : decode cX11_likewise 49 = .ok (.getfield 100, 3) := by decide +kernel
theorem dX11_likewise_52 : decode cX11_likewise 52 = .ok (.iload 4, 2) := by decide +kernel
theorem dX11_likewise_54 : decode cX11_likewise 54 = .ok (.iaload, 1) := by decide +kernel
theorem dX11_likewise_55 : decode cX11_likewise 55 = .ok (.if_icmp .ne 7, 3) := by decide +kernel
theorem dX11_likewise_58 : decode cX11_likewise 58 = .ok (.iconst 1, 1) := by decide +kernel
theorem dX11_likewise_59 : decode cX11_likewise 59 = .ok (.goto 4, 3) := by decide +kernel
theorem dX11_likewise_62 : decode cX11_likewise 62 = .ok (.iconst 0, 1) := by decide +kernel
theorem dX11_likewise_63 : decode cX11_likewise 63 = .ok (.istore 7, 2) := by decide +kernel
theorem dX11_likewise_65 : decode cX11_likewise 65 = .ok (.iconst 0, 1) := by decide +kernel
theorem dX11_likewise_66 : decode cX11_likewise 66 = .ok (.istore 8, 2) := by decide +kernel
theorem dX11_likewise_68 : decode cX11_likewise 68 = .ok (.iload 7, 2) := by decide +kernel
theorem dX11_likewise_70 : decode cX11_likewise 70 = .ok (.ifCond .eq 57, 3) := by decide +kernel
theorem dX11_likewise_73 : decode cX11_likewise 73 = .ok (.iload 8, 2) := by decide +kernel
theorem dX11_likewise_75 : decode cX11_likewise 75 = .ok (.aload_n 0, 1) := by decide +kernel
theorem dX11_likewise_76 : decode cX11_likewise 76 = .ok (.getfield 100, 3) := by decide +kernel
theorem dX11_likewise_79 : decode cX11_likewise 79 = .ok (.iload 4, 2) := by decide +kernel
theorem dX11_likewise_81 : decode cX11_likewise 81 = .ok (.iaload, 1) := by decide +kernel
theorem dX11_likewise_82 : decode cX11_likewise 82 = .ok (.if_icmp .ge 45, 3) := by decide +kernel
theorem dX11_likewise_85 : decode cX11_likewise 85 = .ok (.aload_n 0, 1) := by decide +kernel
theorem dX11_likewise_86 : decode cX11_likewise 86 = .ok (.getfield 97, 3) := by decide +kernel
theorem dX11_likewise_89 : decode cX11_likewise 89 = .ok (.bipush 12, 2) := by decide +kernel
theorem dX11_likewise_91 : decode cX11_likewise 91 = .ok (.iload 4, 2) := by decide +kernel
theorem dX11_likewise_93 : decode cX11_likewise 93 = .ok (.imul, 1) := by decide +kernel
theorem dX11_likewise_94 : decode cX11_likewise 94 = .ok (.iload 8, 2) := by decide +kernel
theorem dX11_likewise_96 : decode cX11_likewise 96 = .ok (.iadd, 1) := by decide +kernel
theorem dX11_likewise_97 : decode cX11_likewise 97 = .ok (.baload, 1) := by decide +kernel
theorem dX11_likewise_98 : decode cX11_likewise 98 = .ok (.aload_n 0, 1) := by decide +kernel
theorem dX11_likewise_99 : decode cX11_likewise 99 = .ok (.getfield 97, 3) := by decide +kernel
theorem dX11_likewise_102 : decode cX11_likewise 102 = .ok (.bipush 12, 2) := by decide +kernel
theorem dX11_likewise_104 : decode cX11_likewise 104 = .ok (.iload 6, 2) := by decide +kernel
theorem dX11_likewise_106 : decode cX11_likewise 106 = .ok (.imul, 1) := by decide +kernel
theorem dX11_likewise_107 : decode cX11_likewise 107 = .ok (.iload 8, 2) := by decide +kernel
theorem dX11_likewise_109 : decode cX11_likewise 109 = .ok (.iadd, 1) := by decide +kernel
theorem dX11_likewise_110 : decode cX11_likewise 110 = .ok (.baload, 1) := by decide +kernel
theorem dX11_likewise_111 : decode cX11_likewise 111 = .ok (.if_icmp .ne 7, 3) := by decide +kernel
theorem dX11_likewise_114 : decode cX11_likewise 114 = .ok (.iconst 1, 1) := by decide +kernel
theorem dX11_likewise_115 : decode cX11_likewise 115 = .ok (.goto 4, 3) := by decide +kernel
theorem dX11_likewise_118 : decode cX11_likewise 118 = .ok (.iconst 0, 1) := by decide +kernel
theorem dX11_likewise_119 : decode cX11_likewise 119 = .ok (.istore 7, 2) := by decide +kernel
theorem dX11_likewise_121 : decode cX11_likewise 121 = .ok (.iinc 8 1, 3) := by decide +kernel
theorem dX11_likewise_124 : decode cX11_likewise 124 = .ok (.goto (-56), 3) := by decide +kernel
theorem dX11_likewise_127 : decode cX11_likewise 127 = .ok (.iload 7, 2) := by decide +kernel
theorem dX11_likewise_129 : decode cX11_likewise 129 = .ok (.ifCond .eq 6, 3) := by decide +kernel
theorem dX11_likewise_132 : decode cX11_likewise 132 = .ok (.iload 5, 2) := by decide +kernel
theorem dX11_likewise_134 : decode cX11_likewise 134 = .ok (.ireturn, 1) := by decide +kernel
theorem dX11_likewise_135 : decode cX11_likewise 135 = .ok (.iinc 5 1, 3) := by decide +kernel
theorem dX11_likewise_138 : decode cX11_likewise 138 = .ok (.goto (-127), 3) := by decide +kernel
theorem dX11_likewise_141 : decode cX11_likewise 141 = .ok (.iconst (-1), 1) := by decide +kernel
theorem dX11_likewise_142 : decode cX11_likewise 142 = .ok (.ireturn, 1) := by decide +kernel
def fX11_likewise_b119 (rec11 : Nat → Int32 → Int32 → Int32 → JM → JO (Int32)) (rec68 : Nat → Int32 → Int32 → Int32 → Int32 → Int32 → Int32 → JM → JO (Int32)) (a : Nat) (x3 : Int32) (x4 : Int32) (x5 : Int32) (x6 : Int32) (x8 : Int32) (s0 : Int32) (μ : JM) : JO (Int32) := rec68 a x3 x4 x5 x6 s0 (x8 + (1 : Int32)) μ
set_option maxHeartbeats 4000000 in
set_option maxRecDepth 100000 in
theorem gX11_likewise_b119 {b : Nat} {Θ : JE} {RC RS : Nat} {r : Int32} {ν : JM} (X : jX b Θ RX11 cX11_likewise 9 (some .int) 0 0 RC RS) {rec11 : Nat → Int32 → Int32 → Int32 → JM → JO (Int32)} (hrec11 : ∀ (a : Nat) (x3 : Int32) (x4 : Int32) (x5 : Int32) (μ : JM) (c m k n : Nat), rec11 a x3 x4 x5 μ = some (r, ν, c, m) → k + c = RC → n + m = RS → WA b Θ 9 (jE b Θ (some (.int r)) ν RC RS) μ k n 11 [(0, va_rf (some a)), (3, .int x3), (4, .int x4), (5, .int x5)] []) {rec68 : Nat → Int32 → Int32 → Int32 → Int32 → Int32 → Int32 → JM → JO (Int32)} (hrec68 : ∀ (a : Nat) (x3 : Int32) (x4 : Int32) (x5 : Int32) (x6 : Int32) (x7 : Int32) (x8 : Int32) (μ : JM) (c m k n : Nat), rec68 a x3 x4 x5 x6 x7 x8 μ = some (r, ν, c, m) → k + c = RC → n + m = RS → WA b Θ 9 (jE b Θ (some (.int r)) ν RC RS) μ k n 68 [(0, va_rf (some a)), (3, .int x3), (4, .int x4), (5, .int x5), (6, .int x6), (7, .int x7), (8, .int x8)] []) (a : Nat) (x3 : Int32) (x4 : Int32) (x5 : Int32) (x6 : Int32) (x8 : Int32) (s0 : Int32) (μ : JM) (c m k n : Nat) (hf : fX11_likewise_b119 rec11 rec68 a x3 x4 x5 x6 x8 s0 μ = some (r, ν, c, m)) (hk : k + c = RC) (hn : n + m = RS) : WA b Θ 9 (jE b Θ (some (.int r)) ν RC RS) μ k n 119 [(0, va_rf (some a)), (3, .int x3), (4, .int x4), (5, .int x5), (6, .int x6), (8, .int x8)] [.int s0] := by
  rw [fX11_likewise_b119] at hf
  refine wa_istore (L2 := [(7, .int s0), (0, va_rf (some a)), (3, .int x3), (4, .int x4), (5, .int x5), (6, .int x6), (8, .int x8)]) X dX11_likewise_119 (by decide) (by first | rfl | (show (7, _) :: List.filter (fun q : Nat × Value => !(q.1 == 7) && !(q.1 + 1 == 7 && q.2.category == 2)) _ = _; simp [va_rf_cat, cat_i, cat_l])) ?_
  refine wa_iinc (v := (x8 + (1 : Int32))) (L2 := [(8, .int (x8 + (1 : Int32))), (7, .int s0), (0, va_rf (some a)), (3, .int x3), (4, .int x4), (5, .int x5), (6, .int x6)]) X 6 dX11_likewise_121 rfl rfl (by decide) (by first | rfl | simp [va_rf_cat, cat_i, cat_l]) ?_
  refine wa_goto (tgt := 68) X dX11_likewise_124 (by decide) ?_
  refine wa_sub (L2 := [(0, va_rf (some a)), (3, .int x3), (4, .int x4), (5, .int x5), (6, .int x6), (7, .int s0), (8, .int (x8 + (1 : Int32)))]) [2, 3, 4, 5, 6, 1, 0] rfl ?_
  exact hrec68 a x3 x4 x5 x6 s0 (x8 + (1 : Int32)) μ _ _ _ _ hf (by omega) (by omega)
def fX11_likewise_b127 (rec11 : Nat → Int32 → Int32 → Int32 → JM → JO (Int32)) (a : Nat) (x3 : Int32) (x4 : Int32) (x5 : Int32) (x7 : Int32) (μ : JM) : JO (Int32) := if x7 = 0 then (rec11 a x3 x4 (x5 + (1 : Int32)) μ) else (some (x5, μ, 0, 0))
set_option maxHeartbeats 4000000 in
set_option maxRecDepth 100000 in
theorem gX11_likewise_b127 {b : Nat} {Θ : JE} {RC RS : Nat} {r : Int32} {ν : JM} (X : jX b Θ RX11 cX11_likewise 9 (some .int) 0 0 RC RS) {rec11 : Nat → Int32 → Int32 → Int32 → JM → JO (Int32)} (hrec11 : ∀ (a : Nat) (x3 : Int32) (x4 : Int32) (x5 : Int32) (μ : JM) (c m k n : Nat), rec11 a x3 x4 x5 μ = some (r, ν, c, m) → k + c = RC → n + m = RS → WA b Θ 9 (jE b Θ (some (.int r)) ν RC RS) μ k n 11 [(0, va_rf (some a)), (3, .int x3), (4, .int x4), (5, .int x5)] []) (a : Nat) (x3 : Int32) (x4 : Int32) (x5 : Int32) (x7 : Int32) (μ : JM) (c m k n : Nat) (hf : fX11_likewise_b127 rec11 a x3 x4 x5 x7 μ = some (r, ν, c, m)) (hk : k + c = RC) (hn : n + m = RS) : WA b Θ 9 (jE b Θ (some (.int r)) ν RC RS) μ k n 127 [(0, va_rf (some a)), (3, .int x3), (4, .int x4), (5, .int x5), (7, .int x7)] [] := by
  rw [fX11_likewise_b127] at hf
  refine wa_iload X 4 dX11_likewise_127 rfl ?_
  refine wa_ifeq (tgt := 135) X dX11_likewise_129 (by decide) (fun h31 => ?_) (fun h31 => ?_)
  · rw [if_pos h31] at hf
    refine wa_iinc (v := (x5 + (1 : Int32))) (L2 := [(5, .int (x5 + (1 : Int32))), (0, va_rf (some a)), (3, .int x3), (4, .int x4), (7, .int x7)]) X 3 dX11_likewise_135 rfl rfl (by decide) (by first | rfl | simp [va_rf_cat, cat_i, cat_l]) ?_
    refine wa_goto (tgt := 11) X dX11_likewise_138 (by decide) ?_
    refine wa_sub (L2 := [(0, va_rf (some a)), (3, .int x3), (4, .int x4), (5, .int (x5 + (1 : Int32)))]) [1, 2, 3, 0] rfl ?_
    exact hrec11 a x3 x4 (x5 + (1 : Int32)) μ _ _ _ _ hf (by omega) (by omega)
  · rw [if_neg h31] at hf
    refine wa_iload X 3 dX11_likewise_132 rfl ?_
    obtain ⟨rfl, rfl, rfl, rfl⟩ := jret hf
    exact wa_iret X dX11_likewise_134 rfl (by omega) (by omega)
def fX11_likewise_b68 (rec11 : Nat → Int32 → Int32 → Int32 → JM → JO (Int32)) : Nat → Nat → Int32 → Int32 → Int32 → Int32 → Int32 → Int32 → JM → JO (Int32)
  | 0, _, _, _, _, _, _, _, _ => none
  | fu + 1, a, x3, x4, x5, x6, x7, x8, μ => if x7 = 0 then (fX11_likewise_b127 rec11 a x3 x4 x5 x7 μ) else (jck ((jT μ a).1 == 12) <| jde (jP μ a 43) fun q20 => jck ((jT μ q20).1 == 101) <| jck (jin x4 (jT μ q20).2) <| if (jI μ q20 (x4).toNatClampNeg) ≤ x8 then (fX11_likewise_b127 rec11 a x3 x4 x5 x7 μ) else (jde (jP μ a 42) fun q25 => jck ((jT μ q25).1 == 100) <| jck (jin (((12 : Int32) * x4) + x8) (jT μ q25).2) <| jck (jin (((12 : Int32) * x6) + x8) (jT μ q25).2) <| if (jI μ q25 ((((12 : Int32) * x4) + x8)).toNatClampNeg) = (jI μ q25 ((((12 : Int32) * x6) + x8)).toNatClampNeg) then (fX11_likewise_b119 rec11 (fX11_likewise_b68 rec11 fu) a x3 x4 x5 x6 x8 (1 : Int32) μ) else (fX11_likewise_b119 rec11 (fX11_likewise_b68 rec11 fu) a x3 x4 x5 x6 x8 (0 : Int32) μ)))
set_option maxHeartbeats 4000000 in
set_option maxRecDepth 100000 in
theorem gX11_likewise_b68 {b : Nat} {Θ : JE} {RC RS : Nat} {r : Int32} {ν : JM} (X : jX b Θ RX11 cX11_likewise 9 (some .int) 0 0 RC RS) {rec11 : Nat → Int32 → Int32 → Int32 → JM → JO (Int32)} (hrec11 : ∀ (a : Nat) (x3 : Int32) (x4 : Int32) (x5 : Int32) (μ : JM) (c m k n : Nat), rec11 a x3 x4 x5 μ = some (r, ν, c, m) → k + c = RC → n + m = RS → WA b Θ 9 (jE b Θ (some (.int r)) ν RC RS) μ k n 11 [(0, va_rf (some a)), (3, .int x3), (4, .int x4), (5, .int x5)] []) : ∀ (fu : Nat) (a : Nat) (x3 : Int32) (x4 : Int32) (x5 : Int32) (x6 : Int32) (x7 : Int32) (x8 : Int32) (μ : JM) (c m k n : Nat), fX11_likewise_b68 rec11 fu a x3 x4 x5 x6 x7 x8 μ = some (r, ν, c, m) → k + c = RC → n + m = RS → WA b Θ 9 (jE b Θ (some (.int r)) ν RC RS) μ k n 68 [(0, va_rf (some a)), (3, .int x3), (4, .int x4), (5, .int x5), (6, .int x6), (7, .int x7), (8, .int x8)] [] := by
  intro fu
  induction fu with
  | zero => intro a x3 x4 x5 x6 x7 x8 μ c m k n hf; cases hf
  | succ fu ih =>
    intro a x3 x4 x5 x6 x7 x8 μ c m k n hf hk hn
    rw [fX11_likewise_b68] at hf
    refine wa_iload X 5 dX11_likewise_68 rfl ?_
    refine wa_ifeq (tgt := 127) X dX11_likewise_70 (by decide) (fun h18 => ?_) (fun h18 => ?_)
    · rw [if_pos h18] at hf
      refine wa_sub (L2 := [(0, va_rf (some a)), (3, .int x3), (4, .int x4), (5, .int x5), (7, .int x7)]) [0, 1, 2, 3, 5] rfl ?_
      exact gX11_likewise_b127 X hrec11 a x3 x4 x5 x7 μ _ _ _ _ hf (by omega) (by omega)
    · rw [if_neg h18] at hf
      refine wa_iload X 6 dX11_likewise_73 rfl ?_
      refine wa_aload_n X 0 dX11_likewise_75 rfl ?_
      obtain ⟨h19, hf⟩ := jckT hf
      refine wa_getP X dX11_likewise_76 lfX11_100 rfl h19 rfl ?_
      refine wa_iload X 2 dX11_likewise_79 rfl ?_
      obtain ⟨q20, h21, hf⟩ := jde_some hf
      obtain ⟨h22, hf⟩ := jckT hf
      obtain ⟨h23, hf⟩ := jck_some hf
      refine wa_riald X dX11_likewise_81 h21 h22 h23 ?_
      refine wa_icge (tgt := 127) X dX11_likewise_82 (by decide) (fun h24 => ?_) (fun h24 => ?_)
      · rw [if_pos h24] at hf
        refine wa_sub (L2 := [(0, va_rf (some a)), (3, .int x3), (4, .int x4), (5, .int x5), (7, .int x7)]) [0, 1, 2, 3, 5] rfl ?_
        exact gX11_likewise_b127 X hrec11 a x3 x4 x5 x7 μ _ _ _ _ hf (by omega) (by omega)
      · rw [if_neg h24] at hf
        refine wa_aload_n X 0 dX11_likewise_85 rfl ?_
        refine wa_getP X dX11_likewise_86 lfX11_97 rfl h19 rfl ?_
        refine wa_bipush (v := (12 : Int32)) X dX11_likewise_89 (by decide) ?_
        refine wa_iload X 2 dX11_likewise_91 rfl ?_
        refine wa_imul X dX11_likewise_93 ?_
        refine wa_iload X 6 dX11_likewise_94 rfl ?_
        refine wa_iadd X dX11_likewise_96 ?_
        obtain ⟨q25, h26, hf⟩ := jde_some hf
        obtain ⟨h27, hf⟩ := jckT hf
        obtain ⟨h28, hf⟩ := jck_some hf
        refine wa_rbald X dX11_likewise_97 h26 h27 h28 ?_
        refine wa_aload_n X 0 dX11_likewise_98 rfl ?_
        refine wa_getP X dX11_likewise_99 lfX11_97 rfl h19 rfl ?_
        refine wa_bipush (v := (12 : Int32)) X dX11_likewise_102 (by decide) ?_
        refine wa_iload X 4 dX11_likewise_104 rfl ?_
        refine wa_imul X dX11_likewise_106 ?_
        refine wa_iload X 6 dX11_likewise_107 rfl ?_
        refine wa_iadd X dX11_likewise_109 ?_
        obtain ⟨h29, hf⟩ := jck_some hf
        refine wa_rbald X dX11_likewise_110 h26 h27 h29 ?_
        refine wa_icne (tgt := 118) X dX11_likewise_111 (by decide) (fun h30 => ?_) (fun h30 => ?_)
        · rw [if_neg h30] at hf
          refine wa_iconst (v := (0 : Int32)) X dX11_likewise_118 (by decide) ?_
          refine wa_sub (L2 := [(0, va_rf (some a)), (3, .int x3), (4, .int x4), (5, .int x5), (6, .int x6), (8, .int x8)]) [0, 1, 2, 3, 4, 6] rfl ?_
          exact gX11_likewise_b119 X hrec11 ih a x3 x4 x5 x6 x8 (0 : Int32) μ _ _ _ _ hf (by omega) (by omega)
        · rw [if_pos h30] at hf
          refine wa_iconst (v := (1 : Int32)) X dX11_likewise_114 (by decide) ?_
          refine wa_goto (tgt := 119) X dX11_likewise_115 (by decide) ?_
          refine wa_sub (L2 := [(0, va_rf (some a)), (3, .int x3), (4, .int x4), (5, .int x5), (6, .int x6), (8, .int x8)]) [0, 1, 2, 3, 4, 6] rfl ?_
          exact gX11_likewise_b119 X hrec11 ih a x3 x4 x5 x6 x8 (1 : Int32) μ _ _ _ _ hf (by omega) (by omega)
def fX11_likewise_b63 (rec11 : Nat → Int32 → Int32 → Int32 → JM → JO (Int32)) (a : Nat) (x3 : Int32) (x4 : Int32) (x5 : Int32) (x6 : Int32) (s0 : Int32) (μ : JM) : JO (Int32) := fX11_likewise_b68 rec11 jfuel a x3 x4 x5 x6 s0 (0 : Int32) μ
set_option maxHeartbeats 4000000 in
set_option maxRecDepth 100000 in
theorem gX11_likewise_b63 {b : Nat} {Θ : JE} {RC RS : Nat} {r : Int32} {ν : JM} (X : jX b Θ RX11 cX11_likewise 9 (some .int) 0 0 RC RS) {rec11 : Nat → Int32 → Int32 → Int32 → JM → JO (Int32)} (hrec11 : ∀ (a : Nat) (x3 : Int32) (x4 : Int32) (x5 : Int32) (μ : JM) (c m k n : Nat), rec11 a x3 x4 x5 μ = some (r, ν, c, m) → k + c = RC → n + m = RS → WA b Θ 9 (jE b Θ (some (.int r)) ν RC RS) μ k n 11 [(0, va_rf (some a)), (3, .int x3), (4, .int x4), (5, .int x5)] []) (a : Nat) (x3 : Int32) (x4 : Int32) (x5 : Int32) (x6 : Int32) (s0 : Int32) (μ : JM) (c m k n : Nat) (hf : fX11_likewise_b63 rec11 a x3 x4 x5 x6 s0 μ = some (r, ν, c, m)) (hk : k + c = RC) (hn : n + m = RS) : WA b Θ 9 (jE b Θ (some (.int r)) ν RC RS) μ k n 63 [(0, va_rf (some a)), (3, .int x3), (4, .int x4), (5, .int x5), (6, .int x6)] [.int s0] := by
  rw [fX11_likewise_b63] at hf
  refine wa_istore (L2 := [(7, .int s0), (0, va_rf (some a)), (3, .int x3), (4, .int x4), (5, .int x5), (6, .int x6)]) X dX11_likewise_63 (by decide) (by first | rfl | (show (7, _) :: List.filter (fun q : Nat × Value => !(q.1 == 7) && !(q.1 + 1 == 7 && q.2.category == 2)) _ = _; simp [va_rf_cat, cat_i, cat_l])) ?_
  refine wa_iconst (v := (0 : Int32)) X dX11_likewise_65 (by decide) ?_
  refine wa_istore (L2 := [(8, .int (0 : Int32)), (7, .int s0), (0, va_rf (some a)), (3, .int x3), (4, .int x4), (5, .int x5), (6, .int x6)]) X dX11_likewise_66 (by decide) (by first | rfl | (show (8, _) :: List.filter (fun q : Nat × Value => !(q.1 == 8) && !(q.1 + 1 == 8 && q.2.category == 2)) _ = _; simp [va_rf_cat, cat_i, cat_l])) ?_
  refine wa_sub (L2 := [(0, va_rf (some a)), (3, .int x3), (4, .int x4), (5, .int x5), (6, .int x6), (7, .int s0), (8, .int (0 : Int32))]) [2, 3, 4, 5, 6, 1, 0] rfl ?_
  exact gX11_likewise_b68 X hrec11 jfuel a x3 x4 x5 x6 s0 (0 : Int32) μ _ _ _ _ hf (by omega) (by omega)
def fX11_likewise_b62 (rec11 : Nat → Int32 → Int32 → Int32 → JM → JO (Int32)) (a : Nat) (x3 : Int32) (x4 : Int32) (x5 : Int32) (x6 : Int32) (μ : JM) : JO (Int32) := fX11_likewise_b63 rec11 a x3 x4 x5 x6 (0 : Int32) μ
set_option maxHeartbeats 4000000 in
set_option maxRecDepth 100000 in
theorem gX11_likewise_b62 {b : Nat} {Θ : JE} {RC RS : Nat} {r : Int32} {ν : JM} (X : jX b Θ RX11 cX11_likewise 9 (some .int) 0 0 RC RS) {rec11 : Nat → Int32 → Int32 → Int32 → JM → JO (Int32)} (hrec11 : ∀ (a : Nat) (x3 : Int32) (x4 : Int32) (x5 : Int32) (μ : JM) (c m k n : Nat), rec11 a x3 x4 x5 μ = some (r, ν, c, m) → k + c = RC → n + m = RS → WA b Θ 9 (jE b Θ (some (.int r)) ν RC RS) μ k n 11 [(0, va_rf (some a)), (3, .int x3), (4, .int x4), (5, .int x5)] []) (a : Nat) (x3 : Int32) (x4 : Int32) (x5 : Int32) (x6 : Int32) (μ : JM) (c m k n : Nat) (hf : fX11_likewise_b62 rec11 a x3 x4 x5 x6 μ = some (r, ν, c, m)) (hk : k + c = RC) (hn : n + m = RS) : WA b Θ 9 (jE b Θ (some (.int r)) ν RC RS) μ k n 62 [(0, va_rf (some a)), (3, .int x3), (4, .int x4), (5, .int x5), (6, .int x6)] [] := by
  rw [fX11_likewise_b62] at hf
  refine wa_iconst (v := (0 : Int32)) X dX11_likewise_62 (by decide) ?_
  refine wa_sub (L2 := [(0, va_rf (some a)), (3, .int x3), (4, .int x4), (5, .int x5), (6, .int x6)]) [0, 1, 2, 3, 4] rfl ?_
  exact gX11_likewise_b63 X hrec11 a x3 x4 x5 x6 (0 : Int32) μ _ _ _ _ hf (by omega) (by omega)
def fX11_likewise_b11 : Nat → Nat → Int32 → Int32 → Int32 → JM → JO (Int32)
  | 0, _, _, _, _, _ => none
  | fu + 1, a, x3, x4, x5, μ => jck ((jT μ a).1 == 12) <| jde (jP μ a 34) fun q2 => jck ((jT μ q2).1 == 101) <| jck (jin x3 (jT μ q2).2) <| if (jI μ q2 (x3).toNatClampNeg) ≤ x5 then (some ((-1 : Int32), μ, 0, 0)) else (jde (jP μ a 35) fun q7 => jck ((jT μ q7).1 == 101) <| jck (jin (((24 : Int32) * x3) + x5) (jT μ q7).2) <| if (jI μ q7 ((((24 : Int32) * x3) + x5)).toNatClampNeg) = 0 then (fX11_likewise_b62 (fX11_likewise_b11 fu) a x3 x4 x5 (((24 : Int32) * x3) + x5) μ) else (jde (jP μ a 43) fun q12 => jck ((jT μ q12).1 == 101) <| jck (jin (((24 : Int32) * x3) + x5) (jT μ q12).2) <| jck (jin x4 (jT μ q12).2) <| if (jI μ q12 ((((24 : Int32) * x3) + x5)).toNatClampNeg) = (jI μ q12 (x4).toNatClampNeg) then (fX11_likewise_b63 (fX11_likewise_b11 fu) a x3 x4 x5 (((24 : Int32) * x3) + x5) (1 : Int32) μ) else (fX11_likewise_b62 (fX11_likewise_b11 fu) a x3 x4 x5 (((24 : Int32) * x3) + x5) μ)))
set_option maxHeartbeats 4000000 in
set_option maxRecDepth 100000 in
theorem gX11_likewise_b11 {b : Nat} {Θ : JE} {RC RS : Nat} {r : Int32} {ν : JM} (X : jX b Θ RX11 cX11_likewise 9 (some .int) 0 0 RC RS) : ∀ (fu : Nat) (a : Nat) (x3 : Int32) (x4 : Int32) (x5 : Int32) (μ : JM) (c m k n : Nat), fX11_likewise_b11 fu a x3 x4 x5 μ = some (r, ν, c, m) → k + c = RC → n + m = RS → WA b Θ 9 (jE b Θ (some (.int r)) ν RC RS) μ k n 11 [(0, va_rf (some a)), (3, .int x3), (4, .int x4), (5, .int x5)] [] := by
  intro fu
  induction fu with
  | zero => intro a x3 x4 x5 μ c m k n hf; cases hf
  | succ fu ih =>
    intro a x3 x4 x5 μ c m k n hf hk hn
    rw [fX11_likewise_b11] at hf
    refine wa_iload X 3 dX11_likewise_11 rfl ?_
    refine wa_aload_n X 0 dX11_likewise_13 rfl ?_
    obtain ⟨h1, hf⟩ := jckT hf
    refine wa_getP X dX11_likewise_14 lfX11_73 rfl h1 rfl ?_
    refine wa_iload_n X 1 dX11_likewise_17 rfl ?_
    obtain ⟨q2, h3, hf⟩ := jde_some hf
    obtain ⟨h4, hf⟩ := jckT hf
    obtain ⟨h5, hf⟩ := jck_some hf
    refine wa_riald X dX11_likewise_18 h3 h4 h5 ?_
    refine wa_icge (tgt := 141) X dX11_likewise_19 (by decide) (fun h6 => ?_) (fun h6 => ?_)
    · rw [if_pos h6] at hf
      refine wa_iconst (v := (-1 : Int32)) X dX11_likewise_141 (by decide) ?_
      obtain ⟨rfl, rfl, rfl, rfl⟩ := jret hf
      exact wa_iret X dX11_likewise_142 rfl (by omega) (by omega)
    · rw [if_neg h6] at hf
      refine wa_bipush (v := (24 : Int32)) X dX11_likewise_22 (by decide) ?_
      refine wa_iload_n X 1 dX11_likewise_24 rfl ?_
      refine wa_imul X dX11_likewise_25 ?_
      refine wa_iload X 3 dX11_likewise_26 rfl ?_
      refine wa_iadd X dX11_likewise_28 ?_
      refine wa_istore (L2 := [(6, .int (((24 : Int32) * x3) + x5)), (0, va_rf (some a)), (3, .int x3), (4, .int x4), (5, .int x5)]) X dX11_likewise_29 (by decide) (by first | rfl | (show (6, _) :: List.filter (fun q : Nat × Value => !(q.1 == 6) && !(q.1 + 1 == 6 && q.2.category == 2)) _ = _; simp [va_rf_cat, cat_i, cat_l])) ?_
      refine wa_aload_n X 1 dX11_likewise_31 rfl ?_
      refine wa_getP X dX11_likewise_32 lfX11_76 rfl h1 rfl ?_
      refine wa_iload X 0 dX11_likewise_35 rfl ?_
      obtain ⟨q7, h8, hf⟩ := jde_some hf
      obtain ⟨h9, hf⟩ := jckT hf
      obtain ⟨h10, hf⟩ := jck_some hf
      refine wa_riald X dX11_likewise_37 h8 h9 h10 ?_
      refine wa_ifeq (tgt := 62) X dX11_likewise_38 (by decide) (fun h11 => ?_) (fun h11 => ?_)
      · rw [if_pos h11] at hf
        refine wa_sub (L2 := [(0, va_rf (some a)), (3, .int x3), (4, .int x4), (5, .int x5), (6, .int (((24 : Int32) * x3) + x5))]) [1, 2, 3, 4, 0] rfl ?_
        exact gX11_likewise_b62 X ih a x3 x4 x5 (((24 : Int32) * x3) + x5) μ _ _ _ _ hf (by omega) (by omega)
      · rw [if_neg h11] at hf
        refine wa_aload_n X 1 dX11_likewise_41 rfl ?_
        refine wa_getP X dX11_likewise_42 lfX11_100 rfl h1 rfl ?_
        refine wa_iload X 0 dX11_likewise_45 rfl ?_
        obtain ⟨q12, h13, hf⟩ := jde_some hf
        obtain ⟨h14, hf⟩ := jckT hf
        obtain ⟨h15, hf⟩ := jck_some hf
        refine wa_riald X dX11_likewise_47 h13 h14 h15 ?_
        refine wa_aload_n X 1 dX11_likewise_48 rfl ?_
        refine wa_getP X dX11_likewise_49 lfX11_100 rfl h1 rfl ?_
        refine wa_iload X 3 dX11_likewise_52 rfl ?_
        obtain ⟨h16, hf⟩ := jck_some hf
        refine wa_riald X dX11_likewise_54 h13 h14 h16 ?_
        refine wa_icne (tgt := 62) X dX11_likewise_55 (by decide) (fun h17 => ?_) (fun h17 => ?_)
        · rw [if_neg h17] at hf
          refine wa_sub (L2 := [(0, va_rf (some a)), (3, .int x3), (4, .int x4), (5, .int x5), (6, .int (((24 : Int32) * x3) + x5))]) [1, 2, 3, 4, 0] rfl ?_
          exact gX11_likewise_b62 X ih a x3 x4 x5 (((24 : Int32) * x3) + x5) μ _ _ _ _ hf (by omega) (by omega)
        · rw [if_pos h17] at hf
          refine wa_iconst (v := (1 : Int32)) X dX11_likewise_58 (by decide) ?_
          refine wa_goto (tgt := 63) X dX11_likewise_59 (by decide) ?_
          refine wa_sub (L2 := [(0, va_rf (some a)), (3, .int x3), (4, .int x4), (5, .int x5), (6, .int (((24 : Int32) * x3) + x5))]) [1, 2, 3, 4, 0] rfl ?_
          exact gX11_likewise_b63 X ih a x3 x4 x5 (((24 : Int32) * x3) + x5) (1 : Int32) μ _ _ _ _ hf (by omega) (by omega)
def fX11_likewise (a : Nat) (x1 : Int32) (x2 : Int32) (x3 : Int32) (μ : JM) : JO (Int32) := fX11_likewise_b11  jfuel a x3 (((24 : Int32) * x1) + x2) (0 : Int32) μ
set_option maxHeartbeats 4000000 in
set_option maxRecDepth 100000 in
theorem mX11_likewise {b : Nat} {a : Nat} {x1 : Int32} {x2 : Int32} {x3 : Int32} {μ : JM} {r : Int32} {ν : JM} {c m : Nat} (hf : fX11_likewise a x1 x2 x3 μ = some (r, ν, c, m)) : JMet b yX11_likewise cX11_likewise 9 (some .int) 0 0 [va_rf (some a), .int x1, .int x2, .int x3] μ (some (.int r)) ν c m := by
  refine JMet.of (by decide) (lg_sl_le (by simp only [List.map_cons, List.map_nil, List.sum_cons, List.sum_nil, va_rf_cat]; exact Nat.le_of_ble_eq_true rfl)) (fun Θ X hin => ?_)
  refine wa_eq (L2 := [(0, va_rf (some a)), (1, .int x1), (2, .int x2), (3, .int x3)]) ?_ rfl (by first | rfl | simp [lv_args, va_rf_cat, cat_i, cat_l]) rfl
  obtain ⟨k, hk0⟩ : ∃ k : Nat, k = 0 := ⟨0, rfl⟩
  obtain ⟨n, hn0⟩ : ∃ n : Nat, n = 0 := ⟨0, rfl⟩
  have hk : k + c = c := by omega
  have hn : n + m = m := by omega
  refine wa_costs hk0.symm hn0.symm ?_
  rw [fX11_likewise] at hf
  refine wa_bipush (v := (24 : Int32)) X dX11_likewise_0 (by decide) ?_
  refine wa_iload_n X 1 dX11_likewise_2 rfl ?_
  refine wa_imul X dX11_likewise_3 ?_
  refine wa_iload_n X 2 dX11_likewise_4 rfl ?_
  refine wa_iadd X dX11_likewise_5 ?_
  refine wa_istore (L2 := [(4, .int (((24 : Int32) * x1) + x2)), (0, va_rf (some a)), (1, .int x1), (2, .int x2), (3, .int x3)]) X dX11_likewise_6 (by decide) (by first | rfl | (show (4, _) :: List.filter (fun q : Nat × Value => !(q.1 == 4) && !(q.1 + 1 == 4 && q.2.category == 2)) _ = _; simp [va_rf_cat, cat_i, cat_l])) ?_
  refine wa_iconst (v := (0 : Int32)) X dX11_likewise_8 (by decide) ?_
  refine wa_istore (L2 := [(5, .int (0 : Int32)), (4, .int (((24 : Int32) * x1) + x2)), (0, va_rf (some a)), (1, .int x1), (2, .int x2), (3, .int x3)]) X dX11_likewise_9 (by decide) (by first | rfl | (show (5, _) :: List.filter (fun q : Nat × Value => !(q.1 == 5) && !(q.1 + 1 == 5 && q.2.category == 2)) _ = _; simp [va_rf_cat, cat_i, cat_l])) ?_
  refine wa_sub (L2 := [(0, va_rf (some a)), (3, .int x3), (4, .int (((24 : Int32) * x1) + x2)), (5, .int (0 : Int32))]) [2, 5, 1, 0] rfl ?_
  exact gX11_likewise_b11 X jfuel a x3 (((24 : Int32) * x1) + x2) (0 : Int32) μ _ _ _ _ hf (by omega) (by omega)
theorem dX11_leastChange_0 : decode cX11_leastChange 0 = .ok (.aload_n 0, 1) := by decide +kernel
theorem dX11_leastChange_1 : decode cX11_leastChange 1 = .ok (.iload_n 1, 1) := by decide +kernel
theorem dX11_leastChange_2 : decode cX11_leastChange 2 = .ok (.iload_n 2, 1) := by decide +kernel
theorem dX11_leastChange_3 : decode cX11_leastChange 3 = .ok (.iload_n 3, 1) := by decide +kernel
theorem dX11_leastChange_4 : decode cX11_leastChange 4 = .ok (.invokevirtual 433, 3) := by decide +kernel
theorem dX11_leastChange_7 : decode cX11_leastChange 7 = .ok (.istore 4, 2) := by decide +kernel
theorem dX11_leastChange_9 : decode cX11_leastChange 9 = .ok (.iconst 0, 1) := by decide +kernel
theorem dX11_leastChange_10 : decode cX11_leastChange 10 = .ok (.istore 5, 2) := by decide +kernel
theorem dX11_leastChange_12 : decode cX11_leastChange 12 = .ok (.iload 5, 2) := by decide +kernel
theorem dX11_leastChange_14 : decode cX11_leastChange 14 = .ok (.iconst 1, 1) := by decide +kernel
theorem dX11_leastChange_15 : decode cX11_leastChange 15 = .ok (.aload_n 0, 1) := by decide +kernel
theorem dX11_leastChange_16 : decode cX11_leastChange 16 = .ok (.getfield 13, 3) := by decide +kernel
theorem dX11_leastChange_19 : decode cX11_leastChange 19 = .ok (.ishl, 1) := by decide +kernel
theorem dX11_leastChange_20 : decode cX11_leastChange 20 = .ok (.if_icmp .ge 54, 3) := by decide +kernel
theorem dX11_leastChange_23 : decode cX11_leastChange 23 = .ok (.aload_n 0, 1) := by decide +kernel
theorem dX11_leastChange_24 : decode cX11_leastChange 24 = .ok (.iload 5, 2) := by decide +kernel
theorem dX11_leastChange_26 : decode cX11_leastChange 26 = .ok (.invokevirtual 408, 3) := by decide +kernel
theorem dX11_leastChange_29 : decode cX11_leastChange 29 = .ok (.ifCond .eq 39, 3) := by decide +kernel
theorem dX11_leastChange_32 : decode cX11_leastChange 32 = .ok (.aload_n 0, 1) := by decide +kernel
theorem dX11_leastChange_33 : decode cX11_leastChange 33 = .ok (.iload_n 1, 1) := by decide +kernel
theorem dX11_leastChange_34 : decode cX11_leastChange 34 = .ok (.iload_n 2, 1) := by decide +kernel
theorem dX11_leastChange_35 : decode cX11_leastChange 35 = .ok (.iload 5, 2) := by decide +kernel
theorem dX11_leastChange_37 : decode cX11_leastChange 37 = .ok (.invokevirtual 420, 3) := by decide +kernel
theorem dX11_leastChange_40 : decode cX11_leastChange 40 = .ok (.iload 4, 2) := by decide +kernel
theorem dX11_leastChange_42 : decode cX11_leastChange 42 = .ok (.ifCond .lt 19, 3) := by decide +kernel
theorem dX11_leastChange_45 : decode cX11_leastChange 45 = .ok (.aload_n 0, 1) := by decide +kernel
theorem dX11_leastChange_46 : decode cX11_leastChange 46 = .ok (.iload_n 3, 1) := by decide +kernel
theorem dX11_leastChange_47 : decode cX11_leastChange 47 = .ok (.iload 4, 2) := by decide +kernel
theorem dX11_leastChange_49 : decode cX11_leastChange 49 = .ok (.iload 5, 2) := by decide +kernel
theorem dX11_leastChange_51 : decode cX11_leastChange 51 = .ok (.invokevirtual 420, 3) := by decide +kernel
theorem dX11_leastChange_54 : decode cX11_leastChange 54 = .ok (.ifCond .eq 7, 3) := by decide +kernel
theorem dX11_leastChange_57 : decode cX11_leastChange 57 = .ok (.iconst 1, 1) := by decide +kernel
theorem dX11_leastChange_58 : decode cX11_leastChange 58 = .ok (.goto 4, 3) := by decide +kernel
theorem dX11_leastChange_61 : decode cX11_leastChange 61 = .ok (.iconst 0, 1) := by decide +kernel
theorem dX11_leastChange_62 : decode cX11_leastChange 62 = .ok (.if_icmp .eq 6, 3) := by decide +kernel
theorem dX11_leastChange_65 : decode cX11_leastChange 65 = .ok (.iload 5, 2) := by decide +kernel
theorem dX11_leastChange_67 : decode cX11_leastChange 67 = .ok (.ireturn, 1) := by decide +kernel
theorem dX11_leastChange_68 : decode cX11_leastChange 68 = .ok (.iinc 5 1, 3) := by decide +kernel
theorem dX11_leastChange_71 : decode cX11_leastChange 71 = .ok (.goto (-59), 3) := by decide +kernel
theorem dX11_leastChange_74 : decode cX11_leastChange 74 = .ok (.iconst (-1), 1) := by decide +kernel
theorem dX11_leastChange_75 : decode cX11_leastChange 75 = .ok (.ireturn, 1) := by decide +kernel
def fX11_leastChange_b68 (rec12 : Nat → Int32 → Int32 → Int32 → Int32 → Int32 → JM → JO (Int32)) (a : Nat) (x1 : Int32) (x2 : Int32) (x3 : Int32) (x4 : Int32) (x5 : Int32) (μ : JM) : JO (Int32) := rec12 a x1 x2 x3 x4 (x5 + (1 : Int32)) μ
set_option maxHeartbeats 4000000 in
set_option maxRecDepth 100000 in
theorem gX11_leastChange_b68 {b : Nat} {Θ : JE} {RC RS : Nat} {r : Int32} {ν : JM} (X : jX b Θ RX11 cX11_leastChange 6 (some .int) 1 28 RC RS) {rec12 : Nat → Int32 → Int32 → Int32 → Int32 → Int32 → JM → JO (Int32)} (hrec12 : ∀ (a : Nat) (x1 : Int32) (x2 : Int32) (x3 : Int32) (x4 : Int32) (x5 : Int32) (μ : JM) (c m k n : Nat), rec12 a x1 x2 x3 x4 x5 μ = some (r, ν, c, m) → k + c = RC → n + m = RS → WA b Θ 6 (jE b Θ (some (.int r)) ν RC RS) μ k n 12 [(0, va_rf (some a)), (1, .int x1), (2, .int x2), (3, .int x3), (4, .int x4), (5, .int x5)] []) (a : Nat) (x1 : Int32) (x2 : Int32) (x3 : Int32) (x4 : Int32) (x5 : Int32) (μ : JM) (c m k n : Nat) (hf : fX11_leastChange_b68 rec12 a x1 x2 x3 x4 x5 μ = some (r, ν, c, m)) (hk : k + c = RC) (hn : n + m = RS) : WA b Θ 6 (jE b Θ (some (.int r)) ν RC RS) μ k n 68 [(0, va_rf (some a)), (1, .int x1), (2, .int x2), (3, .int x3), (4, .int x4), (5, .int x5)] [] := by
  rw [fX11_leastChange_b68] at hf
  refine wa_iinc (v := (x5 + (1 : Int32))) (L2 := [(5, .int (x5 + (1 : Int32))), (0, va_rf (some a)), (1, .int x1), (2, .int x2), (3, .int x3), (4, .int x4)]) X 5 dX11_leastChange_68 rfl rfl (by decide) (by first | rfl | simp [va_rf_cat, cat_i, cat_l]) ?_
  refine wa_goto (tgt := 12) X dX11_leastChange_71 (by decide) ?_
  refine wa_sub (L2 := [(0, va_rf (some a)), (1, .int x1), (2, .int x2), (3, .int x3), (4, .int x4), (5, .int (x5 + (1 : Int32)))]) [1, 2, 3, 4, 5, 0] rfl ?_
  exact hrec12 a x1 x2 x3 x4 (x5 + (1 : Int32)) μ _ _ _ _ hf (by omega) (by omega)
def fX11_leastChange_b62 (rec12 : Nat → Int32 → Int32 → Int32 → Int32 → Int32 → JM → JO (Int32)) (a : Nat) (x1 : Int32) (x2 : Int32) (x3 : Int32) (x4 : Int32) (x5 : Int32) (s0 : Int32) (s1 : Int32) (μ : JM) : JO (Int32) := if s1 = s0 then (fX11_leastChange_b68 rec12 a x1 x2 x3 x4 x5 μ) else (some (x5, μ, 0, 0))
set_option maxHeartbeats 4000000 in
set_option maxRecDepth 100000 in
theorem gX11_leastChange_b62 {b : Nat} {Θ : JE} {RC RS : Nat} {r : Int32} {ν : JM} (X : jX b Θ RX11 cX11_leastChange 6 (some .int) 1 28 RC RS) {rec12 : Nat → Int32 → Int32 → Int32 → Int32 → Int32 → JM → JO (Int32)} (hrec12 : ∀ (a : Nat) (x1 : Int32) (x2 : Int32) (x3 : Int32) (x4 : Int32) (x5 : Int32) (μ : JM) (c m k n : Nat), rec12 a x1 x2 x3 x4 x5 μ = some (r, ν, c, m) → k + c = RC → n + m = RS → WA b Θ 6 (jE b Θ (some (.int r)) ν RC RS) μ k n 12 [(0, va_rf (some a)), (1, .int x1), (2, .int x2), (3, .int x3), (4, .int x4), (5, .int x5)] []) (a : Nat) (x1 : Int32) (x2 : Int32) (x3 : Int32) (x4 : Int32) (x5 : Int32) (s0 : Int32) (s1 : Int32) (μ : JM) (c m k n : Nat) (hf : fX11_leastChange_b62 rec12 a x1 x2 x3 x4 x5 s0 s1 μ = some (r, ν, c, m)) (hk : k + c = RC) (hn : n + m = RS) : WA b Θ 6 (jE b Θ (some (.int r)) ν RC RS) μ k n 62 [(0, va_rf (some a)), (1, .int x1), (2, .int x2), (3, .int x3), (4, .int x4), (5, .int x5)] [.int s0, .int s1] := by
  rw [fX11_leastChange_b62] at hf
  refine wa_iceq (tgt := 68) X dX11_leastChange_62 (by decide) (fun h45 => ?_) (fun h45 => ?_)
  · rw [if_pos h45] at hf
    refine wa_sub (L2 := [(0, va_rf (some a)), (1, .int x1), (2, .int x2), (3, .int x3), (4, .int x4), (5, .int x5)]) [0, 1, 2, 3, 4, 5] rfl ?_
    exact gX11_leastChange_b68 X hrec12 a x1 x2 x3 x4 x5 μ _ _ _ _ hf (by omega) (by omega)
  · rw [if_neg h45] at hf
    refine wa_iload X 5 dX11_leastChange_65 rfl ?_
    obtain ⟨rfl, rfl, rfl, rfl⟩ := jret hf
    exact wa_iret X dX11_leastChange_67 rfl (by omega) (by omega)
def fX11_leastChange_b61 (rec12 : Nat → Int32 → Int32 → Int32 → Int32 → Int32 → JM → JO (Int32)) (a : Nat) (x1 : Int32) (x2 : Int32) (x3 : Int32) (x4 : Int32) (x5 : Int32) (s0 : Int32) (μ : JM) : JO (Int32) := fX11_leastChange_b62 rec12 a x1 x2 x3 x4 x5 (0 : Int32) s0 μ
set_option maxHeartbeats 4000000 in
set_option maxRecDepth 100000 in
theorem gX11_leastChange_b61 {b : Nat} {Θ : JE} {RC RS : Nat} {r : Int32} {ν : JM} (X : jX b Θ RX11 cX11_leastChange 6 (some .int) 1 28 RC RS) {rec12 : Nat → Int32 → Int32 → Int32 → Int32 → Int32 → JM → JO (Int32)} (hrec12 : ∀ (a : Nat) (x1 : Int32) (x2 : Int32) (x3 : Int32) (x4 : Int32) (x5 : Int32) (μ : JM) (c m k n : Nat), rec12 a x1 x2 x3 x4 x5 μ = some (r, ν, c, m) → k + c = RC → n + m = RS → WA b Θ 6 (jE b Θ (some (.int r)) ν RC RS) μ k n 12 [(0, va_rf (some a)), (1, .int x1), (2, .int x2), (3, .int x3), (4, .int x4), (5, .int x5)] []) (a : Nat) (x1 : Int32) (x2 : Int32) (x3 : Int32) (x4 : Int32) (x5 : Int32) (s0 : Int32) (μ : JM) (c m k n : Nat) (hf : fX11_leastChange_b61 rec12 a x1 x2 x3 x4 x5 s0 μ = some (r, ν, c, m)) (hk : k + c = RC) (hn : n + m = RS) : WA b Θ 6 (jE b Θ (some (.int r)) ν RC RS) μ k n 61 [(0, va_rf (some a)), (1, .int x1), (2, .int x2), (3, .int x3), (4, .int x4), (5, .int x5)] [.int s0] := by
  rw [fX11_leastChange_b61] at hf
  refine wa_iconst (v := (0 : Int32)) X dX11_leastChange_61 (by decide) ?_
  refine wa_sub (L2 := [(0, va_rf (some a)), (1, .int x1), (2, .int x2), (3, .int x3), (4, .int x4), (5, .int x5)]) [0, 1, 2, 3, 4, 5] rfl ?_
  exact gX11_leastChange_b62 X hrec12 a x1 x2 x3 x4 x5 (0 : Int32) s0 μ _ _ _ _ hf (by omega) (by omega)
def fX11_leastChange_b12 : Nat → Nat → Int32 → Int32 → Int32 → Int32 → Int32 → JM → JO (Int32)
  | 0, _, _, _, _, _, _, _ => none
  | fu + 1, a, x1, x2, x3, x4, x5, μ => jck ((jT μ a).1 == 12) <| if (jshl (1 : Int32) (jI μ a 2)) ≤ x5 then (some ((-1 : Int32), μ, 0, 0)) else (jcl (fX11_isIn a x5 μ) fun r13 μ14 => if r13 = 0 then (fX11_leastChange_b68 (fX11_leastChange_b12 fu) a x1 x2 x3 x4 x5 μ14) else (jck ((jT μ14 a).1 == 12) <| jcl (fX11_isSo a x1 x2 x5 μ14) fun r24 μ25 => if x4 < 0 then (fX11_leastChange_b61 (fX11_leastChange_b12 fu) a x1 x2 x3 x4 x5 r24 μ25) else (jck ((jT μ25 a).1 == 12) <| jcl (fX11_isSo a x3 x4 x5 μ25) fun r35 μ36 => if r35 = 0 then (fX11_leastChange_b61 (fX11_leastChange_b12 fu) a x1 x2 x3 x4 x5 r24 μ36) else (fX11_leastChange_b62 (fX11_leastChange_b12 fu) a x1 x2 x3 x4 x5 (1 : Int32) r24 μ36))))
set_option maxHeartbeats 4000000 in
set_option maxRecDepth 100000 in
theorem gX11_leastChange_b12 {b : Nat} {Θ : JE} {RC RS : Nat} {r : Int32} {ν : JM} (X : jX b Θ RX11 cX11_leastChange 6 (some .int) 1 28 RC RS) : ∀ (fu : Nat) (a : Nat) (x1 : Int32) (x2 : Int32) (x3 : Int32) (x4 : Int32) (x5 : Int32) (μ : JM) (c m k n : Nat), fX11_leastChange_b12 fu a x1 x2 x3 x4 x5 μ = some (r, ν, c, m) → k + c = RC → n + m = RS → WA b Θ 6 (jE b Θ (some (.int r)) ν RC RS) μ k n 12 [(0, va_rf (some a)), (1, .int x1), (2, .int x2), (3, .int x3), (4, .int x4), (5, .int x5)] [] := by
  intro fu
  induction fu with
  | zero => intro a x1 x2 x3 x4 x5 μ c m k n hf; cases hf
  | succ fu ih =>
    intro a x1 x2 x3 x4 x5 μ c m k n hf hk hn
    rw [fX11_leastChange_b12] at hf
    refine wa_iload X 5 dX11_leastChange_12 rfl ?_
    refine wa_iconst (v := (1 : Int32)) X dX11_leastChange_14 (by decide) ?_
    refine wa_aload_n X 0 dX11_leastChange_15 rfl ?_
    obtain ⟨h11, hf⟩ := jckT hf
    refine wa_getI X dX11_leastChange_16 lfX11_13 rfl h11 rfl ?_
    refine wa_ishl X dX11_leastChange_19 ?_
    refine wa_icge (tgt := 74) X dX11_leastChange_20 (by decide) (fun h12 => ?_) (fun h12 => ?_)
    · rw [if_pos h12] at hf
      refine wa_iconst (v := (-1 : Int32)) X dX11_leastChange_74 (by decide) ?_
      obtain ⟨rfl, rfl, rfl, rfl⟩ := jret hf
      exact wa_iret X dX11_leastChange_75 rfl (by omega) (by omega)
    · rw [if_neg h12] at hf
      refine wa_aload_n X 0 dX11_leastChange_23 rfl ?_
      refine wa_iload X 5 dX11_leastChange_24 rfl ?_
      obtain ⟨r13, μ14, c15, m16, c17, m18, e19, hf, h20, h21⟩ := jcl_some hf
      refine wa_rcallV (st2 := [.int r13]) X dX11_leastChange_26 lmX11_408 lMX11_isIn rfl h11 (mX11_isIn e19) rfl rfl rfl (va_cats (Nat.le_of_ble_eq_true rfl)) (by decide) (by omega) (by omega) ?_
      refine wa_ifeq (tgt := 68) X dX11_leastChange_29 (by decide) (fun h22 => ?_) (fun h22 => ?_)
      · rw [if_pos h22] at hf
        refine wa_sub (L2 := [(0, va_rf (some a)), (1, .int x1), (2, .int x2), (3, .int x3), (4, .int x4), (5, .int x5)]) [0, 1, 2, 3, 4, 5] rfl ?_
        exact gX11_leastChange_b68 X ih a x1 x2 x3 x4 x5 μ14 _ _ _ _ hf (by omega) (by omega)
      · rw [if_neg h22] at hf
        refine wa_aload_n X 0 dX11_leastChange_32 rfl ?_
        refine wa_iload_n X 1 dX11_leastChange_33 rfl ?_
        refine wa_iload_n X 2 dX11_leastChange_34 rfl ?_
        refine wa_iload X 5 dX11_leastChange_35 rfl ?_
        obtain ⟨h23, hf⟩ := jckT hf
        obtain ⟨r24, μ25, c26, m27, c28, m29, e30, hf, h31, h32⟩ := jcl_some hf
        refine wa_rcallV (st2 := [.int r24]) X dX11_leastChange_37 lmX11_420 lMX11_isSo rfl h23 (mX11_isSo e30) rfl rfl rfl (va_cats (Nat.le_of_ble_eq_true rfl)) (by decide) (by omega) (by omega) ?_
        refine wa_iload X 4 dX11_leastChange_40 rfl ?_
        refine wa_iflt (tgt := 61) X dX11_leastChange_42 (by decide) (fun h33 => ?_) (fun h33 => ?_)
        · rw [if_pos h33] at hf
          refine wa_sub (L2 := [(0, va_rf (some a)), (1, .int x1), (2, .int x2), (3, .int x3), (4, .int x4), (5, .int x5)]) [0, 1, 2, 3, 4, 5] rfl ?_
          exact gX11_leastChange_b61 X ih a x1 x2 x3 x4 x5 r24 μ25 _ _ _ _ hf (by omega) (by omega)
        · rw [if_neg h33] at hf
          refine wa_aload_n X 0 dX11_leastChange_45 rfl ?_
          refine wa_iload_n X 3 dX11_leastChange_46 rfl ?_
          refine wa_iload X 4 dX11_leastChange_47 rfl ?_
          refine wa_iload X 5 dX11_leastChange_49 rfl ?_
          obtain ⟨h34, hf⟩ := jckT hf
          obtain ⟨r35, μ36, c37, m38, c39, m40, e41, hf, h42, h43⟩ := jcl_some hf
          refine wa_rcallV (st2 := [.int r35, .int r24]) X dX11_leastChange_51 lmX11_420 lMX11_isSo rfl h34 (mX11_isSo e41) rfl rfl rfl (va_cats (Nat.le_of_ble_eq_true rfl)) (by decide) (by omega) (by omega) ?_
          refine wa_ifeq (tgt := 61) X dX11_leastChange_54 (by decide) (fun h44 => ?_) (fun h44 => ?_)
          · rw [if_pos h44] at hf
            refine wa_sub (L2 := [(0, va_rf (some a)), (1, .int x1), (2, .int x2), (3, .int x3), (4, .int x4), (5, .int x5)]) [0, 1, 2, 3, 4, 5] rfl ?_
            exact gX11_leastChange_b61 X ih a x1 x2 x3 x4 x5 r24 μ36 _ _ _ _ hf (by omega) (by omega)
          · rw [if_neg h44] at hf
            refine wa_iconst (v := (1 : Int32)) X dX11_leastChange_57 (by decide) ?_
            refine wa_goto (tgt := 62) X dX11_leastChange_58 (by decide) ?_
            refine wa_sub (L2 := [(0, va_rf (some a)), (1, .int x1), (2, .int x2), (3, .int x3), (4, .int x4), (5, .int x5)]) [0, 1, 2, 3, 4, 5] rfl ?_
            exact gX11_leastChange_b62 X ih a x1 x2 x3 x4 x5 (1 : Int32) r24 μ36 _ _ _ _ hf (by omega) (by omega)
def fX11_leastChange (a : Nat) (x1 : Int32) (x2 : Int32) (x3 : Int32) (μ : JM) : JO (Int32) := jck ((jT μ a).1 == 12) <| jcl (fX11_likewise a x1 x2 x3 μ) fun r2 μ3 => fX11_leastChange_b12  jfuel a x1 x2 x3 r2 (0 : Int32) μ3
set_option maxHeartbeats 4000000 in
set_option maxRecDepth 100000 in
theorem mX11_leastChange {b : Nat} {a : Nat} {x1 : Int32} {x2 : Int32} {x3 : Int32} {μ : JM} {r : Int32} {ν : JM} {c m : Nat} (hf : fX11_leastChange a x1 x2 x3 μ = some (r, ν, c, m)) : JMet b yX11_leastChange cX11_leastChange 6 (some .int) 1 28 [va_rf (some a), .int x1, .int x2, .int x3] μ (some (.int r)) ν c m := by
  refine JMet.of (by decide) (lg_sl_le (by simp only [List.map_cons, List.map_nil, List.sum_cons, List.sum_nil, va_rf_cat]; exact Nat.le_of_ble_eq_true rfl)) (fun Θ X hin => ?_)
  refine wa_eq (L2 := [(0, va_rf (some a)), (1, .int x1), (2, .int x2), (3, .int x3)]) ?_ rfl (by first | rfl | simp [lv_args, va_rf_cat, cat_i, cat_l]) rfl
  obtain ⟨k, hk0⟩ : ∃ k : Nat, k = 0 := ⟨0, rfl⟩
  obtain ⟨n, hn0⟩ : ∃ n : Nat, n = 0 := ⟨0, rfl⟩
  have hk : k + c = c := by omega
  have hn : n + m = m := by omega
  refine wa_costs hk0.symm hn0.symm ?_
  rw [fX11_leastChange] at hf
  refine wa_aload_n X 0 dX11_leastChange_0 rfl ?_
  refine wa_iload_n X 1 dX11_leastChange_1 rfl ?_
  refine wa_iload_n X 2 dX11_leastChange_2 rfl ?_
  refine wa_iload_n X 3 dX11_leastChange_3 rfl ?_
  obtain ⟨h1, hf⟩ := jckT hf
  obtain ⟨r2, μ3, c4, m5, c6, m7, e8, hf, h9, h10⟩ := jcl_some hf
  refine wa_rcallV (st2 := [.int r2]) X dX11_leastChange_4 lmX11_433 lMX11_likewise rfl h1 (mX11_likewise e8) rfl rfl rfl (va_cats (Nat.le_of_ble_eq_true rfl)) (by decide) (by omega) (by omega) ?_
  refine wa_istore (L2 := [(4, .int r2), (0, va_rf (some a)), (1, .int x1), (2, .int x2), (3, .int x3)]) X dX11_leastChange_7 (by decide) (by first | rfl | (show (4, _) :: List.filter (fun q : Nat × Value => !(q.1 == 4) && !(q.1 + 1 == 4 && q.2.category == 2)) _ = _; simp [va_rf_cat, cat_i, cat_l])) ?_
  refine wa_iconst (v := (0 : Int32)) X dX11_leastChange_9 (by decide) ?_
  refine wa_istore (L2 := [(5, .int (0 : Int32)), (4, .int r2), (0, va_rf (some a)), (1, .int x1), (2, .int x2), (3, .int x3)]) X dX11_leastChange_10 (by decide) (by first | rfl | (show (5, _) :: List.filter (fun q : Nat × Value => !(q.1 == 5) && !(q.1 + 1 == 5 && q.2.category == 2)) _ = _; simp [va_rf_cat, cat_i, cat_l])) ?_
  refine wa_sub (L2 := [(0, va_rf (some a)), (1, .int x1), (2, .int x2), (3, .int x3), (4, .int r2), (5, .int (0 : Int32))]) [2, 3, 4, 5, 1, 0] rfl ?_
  exact gX11_leastChange_b12 X jfuel a x1 x2 x3 r2 (0 : Int32) μ3 _ _ _ _ hf (by omega) (by omega)
theorem dX11_changed_0 : decode cX11_changed 0 = .ok (.aload_n 0, 1) := by decide +kernel
theorem dX11_changed_1 : decode cX11_changed 1 = .ok (.iload_n 1, 1) := by decide +kernel
theorem dX11_changed_2 : decode cX11_changed 2 = .ok (.invokevirtual 393, 3) := by decide +kernel
theorem dX11_changed_5 : decode cX11_changed 5 = .ok (.ifCond .eq 21, 3) := by decide +kernel
theorem dX11_changed_8 : decode cX11_changed 8 = .ok (.aload_n 0, 1) := by decide +kernel
theorem dX11_changed_9 : decode cX11_changed 9 = .ok (.iload_n 2, 1) := by decide +kernel
theorem dX11_changed_10 : decode cX11_changed 10 = .ok (.invokevirtual 393, 3) := by decide +kernel
theorem dX11_changed_13 : decode cX11_changed 13 = .ok (.ifCond .eq 13, 3) := by decide +kernel
theorem dX11_changed_16 : decode cX11_changed 16 = .ok (.iload 4, 2) := by decide +kernel
theorem dX11_changed_18 : decode cX11_changed 18 = .ok (.iconst 0, 1) := by decide +kernel
theorem dX11_changed_19 : decode cX11_changed 19 = .ok (.iconst 1, 1) := by decide +kernel
theorem dX11_changed_20 : decode cX11_changed 20 = .ok (.invokestatic 347, 3) := by decide +kernel
theorem dX11_changed_23 : decode cX11_changed 23 = .ok (.ifCond .ne 5, 3) := by decide +kernel
theorem dX11_changed_26 : decode cX11_changed 26 = .ok (.iconst (-1), 1) := by decide +kernel
theorem dX11_changed_27 : decode cX11_changed 27 = .ok (.ireturn, 1) := by decide +kernel
theorem dX11_changed_28 : decode cX11_changed 28 = .ok (.iconst 0, 1) := by decide +kernel
theorem dX11_changed_29 : decode cX11_changed 29 = .ok (.istore 5, 2) := by decide +kernel
theorem dX11_changed_31 : decode cX11_changed 31 = .ok (.iconst 0, 1) := by decide +kernel
theorem dX11_changed_32 : decode cX11_changed 32 = .ok (.istore 6, 2) := by decide +kernel
theorem dX11_changed_34 : decode cX11_changed 34 = .ok (.iload 6, 2) := by decide +kernel
theorem dX11_changed_36 : decode cX11_changed 36 = .ok (.aload_n 0, 1) := by decide +kernel
theorem dX11_changed_37 : decode cX11_changed 37 = .ok (.getfield 73, 3) := by decide +kernel
theorem dX11_changed_40 : decode cX11_changed 40 = .ok (.iload_n 1, 1) := by decide +kernel
theorem dX11_changed_41 : decode cX11_changed 41 = .ok (.iaload, 1) := by decide +kernel
theorem dX11_changed_42 : decode cX11_changed 42 = .ok (.if_icmp .ge 67, 3) := by decide +kernel
theorem dX11_changed_45 : decode cX11_changed 45 = .ok (.aload_n 0, 1) := by decide +kernel
theorem dX11_changed_46 : decode cX11_changed 46 = .ok (.getfield 76, 3) := by decide +kernel
theorem dX11_changed_49 : decode cX11_changed 49 = .ok (.bipush 24, 2) := by decide +kernel
theorem dX11_changed_51 : decode cX11_changed 51 = .ok (.iload_n 1, 1) := by decide +kernel
theorem dX11_changed_52 : decode cX11_changed 52 = .ok (.imul, 1) := by decide +kernel
theorem dX11_changed_53 : decode cX11_changed 53 = .ok (.iload 6, 2) := by decide +kernel
theorem dX11_changed_55 : decode cX11_changed 55 = .ok (.iadd, 1) := by decide +kernel
theorem dX11_changed_56 : decode cX11_changed 56 = .ok (.iaload, 1) := by decide +kernel
theorem dX11_changed_57 : decode cX11_changed 57 = .ok (.ifCond .ne 6, 3) := by decide +kernel
theorem dX11_changed_60 : decode cX11_changed 60 = .ok (.goto 43, 3) := by decide +kernel
theorem dX11_changed_63 : decode cX11_changed 63 = .ok (.aload_n 0, 1) := by decide +kernel
theorem dX11_changed_64 : decode cX11_changed 64 = .ok (.iload_n 1, 1) := by decide +kernel
theorem dX11_changed_65 : decode cX11_changed 65 = .ok (.iload 6, 2) := by decide +kernel
theorem dX11_changed_67 : decode cX11_changed 67 = .ok (.iload_n 2, 1) := by decide +kernel
theorem dX11_changed_68 : decode cX11_changed 68 = .ok (.invokevirtual 437, 3) := by decide +kernel
theorem dX11_changed_71 : decode cX11_changed 71 = .ok (.istore 7, 2) := by decide +kernel
theorem dX11_changed_73 : decode cX11_changed 73 = .ok (.iload 7, 2) := by decide +kernel
theorem dX11_changed_75 : decode cX11_changed 75 = .ok (.ifCond .ge 6, 3) := by decide +kernel
theorem dX11_changed_78 : decode cX11_changed 78 = .ok (.goto 25, 3) := by decide +kernel
theorem dX11_changed_81 : decode cX11_changed 81 = .ok (.iload 5, 2) := by decide +kernel
theorem dX11_changed_83 : decode cX11_changed 83 = .ok (.iload_n 3, 1) := by decide +kernel
theorem dX11_changed_84 : decode cX11_changed 84 = .ok (.if_icmp .ne 16, 3) := by decide +kernel
theorem dX11_changed_87 : decode cX11_changed 87 = .ok (.iload 4, 2) := by decide +kernel
theorem dX11_changed_89 : decode cX11_changed 89 = .ok (.ifCond .ne 8, 3) := by decide +kernel
theorem dX11_changed_92 : decode cX11_changed 92 = .ok (.iload 6, 2) := by decide +kernel
theorem dX11_changed_94 : decode cX11_changed 94 = .ok (.goto 5, 3) := by decide +kernel
theorem dX11_changed_97 : decode cX11_changed 97 = .ok (.iload 7, 2) := by decide +kernel
theorem dX11_changed_99 : decode cX11_changed 99 = .ok (.ireturn, 1) := by decide +kernel
theorem dX11_changed_100 : decode cX11_changed 100 = .ok (.iinc 5 1, 3) := by decide +kernel
theorem dX11_changed_103 : decode cX11_changed 103 = .ok (.iinc 6 1, 3) := by decide +kernel
theorem dX11_changed_106 : decode cX11_changed 106 = .ok (.goto (-72), 3) := by decide +kernel
theorem dX11_changed_109 : decode cX11_changed 109 = .ok (.iconst (-1), 1) := by decide +kernel
theorem dX11_changed_110 : decode cX11_changed 110 = .ok (.ireturn, 1) := by decide +kernel
def fX11_changed_b103 (rec34 : Nat → Int32 → Int32 → Int32 → Int32 → Int32 → Int32 → JM → JO (Int32)) (a : Nat) (x1 : Int32) (x2 : Int32) (x3 : Int32) (x4 : Int32) (x5 : Int32) (x6 : Int32) (μ : JM) : JO (Int32) := rec34 a x1 x2 x3 x4 x5 (x6 + (1 : Int32)) μ
set_option maxHeartbeats 4000000 in
set_option maxRecDepth 100000 in
theorem gX11_changed_b103 {b : Nat} {Θ : JE} {RC RS : Nat} {r : Int32} {ν : JM} (X : jX b Θ RX11 cX11_changed 8 (some .int) 3 63 RC RS) {rec34 : Nat → Int32 → Int32 → Int32 → Int32 → Int32 → Int32 → JM → JO (Int32)} (hrec34 : ∀ (a : Nat) (x1 : Int32) (x2 : Int32) (x3 : Int32) (x4 : Int32) (x5 : Int32) (x6 : Int32) (μ : JM) (c m k n : Nat), rec34 a x1 x2 x3 x4 x5 x6 μ = some (r, ν, c, m) → k + c = RC → n + m = RS → WA b Θ 8 (jE b Θ (some (.int r)) ν RC RS) μ k n 34 [(0, va_rf (some a)), (1, .int x1), (2, .int x2), (3, .int x3), (4, .int x4), (5, .int x5), (6, .int x6)] []) (a : Nat) (x1 : Int32) (x2 : Int32) (x3 : Int32) (x4 : Int32) (x5 : Int32) (x6 : Int32) (μ : JM) (c m k n : Nat) (hf : fX11_changed_b103 rec34 a x1 x2 x3 x4 x5 x6 μ = some (r, ν, c, m)) (hk : k + c = RC) (hn : n + m = RS) : WA b Θ 8 (jE b Θ (some (.int r)) ν RC RS) μ k n 103 [(0, va_rf (some a)), (1, .int x1), (2, .int x2), (3, .int x3), (4, .int x4), (5, .int x5), (6, .int x6)] [] := by
  rw [fX11_changed_b103] at hf
  refine wa_iinc (v := (x6 + (1 : Int32))) (L2 := [(6, .int (x6 + (1 : Int32))), (0, va_rf (some a)), (1, .int x1), (2, .int x2), (3, .int x3), (4, .int x4), (5, .int x5)]) X 6 dX11_changed_103 rfl rfl (by decide) (by first | rfl | simp [va_rf_cat, cat_i, cat_l]) ?_
  refine wa_goto (tgt := 34) X dX11_changed_106 (by decide) ?_
  refine wa_sub (L2 := [(0, va_rf (some a)), (1, .int x1), (2, .int x2), (3, .int x3), (4, .int x4), (5, .int x5), (6, .int (x6 + (1 : Int32)))]) [1, 2, 3, 4, 5, 6, 0] rfl ?_
  exact hrec34 a x1 x2 x3 x4 x5 (x6 + (1 : Int32)) μ _ _ _ _ hf (by omega) (by omega)
def fX11_changed_b34 : Nat → Nat → Int32 → Int32 → Int32 → Int32 → Int32 → Int32 → JM → JO (Int32)
  | 0, _, _, _, _, _, _, _, _ => none
  | fu + 1, a, x1, x2, x3, x4, x5, x6, μ => jck ((jT μ a).1 == 12) <| jde (jP μ a 34) fun q34 => jck ((jT μ q34).1 == 101) <| jck (jin x1 (jT μ q34).2) <| if (jI μ q34 (x1).toNatClampNeg) ≤ x6 then (some ((-1 : Int32), μ, 0, 0)) else (jde (jP μ a 35) fun q39 => jck ((jT μ q39).1 == 101) <| jck (jin (((24 : Int32) * x1) + x6) (jT μ q39).2) <| if (jI μ q39 ((((24 : Int32) * x1) + x6)).toNatClampNeg) = 0 then (fX11_changed_b103 (fX11_changed_b34 fu) a x1 x2 x3 x4 x5 x6 μ) else (jcl (fX11_leastChange a x1 x6 x2 μ) fun r44 μ45 => if 0 ≤ r44 then (if x5 = x3 then (if x4 = 0 then (some (x6, μ45, 0, 0)) else (some (r44, μ45, 0, 0))) else (fX11_changed_b103 (fX11_changed_b34 fu) a x1 x2 x3 x4 (x5 + (1 : Int32)) x6 μ45)) else (fX11_changed_b103 (fX11_changed_b34 fu) a x1 x2 x3 x4 x5 x6 μ45)))
set_option maxHeartbeats 4000000 in
set_option maxRecDepth 100000 in
theorem gX11_changed_b34 {b : Nat} {Θ : JE} {RC RS : Nat} {r : Int32} {ν : JM} (X : jX b Θ RX11 cX11_changed 8 (some .int) 3 63 RC RS) : ∀ (fu : Nat) (a : Nat) (x1 : Int32) (x2 : Int32) (x3 : Int32) (x4 : Int32) (x5 : Int32) (x6 : Int32) (μ : JM) (c m k n : Nat), fX11_changed_b34 fu a x1 x2 x3 x4 x5 x6 μ = some (r, ν, c, m) → k + c = RC → n + m = RS → WA b Θ 8 (jE b Θ (some (.int r)) ν RC RS) μ k n 34 [(0, va_rf (some a)), (1, .int x1), (2, .int x2), (3, .int x3), (4, .int x4), (5, .int x5), (6, .int x6)] [] := by
  intro fu
  induction fu with
  | zero => intro a x1 x2 x3 x4 x5 x6 μ c m k n hf; cases hf
  | succ fu ih =>
    intro a x1 x2 x3 x4 x5 x6 μ c m k n hf hk hn
    rw [fX11_changed_b34] at hf
    refine wa_iload X 6 dX11_changed_34 rfl ?_
    refine wa_aload_n X 0 dX11_changed_36 rfl ?_
    obtain ⟨h33, hf⟩ := jckT hf
    refine wa_getP X dX11_changed_37 lfX11_73 rfl h33 rfl ?_
    refine wa_iload_n X 1 dX11_changed_40 rfl ?_
    obtain ⟨q34, h35, hf⟩ := jde_some hf
    obtain ⟨h36, hf⟩ := jckT hf
    obtain ⟨h37, hf⟩ := jck_some hf
    refine wa_riald X dX11_changed_41 h35 h36 h37 ?_
    refine wa_icge (tgt := 109) X dX11_changed_42 (by decide) (fun h38 => ?_) (fun h38 => ?_)
    · rw [if_pos h38] at hf
      refine wa_iconst (v := (-1 : Int32)) X dX11_changed_109 (by decide) ?_
      obtain ⟨rfl, rfl, rfl, rfl⟩ := jret hf
      exact wa_iret X dX11_changed_110 rfl (by omega) (by omega)
    · rw [if_neg h38] at hf
      refine wa_aload_n X 0 dX11_changed_45 rfl ?_
      refine wa_getP X dX11_changed_46 lfX11_76 rfl h33 rfl ?_
      refine wa_bipush (v := (24 : Int32)) X dX11_changed_49 (by decide) ?_
      refine wa_iload_n X 1 dX11_changed_51 rfl ?_
      refine wa_imul X dX11_changed_52 ?_
      refine wa_iload X 6 dX11_changed_53 rfl ?_
      refine wa_iadd X dX11_changed_55 ?_
      obtain ⟨q39, h40, hf⟩ := jde_some hf
      obtain ⟨h41, hf⟩ := jckT hf
      obtain ⟨h42, hf⟩ := jck_some hf
      refine wa_riald X dX11_changed_56 h40 h41 h42 ?_
      refine wa_ifne (tgt := 63) X dX11_changed_57 (by decide) (fun h43 => ?_) (fun h43 => ?_)
      · rw [if_neg h43] at hf
        refine wa_aload_n X 0 dX11_changed_63 rfl ?_
        refine wa_iload_n X 1 dX11_changed_64 rfl ?_
        refine wa_iload X 6 dX11_changed_65 rfl ?_
        refine wa_iload_n X 2 dX11_changed_67 rfl ?_
        obtain ⟨r44, μ45, c46, m47, c48, m49, e50, hf, h51, h52⟩ := jcl_some hf
        refine wa_rcallV (st2 := [.int r44]) X dX11_changed_68 lmX11_437 lMX11_leastChange rfl h33 (mX11_leastChange e50) rfl rfl rfl (va_cats (Nat.le_of_ble_eq_true rfl)) (by decide) (by omega) (by omega) ?_
        refine wa_istore (L2 := [(7, .int r44), (0, va_rf (some a)), (1, .int x1), (2, .int x2), (3, .int x3), (4, .int x4), (5, .int x5), (6, .int x6)]) X dX11_changed_71 (by decide) (by first | rfl | (show (7, _) :: List.filter (fun q : Nat × Value => !(q.1 == 7) && !(q.1 + 1 == 7 && q.2.category == 2)) _ = _; simp [va_rf_cat, cat_i, cat_l])) ?_
        refine wa_iload X 0 dX11_changed_73 rfl ?_
        refine wa_ifge (tgt := 81) X dX11_changed_75 (by decide) (fun h53 => ?_) (fun h53 => ?_)
        · rw [if_pos h53] at hf
          refine wa_iload X 6 dX11_changed_81 rfl ?_
          refine wa_iload_n X 4 dX11_changed_83 rfl ?_
          refine wa_icne (tgt := 100) X dX11_changed_84 (by decide) (fun h54 => ?_) (fun h54 => ?_)
          · rw [if_neg h54] at hf
            refine wa_iinc (v := (x5 + (1 : Int32))) (L2 := [(5, .int (x5 + (1 : Int32))), (7, .int r44), (0, va_rf (some a)), (1, .int x1), (2, .int x2), (3, .int x3), (4, .int x4), (6, .int x6)]) X 6 dX11_changed_100 rfl rfl (by decide) (by first | rfl | simp [va_rf_cat, cat_i, cat_l]) ?_
            refine wa_sub (L2 := [(0, va_rf (some a)), (1, .int x1), (2, .int x2), (3, .int x3), (4, .int x4), (5, .int (x5 + (1 : Int32))), (6, .int x6)]) [2, 3, 4, 5, 6, 0, 7] rfl ?_
            exact gX11_changed_b103 X ih a x1 x2 x3 x4 (x5 + (1 : Int32)) x6 μ45 _ _ _ _ hf (by omega) (by omega)
          · rw [if_pos h54] at hf
            refine wa_iload X 5 dX11_changed_87 rfl ?_
            refine wa_ifne (tgt := 97) X dX11_changed_89 (by decide) (fun h55 => ?_) (fun h55 => ?_)
            · rw [if_neg h55] at hf
              refine wa_iload X 0 dX11_changed_97 rfl ?_
              obtain ⟨rfl, rfl, rfl, rfl⟩ := jret hf
              exact wa_iret X dX11_changed_99 rfl (by omega) (by omega)
            · rw [if_pos h55] at hf
              refine wa_iload X 7 dX11_changed_92 rfl ?_
              refine wa_goto (tgt := 99) X dX11_changed_94 (by decide) ?_
              obtain ⟨rfl, rfl, rfl, rfl⟩ := jret hf
              exact wa_iret X dX11_changed_99 rfl (by omega) (by omega)
        · rw [if_neg h53] at hf
          refine wa_goto (tgt := 103) X dX11_changed_78 (by decide) ?_
          refine wa_sub (L2 := [(0, va_rf (some a)), (1, .int x1), (2, .int x2), (3, .int x3), (4, .int x4), (5, .int x5), (6, .int x6)]) [1, 2, 3, 4, 5, 6, 7] rfl ?_
          exact gX11_changed_b103 X ih a x1 x2 x3 x4 x5 x6 μ45 _ _ _ _ hf (by omega) (by omega)
      · rw [if_pos h43] at hf
        refine wa_goto (tgt := 103) X dX11_changed_60 (by decide) ?_
        refine wa_sub (L2 := [(0, va_rf (some a)), (1, .int x1), (2, .int x2), (3, .int x3), (4, .int x4), (5, .int x5), (6, .int x6)]) [0, 1, 2, 3, 4, 5, 6] rfl ?_
        exact gX11_changed_b103 X ih a x1 x2 x3 x4 x5 x6 μ _ _ _ _ hf (by omega) (by omega)
def fX11_changed (a : Nat) (x1 : Int32) (x2 : Int32) (x3 : Int32) (x4 : Int32) (μ : JM) : JO (Int32) := jck ((jT μ a).1 == 12) <| jcl (fX11_isVersion a x1 μ) fun r2 μ3 => if r2 = 0 then (some ((-1 : Int32), μ3, 0, 0)) else (jck ((jT μ3 a).1 == 12) <| jcl (fX11_isVersion a x2 μ3) fun r13 μ14 => if r13 = 0 then (some ((-1 : Int32), μ14, 0, 0)) else (jcl (fX11_in x4 (0 : Int32) (1 : Int32) μ14) fun r23 μ24 => if r23 = 0 then (some ((-1 : Int32), μ24, 0, 0)) else (fX11_changed_b34  jfuel a x1 x2 x3 x4 (0 : Int32) (0 : Int32) μ24)))
set_option maxHeartbeats 4000000 in
set_option maxRecDepth 100000 in
theorem mX11_changed {b : Nat} {a : Nat} {x1 : Int32} {x2 : Int32} {x3 : Int32} {x4 : Int32} {μ : JM} {r : Int32} {ν : JM} {c m : Nat} (hf : fX11_changed a x1 x2 x3 x4 μ = some (r, ν, c, m)) : JMet b yX11_changed cX11_changed 8 (some .int) 3 63 [va_rf (some a), .int x1, .int x2, .int x3, .int x4] μ (some (.int r)) ν c m := by
  refine JMet.of (by decide) (lg_sl_le (by simp only [List.map_cons, List.map_nil, List.sum_cons, List.sum_nil, va_rf_cat]; exact Nat.le_of_ble_eq_true rfl)) (fun Θ X hin => ?_)
  refine wa_eq (L2 := [(0, va_rf (some a)), (1, .int x1), (2, .int x2), (3, .int x3), (4, .int x4)]) ?_ rfl (by first | rfl | simp [lv_args, va_rf_cat, cat_i, cat_l]) rfl
  obtain ⟨k, hk0⟩ : ∃ k : Nat, k = 0 := ⟨0, rfl⟩
  obtain ⟨n, hn0⟩ : ∃ n : Nat, n = 0 := ⟨0, rfl⟩
  have hk : k + c = c := by omega
  have hn : n + m = m := by omega
  refine wa_costs hk0.symm hn0.symm ?_
  rw [fX11_changed] at hf
  refine wa_aload_n X 0 dX11_changed_0 rfl ?_
  refine wa_iload_n X 1 dX11_changed_1 rfl ?_
  obtain ⟨h1, hf⟩ := jckT hf
  obtain ⟨r2, μ3, c4, m5, c6, m7, e8, hf, h9, h10⟩ := jcl_some hf
  refine wa_rcallV (st2 := [.int r2]) X dX11_changed_2 lmX11_393 lMX11_isVersion rfl h1 (mX11_isVersion e8) rfl rfl rfl (va_cats (Nat.le_of_ble_eq_true rfl)) (by decide) (by omega) (by omega) ?_
  refine wa_ifeq (tgt := 26) X dX11_changed_5 (by decide) (fun h11 => ?_) (fun h11 => ?_)
  · rw [if_pos h11] at hf
    refine wa_iconst (v := (-1 : Int32)) X dX11_changed_26 (by decide) ?_
    obtain ⟨rfl, rfl, rfl, rfl⟩ := jret hf
    exact wa_iret X dX11_changed_27 rfl (by omega) (by omega)
  · rw [if_neg h11] at hf
    refine wa_aload_n X 0 dX11_changed_8 rfl ?_
    refine wa_iload_n X 2 dX11_changed_9 rfl ?_
    obtain ⟨h12, hf⟩ := jckT hf
    obtain ⟨r13, μ14, c15, m16, c17, m18, e19, hf, h20, h21⟩ := jcl_some hf
    refine wa_rcallV (st2 := [.int r13]) X dX11_changed_10 lmX11_393 lMX11_isVersion rfl h12 (mX11_isVersion e19) rfl rfl rfl (va_cats (Nat.le_of_ble_eq_true rfl)) (by decide) (by omega) (by omega) ?_
    refine wa_ifeq (tgt := 26) X dX11_changed_13 (by decide) (fun h22 => ?_) (fun h22 => ?_)
    · rw [if_pos h22] at hf
      refine wa_iconst (v := (-1 : Int32)) X dX11_changed_26 (by decide) ?_
      obtain ⟨rfl, rfl, rfl, rfl⟩ := jret hf
      exact wa_iret X dX11_changed_27 rfl (by omega) (by omega)
    · rw [if_neg h22] at hf
      refine wa_iload X 4 dX11_changed_16 rfl ?_
      refine wa_iconst (v := (0 : Int32)) X dX11_changed_18 (by decide) ?_
      refine wa_iconst (v := (1 : Int32)) X dX11_changed_19 (by decide) ?_
      obtain ⟨r23, μ24, c25, m26, c27, m28, e29, hf, h30, h31⟩ := jcl_some hf
      refine wa_rcallS (st2 := [.int r23]) X dX11_changed_20 lmX11_347 lMX11_in (mX11_in e29) rfl rfl rfl (va_cats (Nat.le_of_ble_eq_true rfl)) (by decide) (by omega) (by omega) ?_
      refine wa_ifne (tgt := 28) X dX11_changed_23 (by decide) (fun h32 => ?_) (fun h32 => ?_)
      · rw [if_neg h32] at hf
        refine wa_iconst (v := (0 : Int32)) X dX11_changed_28 (by decide) ?_
        refine wa_istore (L2 := [(5, .int (0 : Int32)), (0, va_rf (some a)), (1, .int x1), (2, .int x2), (3, .int x3), (4, .int x4)]) X dX11_changed_29 (by decide) (by first | rfl | (show (5, _) :: List.filter (fun q : Nat × Value => !(q.1 == 5) && !(q.1 + 1 == 5 && q.2.category == 2)) _ = _; simp [va_rf_cat, cat_i, cat_l])) ?_
        refine wa_iconst (v := (0 : Int32)) X dX11_changed_31 (by decide) ?_
        refine wa_istore (L2 := [(6, .int (0 : Int32)), (5, .int (0 : Int32)), (0, va_rf (some a)), (1, .int x1), (2, .int x2), (3, .int x3), (4, .int x4)]) X dX11_changed_32 (by decide) (by first | rfl | (show (6, _) :: List.filter (fun q : Nat × Value => !(q.1 == 6) && !(q.1 + 1 == 6 && q.2.category == 2)) _ = _; simp [va_rf_cat, cat_i, cat_l])) ?_
        refine wa_sub (L2 := [(0, va_rf (some a)), (1, .int x1), (2, .int x2), (3, .int x3), (4, .int x4), (5, .int (0 : Int32)), (6, .int (0 : Int32))]) [2, 3, 4, 5, 6, 1, 0] rfl ?_
        exact gX11_changed_b34 X jfuel a x1 x2 x3 x4 (0 : Int32) (0 : Int32) μ24 _ _ _ _ hf (by omega) (by omega)
      · rw [if_pos h32] at hf
        refine wa_iconst (v := (-1 : Int32)) X dX11_changed_26 (by decide) ?_
        obtain ⟨rfl, rfl, rfl, rfl⟩ := jret hf
        exact wa_iret X dX11_changed_27 rfl (by omega) (by omega)
theorem dX11_quarrels_0 : decode cX11_quarrels 0 = .ok (.iconst 0, 1) := by decide +kernel
theorem dX11_quarrels_1 : decode cX11_quarrels 1 = .ok (.istore_n 3, 1) := by decide +kernel
theorem dX11_quarrels_2 : decode cX11_quarrels 2 = .ok (.iload_n 3, 1) := by decide +kernel
theorem dX11_quarrels_3 : decode cX11_quarrels 3 = .ok (.aload_n 0, 1) := by decide +kernel
theorem dX11_quarrels_4 : decode cX11_quarrels 4 = .ok (.getfield 73, 3) := by decide +kernel
theorem dX11_quarrels_7 : decode cX11_quarrels 7 = .ok (.iload_n 1, 1) := by decide +kernel
theorem dX11_quarrels_8 : decode cX11_quarrels 8 = .ok (.iaload, 1) := by decide +kernel
theorem dX11_quarrels_9 : decode cX11_quarrels 9 = .ok (.if_icmp .ge 142, 3) := by decide +kernel
theorem dX11_quarrels_12 : decode cX11_quarrels 12 = .ok (.bipush 24, 2) := by decide +kernel
theorem dX11_quarrels_14 : decode cX11_quarrels 14 = .ok (.iload_n 1, 1) := by decide +kernel
theorem dX11_quarrels_15 : decode cX11_quarrels 15 = .ok (.imul, 1) := by decide +kernel
theorem dX11_quarrels_16 : decode cX11_quarrels 16 = .ok (.iload_n 3, 1) := by decide +kernel
theorem dX11_quarrels_17 : decode cX11_quarrels 17 = .ok (.iadd, 1) := by decide +kernel
theorem dX11_quarrels_18 : decode cX11_quarrels 18 = .ok (.istore 4, 2) := by decide +kernel
theorem dX11_quarrels_20 : decode cX11_quarrels 20 = .ok (.aload_n 0, 1) := by decide +kernel
theorem dX11_quarrels_21 : decode cX11_quarrels 21 = .ok (.getfield 76, 3) := by decide +kernel
theorem dX11_quarrels_24 : decode cX11_quarrels 24 = .ok (.iload 4, 2) := by decide +kernel
theorem dX11_quarrels_26 : decode cX11_quarrels 26 = .ok (.iaload, 1) := by decide +kernel
theorem dX11_quarrels_27 : decode cX11_quarrels 27 = .ok (.iconst 1, 1) := by decide +kernel
theorem dX11_quarrels_28 : decode cX11_quarrels 28 = .ok (.if_icmp .ne 117, 3) := by decide +kernel
theorem dX11_quarrels_31 : decode cX11_quarrels 31 = .ok (.aload_n 0, 1) := by decide +kernel
theorem dX11_quarrels_32 : decode cX11_quarrels 32 = .ok (.iload_n 1, 1) := by decide +kernel
theorem dX11_quarrels_33 : decode cX11_quarrels 33 = .ok (.iload_n 3, 1) := by decide +kernel
theorem dX11_quarrels_34 : decode cX11_quarrels 34 = .ok (.iload_n 2, 1) := by decide +kernel
theorem dX11_quarrels_35 : decode cX11_quarrels 35 = .ok (.invokevirtual 420, 3) := by decide +kernel
theorem dX11_quarrels_38 : decode cX11_quarrels 38 = .ok (.ifCond .ne 6, 3) := by decide +kernel
theorem dX11_quarrels_41 : decode cX11_quarrels 41 = .ok (.goto 104, 3) := by decide +kernel
theorem dX11_quarrels_44 : decode cX11_quarrels 44 = .ok (.iconst 0, 1) := by decide +kernel
theorem dX11_quarrels_45 : decode cX11_quarrels 45 = .ok (.istore 5, 2) := by decide +kernel
theorem dX11_quarrels_47 : decode cX11_quarrels 47 = .ok (.iload 5, 2) := by decide +kernel
theorem dX11_quarrels_49 : decode cX11_quarrels 49 = .ok (.aload_n 0, 1) := by decide +kernel
theorem dX11_quarrels_50 : decode cX11_quarrels 50 = .ok (.getfield 73, 3) := by decide +kernel
theorem dX11_quarrels_53 : decode cX11_quarrels 53 = .ok (.iload_n 1, 1) := by decide +kernel
theorem dX11_quarrels_54 : decode cX11_quarrels 54 = .ok (.iaload, 1) := by decide +kernel
theorem dX11_quarrels_55 : decode cX11_quarrels 55 = .ok (.if_icmp .ge 90, 3) := by decide +kernel
theorem dX11_quarrels_58 : decode cX11_quarrels 58 = .ok (.bipush 24, 2) := by decide +kernel
theorem dX11_quarrels_60 : decode cX11_quarrels 60 = .ok (.iload_n 1, 1) := by decide +kernel
theorem dX11_quarrels_61 : decode cX11_quarrels 61 = .ok (.imul, 1) := by decide +kernel
theorem dX11_quarrels_62 : decode cX11_quarrels 62 = .ok (.iload 5, 2) := by decide +kernel
theorem dX11_quarrels_64 : decode cX11_quarrels 64 = .ok (.iadd, 1) := by decide +kernel
theorem dX11_quarrels_65 : decode cX11_quarrels 65 = .ok (.istore 6, 2) := by decide +kernel
theorem dX11_quarrels_67 : decode cX11_quarrels 67 = .ok (.aload_n 0, 1) := by decide +kernel
theorem dX11_quarrels_68 : decode cX11_quarrels 68 = .ok (.getfield 76, 3) := by decide +kernel
theorem dX11_quarrels_71 : decode cX11_quarrels 71 = .ok (.iload 6, 2) := by decide +kernel
theorem dX11_quarrels_73 : decode cX11_quarrels 73 = .ok (.iaload, 1) := by decide +kernel
theorem dX11_quarrels_74 : decode cX11_quarrels 74 = .ok (.iconst 3, 1) := by decide +kernel
theorem dX11_quarrels_75 : decode cX11_quarrels 75 = .ok (.if_icmp .ne 64, 3) := by decide +kernel
theorem dX11_quarrels_78 : decode cX11_quarrels 78 = .ok (.aload_n 0, 1) := by decide +kernel
theorem dX11_quarrels_79 : decode cX11_quarrels 79 = .ok (.getfield 79, 3) := by decide +kernel
theorem dX11_quarrels_82 : decode cX11_quarrels 82 = .ok (.iload 6, 2) := by decide +kernel
theorem dX11_quarrels_84 : decode cX11_quarrels 84 = .ok (.iaload, 1) := by decide +kernel
theorem dX11_quarrels_85 : decode cX11_quarrels 85 = .ok (.aload_n 0, 1) := by decide +kernel
theorem dX11_quarrels_86 : decode cX11_quarrels 86 = .ok (.getfield 79, 3) := by decide +kernel
theorem dX11_quarrels_89 : decode cX11_quarrels 89 = .ok (.iload 4, 2) := by decide +kernel
theorem dX11_quarrels_91 : decode cX11_quarrels 91 = .ok (.iaload, 1) := by decide +kernel
theorem dX11_quarrels_92 : decode cX11_quarrels 92 = .ok (.if_icmp .ne 47, 3) := by decide +kernel
theorem dX11_quarrels_95 : decode cX11_quarrels 95 = .ok (.aload_n 0, 1) := by decide +kernel
theorem dX11_quarrels_96 : decode cX11_quarrels 96 = .ok (.getfield 82, 3) := by decide +kernel
theorem dX11_quarrels_99 : decode cX11_quarrels 99 = .ok (.iload 6, 2) := by decide +kernel
theorem dX11_quarrels_101 : decode cX11_quarrels 101 = .ok (.iaload, 1) := by decide +kernel
theorem dX11_quarrels_102 : decode cX11_quarrels 102 = .ok (.aload_n 0, 1) := by decide +kernel
theorem dX11_quarrels_103 : decode cX11_quarrels 103 = .ok (.getfield 82, 3) := by decide +kernel
theorem dX11_quarrels_106 : decode cX11_quarrels 106 = .ok (.iload 4, 2) := by decide +kernel
theorem dX11_quarrels_108 : decode cX11_quarrels 108 = .ok (.iaload, 1) := by decide +kernel
theorem dX11_quarrels_109 : decode cX11_quarrels 109 = .ok (.if_icmp .ne 30, 3) := by decide +kernel
theorem dX11_quarrels_112 : decode cX11_quarrels 112 = .ok (.aload_n 0, 1) := by decide +kernel
theorem dX11_quarrels_113 : decode cX11_quarrels 113 = .ok (.iload_n 1, 1) := by decide +kernel
theorem dX11_quarrels_114 : decode cX11_quarrels 114 = .ok (.iload 5, 2) := by decide +kernel
theorem dX11_quarrels_116 : decode cX11_quarrels 116 = .ok (.iload_n 2, 1) := by decide +kernel
theorem dX11_quarrels_117 : decode cX11_quarrels 117 = .ok (.invokevirtual 420, 3) := by decide +kernel
theorem dX11_quarrels_120 : decode cX11_quarrels 120 = .ok (.ifCond .ne 6, 3) := by decide +kernel
theorem dX11_quarrels_123 : decode cX11_quarrels 123 = .ok (.goto 16, 3) := by decide +kernel
theorem dX11_quarrels_126 : decode cX11_quarrels 126 = .ok (.aload_n 0, 1) := by decide +kernel
theorem dX11_quarrels_127 : decode cX11_quarrels 127 = .ok (.iload_n 3, 1) := by decide +kernel
theorem dX11_quarrels_128 : decode cX11_quarrels 128 = .ok (.putfield 146, 3) := by decide +kernel
theorem dX11_quarrels_131 : decode cX11_quarrels 131 = .ok (.aload_n 0, 1) := by decide +kernel
theorem dX11_quarrels_132 : decode cX11_quarrels 132 = .ok (.iload 5, 2) := by decide +kernel
theorem dX11_quarrels_134 : decode cX11_quarrels 134 = .ok (.putfield 149, 3) := by decide +kernel
theorem dX11_quarrels_137 : decode cX11_quarrels 137 = .ok (.iconst 1, 1) := by decide +kernel
theorem dX11_quarrels_138 : decode cX11_quarrels 138 = .ok (.ireturn, 1) := by decide +kernel
theorem dX11_quarrels_139 : decode cX11_quarrels 139 = .ok (.iinc 5 1, 3) := by decide +kernel
theorem dX11_quarrels_142 : decode cX11_quarrels 142 = .ok (.goto (-95), 3) := by decide +kernel
theorem dX11_quarrels_145 : decode cX11_quarrels 145 = .ok (.iinc 3 1, 3) := by decide +kernel
theorem dX11_quarrels_148 : decode cX11_quarrels 148 = .ok (.goto (-146), 3) := by decide +kernel
theorem dX11_quarrels_151 : decode cX11_quarrels 151 = .ok (.iconst 0, 1) := by decide +kernel
theorem dX11_quarrels_152 : decode cX11_quarrels 152 = .ok (.ireturn, 1) := by decide +kernel
def fX11_quarrels_b139 (rec2 : Nat → Int32 → Int32 → Int32 → JM → JO (Int32)) (rec47 : Nat → Int32 → Int32 → Int32 → Int32 → Int32 → JM → JO (Int32)) (a : Nat) (x1 : Int32) (x2 : Int32) (x3 : Int32) (x4 : Int32) (x5 : Int32) (μ : JM) : JO (Int32) := rec47 a x1 x2 x3 x4 (x5 + (1 : Int32)) μ
set_option maxHeartbeats 4000000 in
set_option maxRecDepth 100000 in
theorem gX11_quarrels_b139 {b : Nat} {Θ : JE} {RC RS : Nat} {r : Int32} {ν : JM} (X : jX b Θ RX11 cX11_quarrels 7 (some .boolean) 1 23 RC RS) {rec2 : Nat → Int32 → Int32 → Int32 → JM → JO (Int32)} (hrec2 : ∀ (a : Nat) (x1 : Int32) (x2 : Int32) (x3 : Int32) (μ : JM) (c m k n : Nat), rec2 a x1 x2 x3 μ = some (r, ν, c, m) → k + c = RC → n + m = RS → WA b Θ 7 (jE b Θ (some (.int r)) ν RC RS) μ k n 2 [(0, va_rf (some a)), (1, .int x1), (2, .int x2), (3, .int x3)] []) {rec47 : Nat → Int32 → Int32 → Int32 → Int32 → Int32 → JM → JO (Int32)} (hrec47 : ∀ (a : Nat) (x1 : Int32) (x2 : Int32) (x3 : Int32) (x4 : Int32) (x5 : Int32) (μ : JM) (c m k n : Nat), rec47 a x1 x2 x3 x4 x5 μ = some (r, ν, c, m) → k + c = RC → n + m = RS → WA b Θ 7 (jE b Θ (some (.int r)) ν RC RS) μ k n 47 [(0, va_rf (some a)), (1, .int x1), (2, .int x2), (3, .int x3), (4, .int x4), (5, .int x5)] []) (a : Nat) (x1 : Int32) (x2 : Int32) (x3 : Int32) (x4 : Int32) (x5 : Int32) (μ : JM) (c m k n : Nat) (hf : fX11_quarrels_b139 rec2 rec47 a x1 x2 x3 x4 x5 μ = some (r, ν, c, m)) (hk : k + c = RC) (hn : n + m = RS) : WA b Θ 7 (jE b Θ (some (.int r)) ν RC RS) μ k n 139 [(0, va_rf (some a)), (1, .int x1), (2, .int x2), (3, .int x3), (4, .int x4), (5, .int x5)] [] := by
  rw [fX11_quarrels_b139] at hf
  refine wa_iinc (v := (x5 + (1 : Int32))) (L2 := [(5, .int (x5 + (1 : Int32))), (0, va_rf (some a)), (1, .int x1), (2, .int x2), (3, .int x3), (4, .int x4)]) X 5 dX11_quarrels_139 rfl rfl (by decide) (by first | rfl | simp [va_rf_cat, cat_i, cat_l]) ?_
  refine wa_goto (tgt := 47) X dX11_quarrels_142 (by decide) ?_
  refine wa_sub (L2 := [(0, va_rf (some a)), (1, .int x1), (2, .int x2), (3, .int x3), (4, .int x4), (5, .int (x5 + (1 : Int32)))]) [1, 2, 3, 4, 5, 0] rfl ?_
  exact hrec47 a x1 x2 x3 x4 (x5 + (1 : Int32)) μ _ _ _ _ hf (by omega) (by omega)
def fX11_quarrels_b145 (rec2 : Nat → Int32 → Int32 → Int32 → JM → JO (Int32)) (a : Nat) (x1 : Int32) (x2 : Int32) (x3 : Int32) (μ : JM) : JO (Int32) := rec2 a x1 x2 (x3 + (1 : Int32)) μ
set_option maxHeartbeats 4000000 in
set_option maxRecDepth 100000 in
theorem gX11_quarrels_b145 {b : Nat} {Θ : JE} {RC RS : Nat} {r : Int32} {ν : JM} (X : jX b Θ RX11 cX11_quarrels 7 (some .boolean) 1 23 RC RS) {rec2 : Nat → Int32 → Int32 → Int32 → JM → JO (Int32)} (hrec2 : ∀ (a : Nat) (x1 : Int32) (x2 : Int32) (x3 : Int32) (μ : JM) (c m k n : Nat), rec2 a x1 x2 x3 μ = some (r, ν, c, m) → k + c = RC → n + m = RS → WA b Θ 7 (jE b Θ (some (.int r)) ν RC RS) μ k n 2 [(0, va_rf (some a)), (1, .int x1), (2, .int x2), (3, .int x3)] []) (a : Nat) (x1 : Int32) (x2 : Int32) (x3 : Int32) (μ : JM) (c m k n : Nat) (hf : fX11_quarrels_b145 rec2 a x1 x2 x3 μ = some (r, ν, c, m)) (hk : k + c = RC) (hn : n + m = RS) : WA b Θ 7 (jE b Θ (some (.int r)) ν RC RS) μ k n 145 [(0, va_rf (some a)), (1, .int x1), (2, .int x2), (3, .int x3)] [] := by
  rw [fX11_quarrels_b145] at hf
  refine wa_iinc (v := (x3 + (1 : Int32))) (L2 := [(3, .int (x3 + (1 : Int32))), (0, va_rf (some a)), (1, .int x1), (2, .int x2)]) X 3 dX11_quarrels_145 rfl rfl (by decide) (by first | rfl | simp [va_rf_cat, cat_i, cat_l]) ?_
  refine wa_goto (tgt := 2) X dX11_quarrels_148 (by decide) ?_
  refine wa_sub (L2 := [(0, va_rf (some a)), (1, .int x1), (2, .int x2), (3, .int (x3 + (1 : Int32)))]) [1, 2, 3, 0] rfl ?_
  exact hrec2 a x1 x2 (x3 + (1 : Int32)) μ _ _ _ _ hf (by omega) (by omega)
def fX11_quarrels_b47 (rec2 : Nat → Int32 → Int32 → Int32 → JM → JO (Int32)) : Nat → Nat → Int32 → Int32 → Int32 → Int32 → Int32 → JM → JO (Int32)
  | 0, _, _, _, _, _, _, _ => none
  | fu + 1, a, x1, x2, x3, x4, x5, μ => jck ((jT μ a).1 == 12) <| jde (jP μ a 34) fun q23 => jck ((jT μ q23).1 == 101) <| jck (jin x1 (jT μ q23).2) <| if (jI μ q23 (x1).toNatClampNeg) ≤ x5 then (fX11_quarrels_b145 rec2 a x1 x2 x3 μ) else (jde (jP μ a 35) fun q28 => jck ((jT μ q28).1 == 101) <| jck (jin (((24 : Int32) * x1) + x5) (jT μ q28).2) <| if (jI μ q28 ((((24 : Int32) * x1) + x5)).toNatClampNeg) = (3 : Int32) then (jde (jP μ a 36) fun q33 => jck ((jT μ q33).1 == 101) <| jck (jin (((24 : Int32) * x1) + x5) (jT μ q33).2) <| jck (jin x4 (jT μ q33).2) <| if (jI μ q33 ((((24 : Int32) * x1) + x5)).toNatClampNeg) = (jI μ q33 (x4).toNatClampNeg) then (jde (jP μ a 37) fun q39 => jck ((jT μ q39).1 == 101) <| jck (jin (((24 : Int32) * x1) + x5) (jT μ q39).2) <| jck (jin x4 (jT μ q39).2) <| if (jI μ q39 ((((24 : Int32) * x1) + x5)).toNatClampNeg) = (jI μ q39 (x4).toNatClampNeg) then (jcl (fX11_isSo a x1 x5 x2 μ) fun r45 μ46 => if r45 = 0 then (fX11_quarrels_b139 rec2 (fX11_quarrels_b47 rec2 fu) a x1 x2 x3 x4 x5 μ46) else (jck ((jT μ46 a).1 == 12) <| jlt (jsI μ46 a 67 x3) fun μ56 => jlt (jsI μ56 a 68 x5) fun μ59 => some ((1 : Int32), μ59, 0, 0))) else (fX11_quarrels_b139 rec2 (fX11_quarrels_b47 rec2 fu) a x1 x2 x3 x4 x5 μ)) else (fX11_quarrels_b139 rec2 (fX11_quarrels_b47 rec2 fu) a x1 x2 x3 x4 x5 μ)) else (fX11_quarrels_b139 rec2 (fX11_quarrels_b47 rec2 fu) a x1 x2 x3 x4 x5 μ))
set_option maxHeartbeats 4000000 in
set_option maxRecDepth 100000 in
theorem gX11_quarrels_b47 {b : Nat} {Θ : JE} {RC RS : Nat} {r : Int32} {ν : JM} (X : jX b Θ RX11 cX11_quarrels 7 (some .boolean) 1 23 RC RS) {rec2 : Nat → Int32 → Int32 → Int32 → JM → JO (Int32)} (hrec2 : ∀ (a : Nat) (x1 : Int32) (x2 : Int32) (x3 : Int32) (μ : JM) (c m k n : Nat), rec2 a x1 x2 x3 μ = some (r, ν, c, m) → k + c = RC → n + m = RS → WA b Θ 7 (jE b Θ (some (.int r)) ν RC RS) μ k n 2 [(0, va_rf (some a)), (1, .int x1), (2, .int x2), (3, .int x3)] []) : ∀ (fu : Nat) (a : Nat) (x1 : Int32) (x2 : Int32) (x3 : Int32) (x4 : Int32) (x5 : Int32) (μ : JM) (c m k n : Nat), fX11_quarrels_b47 rec2 fu a x1 x2 x3 x4 x5 μ = some (r, ν, c, m) → k + c = RC → n + m = RS → WA b Θ 7 (jE b Θ (some (.int r)) ν RC RS) μ k n 47 [(0, va_rf (some a)), (1, .int x1), (2, .int x2), (3, .int x3), (4, .int x4), (5, .int x5)] [] := by
  intro fu
  induction fu with
  | zero => intro a x1 x2 x3 x4 x5 μ c m k n hf; cases hf
  | succ fu ih =>
    intro a x1 x2 x3 x4 x5 μ c m k n hf hk hn
    rw [fX11_quarrels_b47] at hf
    refine wa_iload X 5 dX11_quarrels_47 rfl ?_
    refine wa_aload_n X 0 dX11_quarrels_49 rfl ?_
    obtain ⟨h22, hf⟩ := jckT hf
    refine wa_getP X dX11_quarrels_50 lfX11_73 rfl h22 rfl ?_
    refine wa_iload_n X 1 dX11_quarrels_53 rfl ?_
    obtain ⟨q23, h24, hf⟩ := jde_some hf
    obtain ⟨h25, hf⟩ := jckT hf
    obtain ⟨h26, hf⟩ := jck_some hf
    refine wa_riald X dX11_quarrels_54 h24 h25 h26 ?_
    refine wa_icge (tgt := 145) X dX11_quarrels_55 (by decide) (fun h27 => ?_) (fun h27 => ?_)
    · rw [if_pos h27] at hf
      refine wa_sub (L2 := [(0, va_rf (some a)), (1, .int x1), (2, .int x2), (3, .int x3)]) [0, 1, 2, 3] rfl ?_
      exact gX11_quarrels_b145 X hrec2 a x1 x2 x3 μ _ _ _ _ hf (by omega) (by omega)
    · rw [if_neg h27] at hf
      refine wa_bipush (v := (24 : Int32)) X dX11_quarrels_58 (by decide) ?_
      refine wa_iload_n X 1 dX11_quarrels_60 rfl ?_
      refine wa_imul X dX11_quarrels_61 ?_
      refine wa_iload X 5 dX11_quarrels_62 rfl ?_
      refine wa_iadd X dX11_quarrels_64 ?_
      refine wa_istore (L2 := [(6, .int (((24 : Int32) * x1) + x5)), (0, va_rf (some a)), (1, .int x1), (2, .int x2), (3, .int x3), (4, .int x4), (5, .int x5)]) X dX11_quarrels_65 (by decide) (by first | rfl | (show (6, _) :: List.filter (fun q : Nat × Value => !(q.1 == 6) && !(q.1 + 1 == 6 && q.2.category == 2)) _ = _; simp [va_rf_cat, cat_i, cat_l])) ?_
      refine wa_aload_n X 1 dX11_quarrels_67 rfl ?_
      refine wa_getP X dX11_quarrels_68 lfX11_76 rfl h22 rfl ?_
      refine wa_iload X 0 dX11_quarrels_71 rfl ?_
      obtain ⟨q28, h29, hf⟩ := jde_some hf
      obtain ⟨h30, hf⟩ := jckT hf
      obtain ⟨h31, hf⟩ := jck_some hf
      refine wa_riald X dX11_quarrels_73 h29 h30 h31 ?_
      refine wa_iconst (v := (3 : Int32)) X dX11_quarrels_74 (by decide) ?_
      refine wa_icne (tgt := 139) X dX11_quarrels_75 (by decide) (fun h32 => ?_) (fun h32 => ?_)
      · rw [if_neg h32] at hf
        refine wa_sub (L2 := [(0, va_rf (some a)), (1, .int x1), (2, .int x2), (3, .int x3), (4, .int x4), (5, .int x5)]) [1, 2, 3, 4, 5, 6] rfl ?_
        exact gX11_quarrels_b139 X hrec2 ih a x1 x2 x3 x4 x5 μ _ _ _ _ hf (by omega) (by omega)
      · rw [if_pos h32] at hf
        refine wa_aload_n X 1 dX11_quarrels_78 rfl ?_
        refine wa_getP X dX11_quarrels_79 lfX11_79 rfl h22 rfl ?_
        refine wa_iload X 0 dX11_quarrels_82 rfl ?_
        obtain ⟨q33, h34, hf⟩ := jde_some hf
        obtain ⟨h35, hf⟩ := jckT hf
        obtain ⟨h36, hf⟩ := jck_some hf
        refine wa_riald X dX11_quarrels_84 h34 h35 h36 ?_
        refine wa_aload_n X 1 dX11_quarrels_85 rfl ?_
        refine wa_getP X dX11_quarrels_86 lfX11_79 rfl h22 rfl ?_
        refine wa_iload X 5 dX11_quarrels_89 rfl ?_
        obtain ⟨h37, hf⟩ := jck_some hf
        refine wa_riald X dX11_quarrels_91 h34 h35 h37 ?_
        refine wa_icne (tgt := 139) X dX11_quarrels_92 (by decide) (fun h38 => ?_) (fun h38 => ?_)
        · rw [if_neg h38] at hf
          refine wa_sub (L2 := [(0, va_rf (some a)), (1, .int x1), (2, .int x2), (3, .int x3), (4, .int x4), (5, .int x5)]) [1, 2, 3, 4, 5, 6] rfl ?_
          exact gX11_quarrels_b139 X hrec2 ih a x1 x2 x3 x4 x5 μ _ _ _ _ hf (by omega) (by omega)
        · rw [if_pos h38] at hf
          refine wa_aload_n X 1 dX11_quarrels_95 rfl ?_
          refine wa_getP X dX11_quarrels_96 lfX11_82 rfl h22 rfl ?_
          refine wa_iload X 0 dX11_quarrels_99 rfl ?_
          obtain ⟨q39, h40, hf⟩ := jde_some hf
          obtain ⟨h41, hf⟩ := jckT hf
          obtain ⟨h42, hf⟩ := jck_some hf
          refine wa_riald X dX11_quarrels_101 h40 h41 h42 ?_
          refine wa_aload_n X 1 dX11_quarrels_102 rfl ?_
          refine wa_getP X dX11_quarrels_103 lfX11_82 rfl h22 rfl ?_
          refine wa_iload X 5 dX11_quarrels_106 rfl ?_
          obtain ⟨h43, hf⟩ := jck_some hf
          refine wa_riald X dX11_quarrels_108 h40 h41 h43 ?_
          refine wa_icne (tgt := 139) X dX11_quarrels_109 (by decide) (fun h44 => ?_) (fun h44 => ?_)
          · rw [if_neg h44] at hf
            refine wa_sub (L2 := [(0, va_rf (some a)), (1, .int x1), (2, .int x2), (3, .int x3), (4, .int x4), (5, .int x5)]) [1, 2, 3, 4, 5, 6] rfl ?_
            exact gX11_quarrels_b139 X hrec2 ih a x1 x2 x3 x4 x5 μ _ _ _ _ hf (by omega) (by omega)
          · rw [if_pos h44] at hf
            refine wa_aload_n X 1 dX11_quarrels_112 rfl ?_
            refine wa_iload_n X 2 dX11_quarrels_113 rfl ?_
            refine wa_iload X 6 dX11_quarrels_114 rfl ?_
            refine wa_iload_n X 3 dX11_quarrels_116 rfl ?_
            obtain ⟨r45, μ46, c47, m48, c49, m50, e51, hf, h52, h53⟩ := jcl_some hf
            refine wa_rcallV (st2 := [.int r45]) X dX11_quarrels_117 lmX11_420 lMX11_isSo rfl h22 (mX11_isSo e51) rfl rfl rfl (va_cats (Nat.le_of_ble_eq_true rfl)) (by decide) (by omega) (by omega) ?_
            refine wa_ifne (tgt := 126) X dX11_quarrels_120 (by decide) (fun h54 => ?_) (fun h54 => ?_)
            · rw [if_neg h54] at hf
              refine wa_aload_n X 1 dX11_quarrels_126 rfl ?_
              refine wa_iload_n X 4 dX11_quarrels_127 rfl ?_
              obtain ⟨h55, hf⟩ := jckT hf
              obtain ⟨μ56, hm57, hf⟩ := jlt_e hf
              have e58 : jT μ56 = jT μ46 := by rw [hm57]; rfl
              refine wa_rputI (ν := μ56) X dX11_quarrels_128 lfX11_146 rfl h55 rfl rfl hm57 ?_
              refine wa_aload_n X 1 dX11_quarrels_131 rfl ?_
              refine wa_iload X 6 dX11_quarrels_132 rfl ?_
              obtain ⟨μ59, hm60, hf⟩ := jlt_e hf
              have e61 : jT μ59 = jT μ46 := by rw [hm60]; exact e58
              refine wa_rputI (ν := μ59) X dX11_quarrels_134 lfX11_149 rfl (by rw [e58]; exact h55) rfl rfl hm60 ?_
              refine wa_iconst (v := (1 : Int32)) X dX11_quarrels_137 (by decide) ?_
              obtain ⟨rfl, rfl, rfl, rfl⟩ := jret hf
              exact wa_iret X dX11_quarrels_138 rfl (by omega) (by omega)
            · rw [if_pos h54] at hf
              refine wa_goto (tgt := 139) X dX11_quarrels_123 (by decide) ?_
              refine wa_sub (L2 := [(0, va_rf (some a)), (1, .int x1), (2, .int x2), (3, .int x3), (4, .int x4), (5, .int x5)]) [1, 2, 3, 4, 5, 6] rfl ?_
              exact gX11_quarrels_b139 X hrec2 ih a x1 x2 x3 x4 x5 μ46 _ _ _ _ hf (by omega) (by omega)
def fX11_quarrels_b2 : Nat → Nat → Int32 → Int32 → Int32 → JM → JO (Int32)
  | 0, _, _, _, _, _ => none
  | fu + 1, a, x1, x2, x3, μ => jck ((jT μ a).1 == 12) <| jde (jP μ a 34) fun q2 => jck ((jT μ q2).1 == 101) <| jck (jin x1 (jT μ q2).2) <| if (jI μ q2 (x1).toNatClampNeg) ≤ x3 then (some ((0 : Int32), μ, 0, 0)) else (jde (jP μ a 35) fun q7 => jck ((jT μ q7).1 == 101) <| jck (jin (((24 : Int32) * x1) + x3) (jT μ q7).2) <| if (jI μ q7 ((((24 : Int32) * x1) + x3)).toNatClampNeg) = (1 : Int32) then (jcl (fX11_isSo a x1 x3 x2 μ) fun r12 μ13 => if r12 = 0 then (fX11_quarrels_b145 (fX11_quarrels_b2 fu) a x1 x2 x3 μ13) else (fX11_quarrels_b47 (fX11_quarrels_b2 fu) jfuel a x1 x2 x3 (((24 : Int32) * x1) + x3) (0 : Int32) μ13)) else (fX11_quarrels_b145 (fX11_quarrels_b2 fu) a x1 x2 x3 μ))
set_option maxHeartbeats 4000000 in
set_option maxRecDepth 100000 in
theorem gX11_quarrels_b2 {b : Nat} {Θ : JE} {RC RS : Nat} {r : Int32} {ν : JM} (X : jX b Θ RX11 cX11_quarrels 7 (some .boolean) 1 23 RC RS) : ∀ (fu : Nat) (a : Nat) (x1 : Int32) (x2 : Int32) (x3 : Int32) (μ : JM) (c m k n : Nat), fX11_quarrels_b2 fu a x1 x2 x3 μ = some (r, ν, c, m) → k + c = RC → n + m = RS → WA b Θ 7 (jE b Θ (some (.int r)) ν RC RS) μ k n 2 [(0, va_rf (some a)), (1, .int x1), (2, .int x2), (3, .int x3)] [] := by
  intro fu
  induction fu with
  | zero => intro a x1 x2 x3 μ c m k n hf; cases hf
  | succ fu ih =>
    intro a x1 x2 x3 μ c m k n hf hk hn
    rw [fX11_quarrels_b2] at hf
    refine wa_iload_n X 3 dX11_quarrels_2 rfl ?_
    refine wa_aload_n X 0 dX11_quarrels_3 rfl ?_
    obtain ⟨h1, hf⟩ := jckT hf
    refine wa_getP X dX11_quarrels_4 lfX11_73 rfl h1 rfl ?_
    refine wa_iload_n X 1 dX11_quarrels_7 rfl ?_
    obtain ⟨q2, h3, hf⟩ := jde_some hf
    obtain ⟨h4, hf⟩ := jckT hf
    obtain ⟨h5, hf⟩ := jck_some hf
    refine wa_riald X dX11_quarrels_8 h3 h4 h5 ?_
    refine wa_icge (tgt := 151) X dX11_quarrels_9 (by decide) (fun h6 => ?_) (fun h6 => ?_)
    · rw [if_pos h6] at hf
      refine wa_iconst (v := (0 : Int32)) X dX11_quarrels_151 (by decide) ?_
      obtain ⟨rfl, rfl, rfl, rfl⟩ := jret hf
      exact wa_iret X dX11_quarrels_152 rfl (by omega) (by omega)
    · rw [if_neg h6] at hf
      refine wa_bipush (v := (24 : Int32)) X dX11_quarrels_12 (by decide) ?_
      refine wa_iload_n X 1 dX11_quarrels_14 rfl ?_
      refine wa_imul X dX11_quarrels_15 ?_
      refine wa_iload_n X 3 dX11_quarrels_16 rfl ?_
      refine wa_iadd X dX11_quarrels_17 ?_
      refine wa_istore (L2 := [(4, .int (((24 : Int32) * x1) + x3)), (0, va_rf (some a)), (1, .int x1), (2, .int x2), (3, .int x3)]) X dX11_quarrels_18 (by decide) (by first | rfl | (show (4, _) :: List.filter (fun q : Nat × Value => !(q.1 == 4) && !(q.1 + 1 == 4 && q.2.category == 2)) _ = _; simp [va_rf_cat, cat_i, cat_l])) ?_
      refine wa_aload_n X 1 dX11_quarrels_20 rfl ?_
      refine wa_getP X dX11_quarrels_21 lfX11_76 rfl h1 rfl ?_
      refine wa_iload X 0 dX11_quarrels_24 rfl ?_
      obtain ⟨q7, h8, hf⟩ := jde_some hf
      obtain ⟨h9, hf⟩ := jckT hf
      obtain ⟨h10, hf⟩ := jck_some hf
      refine wa_riald X dX11_quarrels_26 h8 h9 h10 ?_
      refine wa_iconst (v := (1 : Int32)) X dX11_quarrels_27 (by decide) ?_
      refine wa_icne (tgt := 145) X dX11_quarrels_28 (by decide) (fun h11 => ?_) (fun h11 => ?_)
      · rw [if_neg h11] at hf
        refine wa_sub (L2 := [(0, va_rf (some a)), (1, .int x1), (2, .int x2), (3, .int x3)]) [1, 2, 3, 4] rfl ?_
        exact gX11_quarrels_b145 X ih a x1 x2 x3 μ _ _ _ _ hf (by omega) (by omega)
      · rw [if_pos h11] at hf
        refine wa_aload_n X 1 dX11_quarrels_31 rfl ?_
        refine wa_iload_n X 2 dX11_quarrels_32 rfl ?_
        refine wa_iload_n X 4 dX11_quarrels_33 rfl ?_
        refine wa_iload_n X 3 dX11_quarrels_34 rfl ?_
        obtain ⟨r12, μ13, c14, m15, c16, m17, e18, hf, h19, h20⟩ := jcl_some hf
        refine wa_rcallV (st2 := [.int r12]) X dX11_quarrels_35 lmX11_420 lMX11_isSo rfl h1 (mX11_isSo e18) rfl rfl rfl (va_cats (Nat.le_of_ble_eq_true rfl)) (by decide) (by omega) (by omega) ?_
        refine wa_ifne (tgt := 44) X dX11_quarrels_38 (by decide) (fun h21 => ?_) (fun h21 => ?_)
        · rw [if_neg h21] at hf
          refine wa_iconst (v := (0 : Int32)) X dX11_quarrels_44 (by decide) ?_
          refine wa_istore (L2 := [(5, .int (0 : Int32)), (4, .int (((24 : Int32) * x1) + x3)), (0, va_rf (some a)), (1, .int x1), (2, .int x2), (3, .int x3)]) X dX11_quarrels_45 (by decide) (by first | rfl | (show (5, _) :: List.filter (fun q : Nat × Value => !(q.1 == 5) && !(q.1 + 1 == 5 && q.2.category == 2)) _ = _; simp [va_rf_cat, cat_i, cat_l])) ?_
          refine wa_sub (L2 := [(0, va_rf (some a)), (1, .int x1), (2, .int x2), (3, .int x3), (4, .int (((24 : Int32) * x1) + x3)), (5, .int (0 : Int32))]) [2, 3, 4, 5, 1, 0] rfl ?_
          exact gX11_quarrels_b47 X ih jfuel a x1 x2 x3 (((24 : Int32) * x1) + x3) (0 : Int32) μ13 _ _ _ _ hf (by omega) (by omega)
        · rw [if_pos h21] at hf
          refine wa_goto (tgt := 145) X dX11_quarrels_41 (by decide) ?_
          refine wa_sub (L2 := [(0, va_rf (some a)), (1, .int x1), (2, .int x2), (3, .int x3)]) [1, 2, 3, 4] rfl ?_
          exact gX11_quarrels_b145 X ih a x1 x2 x3 μ13 _ _ _ _ hf (by omega) (by omega)
def fX11_quarrels (a : Nat) (x1 : Int32) (x2 : Int32) (μ : JM) : JO (Int32) := fX11_quarrels_b2  jfuel a x1 x2 (0 : Int32) μ
set_option maxHeartbeats 4000000 in
set_option maxRecDepth 100000 in
theorem mX11_quarrels {b : Nat} {a : Nat} {x1 : Int32} {x2 : Int32} {μ : JM} {r : Int32} {ν : JM} {c m : Nat} (hf : fX11_quarrels a x1 x2 μ = some (r, ν, c, m)) : JMet b yX11_quarrels cX11_quarrels 7 (some .boolean) 1 23 [va_rf (some a), .int x1, .int x2] μ (some (.int r)) ν c m := by
  refine JMet.of (by decide) (lg_sl_le (by simp only [List.map_cons, List.map_nil, List.sum_cons, List.sum_nil, va_rf_cat]; exact Nat.le_of_ble_eq_true rfl)) (fun Θ X hin => ?_)
  refine wa_eq (L2 := [(0, va_rf (some a)), (1, .int x1), (2, .int x2)]) ?_ rfl (by first | rfl | simp [lv_args, va_rf_cat, cat_i, cat_l]) rfl
  obtain ⟨k, hk0⟩ : ∃ k : Nat, k = 0 := ⟨0, rfl⟩
  obtain ⟨n, hn0⟩ : ∃ n : Nat, n = 0 := ⟨0, rfl⟩
  have hk : k + c = c := by omega
  have hn : n + m = m := by omega
  refine wa_costs hk0.symm hn0.symm ?_
  rw [fX11_quarrels] at hf
  refine wa_iconst (v := (0 : Int32)) X dX11_quarrels_0 (by decide) ?_
  refine wa_istore_n (L2 := [(3, .int (0 : Int32)), (0, va_rf (some a)), (1, .int x1), (2, .int x2)]) X dX11_quarrels_1 (by decide) (by first | rfl | (show (3, _) :: List.filter (fun q : Nat × Value => !(q.1 == 3) && !(q.1 + 1 == 3 && q.2.category == 2)) _ = _; simp [va_rf_cat, cat_i, cat_l])) ?_
  refine wa_sub (L2 := [(0, va_rf (some a)), (1, .int x1), (2, .int x2), (3, .int (0 : Int32))]) [1, 2, 3, 0] rfl ?_
  exact gX11_quarrels_b2 X jfuel a x1 x2 (0 : Int32) μ _ _ _ _ hf (by omega) (by omega)
theorem dX11_quarrel_0 : decode cX11_quarrel 0 = .ok (.aload_n 0, 1) := by decide +kernel
theorem dX11_quarrel_1 : decode cX11_quarrel 1 = .ok (.iload_n 1, 1) := by decide +kernel
theorem dX11_quarrel_2 : decode cX11_quarrel 2 = .ok (.invokevirtual 393, 3) := by decide +kernel
theorem dX11_quarrel_5 : decode cX11_quarrel 5 = .ok (.ifCond .ne 6, 3) := by decide +kernel
theorem dX11_quarrel_8 : decode cX11_quarrel 8 = .ok (.bipush (-2), 2) := by decide +kernel
theorem dX11_quarrel_10 : decode cX11_quarrel 10 = .ok (.ireturn, 1) := by decide +kernel
theorem dX11_quarrel_11 : decode cX11_quarrel 11 = .ok (.iconst 0, 1) := by decide +kernel
theorem dX11_quarrel_12 : decode cX11_quarrel 12 = .ok (.istore_n 2, 1) := by decide +kernel
theorem dX11_quarrel_13 : decode cX11_quarrel 13 = .ok (.iload_n 2, 1) := by decide +kernel
theorem dX11_quarrel_14 : decode cX11_quarrel 14 = .ok (.iconst 1, 1) := by decide +kernel
theorem dX11_quarrel_15 : decode cX11_quarrel 15 = .ok (.aload_n 0, 1) := by decide +kernel
theorem dX11_quarrel_16 : decode cX11_quarrel 16 = .ok (.getfield 13, 3) := by decide +kernel
theorem dX11_quarrel_19 : decode cX11_quarrel 19 = .ok (.ishl, 1) := by decide +kernel
theorem dX11_quarrel_20 : decode cX11_quarrel 20 = .ok (.if_icmp .ge 28, 3) := by decide +kernel
theorem dX11_quarrel_23 : decode cX11_quarrel 23 = .ok (.aload_n 0, 1) := by decide +kernel
theorem dX11_quarrel_24 : decode cX11_quarrel 24 = .ok (.iload_n 2, 1) := by decide +kernel
theorem dX11_quarrel_25 : decode cX11_quarrel 25 = .ok (.invokevirtual 408, 3) := by decide +kernel
theorem dX11_quarrel_28 : decode cX11_quarrel 28 = .ok (.ifCond .eq 14, 3) := by decide +kernel
theorem dX11_quarrel_31 : decode cX11_quarrel 31 = .ok (.aload_n 0, 1) := by decide +kernel
theorem dX11_quarrel_32 : decode cX11_quarrel 32 = .ok (.iload_n 1, 1) := by decide +kernel
theorem dX11_quarrel_33 : decode cX11_quarrel 33 = .ok (.iload_n 2, 1) := by decide +kernel
theorem dX11_quarrel_34 : decode cX11_quarrel 34 = .ok (.invokevirtual 440, 3) := by decide +kernel
theorem dX11_quarrel_37 : decode cX11_quarrel 37 = .ok (.ifCond .eq 5, 3) := by decide +kernel
theorem dX11_quarrel_40 : decode cX11_quarrel 40 = .ok (.iload_n 2, 1) := by decide +kernel
theorem dX11_quarrel_41 : decode cX11_quarrel 41 = .ok (.ireturn, 1) := by decide +kernel
theorem dX11_quarrel_42 : decode cX11_quarrel 42 = .ok (.iinc 2 1, 3) := by decide +kernel
theorem dX11_quarrel_45 : decode cX11_quarrel 45 = .ok (.goto (-32), 3) := by decide +kernel
theorem dX11_quarrel_48 : decode cX11_quarrel 48 = .ok (.iconst (-1), 1) := by decide +kernel
theorem dX11_quarrel_49 : decode cX11_quarrel 49 = .ok (.ireturn, 1) := by decide +kernel
def fX11_quarrel_b42 (rec13 : Nat → Int32 → Int32 → JM → JO (Int32)) (a : Nat) (x1 : Int32) (x2 : Int32) (μ : JM) : JO (Int32) := rec13 a x1 (x2 + (1 : Int32)) μ
set_option maxHeartbeats 4000000 in
set_option maxRecDepth 100000 in
theorem gX11_quarrel_b42 {b : Nat} {Θ : JE} {RC RS : Nat} {r : Int32} {ν : JM} (X : jX b Θ RX11 cX11_quarrel 3 (some .int) 3 63 RC RS) {rec13 : Nat → Int32 → Int32 → JM → JO (Int32)} (hrec13 : ∀ (a : Nat) (x1 : Int32) (x2 : Int32) (μ : JM) (c m k n : Nat), rec13 a x1 x2 μ = some (r, ν, c, m) → k + c = RC → n + m = RS → WA b Θ 3 (jE b Θ (some (.int r)) ν RC RS) μ k n 13 [(0, va_rf (some a)), (1, .int x1), (2, .int x2)] []) (a : Nat) (x1 : Int32) (x2 : Int32) (μ : JM) (c m k n : Nat) (hf : fX11_quarrel_b42 rec13 a x1 x2 μ = some (r, ν, c, m)) (hk : k + c = RC) (hn : n + m = RS) : WA b Θ 3 (jE b Θ (some (.int r)) ν RC RS) μ k n 42 [(0, va_rf (some a)), (1, .int x1), (2, .int x2)] [] := by
  rw [fX11_quarrel_b42] at hf
  refine wa_iinc (v := (x2 + (1 : Int32))) (L2 := [(2, .int (x2 + (1 : Int32))), (0, va_rf (some a)), (1, .int x1)]) X 2 dX11_quarrel_42 rfl rfl (by decide) (by first | rfl | simp [va_rf_cat, cat_i, cat_l]) ?_
  refine wa_goto (tgt := 13) X dX11_quarrel_45 (by decide) ?_
  refine wa_sub (L2 := [(0, va_rf (some a)), (1, .int x1), (2, .int (x2 + (1 : Int32)))]) [1, 2, 0] rfl ?_
  exact hrec13 a x1 (x2 + (1 : Int32)) μ _ _ _ _ hf (by omega) (by omega)
def fX11_quarrel_b13 : Nat → Nat → Int32 → Int32 → JM → JO (Int32)
  | 0, _, _, _, _ => none
  | fu + 1, a, x1, x2, μ => jck ((jT μ a).1 == 12) <| if (jshl (1 : Int32) (jI μ a 2)) ≤ x2 then (some ((-1 : Int32), μ, 0, 0)) else (jcl (fX11_isIn a x2 μ) fun r14 μ15 => if r14 = 0 then (fX11_quarrel_b42 (fX11_quarrel_b13 fu) a x1 x2 μ15) else (jck ((jT μ15 a).1 == 12) <| jcl (fX11_quarrels a x1 x2 μ15) fun r25 μ26 => if r25 = 0 then (fX11_quarrel_b42 (fX11_quarrel_b13 fu) a x1 x2 μ26) else (some (x2, μ26, 0, 0))))
set_option maxHeartbeats 4000000 in
set_option maxRecDepth 100000 in
theorem gX11_quarrel_b13 {b : Nat} {Θ : JE} {RC RS : Nat} {r : Int32} {ν : JM} (X : jX b Θ RX11 cX11_quarrel 3 (some .int) 3 63 RC RS) : ∀ (fu : Nat) (a : Nat) (x1 : Int32) (x2 : Int32) (μ : JM) (c m k n : Nat), fX11_quarrel_b13 fu a x1 x2 μ = some (r, ν, c, m) → k + c = RC → n + m = RS → WA b Θ 3 (jE b Θ (some (.int r)) ν RC RS) μ k n 13 [(0, va_rf (some a)), (1, .int x1), (2, .int x2)] [] := by
  intro fu
  induction fu with
  | zero => intro a x1 x2 μ c m k n hf; cases hf
  | succ fu ih =>
    intro a x1 x2 μ c m k n hf hk hn
    rw [fX11_quarrel_b13] at hf
    refine wa_iload_n X 2 dX11_quarrel_13 rfl ?_
    refine wa_iconst (v := (1 : Int32)) X dX11_quarrel_14 (by decide) ?_
    refine wa_aload_n X 0 dX11_quarrel_15 rfl ?_
    obtain ⟨h12, hf⟩ := jckT hf
    refine wa_getI X dX11_quarrel_16 lfX11_13 rfl h12 rfl ?_
    refine wa_ishl X dX11_quarrel_19 ?_
    refine wa_icge (tgt := 48) X dX11_quarrel_20 (by decide) (fun h13 => ?_) (fun h13 => ?_)
    · rw [if_pos h13] at hf
      refine wa_iconst (v := (-1 : Int32)) X dX11_quarrel_48 (by decide) ?_
      obtain ⟨rfl, rfl, rfl, rfl⟩ := jret hf
      exact wa_iret X dX11_quarrel_49 rfl (by omega) (by omega)
    · rw [if_neg h13] at hf
      refine wa_aload_n X 0 dX11_quarrel_23 rfl ?_
      refine wa_iload_n X 2 dX11_quarrel_24 rfl ?_
      obtain ⟨r14, μ15, c16, m17, c18, m19, e20, hf, h21, h22⟩ := jcl_some hf
      refine wa_rcallV (st2 := [.int r14]) X dX11_quarrel_25 lmX11_408 lMX11_isIn rfl h12 (mX11_isIn e20) rfl rfl rfl (va_cats (Nat.le_of_ble_eq_true rfl)) (by decide) (by omega) (by omega) ?_
      refine wa_ifeq (tgt := 42) X dX11_quarrel_28 (by decide) (fun h23 => ?_) (fun h23 => ?_)
      · rw [if_pos h23] at hf
        refine wa_sub (L2 := [(0, va_rf (some a)), (1, .int x1), (2, .int x2)]) [0, 1, 2] rfl ?_
        exact gX11_quarrel_b42 X ih a x1 x2 μ15 _ _ _ _ hf (by omega) (by omega)
      · rw [if_neg h23] at hf
        refine wa_aload_n X 0 dX11_quarrel_31 rfl ?_
        refine wa_iload_n X 1 dX11_quarrel_32 rfl ?_
        refine wa_iload_n X 2 dX11_quarrel_33 rfl ?_
        obtain ⟨h24, hf⟩ := jckT hf
        obtain ⟨r25, μ26, c27, m28, c29, m30, e31, hf, h32, h33⟩ := jcl_some hf
        refine wa_rcallV (st2 := [.int r25]) X dX11_quarrel_34 lmX11_440 lMX11_quarrels rfl h24 (mX11_quarrels e31) rfl rfl rfl (va_cats (Nat.le_of_ble_eq_true rfl)) (by decide) (by omega) (by omega) ?_
        refine wa_ifeq (tgt := 42) X dX11_quarrel_37 (by decide) (fun h34 => ?_) (fun h34 => ?_)
        · rw [if_pos h34] at hf
          refine wa_sub (L2 := [(0, va_rf (some a)), (1, .int x1), (2, .int x2)]) [0, 1, 2] rfl ?_
          exact gX11_quarrel_b42 X ih a x1 x2 μ26 _ _ _ _ hf (by omega) (by omega)
        · rw [if_neg h34] at hf
          refine wa_iload_n X 2 dX11_quarrel_40 rfl ?_
          obtain ⟨rfl, rfl, rfl, rfl⟩ := jret hf
          exact wa_iret X dX11_quarrel_41 rfl (by omega) (by omega)
def fX11_quarrel (a : Nat) (x1 : Int32) (μ : JM) : JO (Int32) := jck ((jT μ a).1 == 12) <| jcl (fX11_isVersion a x1 μ) fun r2 μ3 => if r2 = 0 then (some ((-2 : Int32), μ3, 0, 0)) else (fX11_quarrel_b13  jfuel a x1 (0 : Int32) μ3)
set_option maxHeartbeats 4000000 in
set_option maxRecDepth 100000 in
theorem mX11_quarrel {b : Nat} {a : Nat} {x1 : Int32} {μ : JM} {r : Int32} {ν : JM} {c m : Nat} (hf : fX11_quarrel a x1 μ = some (r, ν, c, m)) : JMet b yX11_quarrel cX11_quarrel 3 (some .int) 3 63 [va_rf (some a), .int x1] μ (some (.int r)) ν c m := by
  refine JMet.of (by decide) (lg_sl_le (by simp only [List.map_cons, List.map_nil, List.sum_cons, List.sum_nil, va_rf_cat]; exact Nat.le_of_ble_eq_true rfl)) (fun Θ X hin => ?_)
  refine wa_eq (L2 := [(0, va_rf (some a)), (1, .int x1)]) ?_ rfl (by first | rfl | simp [lv_args, va_rf_cat, cat_i, cat_l]) rfl
  obtain ⟨k, hk0⟩ : ∃ k : Nat, k = 0 := ⟨0, rfl⟩
  obtain ⟨n, hn0⟩ : ∃ n : Nat, n = 0 := ⟨0, rfl⟩
  have hk : k + c = c := by omega
  have hn : n + m = m := by omega
  refine wa_costs hk0.symm hn0.symm ?_
  rw [fX11_quarrel] at hf
  refine wa_aload_n X 0 dX11_quarrel_0 rfl ?_
  refine wa_iload_n X 1 dX11_quarrel_1 rfl ?_
  obtain ⟨h1, hf⟩ := jckT hf
  obtain ⟨r2, μ3, c4, m5, c6, m7, e8, hf, h9, h10⟩ := jcl_some hf
  refine wa_rcallV (st2 := [.int r2]) X dX11_quarrel_2 lmX11_393 lMX11_isVersion rfl h1 (mX11_isVersion e8) rfl rfl rfl (va_cats (Nat.le_of_ble_eq_true rfl)) (by decide) (by omega) (by omega) ?_
  refine wa_ifne (tgt := 11) X dX11_quarrel_5 (by decide) (fun h11 => ?_) (fun h11 => ?_)
  · rw [if_neg h11] at hf
    refine wa_iconst (v := (0 : Int32)) X dX11_quarrel_11 (by decide) ?_
    refine wa_istore_n (L2 := [(2, .int (0 : Int32)), (0, va_rf (some a)), (1, .int x1)]) X dX11_quarrel_12 (by decide) (by first | rfl | (show (2, _) :: List.filter (fun q : Nat × Value => !(q.1 == 2) && !(q.1 + 1 == 2 && q.2.category == 2)) _ = _; simp [va_rf_cat, cat_i, cat_l])) ?_
    refine wa_sub (L2 := [(0, va_rf (some a)), (1, .int x1), (2, .int (0 : Int32))]) [1, 2, 0] rfl ?_
    exact gX11_quarrel_b13 X jfuel a x1 (0 : Int32) μ3 _ _ _ _ hf (by omega) (by omega)
  · rw [if_pos h11] at hf
    refine wa_bipush (v := (-2 : Int32)) X dX11_quarrel_8 (by decide) ?_
    obtain ⟨rfl, rfl, rfl, rfl⟩ := jret hf
    exact wa_iret X dX11_quarrel_10 rfl (by omega) (by omega)
theorem dX11_quarreling_0 : decode cX11_quarreling 0 = .ok (.iload_n 1, 1) := by decide +kernel
theorem dX11_quarreling_1 : decode cX11_quarreling 1 = .ok (.ifCond .ne 10, 3) := by decide +kernel
theorem dX11_quarreling_4 : decode cX11_quarreling 4 = .ok (.aload_n 0, 1) := by decide +kernel
theorem dX11_quarreling_5 : decode cX11_quarreling 5 = .ok (.getfield 146, 3) := by decide +kernel
theorem dX11_quarreling_8 : decode cX11_quarreling 8 = .ok (.goto 16, 3) := by decide +kernel
theorem dX11_quarreling_11 : decode cX11_quarreling 11 = .ok (.iload_n 1, 1) := by decide +kernel
theorem dX11_quarreling_12 : decode cX11_quarreling 12 = .ok (.iconst 1, 1) := by decide +kernel
theorem dX11_quarreling_13 : decode cX11_quarreling 13 = .ok (.if_icmp .ne 10, 3) := by decide +kernel
theorem dX11_quarreling_16 : decode cX11_quarreling 16 = .ok (.aload_n 0, 1) := by decide +kernel
theorem dX11_quarreling_17 : decode cX11_quarreling 17 = .ok (.getfield 149, 3) := by decide +kernel
theorem dX11_quarreling_20 : decode cX11_quarreling 20 = .ok (.goto 4, 3) := by decide +kernel
theorem dX11_quarreling_23 : decode cX11_quarreling 23 = .ok (.iconst (-1), 1) := by decide +kernel
theorem dX11_quarreling_24 : decode cX11_quarreling 24 = .ok (.ireturn, 1) := by decide +kernel
def fX11_quarreling (a : Nat) (x1 : Int32) (μ : JM) : JO (Int32) := if x1 = 0 then (jck ((jT μ a).1 == 12) <| some ((jI μ a 67), μ, 0, 0)) else (if x1 = (1 : Int32) then (jck ((jT μ a).1 == 12) <| some ((jI μ a 68), μ, 0, 0)) else (some ((-1 : Int32), μ, 0, 0)))
set_option maxHeartbeats 4000000 in
set_option maxRecDepth 100000 in
theorem mX11_quarreling {b : Nat} {a : Nat} {x1 : Int32} {μ : JM} {r : Int32} {ν : JM} {c m : Nat} (hf : fX11_quarreling a x1 μ = some (r, ν, c, m)) : JMet b yX11_quarreling cX11_quarreling 2 (some .int) 0 0 [va_rf (some a), .int x1] μ (some (.int r)) ν c m := by
  refine JMet.of (by decide) (lg_sl_le (by simp only [List.map_cons, List.map_nil, List.sum_cons, List.sum_nil, va_rf_cat]; exact Nat.le_of_ble_eq_true rfl)) (fun Θ X hin => ?_)
  refine wa_eq (L2 := [(0, va_rf (some a)), (1, .int x1)]) ?_ rfl (by first | rfl | simp [lv_args, va_rf_cat, cat_i, cat_l]) rfl
  obtain ⟨k, hk0⟩ : ∃ k : Nat, k = 0 := ⟨0, rfl⟩
  obtain ⟨n, hn0⟩ : ∃ n : Nat, n = 0 := ⟨0, rfl⟩
  have hk : k + c = c := by omega
  have hn : n + m = m := by omega
  refine wa_costs hk0.symm hn0.symm ?_
  rw [fX11_quarreling] at hf
  refine wa_iload_n X 1 dX11_quarreling_0 rfl ?_
  refine wa_ifne (tgt := 11) X dX11_quarreling_1 (by decide) (fun h1 => ?_) (fun h1 => ?_)
  · rw [if_neg h1] at hf
    refine wa_iload_n X 1 dX11_quarreling_11 rfl ?_
    refine wa_iconst (v := (1 : Int32)) X dX11_quarreling_12 (by decide) ?_
    refine wa_icne (tgt := 23) X dX11_quarreling_13 (by decide) (fun h2 => ?_) (fun h2 => ?_)
    · rw [if_neg h2] at hf
      refine wa_iconst (v := (-1 : Int32)) X dX11_quarreling_23 (by decide) ?_
      obtain ⟨rfl, rfl, rfl, rfl⟩ := jret hf
      exact wa_iret X dX11_quarreling_24 rfl (by omega) (by omega)
    · rw [if_pos h2] at hf
      refine wa_aload_n X 0 dX11_quarreling_16 rfl ?_
      obtain ⟨h3, hf⟩ := jckT hf
      refine wa_getI X dX11_quarreling_17 lfX11_149 rfl h3 rfl ?_
      refine wa_goto (tgt := 24) X dX11_quarreling_20 (by decide) ?_
      obtain ⟨rfl, rfl, rfl, rfl⟩ := jret hf
      exact wa_iret X dX11_quarreling_24 rfl (by omega) (by omega)
  · rw [if_pos h1] at hf
    refine wa_aload_n X 0 dX11_quarreling_4 rfl ?_
    obtain ⟨h4, hf⟩ := jckT hf
    refine wa_getI X dX11_quarreling_5 lfX11_146 rfl h4 rfl ?_
    refine wa_goto (tgt := 24) X dX11_quarreling_8 (by decide) ?_
    obtain ⟨rfl, rfl, rfl, rfl⟩ := jret hf
    exact wa_iret X dX11_quarreling_24 rfl (by omega) (by omega)
theorem dX11_gap_0 : decode cX11_gap 0 = .ok (.aload_n 0, 1) := by decide +kernel
theorem dX11_gap_1 : decode cX11_gap 1 = .ok (.iload_n 1, 1) := by decide +kernel
theorem dX11_gap_2 : decode cX11_gap 2 = .ok (.invokevirtual 393, 3) := by decide +kernel
theorem dX11_gap_5 : decode cX11_gap 5 = .ok (.ifCond .eq 17, 3) := by decide +kernel
theorem dX11_gap_8 : decode cX11_gap 8 = .ok (.iload_n 2, 1) := by decide +kernel
theorem dX11_gap_9 : decode cX11_gap 9 = .ok (.iconst 0, 1) := by decide +kernel
theorem dX11_gap_10 : decode cX11_gap 10 = .ok (.aload_n 0, 1) := by decide +kernel
theorem dX11_gap_11 : decode cX11_gap 11 = .ok (.getfield 302, 3) := by decide +kernel
theorem dX11_gap_14 : decode cX11_gap 14 = .ok (.iconst 1, 1) := by decide +kernel
theorem dX11_gap_15 : decode cX11_gap 15 = .ok (.isub, 1) := by decide +kernel
theorem dX11_gap_16 : decode cX11_gap 16 = .ok (.invokestatic 347, 3) := by decide +kernel
theorem dX11_gap_19 : decode cX11_gap 19 = .ok (.ifCond .ne 6, 3) := by decide +kernel
theorem dX11_gap_22 : decode cX11_gap 22 = .ok (.bipush (-2), 2) := by decide +kernel
theorem dX11_gap_24 : decode cX11_gap 24 = .ok (.ireturn, 1) := by decide +kernel
theorem dX11_gap_25 : decode cX11_gap 25 = .ok (.iconst 0, 1) := by decide +kernel
theorem dX11_gap_26 : decode cX11_gap 26 = .ok (.istore_n 3, 1) := by decide +kernel
theorem dX11_gap_27 : decode cX11_gap 27 = .ok (.iload_n 3, 1) := by decide +kernel
theorem dX11_gap_28 : decode cX11_gap 28 = .ok (.iconst 1, 1) := by decide +kernel
theorem dX11_gap_29 : decode cX11_gap 29 = .ok (.aload_n 0, 1) := by decide +kernel
theorem dX11_gap_30 : decode cX11_gap 30 = .ok (.getfield 13, 3) := by decide +kernel
theorem dX11_gap_33 : decode cX11_gap 33 = .ok (.ishl, 1) := by decide +kernel
theorem dX11_gap_34 : decode cX11_gap 34 = .ok (.if_icmp .ge 96, 3) := by decide +kernel
theorem dX11_gap_37 : decode cX11_gap 37 = .ok (.aload_n 0, 1) := by decide +kernel
theorem dX11_gap_38 : decode cX11_gap 38 = .ok (.iload_n 3, 1) := by decide +kernel
theorem dX11_gap_39 : decode cX11_gap 39 = .ok (.invokevirtual 408, 3) := by decide +kernel
theorem dX11_gap_42 : decode cX11_gap 42 = .ok (.ifCond .ne 6, 3) := by decide +kernel
theorem dX11_gap_45 : decode cX11_gap 45 = .ok (.goto 79, 3) := by decide +kernel
theorem dX11_gap_48 : decode cX11_gap 48 = .ok (.iconst 1, 1) := by decide +kernel
theorem dX11_gap_49 : decode cX11_gap 49 = .ok (.istore 4, 2) := by decide +kernel
theorem dX11_gap_51 : decode cX11_gap 51 = .ok (.iconst 0, 1) := by decide +kernel
theorem dX11_gap_52 : decode cX11_gap 52 = .ok (.istore 5, 2) := by decide +kernel
theorem dX11_gap_54 : decode cX11_gap 54 = .ok (.iload 5, 2) := by decide +kernel
theorem dX11_gap_56 : decode cX11_gap 56 = .ok (.aload_n 0, 1) := by decide +kernel
theorem dX11_gap_57 : decode cX11_gap 57 = .ok (.getfield 73, 3) := by decide +kernel
theorem dX11_gap_60 : decode cX11_gap 60 = .ok (.iload_n 1, 1) := by decide +kernel
theorem dX11_gap_61 : decode cX11_gap 61 = .ok (.iaload, 1) := by decide +kernel
theorem dX11_gap_62 : decode cX11_gap 62 = .ok (.if_icmp .ge 55, 3) := by decide +kernel
theorem dX11_gap_65 : decode cX11_gap 65 = .ok (.aload_n 0, 1) := by decide +kernel
theorem dX11_gap_66 : decode cX11_gap 66 = .ok (.getfield 76, 3) := by decide +kernel
theorem dX11_gap_69 : decode cX11_gap 69 = .ok (.bipush 24, 2) := by decide +kernel
theorem dX11_gap_71 : decode cX11_gap 71 = .ok (.iload_n 1, 1) := by decide +kernel
theorem dX11_gap_72 : decode cX11_gap 72 = .ok (.imul, 1) := by decide +kernel
theorem dX11_gap_73 : decode cX11_gap 73 = .ok (.iload 5, 2) := by decide +kernel
theorem dX11_gap_75 : decode cX11_gap 75 = .ok (.iadd, 1) := by decide +kernel
theorem dX11_gap_76 : decode cX11_gap 76 = .ok (.iaload, 1) := by decide +kernel
theorem dX11_gap_77 : decode cX11_gap 77 = .ok (.iconst 1, 1) := by decide +kernel
theorem dX11_gap_78 : decode cX11_gap 78 = .ok (.if_icmp .ne 33, 3) := by decide +kernel
theorem dX11_gap_81 : decode cX11_gap 81 = .ok (.aload_n 0, 1) := by decide +kernel
theorem dX11_gap_82 : decode cX11_gap 82 = .ok (.getfield 82, 3) := by decide +kernel
theorem dX11_gap_85 : decode cX11_gap 85 = .ok (.bipush 24, 2) := by decide +kernel
theorem dX11_gap_87 : decode cX11_gap 87 = .ok (.iload_n 1, 1) := by decide +kernel
theorem dX11_gap_88 : decode cX11_gap 88 = .ok (.imul, 1) := by decide +kernel
theorem dX11_gap_89 : decode cX11_gap 89 = .ok (.iload 5, 2) := by decide +kernel
theorem dX11_gap_91 : decode cX11_gap 91 = .ok (.iadd, 1) := by decide +kernel
theorem dX11_gap_92 : decode cX11_gap 92 = .ok (.iaload, 1) := by decide +kernel
theorem dX11_gap_93 : decode cX11_gap 93 = .ok (.iload_n 2, 1) := by decide +kernel
theorem dX11_gap_94 : decode cX11_gap 94 = .ok (.if_icmp .ne 17, 3) := by decide +kernel
theorem dX11_gap_97 : decode cX11_gap 97 = .ok (.aload_n 0, 1) := by decide +kernel
theorem dX11_gap_98 : decode cX11_gap 98 = .ok (.iload_n 1, 1) := by decide +kernel
theorem dX11_gap_99 : decode cX11_gap 99 = .ok (.iload 5, 2) := by decide +kernel
theorem dX11_gap_101 : decode cX11_gap 101 = .ok (.iload_n 3, 1) := by decide +kernel
theorem dX11_gap_102 : decode cX11_gap 102 = .ok (.invokevirtual 420, 3) := by decide +kernel
theorem dX11_gap_105 : decode cX11_gap 105 = .ok (.ifCond .eq 6, 3) := by decide +kernel
theorem dX11_gap_108 : decode cX11_gap 108 = .ok (.iconst 0, 1) := by decide +kernel
theorem dX11_gap_109 : decode cX11_gap 109 = .ok (.istore 4, 2) := by decide +kernel
theorem dX11_gap_111 : decode cX11_gap 111 = .ok (.iinc 5 1, 3) := by decide +kernel
theorem dX11_gap_114 : decode cX11_gap 114 = .ok (.goto (-60), 3) := by decide +kernel
theorem dX11_gap_117 : decode cX11_gap 117 = .ok (.iload 4, 2) := by decide +kernel
theorem dX11_gap_119 : decode cX11_gap 119 = .ok (.ifCond .eq 5, 3) := by decide +kernel
theorem dX11_gap_122 : decode cX11_gap 122 = .ok (.iload_n 3, 1) := by decide +kernel
theorem dX11_gap_123 : decode cX11_gap 123 = .ok (.ireturn, 1) := by decide +kernel
theorem dX11_gap_124 : decode cX11_gap 124 = .ok (.iinc 3 1, 3) := by decide +kernel
theorem dX11_gap_127 : decode cX11_gap 127 = .ok (.goto (-100), 3) := by decide +kernel
theorem dX11_gap_130 : decode cX11_gap 130 = .ok (.iconst (-1), 1) := by decide +kernel
theorem dX11_gap_131 : decode cX11_gap 131 = .ok (.ireturn, 1) := by decide +kernel
def fX11_gap_b111 (rec27 : Nat → Int32 → Int32 → Int32 → JM → JO (Int32)) (rec54 : Nat → Int32 → Int32 → Int32 → Int32 → Int32 → JM → JO (Int32)) (a : Nat) (x1 : Int32) (x2 : Int32) (x3 : Int32) (x4 : Int32) (x5 : Int32) (μ : JM) : JO (Int32) := rec54 a x1 x2 x3 x4 (x5 + (1 : Int32)) μ
set_option maxHeartbeats 4000000 in
set_option maxRecDepth 100000 in
theorem gX11_gap_b111 {b : Nat} {Θ : JE} {RC RS : Nat} {r : Int32} {ν : JM} (X : jX b Θ RX11 cX11_gap 6 (some .int) 3 63 RC RS) {rec27 : Nat → Int32 → Int32 → Int32 → JM → JO (Int32)} (hrec27 : ∀ (a : Nat) (x1 : Int32) (x2 : Int32) (x3 : Int32) (μ : JM) (c m k n : Nat), rec27 a x1 x2 x3 μ = some (r, ν, c, m) → k + c = RC → n + m = RS → WA b Θ 6 (jE b Θ (some (.int r)) ν RC RS) μ k n 27 [(0, va_rf (some a)), (1, .int x1), (2, .int x2), (3, .int x3)] []) {rec54 : Nat → Int32 → Int32 → Int32 → Int32 → Int32 → JM → JO (Int32)} (hrec54 : ∀ (a : Nat) (x1 : Int32) (x2 : Int32) (x3 : Int32) (x4 : Int32) (x5 : Int32) (μ : JM) (c m k n : Nat), rec54 a x1 x2 x3 x4 x5 μ = some (r, ν, c, m) → k + c = RC → n + m = RS → WA b Θ 6 (jE b Θ (some (.int r)) ν RC RS) μ k n 54 [(0, va_rf (some a)), (1, .int x1), (2, .int x2), (3, .int x3), (4, .int x4), (5, .int x5)] []) (a : Nat) (x1 : Int32) (x2 : Int32) (x3 : Int32) (x4 : Int32) (x5 : Int32) (μ : JM) (c m k n : Nat) (hf : fX11_gap_b111 rec27 rec54 a x1 x2 x3 x4 x5 μ = some (r, ν, c, m)) (hk : k + c = RC) (hn : n + m = RS) : WA b Θ 6 (jE b Θ (some (.int r)) ν RC RS) μ k n 111 [(0, va_rf (some a)), (1, .int x1), (2, .int x2), (3, .int x3), (4, .int x4), (5, .int x5)] [] := by
  rw [fX11_gap_b111] at hf
  refine wa_iinc (v := (x5 + (1 : Int32))) (L2 := [(5, .int (x5 + (1 : Int32))), (0, va_rf (some a)), (1, .int x1), (2, .int x2), (3, .int x3), (4, .int x4)]) X 5 dX11_gap_111 rfl rfl (by decide) (by first | rfl | simp [va_rf_cat, cat_i, cat_l]) ?_
  refine wa_goto (tgt := 54) X dX11_gap_114 (by decide) ?_
  refine wa_sub (L2 := [(0, va_rf (some a)), (1, .int x1), (2, .int x2), (3, .int x3), (4, .int x4), (5, .int (x5 + (1 : Int32)))]) [1, 2, 3, 4, 5, 0] rfl ?_
  exact hrec54 a x1 x2 x3 x4 (x5 + (1 : Int32)) μ _ _ _ _ hf (by omega) (by omega)
def fX11_gap_b124 (rec27 : Nat → Int32 → Int32 → Int32 → JM → JO (Int32)) (a : Nat) (x1 : Int32) (x2 : Int32) (x3 : Int32) (μ : JM) : JO (Int32) := rec27 a x1 x2 (x3 + (1 : Int32)) μ
set_option maxHeartbeats 4000000 in
set_option maxRecDepth 100000 in
theorem gX11_gap_b124 {b : Nat} {Θ : JE} {RC RS : Nat} {r : Int32} {ν : JM} (X : jX b Θ RX11 cX11_gap 6 (some .int) 3 63 RC RS) {rec27 : Nat → Int32 → Int32 → Int32 → JM → JO (Int32)} (hrec27 : ∀ (a : Nat) (x1 : Int32) (x2 : Int32) (x3 : Int32) (μ : JM) (c m k n : Nat), rec27 a x1 x2 x3 μ = some (r, ν, c, m) → k + c = RC → n + m = RS → WA b Θ 6 (jE b Θ (some (.int r)) ν RC RS) μ k n 27 [(0, va_rf (some a)), (1, .int x1), (2, .int x2), (3, .int x3)] []) (a : Nat) (x1 : Int32) (x2 : Int32) (x3 : Int32) (μ : JM) (c m k n : Nat) (hf : fX11_gap_b124 rec27 a x1 x2 x3 μ = some (r, ν, c, m)) (hk : k + c = RC) (hn : n + m = RS) : WA b Θ 6 (jE b Θ (some (.int r)) ν RC RS) μ k n 124 [(0, va_rf (some a)), (1, .int x1), (2, .int x2), (3, .int x3)] [] := by
  rw [fX11_gap_b124] at hf
  refine wa_iinc (v := (x3 + (1 : Int32))) (L2 := [(3, .int (x3 + (1 : Int32))), (0, va_rf (some a)), (1, .int x1), (2, .int x2)]) X 3 dX11_gap_124 rfl rfl (by decide) (by first | rfl | simp [va_rf_cat, cat_i, cat_l]) ?_
  refine wa_goto (tgt := 27) X dX11_gap_127 (by decide) ?_
  refine wa_sub (L2 := [(0, va_rf (some a)), (1, .int x1), (2, .int x2), (3, .int (x3 + (1 : Int32)))]) [1, 2, 3, 0] rfl ?_
  exact hrec27 a x1 x2 (x3 + (1 : Int32)) μ _ _ _ _ hf (by omega) (by omega)
def fX11_gap_b54 (rec27 : Nat → Int32 → Int32 → Int32 → JM → JO (Int32)) : Nat → Nat → Int32 → Int32 → Int32 → Int32 → Int32 → JM → JO (Int32)
  | 0, _, _, _, _, _, _, _ => none
  | fu + 1, a, x1, x2, x3, x4, x5, μ => jck ((jT μ a).1 == 12) <| jde (jP μ a 34) fun q36 => jck ((jT μ q36).1 == 101) <| jck (jin x1 (jT μ q36).2) <| if (jI μ q36 (x1).toNatClampNeg) ≤ x5 then (if x4 = 0 then (fX11_gap_b124 rec27 a x1 x2 x3 μ) else (some (x3, μ, 0, 0))) else (jde (jP μ a 35) fun q42 => jck ((jT μ q42).1 == 101) <| jck (jin (((24 : Int32) * x1) + x5) (jT μ q42).2) <| if (jI μ q42 ((((24 : Int32) * x1) + x5)).toNatClampNeg) = (1 : Int32) then (jde (jP μ a 37) fun q47 => jck ((jT μ q47).1 == 101) <| jck (jin (((24 : Int32) * x1) + x5) (jT μ q47).2) <| if (jI μ q47 ((((24 : Int32) * x1) + x5)).toNatClampNeg) = x2 then (jcl (fX11_isSo a x1 x5 x3 μ) fun r52 μ53 => if r52 = 0 then (fX11_gap_b111 rec27 (fX11_gap_b54 rec27 fu) a x1 x2 x3 x4 x5 μ53) else (fX11_gap_b111 rec27 (fX11_gap_b54 rec27 fu) a x1 x2 x3 (0 : Int32) x5 μ53)) else (fX11_gap_b111 rec27 (fX11_gap_b54 rec27 fu) a x1 x2 x3 x4 x5 μ)) else (fX11_gap_b111 rec27 (fX11_gap_b54 rec27 fu) a x1 x2 x3 x4 x5 μ))
set_option maxHeartbeats 4000000 in
set_option maxRecDepth 100000 in
theorem gX11_gap_b54 {b : Nat} {Θ : JE} {RC RS : Nat} {r : Int32} {ν : JM} (X : jX b Θ RX11 cX11_gap 6 (some .int) 3 63 RC RS) {rec27 : Nat → Int32 → Int32 → Int32 → JM → JO (Int32)} (hrec27 : ∀ (a : Nat) (x1 : Int32) (x2 : Int32) (x3 : Int32) (μ : JM) (c m k n : Nat), rec27 a x1 x2 x3 μ = some (r, ν, c, m) → k + c = RC → n + m = RS → WA b Θ 6 (jE b Θ (some (.int r)) ν RC RS) μ k n 27 [(0, va_rf (some a)), (1, .int x1), (2, .int x2), (3, .int x3)] []) : ∀ (fu : Nat) (a : Nat) (x1 : Int32) (x2 : Int32) (x3 : Int32) (x4 : Int32) (x5 : Int32) (μ : JM) (c m k n : Nat), fX11_gap_b54 rec27 fu a x1 x2 x3 x4 x5 μ = some (r, ν, c, m) → k + c = RC → n + m = RS → WA b Θ 6 (jE b Θ (some (.int r)) ν RC RS) μ k n 54 [(0, va_rf (some a)), (1, .int x1), (2, .int x2), (3, .int x3), (4, .int x4), (5, .int x5)] [] := by
  intro fu
  induction fu with
  | zero => intro a x1 x2 x3 x4 x5 μ c m k n hf; cases hf
  | succ fu ih =>
    intro a x1 x2 x3 x4 x5 μ c m k n hf hk hn
    rw [fX11_gap_b54] at hf
    refine wa_iload X 5 dX11_gap_54 rfl ?_
    refine wa_aload_n X 0 dX11_gap_56 rfl ?_
    obtain ⟨h35, hf⟩ := jckT hf
    refine wa_getP X dX11_gap_57 lfX11_73 rfl h35 rfl ?_
    refine wa_iload_n X 1 dX11_gap_60 rfl ?_
    obtain ⟨q36, h37, hf⟩ := jde_some hf
    obtain ⟨h38, hf⟩ := jckT hf
    obtain ⟨h39, hf⟩ := jck_some hf
    refine wa_riald X dX11_gap_61 h37 h38 h39 ?_
    refine wa_icge (tgt := 117) X dX11_gap_62 (by decide) (fun h40 => ?_) (fun h40 => ?_)
    · rw [if_pos h40] at hf
      refine wa_iload X 4 dX11_gap_117 rfl ?_
      refine wa_ifeq (tgt := 124) X dX11_gap_119 (by decide) (fun h41 => ?_) (fun h41 => ?_)
      · rw [if_pos h41] at hf
        refine wa_sub (L2 := [(0, va_rf (some a)), (1, .int x1), (2, .int x2), (3, .int x3)]) [0, 1, 2, 3] rfl ?_
        exact gX11_gap_b124 X hrec27 a x1 x2 x3 μ _ _ _ _ hf (by omega) (by omega)
      · rw [if_neg h41] at hf
        refine wa_iload_n X 3 dX11_gap_122 rfl ?_
        obtain ⟨rfl, rfl, rfl, rfl⟩ := jret hf
        exact wa_iret X dX11_gap_123 rfl (by omega) (by omega)
    · rw [if_neg h40] at hf
      refine wa_aload_n X 0 dX11_gap_65 rfl ?_
      refine wa_getP X dX11_gap_66 lfX11_76 rfl h35 rfl ?_
      refine wa_bipush (v := (24 : Int32)) X dX11_gap_69 (by decide) ?_
      refine wa_iload_n X 1 dX11_gap_71 rfl ?_
      refine wa_imul X dX11_gap_72 ?_
      refine wa_iload X 5 dX11_gap_73 rfl ?_
      refine wa_iadd X dX11_gap_75 ?_
      obtain ⟨q42, h43, hf⟩ := jde_some hf
      obtain ⟨h44, hf⟩ := jckT hf
      obtain ⟨h45, hf⟩ := jck_some hf
      refine wa_riald X dX11_gap_76 h43 h44 h45 ?_
      refine wa_iconst (v := (1 : Int32)) X dX11_gap_77 (by decide) ?_
      refine wa_icne (tgt := 111) X dX11_gap_78 (by decide) (fun h46 => ?_) (fun h46 => ?_)
      · rw [if_neg h46] at hf
        refine wa_sub (L2 := [(0, va_rf (some a)), (1, .int x1), (2, .int x2), (3, .int x3), (4, .int x4), (5, .int x5)]) [0, 1, 2, 3, 4, 5] rfl ?_
        exact gX11_gap_b111 X hrec27 ih a x1 x2 x3 x4 x5 μ _ _ _ _ hf (by omega) (by omega)
      · rw [if_pos h46] at hf
        refine wa_aload_n X 0 dX11_gap_81 rfl ?_
        refine wa_getP X dX11_gap_82 lfX11_82 rfl h35 rfl ?_
        refine wa_bipush (v := (24 : Int32)) X dX11_gap_85 (by decide) ?_
        refine wa_iload_n X 1 dX11_gap_87 rfl ?_
        refine wa_imul X dX11_gap_88 ?_
        refine wa_iload X 5 dX11_gap_89 rfl ?_
        refine wa_iadd X dX11_gap_91 ?_
        obtain ⟨q47, h48, hf⟩ := jde_some hf
        obtain ⟨h49, hf⟩ := jckT hf
        obtain ⟨h50, hf⟩ := jck_some hf
        refine wa_riald X dX11_gap_92 h48 h49 h50 ?_
        refine wa_iload_n X 2 dX11_gap_93 rfl ?_
        refine wa_icne (tgt := 111) X dX11_gap_94 (by decide) (fun h51 => ?_) (fun h51 => ?_)
        · rw [if_neg h51] at hf
          refine wa_sub (L2 := [(0, va_rf (some a)), (1, .int x1), (2, .int x2), (3, .int x3), (4, .int x4), (5, .int x5)]) [0, 1, 2, 3, 4, 5] rfl ?_
          exact gX11_gap_b111 X hrec27 ih a x1 x2 x3 x4 x5 μ _ _ _ _ hf (by omega) (by omega)
        · rw [if_pos h51] at hf
          refine wa_aload_n X 0 dX11_gap_97 rfl ?_
          refine wa_iload_n X 1 dX11_gap_98 rfl ?_
          refine wa_iload X 5 dX11_gap_99 rfl ?_
          refine wa_iload_n X 3 dX11_gap_101 rfl ?_
          obtain ⟨r52, μ53, c54, m55, c56, m57, e58, hf, h59, h60⟩ := jcl_some hf
          refine wa_rcallV (st2 := [.int r52]) X dX11_gap_102 lmX11_420 lMX11_isSo rfl h35 (mX11_isSo e58) rfl rfl rfl (va_cats (Nat.le_of_ble_eq_true rfl)) (by decide) (by omega) (by omega) ?_
          refine wa_ifeq (tgt := 111) X dX11_gap_105 (by decide) (fun h61 => ?_) (fun h61 => ?_)
          · rw [if_pos h61] at hf
            refine wa_sub (L2 := [(0, va_rf (some a)), (1, .int x1), (2, .int x2), (3, .int x3), (4, .int x4), (5, .int x5)]) [0, 1, 2, 3, 4, 5] rfl ?_
            exact gX11_gap_b111 X hrec27 ih a x1 x2 x3 x4 x5 μ53 _ _ _ _ hf (by omega) (by omega)
          · rw [if_neg h61] at hf
            refine wa_iconst (v := (0 : Int32)) X dX11_gap_108 (by decide) ?_
            refine wa_istore (L2 := [(4, .int (0 : Int32)), (0, va_rf (some a)), (1, .int x1), (2, .int x2), (3, .int x3), (5, .int x5)]) X dX11_gap_109 (by decide) (by first | rfl | (show (4, _) :: List.filter (fun q : Nat × Value => !(q.1 == 4) && !(q.1 + 1 == 4 && q.2.category == 2)) _ = _; simp [va_rf_cat, cat_i, cat_l])) ?_
            refine wa_sub (L2 := [(0, va_rf (some a)), (1, .int x1), (2, .int x2), (3, .int x3), (4, .int (0 : Int32)), (5, .int x5)]) [1, 2, 3, 4, 0, 5] rfl ?_
            exact gX11_gap_b111 X hrec27 ih a x1 x2 x3 (0 : Int32) x5 μ53 _ _ _ _ hf (by omega) (by omega)
def fX11_gap_b27 : Nat → Nat → Int32 → Int32 → Int32 → JM → JO (Int32)
  | 0, _, _, _, _, _ => none
  | fu + 1, a, x1, x2, x3, μ => jck ((jT μ a).1 == 12) <| if (jshl (1 : Int32) (jI μ a 2)) ≤ x3 then (some ((-1 : Int32), μ, 0, 0)) else (jcl (fX11_isIn a x3 μ) fun r25 μ26 => if r25 = 0 then (fX11_gap_b124 (fX11_gap_b27 fu) a x1 x2 x3 μ26) else (fX11_gap_b54 (fX11_gap_b27 fu) jfuel a x1 x2 x3 (1 : Int32) (0 : Int32) μ26))
set_option maxHeartbeats 4000000 in
set_option maxRecDepth 100000 in
theorem gX11_gap_b27 {b : Nat} {Θ : JE} {RC RS : Nat} {r : Int32} {ν : JM} (X : jX b Θ RX11 cX11_gap 6 (some .int) 3 63 RC RS) : ∀ (fu : Nat) (a : Nat) (x1 : Int32) (x2 : Int32) (x3 : Int32) (μ : JM) (c m k n : Nat), fX11_gap_b27 fu a x1 x2 x3 μ = some (r, ν, c, m) → k + c = RC → n + m = RS → WA b Θ 6 (jE b Θ (some (.int r)) ν RC RS) μ k n 27 [(0, va_rf (some a)), (1, .int x1), (2, .int x2), (3, .int x3)] [] := by
  intro fu
  induction fu with
  | zero => intro a x1 x2 x3 μ c m k n hf; cases hf
  | succ fu ih =>
    intro a x1 x2 x3 μ c m k n hf hk hn
    rw [fX11_gap_b27] at hf
    refine wa_iload_n X 3 dX11_gap_27 rfl ?_
    refine wa_iconst (v := (1 : Int32)) X dX11_gap_28 (by decide) ?_
    refine wa_aload_n X 0 dX11_gap_29 rfl ?_
    obtain ⟨h23, hf⟩ := jckT hf
    refine wa_getI X dX11_gap_30 lfX11_13 rfl h23 rfl ?_
    refine wa_ishl X dX11_gap_33 ?_
    refine wa_icge (tgt := 130) X dX11_gap_34 (by decide) (fun h24 => ?_) (fun h24 => ?_)
    · rw [if_pos h24] at hf
      refine wa_iconst (v := (-1 : Int32)) X dX11_gap_130 (by decide) ?_
      obtain ⟨rfl, rfl, rfl, rfl⟩ := jret hf
      exact wa_iret X dX11_gap_131 rfl (by omega) (by omega)
    · rw [if_neg h24] at hf
      refine wa_aload_n X 0 dX11_gap_37 rfl ?_
      refine wa_iload_n X 3 dX11_gap_38 rfl ?_
      obtain ⟨r25, μ26, c27, m28, c29, m30, e31, hf, h32, h33⟩ := jcl_some hf
      refine wa_rcallV (st2 := [.int r25]) X dX11_gap_39 lmX11_408 lMX11_isIn rfl h23 (mX11_isIn e31) rfl rfl rfl (va_cats (Nat.le_of_ble_eq_true rfl)) (by decide) (by omega) (by omega) ?_
      refine wa_ifne (tgt := 48) X dX11_gap_42 (by decide) (fun h34 => ?_) (fun h34 => ?_)
      · rw [if_neg h34] at hf
        refine wa_iconst (v := (1 : Int32)) X dX11_gap_48 (by decide) ?_
        refine wa_istore (L2 := [(4, .int (1 : Int32)), (0, va_rf (some a)), (1, .int x1), (2, .int x2), (3, .int x3)]) X dX11_gap_49 (by decide) (by first | rfl | (show (4, _) :: List.filter (fun q : Nat × Value => !(q.1 == 4) && !(q.1 + 1 == 4 && q.2.category == 2)) _ = _; simp [va_rf_cat, cat_i, cat_l])) ?_
        refine wa_iconst (v := (0 : Int32)) X dX11_gap_51 (by decide) ?_
        refine wa_istore (L2 := [(5, .int (0 : Int32)), (4, .int (1 : Int32)), (0, va_rf (some a)), (1, .int x1), (2, .int x2), (3, .int x3)]) X dX11_gap_52 (by decide) (by first | rfl | (show (5, _) :: List.filter (fun q : Nat × Value => !(q.1 == 5) && !(q.1 + 1 == 5 && q.2.category == 2)) _ = _; simp [va_rf_cat, cat_i, cat_l])) ?_
        refine wa_sub (L2 := [(0, va_rf (some a)), (1, .int x1), (2, .int x2), (3, .int x3), (4, .int (1 : Int32)), (5, .int (0 : Int32))]) [2, 3, 4, 5, 1, 0] rfl ?_
        exact gX11_gap_b54 X ih jfuel a x1 x2 x3 (1 : Int32) (0 : Int32) μ26 _ _ _ _ hf (by omega) (by omega)
      · rw [if_pos h34] at hf
        refine wa_goto (tgt := 124) X dX11_gap_45 (by decide) ?_
        refine wa_sub (L2 := [(0, va_rf (some a)), (1, .int x1), (2, .int x2), (3, .int x3)]) [0, 1, 2, 3] rfl ?_
        exact gX11_gap_b124 X ih a x1 x2 x3 μ26 _ _ _ _ hf (by omega) (by omega)
def fX11_gap (a : Nat) (x1 : Int32) (x2 : Int32) (μ : JM) : JO (Int32) := jck ((jT μ a).1 == 12) <| jcl (fX11_isVersion a x1 μ) fun r2 μ3 => if r2 = 0 then (some ((-2 : Int32), μ3, 0, 0)) else (jck ((jT μ3 a).1 == 12) <| jcl (fX11_in x2 (0 : Int32) ((jI μ3 a 8) - (1 : Int32)) μ3) fun r13 μ14 => if r13 = 0 then (some ((-2 : Int32), μ14, 0, 0)) else (fX11_gap_b27  jfuel a x1 x2 (0 : Int32) μ14))
set_option maxHeartbeats 4000000 in
set_option maxRecDepth 100000 in
theorem mX11_gap {b : Nat} {a : Nat} {x1 : Int32} {x2 : Int32} {μ : JM} {r : Int32} {ν : JM} {c m : Nat} (hf : fX11_gap a x1 x2 μ = some (r, ν, c, m)) : JMet b yX11_gap cX11_gap 6 (some .int) 3 63 [va_rf (some a), .int x1, .int x2] μ (some (.int r)) ν c m := by
  refine JMet.of (by decide) (lg_sl_le (by simp only [List.map_cons, List.map_nil, List.sum_cons, List.sum_nil, va_rf_cat]; exact Nat.le_of_ble_eq_true rfl)) (fun Θ X hin => ?_)
  refine wa_eq (L2 := [(0, va_rf (some a)), (1, .int x1), (2, .int x2)]) ?_ rfl (by first | rfl | simp [lv_args, va_rf_cat, cat_i, cat_l]) rfl
  obtain ⟨k, hk0⟩ : ∃ k : Nat, k = 0 := ⟨0, rfl⟩
  obtain ⟨n, hn0⟩ : ∃ n : Nat, n = 0 := ⟨0, rfl⟩
  have hk : k + c = c := by omega
  have hn : n + m = m := by omega
  refine wa_costs hk0.symm hn0.symm ?_
  rw [fX11_gap] at hf
  refine wa_aload_n X 0 dX11_gap_0 rfl ?_
  refine wa_iload_n X 1 dX11_gap_1 rfl ?_
  obtain ⟨h1, hf⟩ := jckT hf
  obtain ⟨r2, μ3, c4, m5, c6, m7, e8, hf, h9, h10⟩ := jcl_some hf
  refine wa_rcallV (st2 := [.int r2]) X dX11_gap_2 lmX11_393 lMX11_isVersion rfl h1 (mX11_isVersion e8) rfl rfl rfl (va_cats (Nat.le_of_ble_eq_true rfl)) (by decide) (by omega) (by omega) ?_
  refine wa_ifeq (tgt := 22) X dX11_gap_5 (by decide) (fun h11 => ?_) (fun h11 => ?_)
  · rw [if_pos h11] at hf
    refine wa_bipush (v := (-2 : Int32)) X dX11_gap_22 (by decide) ?_
    obtain ⟨rfl, rfl, rfl, rfl⟩ := jret hf
    exact wa_iret X dX11_gap_24 rfl (by omega) (by omega)
  · rw [if_neg h11] at hf
    refine wa_iload_n X 2 dX11_gap_8 rfl ?_
    refine wa_iconst (v := (0 : Int32)) X dX11_gap_9 (by decide) ?_
    refine wa_aload_n X 0 dX11_gap_10 rfl ?_
    obtain ⟨h12, hf⟩ := jckT hf
    refine wa_getI X dX11_gap_11 lfX11_302 rfl h12 rfl ?_
    refine wa_iconst (v := (1 : Int32)) X dX11_gap_14 (by decide) ?_
    refine wa_isub X dX11_gap_15 ?_
    obtain ⟨r13, μ14, c15, m16, c17, m18, e19, hf, h20, h21⟩ := jcl_some hf
    refine wa_rcallS (st2 := [.int r13]) X dX11_gap_16 lmX11_347 lMX11_in (mX11_in e19) rfl rfl rfl (va_cats (Nat.le_of_ble_eq_true rfl)) (by decide) (by omega) (by omega) ?_
    refine wa_ifne (tgt := 25) X dX11_gap_19 (by decide) (fun h22 => ?_) (fun h22 => ?_)
    · rw [if_neg h22] at hf
      refine wa_iconst (v := (0 : Int32)) X dX11_gap_25 (by decide) ?_
      refine wa_istore_n (L2 := [(3, .int (0 : Int32)), (0, va_rf (some a)), (1, .int x1), (2, .int x2)]) X dX11_gap_26 (by decide) (by first | rfl | (show (3, _) :: List.filter (fun q : Nat × Value => !(q.1 == 3) && !(q.1 + 1 == 3 && q.2.category == 2)) _ = _; simp [va_rf_cat, cat_i, cat_l])) ?_
      refine wa_sub (L2 := [(0, va_rf (some a)), (1, .int x1), (2, .int x2), (3, .int (0 : Int32))]) [1, 2, 3, 0] rfl ?_
      exact gX11_gap_b27 X jfuel a x1 x2 (0 : Int32) μ14 _ _ _ _ hf (by omega) (by omega)
    · rw [if_pos h22] at hf
      refine wa_bipush (v := (-2 : Int32)) X dX11_gap_22 (by decide) ?_
      obtain ⟨rfl, rfl, rfl, rfl⟩ := jret hf
      exact wa_iret X dX11_gap_24 rfl (by omega) (by omega)
theorem dX11_free_0 : decode cX11_free 0 = .ok (.iload_n 1, 1) := by decide +kernel
theorem dX11_free_1 : decode cX11_free 1 = .ok (.iconst 0, 1) := by decide +kernel
theorem dX11_free_2 : decode cX11_free 2 = .ok (.sipush 9999, 3) := by decide +kernel
theorem dX11_free_5 : decode cX11_free 5 = .ok (.invokestatic 347, 3) := by decide +kernel
theorem dX11_free_8 : decode cX11_free 8 = .ok (.ifCond .eq 13, 3) := by decide +kernel
theorem dX11_free_11 : decode cX11_free 11 = .ok (.aload_n 0, 1) := by decide +kernel
theorem dX11_free_12 : decode cX11_free 12 = .ok (.getfield 152, 3) := by decide +kernel
theorem dX11_free_15 : decode cX11_free 15 = .ok (.iload_n 1, 1) := by decide +kernel
theorem dX11_free_16 : decode cX11_free 16 = .ok (.baload, 1) := by decide +kernel
theorem dX11_free_17 : decode cX11_free 17 = .ok (.iload_n 2, 1) := by decide +kernel
theorem dX11_free_18 : decode cX11_free 18 = .ok (.if_icmp .ne 5, 3) := by decide +kernel
theorem dX11_free_21 : decode cX11_free 21 = .ok (.iconst 0, 1) := by decide +kernel
theorem dX11_free_22 : decode cX11_free 22 = .ok (.ireturn, 1) := by decide +kernel
theorem dX11_free_23 : decode cX11_free 23 = .ok (.aload_n 0, 1) := by decide +kernel
theorem dX11_free_24 : decode cX11_free 24 = .ok (.getfield 152, 3) := by decide +kernel
theorem dX11_free_27 : decode cX11_free 27 = .ok (.iload_n 1, 1) := by decide +kernel
theorem dX11_free_28 : decode cX11_free 28 = .ok (.iload_n 2, 1) := by decide +kernel
theorem dX11_free_29 : decode cX11_free 29 = .ok (.bastore, 1) := by decide +kernel
theorem dX11_free_30 : decode cX11_free 30 = .ok (.aload_n 0, 1) := by decide +kernel
theorem dX11_free_31 : decode cX11_free 31 = .ok (.dup, 1) := by decide +kernel
theorem dX11_free_32 : decode cX11_free 32 = .ok (.getfield 443, 3) := by decide +kernel
theorem dX11_free_35 : decode cX11_free 35 = .ok (.iload_n 2, 1) := by decide +kernel
theorem dX11_free_36 : decode cX11_free 36 = .ok (.ifCond .eq 7, 3) := by decide +kernel
theorem dX11_free_39 : decode cX11_free 39 = .ok (.iconst 1, 1) := by decide +kernel
theorem dX11_free_40 : decode cX11_free 40 = .ok (.goto 4, 3) := by decide +kernel
theorem dX11_free_43 : decode cX11_free 43 = .ok (.iconst (-1), 1) := by decide +kernel
theorem dX11_free_44 : decode cX11_free 44 = .ok (.iadd, 1) := by decide +kernel
theorem dX11_free_45 : decode cX11_free 45 = .ok (.putfield 443, 3) := by decide +kernel
theorem dX11_free_48 : decode cX11_free 48 = .ok (.iconst 1, 1) := by decide +kernel
theorem dX11_free_49 : decode cX11_free 49 = .ok (.ireturn, 1) := by decide +kernel
def fX11_free (a : Nat) (x1 : Int32) (x2 : Int32) (μ : JM) : JO (Int32) := jcl (fX11_in x1 (0 : Int32) (9999 : Int32) μ) fun r1 μ2 => if r1 = 0 then (some ((0 : Int32), μ2, 0, 0)) else (jck ((jT μ2 a).1 == 12) <| jde (jP μ2 a 69) fun q12 => jck ((jT μ2 q12).1 == 103) <| jck (jin x1 (jT μ2 q12).2) <| if (jI μ2 q12 (x1).toNatClampNeg) = x2 then (some ((0 : Int32), μ2, 0, 0)) else (jlt (jsI μ2 q12 (x1).toNatClampNeg (vp_nar .boolean x2)) fun μ17 => if x2 = 0 then (jlt (jsI μ17 a 70 ((jI μ17 a 70) + (-1 : Int32))) fun μ21 => some ((1 : Int32), μ21, 0, 0)) else (jlt (jsI μ17 a 70 ((jI μ17 a 70) + (1 : Int32))) fun μ24 => some ((1 : Int32), μ24, 0, 0))))
set_option maxHeartbeats 4000000 in
set_option maxRecDepth 100000 in
theorem mX11_free {b : Nat} {a : Nat} {x1 : Int32} {x2 : Int32} {μ : JM} {r : Int32} {ν : JM} {c m : Nat} (hf : fX11_free a x1 x2 μ = some (r, ν, c, m)) : JMet b yX11_free cX11_free 3 (some .boolean) 1 22 [va_rf (some a), .int x1, .int x2] μ (some (.int r)) ν c m := by
  refine JMet.of (by decide) (lg_sl_le (by simp only [List.map_cons, List.map_nil, List.sum_cons, List.sum_nil, va_rf_cat]; exact Nat.le_of_ble_eq_true rfl)) (fun Θ X hin => ?_)
  refine wa_eq (L2 := [(0, va_rf (some a)), (1, .int x1), (2, .int x2)]) ?_ rfl (by first | rfl | simp [lv_args, va_rf_cat, cat_i, cat_l]) rfl
  obtain ⟨k, hk0⟩ : ∃ k : Nat, k = 0 := ⟨0, rfl⟩
  obtain ⟨n, hn0⟩ : ∃ n : Nat, n = 0 := ⟨0, rfl⟩
  have hk : k + c = c := by omega
  have hn : n + m = m := by omega
  refine wa_costs hk0.symm hn0.symm ?_
  rw [fX11_free] at hf
  refine wa_iload_n X 1 dX11_free_0 rfl ?_
  refine wa_iconst (v := (0 : Int32)) X dX11_free_1 (by decide) ?_
  refine wa_sipush (v := (9999 : Int32)) X dX11_free_2 (by decide) ?_
  obtain ⟨r1, μ2, c3, m4, c5, m6, e7, hf, h8, h9⟩ := jcl_some hf
  refine wa_rcallS (st2 := [.int r1]) X dX11_free_5 lmX11_347 lMX11_in (mX11_in e7) rfl rfl rfl (va_cats (Nat.le_of_ble_eq_true rfl)) (by decide) (by omega) (by omega) ?_
  refine wa_ifeq (tgt := 21) X dX11_free_8 (by decide) (fun h10 => ?_) (fun h10 => ?_)
  · rw [if_pos h10] at hf
    refine wa_iconst (v := (0 : Int32)) X dX11_free_21 (by decide) ?_
    obtain ⟨rfl, rfl, rfl, rfl⟩ := jret hf
    exact wa_iret X dX11_free_22 rfl (by omega) (by omega)
  · rw [if_neg h10] at hf
    refine wa_aload_n X 0 dX11_free_11 rfl ?_
    obtain ⟨h11, hf⟩ := jckT hf
    refine wa_getP X dX11_free_12 lfX11_152 rfl h11 rfl ?_
    refine wa_iload_n X 1 dX11_free_15 rfl ?_
    obtain ⟨q12, h13, hf⟩ := jde_some hf
    obtain ⟨h14, hf⟩ := jckT hf
    obtain ⟨h15, hf⟩ := jck_some hf
    refine wa_rzald X dX11_free_16 h13 h14 h15 ?_
    refine wa_iload_n X 2 dX11_free_17 rfl ?_
    refine wa_icne (tgt := 23) X dX11_free_18 (by decide) (fun h16 => ?_) (fun h16 => ?_)
    · rw [if_neg h16] at hf
      refine wa_aload_n X 0 dX11_free_23 rfl ?_
      refine wa_getP X dX11_free_24 lfX11_152 rfl h11 rfl ?_
      refine wa_iload_n X 1 dX11_free_27 rfl ?_
      refine wa_iload_n X 2 dX11_free_28 rfl ?_
      obtain ⟨μ17, hm18, hf⟩ := jlt_e hf
      have e19 : jT μ17 = jT μ2 := by rw [hm18]; rfl
      refine wa_rzast (ν := μ17) X dX11_free_29 h13 h14 h15 hm18 ?_
      refine wa_aload_n X 0 dX11_free_30 rfl ?_
      refine wa_dup X dX11_free_31 (va_rf_cat _) ?_
      refine wa_getI X dX11_free_32 lfX11_443 rfl (by rw [e19]; exact h11) rfl ?_
      refine wa_iload_n X 2 dX11_free_35 rfl ?_
      refine wa_ifeq (tgt := 43) X dX11_free_36 (by decide) (fun h20 => ?_) (fun h20 => ?_)
      · rw [if_pos h20] at hf
        refine wa_iconst (v := (-1 : Int32)) X dX11_free_43 (by decide) ?_
        refine wa_iadd X dX11_free_44 ?_
        obtain ⟨μ21, hm22, hf⟩ := jlt_e hf
        have e23 : jT μ21 = jT μ2 := by rw [hm22]; exact e19
        refine wa_rputI (ν := μ21) X dX11_free_45 lfX11_443 rfl (by rw [e19]; exact h11) rfl rfl hm22 ?_
        refine wa_iconst (v := (1 : Int32)) X dX11_free_48 (by decide) ?_
        obtain ⟨rfl, rfl, rfl, rfl⟩ := jret hf
        exact wa_iret X dX11_free_49 rfl (by omega) (by omega)
      · rw [if_neg h20] at hf
        refine wa_iconst (v := (1 : Int32)) X dX11_free_39 (by decide) ?_
        refine wa_goto (tgt := 44) X dX11_free_40 (by decide) ?_
        refine wa_iadd X dX11_free_44 ?_
        obtain ⟨μ24, hm25, hf⟩ := jlt_e hf
        have e26 : jT μ24 = jT μ2 := by rw [hm25]; exact e19
        refine wa_rputI (ν := μ24) X dX11_free_45 lfX11_443 rfl (by rw [e19]; exact h11) rfl rfl hm25 ?_
        refine wa_iconst (v := (1 : Int32)) X dX11_free_48 (by decide) ?_
        obtain ⟨rfl, rfl, rfl, rfl⟩ := jret hf
        exact wa_iret X dX11_free_49 rfl (by omega) (by omega)
    · rw [if_pos h16] at hf
      refine wa_iconst (v := (0 : Int32)) X dX11_free_21 (by decide) ?_
      obtain ⟨rfl, rfl, rfl, rfl⟩ := jret hf
      exact wa_iret X dX11_free_22 rfl (by omega) (by omega)
theorem dX11_due_0 : decode cX11_due 0 = .ok (.iload 4, 2) := by decide +kernel
theorem dX11_due_2 : decode cX11_due 2 = .ok (.iconst 0, 1) := by decide +kernel
theorem dX11_due_3 : decode cX11_due 3 = .ok (.sipush 9999, 3) := by decide +kernel
theorem dX11_due_6 : decode cX11_due 6 = .ok (.invokestatic 347, 3) := by decide +kernel
theorem dX11_due_9 : decode cX11_due 9 = .ok (.ifCond .eq 15, 3) := by decide +kernel
theorem dX11_due_12 : decode cX11_due 12 = .ok (.aload_n 0, 1) := by decide +kernel
theorem dX11_due_13 : decode cX11_due 13 = .ok (.iload_n 1, 1) := by decide +kernel
theorem dX11_due_14 : decode cX11_due 14 = .ok (.iload_n 2, 1) := by decide +kernel
theorem dX11_due_15 : decode cX11_due 15 = .ok (.iload_n 3, 1) := by decide +kernel
theorem dX11_due_16 : decode cX11_due 16 = .ok (.iconst 0, 1) := by decide +kernel
theorem dX11_due_17 : decode cX11_due 17 = .ok (.invokevirtual 446, 3) := by decide +kernel
theorem dX11_due_20 : decode cX11_due 20 = .ok (.iconst 1, 1) := by decide +kernel
theorem dX11_due_21 : decode cX11_due 21 = .ok (.if_icmp .eq 5, 3) := by decide +kernel
theorem dX11_due_24 : decode cX11_due 24 = .ok (.iconst (-1), 1) := by decide +kernel
theorem dX11_due_25 : decode cX11_due 25 = .ok (.ireturn, 1) := by decide +kernel
theorem dX11_due_26 : decode cX11_due 26 = .ok (.aload_n 0, 1) := by decide +kernel
theorem dX11_due_27 : decode cX11_due 27 = .ok (.iload_n 1, 1) := by decide +kernel
theorem dX11_due_28 : decode cX11_due 28 = .ok (.iload_n 2, 1) := by decide +kernel
theorem dX11_due_29 : decode cX11_due 29 = .ok (.iload_n 3, 1) := by decide +kernel
theorem dX11_due_30 : decode cX11_due 30 = .ok (.iconst 3, 1) := by decide +kernel
theorem dX11_due_31 : decode cX11_due 31 = .ok (.invokevirtual 446, 3) := by decide +kernel
theorem dX11_due_34 : decode cX11_due 34 = .ok (.istore 5, 2) := by decide +kernel
theorem dX11_due_36 : decode cX11_due 36 = .ok (.iload 4, 2) := by decide +kernel
theorem dX11_due_38 : decode cX11_due 38 = .ok (.istore 6, 2) := by decide +kernel
theorem dX11_due_40 : decode cX11_due 40 = .ok (.aload_n 0, 1) := by decide +kernel
theorem dX11_due_41 : decode cX11_due 41 = .ok (.iload_n 1, 1) := by decide +kernel
theorem dX11_due_42 : decode cX11_due 42 = .ok (.iload_n 2, 1) := by decide +kernel
theorem dX11_due_43 : decode cX11_due 43 = .ok (.iload_n 3, 1) := by decide +kernel
theorem dX11_due_44 : decode cX11_due 44 = .ok (.iconst 4, 1) := by decide +kernel
theorem dX11_due_45 : decode cX11_due 45 = .ok (.invokevirtual 446, 3) := by decide +kernel
theorem dX11_due_48 : decode cX11_due 48 = .ok (.ifCond .ne 13, 3) := by decide +kernel
theorem dX11_due_51 : decode cX11_due 51 = .ok (.iload 6, 2) := by decide +kernel
theorem dX11_due_53 : decode cX11_due 53 = .ok (.iload 5, 2) := by decide +kernel
theorem dX11_due_55 : decode cX11_due 55 = .ok (.iadd, 1) := by decide +kernel
theorem dX11_due_56 : decode cX11_due 56 = .ok (.istore 6, 2) := by decide +kernel
theorem dX11_due_58 : decode cX11_due 58 = .ok (.goto 52, 3) := by decide +kernel
theorem dX11_due_61 : decode cX11_due 61 = .ok (.iload 5, 2) := by decide +kernel
theorem dX11_due_63 : decode cX11_due 63 = .ok (.ifCond .le 47, 3) := by decide +kernel
theorem dX11_due_66 : decode cX11_due 66 = .ok (.iload 6, 2) := by decide +kernel
theorem dX11_due_68 : decode cX11_due 68 = .ok (.sipush 9999, 3) := by decide +kernel
theorem dX11_due_71 : decode cX11_due 71 = .ok (.if_icmp .gt 39, 3) := by decide +kernel
theorem dX11_due_74 : decode cX11_due 74 = .ok (.iinc 6 1, 3) := by decide +kernel
theorem dX11_due_77 : decode cX11_due 77 = .ok (.iload 6, 2) := by decide +kernel
theorem dX11_due_79 : decode cX11_due 79 = .ok (.sipush 9999, 3) := by decide +kernel
theorem dX11_due_82 : decode cX11_due 82 = .ok (.if_icmp .gt (-21), 3) := by decide +kernel
theorem dX11_due_85 : decode cX11_due 85 = .ok (.iload 6, 2) := by decide +kernel
theorem dX11_due_87 : decode cX11_due 87 = .ok (.bipush 7, 2) := by decide +kernel
theorem dX11_due_89 : decode cX11_due 89 = .ok (.irem, 1) := by decide +kernel
theorem dX11_due_90 : decode cX11_due 90 = .ok (.iconst 5, 1) := by decide +kernel
theorem dX11_due_91 : decode cX11_due 91 = .ok (.if_icmp .ge (-30), 3) := by decide +kernel
theorem dX11_due_94 : decode cX11_due 94 = .ok (.aload_n 0, 1) := by decide +kernel
theorem dX11_due_95 : decode cX11_due 95 = .ok (.getfield 152, 3) := by decide +kernel
theorem dX11_due_98 : decode cX11_due 98 = .ok (.iload 6, 2) := by decide +kernel
theorem dX11_due_100 : decode cX11_due 100 = .ok (.baload, 1) := by decide +kernel
theorem dX11_due_101 : decode cX11_due 101 = .ok (.ifCond .ne (-40), 3) := by decide +kernel
theorem dX11_due_104 : decode cX11_due 104 = .ok (.iinc 5 (-1), 3) := by decide +kernel
theorem dX11_due_107 : decode cX11_due 107 = .ok (.goto (-46), 3) := by decide +kernel
theorem dX11_due_110 : decode cX11_due 110 = .ok (.iload 6, 2) := by decide +kernel
theorem dX11_due_112 : decode cX11_due 112 = .ok (.sipush 9999, 3) := by decide +kernel
theorem dX11_due_115 : decode cX11_due 115 = .ok (.if_icmp .gt 8, 3) := by decide +kernel
theorem dX11_due_118 : decode cX11_due 118 = .ok (.iload 6, 2) := by decide +kernel
theorem dX11_due_120 : decode cX11_due 120 = .ok (.goto 4, 3) := by decide +kernel
theorem dX11_due_123 : decode cX11_due 123 = .ok (.iconst (-1), 1) := by decide +kernel
theorem dX11_due_124 : decode cX11_due 124 = .ok (.ireturn, 1) := by decide +kernel
def fX11_due_b110 (x6 : Int32) (μ : JM) : JO (Int32) := if (9999 : Int32) < x6 then (some ((-1 : Int32), μ, 0, 0)) else (some (x6, μ, 0, 0))
set_option maxHeartbeats 4000000 in
set_option maxRecDepth 100000 in
theorem gX11_due_b110 {b : Nat} {Θ : JE} {RC RS : Nat} {r : Int32} {ν : JM} (X : jX b Θ RX11 cX11_due 7 (some .int) 4 89 RC RS) (x6 : Int32) (μ : JM) (c m k n : Nat) (hf : fX11_due_b110 x6 μ = some (r, ν, c, m)) (hk : k + c = RC) (hn : n + m = RS) : WA b Θ 7 (jE b Θ (some (.int r)) ν RC RS) μ k n 110 [(6, .int x6)] [] := by
  rw [fX11_due_b110] at hf
  refine wa_iload X 0 dX11_due_110 rfl ?_
  refine wa_sipush (v := (9999 : Int32)) X dX11_due_112 (by decide) ?_
  refine wa_icgt (tgt := 123) X dX11_due_115 (by decide) (fun h53 => ?_) (fun h53 => ?_)
  · rw [if_pos h53] at hf
    refine wa_iconst (v := (-1 : Int32)) X dX11_due_123 (by decide) ?_
    obtain ⟨rfl, rfl, rfl, rfl⟩ := jret hf
    exact wa_iret X dX11_due_124 rfl (by omega) (by omega)
  · rw [if_neg h53] at hf
    refine wa_iload X 0 dX11_due_118 rfl ?_
    refine wa_goto (tgt := 124) X dX11_due_120 (by decide) ?_
    obtain ⟨rfl, rfl, rfl, rfl⟩ := jret hf
    exact wa_iret X dX11_due_124 rfl (by omega) (by omega)
def fX11_due_b61 : Nat → Nat → Int32 → Int32 → JM → JO (Int32)
  | 0, _, _, _, _ => none
  | fu + 1, a, x5, x6, μ => if x5 ≤ 0 then (fX11_due_b110  x6 μ) else (if (9999 : Int32) < x6 then (fX11_due_b110  x6 μ) else (if (9999 : Int32) < (x6 + (1 : Int32)) then (fX11_due_b61 fu a x5 (x6 + (1 : Int32)) μ) else (if (5 : Int32) ≤ (jrem (x6 + (1 : Int32)) (7 : Int32)) then (fX11_due_b61 fu a x5 (x6 + (1 : Int32)) μ) else (jck ((jT μ a).1 == 12) <| jde (jP μ a 69) fun q48 => jck ((jT μ q48).1 == 103) <| jck (jin (x6 + (1 : Int32)) (jT μ q48).2) <| if (jI μ q48 ((x6 + (1 : Int32))).toNatClampNeg) = 0 then (fX11_due_b61 fu a (x5 + (-1 : Int32)) (x6 + (1 : Int32)) μ) else (fX11_due_b61 fu a x5 (x6 + (1 : Int32)) μ)))))
set_option maxHeartbeats 4000000 in
set_option maxRecDepth 100000 in
theorem gX11_due_b61 {b : Nat} {Θ : JE} {RC RS : Nat} {r : Int32} {ν : JM} (X : jX b Θ RX11 cX11_due 7 (some .int) 4 89 RC RS) : ∀ (fu : Nat) (a : Nat) (x5 : Int32) (x6 : Int32) (μ : JM) (c m k n : Nat), fX11_due_b61 fu a x5 x6 μ = some (r, ν, c, m) → k + c = RC → n + m = RS → WA b Θ 7 (jE b Θ (some (.int r)) ν RC RS) μ k n 61 [(0, va_rf (some a)), (5, .int x5), (6, .int x6)] [] := by
  intro fu
  induction fu with
  | zero => intro a x5 x6 μ c m k n hf; cases hf
  | succ fu ih =>
    intro a x5 x6 μ c m k n hf hk hn
    rw [fX11_due_b61] at hf
    refine wa_iload X 1 dX11_due_61 rfl ?_
    refine wa_ifle (tgt := 110) X dX11_due_63 (by decide) (fun h43 => ?_) (fun h43 => ?_)
    · rw [if_pos h43] at hf
      refine wa_sub (L2 := [(6, .int x6)]) [2] rfl ?_
      exact gX11_due_b110 X x6 μ _ _ _ _ hf (by omega) (by omega)
    · rw [if_neg h43] at hf
      refine wa_iload X 2 dX11_due_66 rfl ?_
      refine wa_sipush (v := (9999 : Int32)) X dX11_due_68 (by decide) ?_
      refine wa_icgt (tgt := 110) X dX11_due_71 (by decide) (fun h44 => ?_) (fun h44 => ?_)
      · rw [if_pos h44] at hf
        refine wa_sub (L2 := [(6, .int x6)]) [2] rfl ?_
        exact gX11_due_b110 X x6 μ _ _ _ _ hf (by omega) (by omega)
      · rw [if_neg h44] at hf
        refine wa_iinc (v := (x6 + (1 : Int32))) (L2 := [(6, .int (x6 + (1 : Int32))), (0, va_rf (some a)), (5, .int x5)]) X 2 dX11_due_74 rfl rfl (by decide) (by first | rfl | simp [va_rf_cat, cat_i, cat_l]) ?_
        refine wa_iload X 0 dX11_due_77 rfl ?_
        refine wa_sipush (v := (9999 : Int32)) X dX11_due_79 (by decide) ?_
        refine wa_icgt (tgt := 61) X dX11_due_82 (by decide) (fun h45 => ?_) (fun h45 => ?_)
        · rw [if_pos h45] at hf
          refine wa_sub (L2 := [(0, va_rf (some a)), (5, .int x5), (6, .int (x6 + (1 : Int32)))]) [1, 2, 0] rfl ?_
          exact ih a x5 (x6 + (1 : Int32)) μ _ _ _ _ hf (by omega) (by omega)
        · rw [if_neg h45] at hf
          refine wa_iload X 0 dX11_due_85 rfl ?_
          refine wa_bipush (v := (7 : Int32)) X dX11_due_87 (by decide) ?_
          refine wa_irem X dX11_due_89 (by decide) ?_
          refine wa_iconst (v := (5 : Int32)) X dX11_due_90 (by decide) ?_
          refine wa_icge (tgt := 61) X dX11_due_91 (by decide) (fun h46 => ?_) (fun h46 => ?_)
          · rw [if_pos h46] at hf
            refine wa_sub (L2 := [(0, va_rf (some a)), (5, .int x5), (6, .int (x6 + (1 : Int32)))]) [1, 2, 0] rfl ?_
            exact ih a x5 (x6 + (1 : Int32)) μ _ _ _ _ hf (by omega) (by omega)
          · rw [if_neg h46] at hf
            refine wa_aload_n X 1 dX11_due_94 rfl ?_
            obtain ⟨h47, hf⟩ := jckT hf
            refine wa_getP X dX11_due_95 lfX11_152 rfl h47 rfl ?_
            refine wa_iload X 0 dX11_due_98 rfl ?_
            obtain ⟨q48, h49, hf⟩ := jde_some hf
            obtain ⟨h50, hf⟩ := jckT hf
            obtain ⟨h51, hf⟩ := jck_some hf
            refine wa_rzald X dX11_due_100 h49 h50 h51 ?_
            refine wa_ifne (tgt := 61) X dX11_due_101 (by decide) (fun h52 => ?_) (fun h52 => ?_)
            · rw [if_neg h52] at hf
              refine wa_sub (L2 := [(0, va_rf (some a)), (5, .int x5), (6, .int (x6 + (1 : Int32)))]) [1, 2, 0] rfl ?_
              exact ih a x5 (x6 + (1 : Int32)) μ _ _ _ _ hf (by omega) (by omega)
            · rw [if_pos h52] at hf
              refine wa_iinc (v := (x5 + (-1 : Int32))) (L2 := [(5, .int (x5 + (-1 : Int32))), (6, .int (x6 + (1 : Int32))), (0, va_rf (some a))]) X 2 dX11_due_104 rfl rfl (by decide) (by first | rfl | simp [va_rf_cat, cat_i, cat_l]) ?_
              refine wa_goto (tgt := 61) X dX11_due_107 (by decide) ?_
              refine wa_sub (L2 := [(0, va_rf (some a)), (5, .int (x5 + (-1 : Int32))), (6, .int (x6 + (1 : Int32)))]) [2, 0, 1] rfl ?_
              exact ih a (x5 + (-1 : Int32)) (x6 + (1 : Int32)) μ _ _ _ _ hf (by omega) (by omega)
def fX11_due (a : Nat) (x1 : Int32) (x2 : Int32) (x3 : Int32) (x4 : Int32) (μ : JM) : JO (Int32) := jcl (fX11_in x4 (0 : Int32) (9999 : Int32) μ) fun r1 μ2 => if r1 = 0 then (some ((-1 : Int32), μ2, 0, 0)) else (jck ((jT μ2 a).1 == 12) <| jcl (fX11_outcome a x1 x2 x3 (0 : Int32) μ2) fun r12 μ13 => if r12 = (1 : Int32) then (jck ((jT μ13 a).1 == 12) <| jcl (fX11_outcome a x1 x2 x3 (3 : Int32) μ13) fun r23 μ24 => jck ((jT μ24 a).1 == 12) <| jcl (fX11_outcome a x1 x2 x3 (4 : Int32) μ24) fun r33 μ34 => if r33 = 0 then (fX11_due_b110  (x4 + r23) μ34) else (fX11_due_b61  jfuel a r23 x4 μ34)) else (some ((-1 : Int32), μ13, 0, 0)))
set_option maxHeartbeats 4000000 in
set_option maxRecDepth 100000 in
theorem mX11_due {b : Nat} {a : Nat} {x1 : Int32} {x2 : Int32} {x3 : Int32} {x4 : Int32} {μ : JM} {r : Int32} {ν : JM} {c m : Nat} (hf : fX11_due a x1 x2 x3 x4 μ = some (r, ν, c, m)) : JMet b yX11_due cX11_due 7 (some .int) 4 89 [va_rf (some a), .int x1, .int x2, .int x3, .int x4] μ (some (.int r)) ν c m := by
  refine JMet.of (by decide) (lg_sl_le (by simp only [List.map_cons, List.map_nil, List.sum_cons, List.sum_nil, va_rf_cat]; exact Nat.le_of_ble_eq_true rfl)) (fun Θ X hin => ?_)
  refine wa_eq (L2 := [(0, va_rf (some a)), (1, .int x1), (2, .int x2), (3, .int x3), (4, .int x4)]) ?_ rfl (by first | rfl | simp [lv_args, va_rf_cat, cat_i, cat_l]) rfl
  obtain ⟨k, hk0⟩ : ∃ k : Nat, k = 0 := ⟨0, rfl⟩
  obtain ⟨n, hn0⟩ : ∃ n : Nat, n = 0 := ⟨0, rfl⟩
  have hk : k + c = c := by omega
  have hn : n + m = m := by omega
  refine wa_costs hk0.symm hn0.symm ?_
  rw [fX11_due] at hf
  refine wa_iload X 4 dX11_due_0 rfl ?_
  refine wa_iconst (v := (0 : Int32)) X dX11_due_2 (by decide) ?_
  refine wa_sipush (v := (9999 : Int32)) X dX11_due_3 (by decide) ?_
  obtain ⟨r1, μ2, c3, m4, c5, m6, e7, hf, h8, h9⟩ := jcl_some hf
  refine wa_rcallS (st2 := [.int r1]) X dX11_due_6 lmX11_347 lMX11_in (mX11_in e7) rfl rfl rfl (va_cats (Nat.le_of_ble_eq_true rfl)) (by decide) (by omega) (by omega) ?_
  refine wa_ifeq (tgt := 24) X dX11_due_9 (by decide) (fun h10 => ?_) (fun h10 => ?_)
  · rw [if_pos h10] at hf
    refine wa_iconst (v := (-1 : Int32)) X dX11_due_24 (by decide) ?_
    obtain ⟨rfl, rfl, rfl, rfl⟩ := jret hf
    exact wa_iret X dX11_due_25 rfl (by omega) (by omega)
  · rw [if_neg h10] at hf
    refine wa_aload_n X 0 dX11_due_12 rfl ?_
    refine wa_iload_n X 1 dX11_due_13 rfl ?_
    refine wa_iload_n X 2 dX11_due_14 rfl ?_
    refine wa_iload_n X 3 dX11_due_15 rfl ?_
    refine wa_iconst (v := (0 : Int32)) X dX11_due_16 (by decide) ?_
    obtain ⟨h11, hf⟩ := jckT hf
    obtain ⟨r12, μ13, c14, m15, c16, m17, e18, hf, h19, h20⟩ := jcl_some hf
    refine wa_rcallV (st2 := [.int r12]) X dX11_due_17 lmX11_446 lMX11_outcome rfl h11 (mX11_outcome e18) rfl rfl rfl (va_cats (Nat.le_of_ble_eq_true rfl)) (by decide) (by omega) (by omega) ?_
    refine wa_iconst (v := (1 : Int32)) X dX11_due_20 (by decide) ?_
    refine wa_iceq (tgt := 26) X dX11_due_21 (by decide) (fun h21 => ?_) (fun h21 => ?_)
    · rw [if_pos h21] at hf
      refine wa_aload_n X 0 dX11_due_26 rfl ?_
      refine wa_iload_n X 1 dX11_due_27 rfl ?_
      refine wa_iload_n X 2 dX11_due_28 rfl ?_
      refine wa_iload_n X 3 dX11_due_29 rfl ?_
      refine wa_iconst (v := (3 : Int32)) X dX11_due_30 (by decide) ?_
      obtain ⟨h22, hf⟩ := jckT hf
      obtain ⟨r23, μ24, c25, m26, c27, m28, e29, hf, h30, h31⟩ := jcl_some hf
      refine wa_rcallV (st2 := [.int r23]) X dX11_due_31 lmX11_446 lMX11_outcome rfl h22 (mX11_outcome e29) rfl rfl rfl (va_cats (Nat.le_of_ble_eq_true rfl)) (by decide) (by omega) (by omega) ?_
      refine wa_istore (L2 := [(5, .int r23), (0, va_rf (some a)), (1, .int x1), (2, .int x2), (3, .int x3), (4, .int x4)]) X dX11_due_34 (by decide) (by first | rfl | (show (5, _) :: List.filter (fun q : Nat × Value => !(q.1 == 5) && !(q.1 + 1 == 5 && q.2.category == 2)) _ = _; simp [va_rf_cat, cat_i, cat_l])) ?_
      refine wa_iload X 5 dX11_due_36 rfl ?_
      refine wa_istore (L2 := [(6, .int x4), (5, .int r23), (0, va_rf (some a)), (1, .int x1), (2, .int x2), (3, .int x3), (4, .int x4)]) X dX11_due_38 (by decide) (by first | rfl | (show (6, _) :: List.filter (fun q : Nat × Value => !(q.1 == 6) && !(q.1 + 1 == 6 && q.2.category == 2)) _ = _; simp [va_rf_cat, cat_i, cat_l])) ?_
      refine wa_aload_n X 2 dX11_due_40 rfl ?_
      refine wa_iload_n X 3 dX11_due_41 rfl ?_
      refine wa_iload_n X 4 dX11_due_42 rfl ?_
      refine wa_iload_n X 5 dX11_due_43 rfl ?_
      refine wa_iconst (v := (4 : Int32)) X dX11_due_44 (by decide) ?_
      obtain ⟨h32, hf⟩ := jckT hf
      obtain ⟨r33, μ34, c35, m36, c37, m38, e39, hf, h40, h41⟩ := jcl_some hf
      refine wa_rcallV (st2 := [.int r33]) X dX11_due_45 lmX11_446 lMX11_outcome rfl h32 (mX11_outcome e39) rfl rfl rfl (va_cats (Nat.le_of_ble_eq_true rfl)) (by decide) (by omega) (by omega) ?_
      refine wa_ifne (tgt := 61) X dX11_due_48 (by decide) (fun h42 => ?_) (fun h42 => ?_)
      · rw [if_neg h42] at hf
        refine wa_sub (L2 := [(0, va_rf (some a)), (5, .int r23), (6, .int x4)]) [2, 1, 0] rfl ?_
        exact gX11_due_b61 X jfuel a r23 x4 μ34 _ _ _ _ hf (by omega) (by omega)
      · rw [if_pos h42] at hf
        refine wa_iload X 0 dX11_due_51 rfl ?_
        refine wa_iload X 1 dX11_due_53 rfl ?_
        refine wa_iadd X dX11_due_55 ?_
        refine wa_istore (L2 := [(6, .int (x4 + r23)), (5, .int r23), (0, va_rf (some a)), (1, .int x1), (2, .int x2), (3, .int x3), (4, .int x4)]) X dX11_due_56 (by decide) (by first | rfl | (show (6, _) :: List.filter (fun q : Nat × Value => !(q.1 == 6) && !(q.1 + 1 == 6 && q.2.category == 2)) _ = _; simp [va_rf_cat, cat_i, cat_l])) ?_
        refine wa_goto (tgt := 110) X dX11_due_58 (by decide) ?_
        refine wa_sub (L2 := [(6, .int (x4 + r23))]) [0] rfl ?_
        exact gX11_due_b110 X (x4 + r23) μ34 _ _ _ _ hf (by omega) (by omega)
    · rw [if_neg h21] at hf
      refine wa_iconst (v := (-1 : Int32)) X dX11_due_24 (by decide) ?_
      obtain ⟨rfl, rfl, rfl, rfl⟩ := jret hf
      exact wa_iret X dX11_due_25 rfl (by omega) (by omega)
theorem dX11_count_0 : decode cX11_count 0 = .ok (.iload_n 1, 1) := by decide +kernel
theorem dX11_count_1 : decode cX11_count 1 = .ok (.tableswitch 98 0 7 #[47, 63, 68, 73, 78, 83, 88, 93], 47) := by decide +kernel
theorem dX11_count_48 : decode cX11_count 48 = .ok (.aload_n 0, 1) := by decide +kernel
theorem dX11_count_49 : decode cX11_count 49 = .ok (.getfield 13, 3) := by decide +kernel
theorem dX11_count_52 : decode cX11_count 52 = .ok (.ifCond .ge 7, 3) := by decide +kernel
theorem dX11_count_55 : decode cX11_count 55 = .ok (.iconst 0, 1) := by decide +kernel
theorem dX11_count_56 : decode cX11_count 56 = .ok (.goto 7, 3) := by decide +kernel
theorem dX11_count_59 : decode cX11_count 59 = .ok (.aload_n 0, 1) := by decide +kernel
theorem dX11_count_60 : decode cX11_count 60 = .ok (.getfield 13, 3) := by decide +kernel
theorem dX11_count_63 : decode cX11_count 63 = .ok (.ireturn, 1) := by decide +kernel
theorem dX11_count_64 : decode cX11_count 64 = .ok (.aload_n 0, 1) := by decide +kernel
theorem dX11_count_65 : decode cX11_count 65 = .ok (.getfield 299, 3) := by decide +kernel
theorem dX11_count_68 : decode cX11_count 68 = .ok (.ireturn, 1) := by decide +kernel
theorem dX11_count_69 : decode cX11_count 69 = .ok (.aload_n 0, 1) := by decide +kernel
theorem dX11_count_70 : decode cX11_count 70 = .ok (.getfield 302, 3) := by decide +kernel
theorem dX11_count_73 : decode cX11_count 73 = .ok (.ireturn, 1) := by decide +kernel
theorem dX11_count_74 : decode cX11_count 74 = .ok (.aload_n 0, 1) := by decide +kernel
theorem dX11_count_75 : decode cX11_count 75 = .ok (.invokevirtual 405, 3) := by decide +kernel
theorem dX11_count_78 : decode cX11_count 78 = .ok (.ireturn, 1) := by decide +kernel
theorem dX11_count_79 : decode cX11_count 79 = .ok (.aload_n 0, 1) := by decide +kernel
theorem dX11_count_80 : decode cX11_count 80 = .ok (.getfield 399, 3) := by decide +kernel
theorem dX11_count_83 : decode cX11_count 83 = .ok (.ireturn, 1) := by decide +kernel
theorem dX11_count_84 : decode cX11_count 84 = .ok (.aload_n 0, 1) := by decide +kernel
theorem dX11_count_85 : decode cX11_count 85 = .ok (.getfield 156, 3) := by decide +kernel
theorem dX11_count_88 : decode cX11_count 88 = .ok (.ireturn, 1) := by decide +kernel
theorem dX11_count_89 : decode cX11_count 89 = .ok (.aload_n 0, 1) := by decide +kernel
theorem dX11_count_90 : decode cX11_count 90 = .ok (.getfield 411, 3) := by decide +kernel
theorem dX11_count_93 : decode cX11_count 93 = .ok (.ireturn, 1) := by decide +kernel
theorem dX11_count_94 : decode cX11_count 94 = .ok (.aload_n 0, 1) := by decide +kernel
theorem dX11_count_95 : decode cX11_count 95 = .ok (.getfield 443, 3) := by decide +kernel
theorem dX11_count_98 : decode cX11_count 98 = .ok (.ireturn, 1) := by decide +kernel
theorem dX11_count_99 : decode cX11_count 99 = .ok (.iload_n 1, 1) := by decide +kernel
theorem dX11_count_100 : decode cX11_count 100 = .ok (.bipush 10, 2) := by decide +kernel
theorem dX11_count_102 : decode cX11_count 102 = .ok (.bipush 13, 2) := by decide +kernel
theorem dX11_count_104 : decode cX11_count 104 = .ok (.invokestatic 347, 3) := by decide +kernel
theorem dX11_count_107 : decode cX11_count 107 = .ok (.ifCond .eq 26, 3) := by decide +kernel
theorem dX11_count_110 : decode cX11_count 110 = .ok (.aload_n 0, 1) := by decide +kernel
theorem dX11_count_111 : decode cX11_count 111 = .ok (.iload_n 1, 1) := by decide +kernel
theorem dX11_count_112 : decode cX11_count 112 = .ok (.bipush 10, 2) := by decide +kernel
theorem dX11_count_114 : decode cX11_count 114 = .ok (.isub, 1) := by decide +kernel
theorem dX11_count_115 : decode cX11_count 115 = .ok (.invokevirtual 393, 3) := by decide +kernel
theorem dX11_count_118 : decode cX11_count 118 = .ok (.ifCond .eq 15, 3) := by decide +kernel
theorem dX11_count_121 : decode cX11_count 121 = .ok (.aload_n 0, 1) := by decide +kernel
theorem dX11_count_122 : decode cX11_count 122 = .ok (.getfield 73, 3) := by decide +kernel
theorem dX11_count_125 : decode cX11_count 125 = .ok (.iload_n 1, 1) := by decide +kernel
theorem dX11_count_126 : decode cX11_count 126 = .ok (.bipush 10, 2) := by decide +kernel
theorem dX11_count_128 : decode cX11_count 128 = .ok (.isub, 1) := by decide +kernel
theorem dX11_count_129 : decode cX11_count 129 = .ok (.iaload, 1) := by decide +kernel
theorem dX11_count_130 : decode cX11_count 130 = .ok (.goto 4, 3) := by decide +kernel
theorem dX11_count_133 : decode cX11_count 133 = .ok (.iconst (-1), 1) := by decide +kernel
theorem dX11_count_134 : decode cX11_count 134 = .ok (.ireturn, 1) := by decide +kernel
def fX11_count (a : Nat) (x1 : Int32) (μ : JM) : JO (Int32) := if x1 = (0 : Int32) then (jck ((jT μ a).1 == 12) <| if 0 ≤ (jI μ a 2) then (some ((jI μ a 2), μ, 0, 0)) else (some ((0 : Int32), μ, 0, 0))) else (if x1 = (1 : Int32) then (jck ((jT μ a).1 == 12) <| some ((jI μ a 5), μ, 0, 0)) else (if x1 = (2 : Int32) then (jck ((jT μ a).1 == 12) <| some ((jI μ a 8), μ, 0, 0)) else (if x1 = (3 : Int32) then (jck ((jT μ a).1 == 12) <| jcl (fX11_worldMany a μ) fun r10 μ11 => some (r10, μ11, 0, 0)) else (if x1 = (4 : Int32) then (jck ((jT μ a).1 == 12) <| some ((jI μ a 58), μ, 0, 0)) else (if x1 = (5 : Int32) then (jck ((jT μ a).1 == 12) <| some ((jI μ a 1), μ, 0, 0)) else (if x1 = (6 : Int32) then (jck ((jT μ a).1 == 12) <| some ((jI μ a 63), μ, 0, 0)) else (if x1 = (7 : Int32) then (jck ((jT μ a).1 == 12) <| some ((jI μ a 70), μ, 0, 0)) else (jcl (fX11_in x1 (10 : Int32) (13 : Int32) μ) fun r27 μ28 => if r27 = 0 then (some ((-1 : Int32), μ28, 0, 0)) else (jck ((jT μ28 a).1 == 12) <| jcl (fX11_isVersion a (x1 - (10 : Int32)) μ28) fun r38 μ39 => if r38 = 0 then (some ((-1 : Int32), μ39, 0, 0)) else (jck ((jT μ39 a).1 == 12) <| jde (jP μ39 a 34) fun q49 => jck ((jT μ39 q49).1 == 101) <| jck (jin (x1 - (10 : Int32)) (jT μ39 q49).2) <| some ((jI μ39 q49 ((x1 - (10 : Int32))).toNatClampNeg), μ39, 0, 0)))))))))))
set_option maxHeartbeats 4000000 in
set_option maxRecDepth 100000 in
theorem mX11_count {b : Nat} {a : Nat} {x1 : Int32} {μ : JM} {r : Int32} {ν : JM} {c m : Nat} (hf : fX11_count a x1 μ = some (r, ν, c, m)) : JMet b yX11_count cX11_count 2 (some .int) 3 63 [va_rf (some a), .int x1] μ (some (.int r)) ν c m := by
  refine JMet.of (by decide) (lg_sl_le (by simp only [List.map_cons, List.map_nil, List.sum_cons, List.sum_nil, va_rf_cat]; exact Nat.le_of_ble_eq_true rfl)) (fun Θ X hin => ?_)
  refine wa_eq (L2 := [(0, va_rf (some a)), (1, .int x1)]) ?_ rfl (by first | rfl | simp [lv_args, va_rf_cat, cat_i, cat_l]) rfl
  obtain ⟨k, hk0⟩ : ∃ k : Nat, k = 0 := ⟨0, rfl⟩
  obtain ⟨n, hn0⟩ : ∃ n : Nat, n = 0 := ⟨0, rfl⟩
  have hk : k + c = c := by omega
  have hn : n + m = m := by omega
  refine wa_costs hk0.symm hn0.symm ?_
  rw [fX11_count] at hf
  refine wa_iload_n X 1 dX11_count_0 rfl ?_
  by_cases h1 : x1 = (0 : Int32)
  · rw [if_pos h1] at hf
    refine wa_tin (tgt := 48) X dX11_count_1 h1 (by decide) (by decide) rfl (by decide) ?_
    refine wa_aload_n X 0 dX11_count_48 rfl ?_
    obtain ⟨h2, hf⟩ := jckT hf
    refine wa_getI X dX11_count_49 lfX11_13 rfl h2 rfl ?_
    refine wa_ifge (tgt := 59) X dX11_count_52 (by decide) (fun h3 => ?_) (fun h3 => ?_)
    · rw [if_pos h3] at hf
      refine wa_aload_n X 0 dX11_count_59 rfl ?_
      refine wa_getI X dX11_count_60 lfX11_13 rfl h2 rfl ?_
      obtain ⟨rfl, rfl, rfl, rfl⟩ := jret hf
      exact wa_iret X dX11_count_63 rfl (by omega) (by omega)
    · rw [if_neg h3] at hf
      refine wa_iconst (v := (0 : Int32)) X dX11_count_55 (by decide) ?_
      refine wa_goto (tgt := 63) X dX11_count_56 (by decide) ?_
      obtain ⟨rfl, rfl, rfl, rfl⟩ := jret hf
      exact wa_iret X dX11_count_63 rfl (by omega) (by omega)
  rw [if_neg h1] at hf
  by_cases h4 : x1 = (1 : Int32)
  · rw [if_pos h4] at hf
    refine wa_tin (tgt := 64) X dX11_count_1 h4 (by decide) (by decide) rfl (by decide) ?_
    refine wa_aload_n X 0 dX11_count_64 rfl ?_
    obtain ⟨h5, hf⟩ := jckT hf
    refine wa_getI X dX11_count_65 lfX11_299 rfl h5 rfl ?_
    obtain ⟨rfl, rfl, rfl, rfl⟩ := jret hf
    exact wa_iret X dX11_count_68 rfl (by omega) (by omega)
  rw [if_neg h4] at hf
  by_cases h6 : x1 = (2 : Int32)
  · rw [if_pos h6] at hf
    refine wa_tin (tgt := 69) X dX11_count_1 h6 (by decide) (by decide) rfl (by decide) ?_
    refine wa_aload_n X 0 dX11_count_69 rfl ?_
    obtain ⟨h7, hf⟩ := jckT hf
    refine wa_getI X dX11_count_70 lfX11_302 rfl h7 rfl ?_
    obtain ⟨rfl, rfl, rfl, rfl⟩ := jret hf
    exact wa_iret X dX11_count_73 rfl (by omega) (by omega)
  rw [if_neg h6] at hf
  by_cases h8 : x1 = (3 : Int32)
  · rw [if_pos h8] at hf
    refine wa_tin (tgt := 74) X dX11_count_1 h8 (by decide) (by decide) rfl (by decide) ?_
    refine wa_aload_n X 0 dX11_count_74 rfl ?_
    obtain ⟨h9, hf⟩ := jckT hf
    obtain ⟨r10, μ11, c12, m13, c14, m15, e16, hf, h17, h18⟩ := jcl_some hf
    refine wa_rcallV (st2 := [.int r10]) X dX11_count_75 lmX11_405 lMX11_worldMany rfl h9 (mX11_worldMany e16) rfl rfl rfl (va_cats (Nat.le_of_ble_eq_true rfl)) (by decide) (by omega) (by omega) ?_
    obtain ⟨rfl, rfl, rfl, rfl⟩ := jret hf
    exact wa_iret X dX11_count_78 rfl (by omega) (by omega)
  rw [if_neg h8] at hf
  by_cases h19 : x1 = (4 : Int32)
  · rw [if_pos h19] at hf
    refine wa_tin (tgt := 79) X dX11_count_1 h19 (by decide) (by decide) rfl (by decide) ?_
    refine wa_aload_n X 0 dX11_count_79 rfl ?_
    obtain ⟨h20, hf⟩ := jckT hf
    refine wa_getI X dX11_count_80 lfX11_399 rfl h20 rfl ?_
    obtain ⟨rfl, rfl, rfl, rfl⟩ := jret hf
    exact wa_iret X dX11_count_83 rfl (by omega) (by omega)
  rw [if_neg h19] at hf
  by_cases h21 : x1 = (5 : Int32)
  · rw [if_pos h21] at hf
    refine wa_tin (tgt := 84) X dX11_count_1 h21 (by decide) (by decide) rfl (by decide) ?_
    refine wa_aload_n X 0 dX11_count_84 rfl ?_
    obtain ⟨h22, hf⟩ := jckT hf
    refine wa_getI X dX11_count_85 lfX11_156 rfl h22 rfl ?_
    obtain ⟨rfl, rfl, rfl, rfl⟩ := jret hf
    exact wa_iret X dX11_count_88 rfl (by omega) (by omega)
  rw [if_neg h21] at hf
  by_cases h23 : x1 = (6 : Int32)
  · rw [if_pos h23] at hf
    refine wa_tin (tgt := 89) X dX11_count_1 h23 (by decide) (by decide) rfl (by decide) ?_
    refine wa_aload_n X 0 dX11_count_89 rfl ?_
    obtain ⟨h24, hf⟩ := jckT hf
    refine wa_getI X dX11_count_90 lfX11_411 rfl h24 rfl ?_
    obtain ⟨rfl, rfl, rfl, rfl⟩ := jret hf
    exact wa_iret X dX11_count_93 rfl (by omega) (by omega)
  rw [if_neg h23] at hf
  by_cases h25 : x1 = (7 : Int32)
  · rw [if_pos h25] at hf
    refine wa_tin (tgt := 94) X dX11_count_1 h25 (by decide) (by decide) rfl (by decide) ?_
    refine wa_aload_n X 0 dX11_count_94 rfl ?_
    obtain ⟨h26, hf⟩ := jckT hf
    refine wa_getI X dX11_count_95 lfX11_443 rfl h26 rfl ?_
    obtain ⟨rfl, rfl, rfl, rfl⟩ := jret hf
    exact wa_iret X dX11_count_98 rfl (by omega) (by omega)
  rw [if_neg h25] at hf
  have ih1 := lv_neT h1 (show ((0 : Int32)).toInt = 0 from rfl)
  have ih4 := lv_neT h4 (show ((1 : Int32)).toInt = 1 from rfl)
  have ih6 := lv_neT h6 (show ((2 : Int32)).toInt = 2 from rfl)
  have ih8 := lv_neT h8 (show ((3 : Int32)).toInt = 3 from rfl)
  have ih19 := lv_neT h19 (show ((4 : Int32)).toInt = 4 from rfl)
  have ih21 := lv_neT h21 (show ((5 : Int32)).toInt = 5 from rfl)
  have ih23 := lv_neT h23 (show ((6 : Int32)).toInt = 6 from rfl)
  have ih25 := lv_neT h25 (show ((7 : Int32)).toInt = 7 from rfl)
  refine wa_tout (tgt := 99) X dX11_count_1 (by omega) (by decide) ?_
  refine wa_iload_n X 1 dX11_count_99 rfl ?_
  refine wa_bipush (v := (10 : Int32)) X dX11_count_100 (by decide) ?_
  refine wa_bipush (v := (13 : Int32)) X dX11_count_102 (by decide) ?_
  obtain ⟨r27, μ28, c29, m30, c31, m32, e33, hf, h34, h35⟩ := jcl_some hf
  refine wa_rcallS (st2 := [.int r27]) X dX11_count_104 lmX11_347 lMX11_in (mX11_in e33) rfl rfl rfl (va_cats (Nat.le_of_ble_eq_true rfl)) (by decide) (by omega) (by omega) ?_
  refine wa_ifeq (tgt := 133) X dX11_count_107 (by decide) (fun h36 => ?_) (fun h36 => ?_)
  · rw [if_pos h36] at hf
    refine wa_iconst (v := (-1 : Int32)) X dX11_count_133 (by decide) ?_
    obtain ⟨rfl, rfl, rfl, rfl⟩ := jret hf
    exact wa_iret X dX11_count_134 rfl (by omega) (by omega)
  · rw [if_neg h36] at hf
    refine wa_aload_n X 0 dX11_count_110 rfl ?_
    refine wa_iload_n X 1 dX11_count_111 rfl ?_
    refine wa_bipush (v := (10 : Int32)) X dX11_count_112 (by decide) ?_
    refine wa_isub X dX11_count_114 ?_
    obtain ⟨h37, hf⟩ := jckT hf
    obtain ⟨r38, μ39, c40, m41, c42, m43, e44, hf, h45, h46⟩ := jcl_some hf
    refine wa_rcallV (st2 := [.int r38]) X dX11_count_115 lmX11_393 lMX11_isVersion rfl h37 (mX11_isVersion e44) rfl rfl rfl (va_cats (Nat.le_of_ble_eq_true rfl)) (by decide) (by omega) (by omega) ?_
    refine wa_ifeq (tgt := 133) X dX11_count_118 (by decide) (fun h47 => ?_) (fun h47 => ?_)
    · rw [if_pos h47] at hf
      refine wa_iconst (v := (-1 : Int32)) X dX11_count_133 (by decide) ?_
      obtain ⟨rfl, rfl, rfl, rfl⟩ := jret hf
      exact wa_iret X dX11_count_134 rfl (by omega) (by omega)
    · rw [if_neg h47] at hf
      refine wa_aload_n X 0 dX11_count_121 rfl ?_
      obtain ⟨h48, hf⟩ := jckT hf
      refine wa_getP X dX11_count_122 lfX11_73 rfl h48 rfl ?_
      refine wa_iload_n X 1 dX11_count_125 rfl ?_
      refine wa_bipush (v := (10 : Int32)) X dX11_count_126 (by decide) ?_
      refine wa_isub X dX11_count_128 ?_
      obtain ⟨q49, h50, hf⟩ := jde_some hf
      obtain ⟨h51, hf⟩ := jckT hf
      obtain ⟨h52, hf⟩ := jck_some hf
      refine wa_riald X dX11_count_129 h50 h51 h52 ?_
      refine wa_goto (tgt := 134) X dX11_count_130 (by decide) ?_
      obtain ⟨rfl, rfl, rfl, rfl⟩ := jret hf
      exact wa_iret X dX11_count_134 rfl (by omega) (by omega)
