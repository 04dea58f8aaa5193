/-! functions and walks, by program -/
theorem dX11_worldMany_0 : decode cX11_worldMany 0 = .ok (.iconst 0, 1) := by decide +kernel
theorem dX11_worldMany_1 : decode cX11_worldMany 1 = .ok (.istore_n 1, 1) := by decide +kernel
theorem dX11_worldMany_2 : decode cX11_worldMany 2 = .ok (.iconst 0, 1) := by decide +kernel
theorem dX11_worldMany_3 : decode cX11_worldMany 3 = .ok (.istore_n 2, 1) := by decide +kernel
theorem dX11_worldMany_4 : decode cX11_worldMany 4 = .ok (.aload_n 0, 1) := by decide +kernel
theorem dX11_worldMany_5 : decode cX11_worldMany 5 = .ok (.getfield 13, 3) := by decide +kernel
theorem dX11_worldMany_8 : decode cX11_worldMany 8 = .ok (.ifCond .lt 35, 3) := by decide +kernel
theorem dX11_worldMany_11 : decode cX11_worldMany 11 = .ok (.iload_n 2, 1) := by decide +kernel
theorem dX11_worldMany_12 : decode cX11_worldMany 12 = .ok (.iconst 1, 1) := by decide +kernel
theorem dX11_worldMany_13 : decode cX11_worldMany 13 = .ok (.aload_n 0, 1) := by decide +kernel
theorem dX11_worldMany_14 : decode cX11_worldMany 14 = .ok (.getfield 13, 3) := by decide +kernel
theorem dX11_worldMany_17 : decode cX11_worldMany 17 = .ok (.ishl, 1) := by decide +kernel
theorem dX11_worldMany_18 : decode cX11_worldMany 18 = .ok (.if_icmp .ge 25, 3) := by decide +kernel
theorem dX11_worldMany_21 : decode cX11_worldMany 21 = .ok (.iload_n 1, 1) := by decide +kernel
theorem dX11_worldMany_22 : decode cX11_worldMany 22 = .ok (.aload_n 0, 1) := by decide +kernel
theorem dX11_worldMany_23 : decode cX11_worldMany 23 = .ok (.iload_n 2, 1) := by decide +kernel
theorem dX11_worldMany_24 : decode cX11_worldMany 24 = .ok (.invokevirtual 408, 3) := by decide +kernel
theorem dX11_worldMany_27 : decode cX11_worldMany 27 = .ok (.ifCond .eq 7, 3) := by decide +kernel
theorem dX11_worldMany_30 : decode cX11_worldMany 30 = .ok (.iconst 1, 1) := by decide +kernel
theorem dX11_worldMany_31 : decode cX11_worldMany 31 = .ok (.goto 4, 3) := by decide +kernel
theorem dX11_worldMany_34 : decode cX11_worldMany 34 = .ok (.iconst 0, 1) := by decide +kernel
theorem dX11_worldMany_35 : decode cX11_worldMany 35 = .ok (.iadd, 1) := by decide +kernel
theorem dX11_worldMany_36 : decode cX11_worldMany 36 = .ok (.istore_n 1, 1) := by decide +kernel
theorem dX11_worldMany_37 : decode cX11_worldMany 37 = .ok (.iinc 2 1, 3) := by decide +kernel
theorem dX11_worldMany_40 : decode cX11_worldMany 40 = .ok (.goto (-36), 3) := by decide +kernel
theorem dX11_worldMany_43 : decode cX11_worldMany 43 = .ok (.iload_n 1, 1) := by decide +kernel
theorem dX11_worldMany_44 : decode cX11_worldMany 44 = .ok (.ireturn, 1) := by decide +kernel
def fX11_worldMany_b35 (rec4 : Nat → Int32 → Int32 → JM → JO (Int32)) (a : Nat) (x2 : Int32) (s0 : Int32) (s1 : Int32) (μ : JM) : JO (Int32) := rec4 a (s1 + s0) (x2 + (1 : Int32)) μ
set_option maxHeartbeats 4000000 in
set_option maxRecDepth 100000 in
theorem gX11_worldMany_b35 {b : Nat} {Θ : JE} {RC RS : Nat} {r : Int32} {ν : JM} (X : jX b Θ RX11 cX11_worldMany 3 (some .int) 1 21 RC RS) {rec4 : Nat → Int32 → Int32 → JM → JO (Int32)} (hrec4 : ∀ (a : Nat) (x1 : Int32) (x2 : Int32) (μ : JM) (c m k n : Nat), rec4 a x1 x2 μ = some (r, ν, c, m) → k + c = RC → n + m = RS → WA b Θ 3 (jE b Θ (some (.int r)) ν RC RS) μ k n 4 [(0, va_rf (some a)), (1, .int x1), (2, .int x2)] []) (a : Nat) (x2 : Int32) (s0 : Int32) (s1 : Int32) (μ : JM) (c m k n : Nat) (hf : fX11_worldMany_b35 rec4 a x2 s0 s1 μ = some (r, ν, c, m)) (hk : k + c = RC) (hn : n + m = RS) : WA b Θ 3 (jE b Θ (some (.int r)) ν RC RS) μ k n 35 [(0, va_rf (some a)), (2, .int x2)] [.int s0, .int s1] := by
  rw [fX11_worldMany_b35] at hf
  refine wa_iadd X dX11_worldMany_35 ?_
  refine wa_istore_n (L2 := [(1, .int (s1 + s0)), (0, va_rf (some a)), (2, .int x2)]) X dX11_worldMany_36 (by decide) (by first | rfl | (show (1, _) :: List.filter (fun q : Nat × Value => !(q.1 == 1) && !(q.1 + 1 == 1 && q.2.category == 2)) _ = _; simp [va_rf_cat, cat_i, cat_l])) ?_
  refine wa_iinc (v := (x2 + (1 : Int32))) (L2 := [(2, .int (x2 + (1 : Int32))), (1, .int (s1 + s0)), (0, va_rf (some a))]) X 2 dX11_worldMany_37 rfl rfl (by decide) (by first | rfl | simp [va_rf_cat, cat_i, cat_l]) ?_
  refine wa_goto (tgt := 4) X dX11_worldMany_40 (by decide) ?_
  refine wa_sub (L2 := [(0, va_rf (some a)), (1, .int (s1 + s0)), (2, .int (x2 + (1 : Int32)))]) [2, 1, 0] rfl ?_
  exact hrec4 a (s1 + s0) (x2 + (1 : Int32)) μ _ _ _ _ hf (by omega) (by omega)
def fX11_worldMany_b4 : Nat → Nat → Int32 → Int32 → JM → JO (Int32)
  | 0, _, _, _, _ => none
  | fu + 1, a, x1, x2, μ => jck ((jT μ a).1 == 12) <| if (jI μ a 2) < 0 then (some (x1, μ, 0, 0)) else (if (jshl (1 : Int32) (jI μ a 2)) ≤ x2 then (some (x1, μ, 0, 0)) else (jcl (fX11_isIn a x2 μ) fun r4 μ5 => if r4 = 0 then (fX11_worldMany_b35 (fX11_worldMany_b4 fu) a x2 (0 : Int32) x1 μ5) else (fX11_worldMany_b35 (fX11_worldMany_b4 fu) a x2 (1 : Int32) x1 μ5)))
set_option maxHeartbeats 4000000 in
set_option maxRecDepth 100000 in
theorem gX11_worldMany_b4 {b : Nat} {Θ : JE} {RC RS : Nat} {r : Int32} {ν : JM} (X : jX b Θ RX11 cX11_worldMany 3 (some .int) 1 21 RC RS) : ∀ (fu : Nat) (a : Nat) (x1 : Int32) (x2 : Int32) (μ : JM) (c m k n : Nat), fX11_worldMany_b4 fu a x1 x2 μ = some (r, ν, c, m) → k + c = RC → n + m = RS → WA b Θ 3 (jE b Θ (some (.int r)) ν RC RS) μ k n 4 [(0, va_rf (some a)), (1, .int x1), (2, .int x2)] [] := by
  intro fu
  induction fu with
  | zero => intro a x1 x2 μ c m k n hf; cases hf
  | succ fu ih =>
    intro a x1 x2 μ c m k n hf hk hn
    rw [fX11_worldMany_b4] at hf
    refine wa_aload_n X 0 dX11_worldMany_4 rfl ?_
    obtain ⟨h1, hf⟩ := jckT hf
    refine wa_getI X dX11_worldMany_5 lfX11_13 rfl h1 rfl ?_
    refine wa_iflt (tgt := 43) X dX11_worldMany_8 (by decide) (fun h2 => ?_) (fun h2 => ?_)
    · rw [if_pos h2] at hf
      refine wa_iload_n X 1 dX11_worldMany_43 rfl ?_
      obtain ⟨rfl, rfl, rfl, rfl⟩ := jret hf
      exact wa_iret X dX11_worldMany_44 rfl (by omega) (by omega)
    · rw [if_neg h2] at hf
      refine wa_iload_n X 2 dX11_worldMany_11 rfl ?_
      refine wa_iconst (v := (1 : Int32)) X dX11_worldMany_12 (by decide) ?_
      refine wa_aload_n X 0 dX11_worldMany_13 rfl ?_
      refine wa_getI X dX11_worldMany_14 lfX11_13 rfl h1 rfl ?_
      refine wa_ishl X dX11_worldMany_17 ?_
      refine wa_icge (tgt := 43) X dX11_worldMany_18 (by decide) (fun h3 => ?_) (fun h3 => ?_)
      · rw [if_pos h3] at hf
        refine wa_iload_n X 1 dX11_worldMany_43 rfl ?_
        obtain ⟨rfl, rfl, rfl, rfl⟩ := jret hf
        exact wa_iret X dX11_worldMany_44 rfl (by omega) (by omega)
      · rw [if_neg h3] at hf
        refine wa_iload_n X 1 dX11_worldMany_21 rfl ?_
        refine wa_aload_n X 0 dX11_worldMany_22 rfl ?_
        refine wa_iload_n X 2 dX11_worldMany_23 rfl ?_
        obtain ⟨r4, μ5, c6, m7, c8, m9, e10, hf, h11, h12⟩ := jcl_some hf
        refine wa_rcallV (st2 := [.int r4, .int x1]) X dX11_worldMany_24 lmX11_408 lMX11_isIn rfl h1 (mX11_isIn e10) rfl rfl rfl (va_cats (Nat.le_of_ble_eq_true rfl)) (by decide) (by omega) (by omega) ?_
        refine wa_ifeq (tgt := 34) X dX11_worldMany_27 (by decide) (fun h13 => ?_) (fun h13 => ?_)
        · rw [if_pos h13] at hf
          refine wa_iconst (v := (0 : Int32)) X dX11_worldMany_34 (by decide) ?_
          refine wa_sub (L2 := [(0, va_rf (some a)), (2, .int x2)]) [0, 2] rfl ?_
          exact gX11_worldMany_b35 X ih a x2 (0 : Int32) x1 μ5 _ _ _ _ hf (by omega) (by omega)
        · rw [if_neg h13] at hf
          refine wa_iconst (v := (1 : Int32)) X dX11_worldMany_30 (by decide) ?_
          refine wa_goto (tgt := 35) X dX11_worldMany_31 (by decide) ?_
          refine wa_sub (L2 := [(0, va_rf (some a)), (2, .int x2)]) [0, 2] rfl ?_
          exact gX11_worldMany_b35 X ih a x2 (1 : Int32) x1 μ5 _ _ _ _ hf (by omega) (by omega)
def fX11_worldMany (a : Nat) (μ : JM) : JO (Int32) := fX11_worldMany_b4  jfuel a (0 : Int32) (0 : Int32) μ
set_option maxHeartbeats 4000000 in
set_option maxRecDepth 100000 in
theorem mX11_worldMany {b : Nat} {a : Nat} {μ : JM} {r : Int32} {ν : JM} {c m : Nat} (hf : fX11_worldMany a μ = some (r, ν, c, m)) : JMet b yX11_worldMany cX11_worldMany 3 (some .int) 1 21 [va_rf (some a)] μ (some (.int r)) ν c m := by
  refine JMet.of (by decide) (lg_sl_le (by simp only [List.map_cons, List.map_nil, List.sum_cons, List.sum_nil, va_rf_cat]; exact Nat.le_of_ble_eq_true rfl)) (fun Θ X hin => ?_)
  refine wa_eq (L2 := [(0, va_rf (some a))]) ?_ rfl (by first | rfl | simp [lv_args, va_rf_cat, cat_i, cat_l]) rfl
  obtain ⟨k, hk0⟩ : ∃ k : Nat, k = 0 := ⟨0, rfl⟩
  obtain ⟨n, hn0⟩ : ∃ n : Nat, n = 0 := ⟨0, rfl⟩
  have hk : k + c = c := by omega
  have hn : n + m = m := by omega
  refine wa_costs hk0.symm hn0.symm ?_
  rw [fX11_worldMany] at hf
  refine wa_iconst (v := (0 : Int32)) X dX11_worldMany_0 (by decide) ?_
  refine wa_istore_n (L2 := [(1, .int (0 : Int32)), (0, va_rf (some a))]) X dX11_worldMany_1 (by decide) (by first | rfl | (show (1, _) :: List.filter (fun q : Nat × Value => !(q.1 == 1) && !(q.1 + 1 == 1 && q.2.category == 2)) _ = _; simp [va_rf_cat, cat_i, cat_l])) ?_
  refine wa_iconst (v := (0 : Int32)) X dX11_worldMany_2 (by decide) ?_
  refine wa_istore_n (L2 := [(2, .int (0 : Int32)), (1, .int (0 : Int32)), (0, va_rf (some a))]) X dX11_worldMany_3 (by decide) (by first | rfl | (show (2, _) :: List.filter (fun q : Nat × Value => !(q.1 == 2) && !(q.1 + 1 == 2 && q.2.category == 2)) _ = _; simp [va_rf_cat, cat_i, cat_l])) ?_
  refine wa_sub (L2 := [(0, va_rf (some a)), (1, .int (0 : Int32)), (2, .int (0 : Int32))]) [2, 1, 0] rfl ?_
  exact gX11_worldMany_b4 X jfuel a (0 : Int32) (0 : Int32) μ _ _ _ _ hf (by omega) (by omega)
theorem dX11_world_0 : decode cX11_world 0 = .ok (.aload_n 0, 1) := by decide +kernel
theorem dX11_world_1 : decode cX11_world 1 = .ok (.invokevirtual 264, 3) := by decide +kernel
theorem dX11_world_4 : decode cX11_world 4 = .ok (.aload_n 0, 1) := by decide +kernel
theorem dX11_world_5 : decode cX11_world 5 = .ok (.getfield 13, 3) := by decide +kernel
theorem dX11_world_8 : decode cX11_world 8 = .ok (.ifCond .ge 5, 3) := by decide +kernel
theorem dX11_world_11 : decode cX11_world 11 = .ok (.iconst (-1), 1) := by decide +kernel
theorem dX11_world_12 : decode cX11_world 12 = .ok (.ireturn, 1) := by decide +kernel
theorem dX11_world_13 : decode cX11_world 13 = .ok (.aload_n 0, 1) := by decide +kernel
theorem dX11_world_14 : decode cX11_world 14 = .ok (.iconst 1, 1) := by decide +kernel
theorem dX11_world_15 : decode cX11_world 15 = .ok (.putfield 280, 3) := by decide +kernel
theorem dX11_world_18 : decode cX11_world 18 = .ok (.aload_n 0, 1) := by decide +kernel
theorem dX11_world_19 : decode cX11_world 19 = .ok (.iconst 0, 1) := by decide +kernel
theorem dX11_world_20 : decode cX11_world 20 = .ok (.putfield 284, 3) := by decide +kernel
theorem dX11_world_23 : decode cX11_world 23 = .ok (.aload_n 0, 1) := by decide +kernel
theorem dX11_world_24 : decode cX11_world 24 = .ok (.getfield 163, 3) := by decide +kernel
theorem dX11_world_27 : decode cX11_world 27 = .ok (.ifCond .ne 38, 3) := by decide +kernel
theorem dX11_world_30 : decode cX11_world 30 = .ok (.aload_n 0, 1) := by decide +kernel
theorem dX11_world_31 : decode cX11_world 31 = .ok (.getfield 194, 3) := by decide +kernel
theorem dX11_world_34 : decode cX11_world 34 = .ok (.ifCond .ne 31, 3) := by decide +kernel
theorem dX11_world_37 : decode cX11_world 37 = .ok (.iconst 0, 1) := by decide +kernel
theorem dX11_world_38 : decode cX11_world 38 = .ok (.istore_n 1, 1) := by decide +kernel
theorem dX11_world_39 : decode cX11_world 39 = .ok (.iload_n 1, 1) := by decide +kernel
theorem dX11_world_40 : decode cX11_world 40 = .ok (.iconst 4, 1) := by decide +kernel
theorem dX11_world_41 : decode cX11_world 41 = .ok (.if_icmp .ge 21, 3) := by decide +kernel
theorem dX11_world_44 : decode cX11_world 44 = .ok (.aload_n 0, 1) := by decide +kernel
theorem dX11_world_45 : decode cX11_world 45 = .ok (.getfield 46, 3) := by decide +kernel
theorem dX11_world_48 : decode cX11_world 48 = .ok (.iload_n 1, 1) := by decide +kernel
theorem dX11_world_49 : decode cX11_world 49 = .ok (.aload_n 0, 1) := by decide +kernel
theorem dX11_world_50 : decode cX11_world 50 = .ok (.getfield 42, 3) := by decide +kernel
theorem dX11_world_53 : decode cX11_world 53 = .ok (.iload_n 1, 1) := by decide +kernel
theorem dX11_world_54 : decode cX11_world 54 = .ok (.laload, 1) := by decide +kernel
theorem dX11_world_55 : decode cX11_world 55 = .ok (.lastore, 1) := by decide +kernel
theorem dX11_world_56 : decode cX11_world 56 = .ok (.iinc 1 1, 3) := by decide +kernel
theorem dX11_world_59 : decode cX11_world 59 = .ok (.goto (-20), 3) := by decide +kernel
theorem dX11_world_62 : decode cX11_world 62 = .ok (.goto 79, 3) := by decide +kernel
theorem dX11_world_65 : decode cX11_world 65 = .ok (.aload_n 0, 1) := by decide +kernel
theorem dX11_world_66 : decode cX11_world 66 = .ok (.getfield 163, 3) := by decide +kernel
theorem dX11_world_69 : decode cX11_world 69 = .ok (.ifCond .ne 33, 3) := by decide +kernel
theorem dX11_world_72 : decode cX11_world 72 = .ok (.aload_n 0, 1) := by decide +kernel
theorem dX11_world_73 : decode cX11_world 73 = .ok (.invokevirtual 315, 3) := by decide +kernel
theorem dX11_world_76 : decode cX11_world 76 = .ok (.ifCond .eq 26, 3) := by decide +kernel
theorem dX11_world_79 : decode cX11_world 79 = .ok (.aload_n 0, 1) := by decide +kernel
theorem dX11_world_80 : decode cX11_world 80 = .ok (.getfield 194, 3) := by decide +kernel
theorem dX11_world_83 : decode cX11_world 83 = .ok (.ifCond .eq 15, 3) := by decide +kernel
theorem dX11_world_86 : decode cX11_world 86 = .ok (.aload_n 0, 1) := by decide +kernel
theorem dX11_world_87 : decode cX11_world 87 = .ok (.iconst 0, 1) := by decide +kernel
theorem dX11_world_88 : decode cX11_world 88 = .ok (.aload_n 0, 1) := by decide +kernel
theorem dX11_world_89 : decode cX11_world 89 = .ok (.getfield 185, 3) := by decide +kernel
theorem dX11_world_92 : decode cX11_world 92 = .ok (.invokevirtual 201, 3) := by decide +kernel
theorem dX11_world_95 : decode cX11_world 95 = .ok (.ifCond .eq 7, 3) := by decide +kernel
theorem dX11_world_98 : decode cX11_world 98 = .ok (.iconst 1, 1) := by decide +kernel
theorem dX11_world_99 : decode cX11_world 99 = .ok (.goto 4, 3) := by decide +kernel
theorem dX11_world_102 : decode cX11_world 102 = .ok (.iconst 0, 1) := by decide +kernel
theorem dX11_world_103 : decode cX11_world 103 = .ok (.istore_n 1, 1) := by decide +kernel
theorem dX11_world_104 : decode cX11_world 104 = .ok (.iload_n 1, 1) := by decide +kernel
theorem dX11_world_105 : decode cX11_world 105 = .ok (.ifCond .ne 11, 3) := by decide +kernel
theorem dX11_world_108 : decode cX11_world 108 = .ok (.bipush (-2), 2) := by decide +kernel
theorem dX11_world_110 : decode cX11_world 110 = .ok (.aload_n 0, 1) := by decide +kernel
theorem dX11_world_111 : decode cX11_world 111 = .ok (.getfield 163, 3) := by decide +kernel
theorem dX11_world_114 : decode cX11_world 114 = .ok (.isub, 1) := by decide +kernel
theorem dX11_world_115 : decode cX11_world 115 = .ok (.ireturn, 1) := by decide +kernel
theorem dX11_world_116 : decode cX11_world 116 = .ok (.iconst 0, 1) := by decide +kernel
theorem dX11_world_117 : decode cX11_world 117 = .ok (.istore_n 2, 1) := by decide +kernel
theorem dX11_world_118 : decode cX11_world 118 = .ok (.iload_n 2, 1) := by decide +kernel
theorem dX11_world_119 : decode cX11_world 119 = .ok (.iconst 4, 1) := by decide +kernel
theorem dX11_world_120 : decode cX11_world 120 = .ok (.if_icmp .ge 21, 3) := by decide +kernel
theorem dX11_world_123 : decode cX11_world 123 = .ok (.aload_n 0, 1) := by decide +kernel
theorem dX11_world_124 : decode cX11_world 124 = .ok (.getfield 46, 3) := by decide +kernel
theorem dX11_world_127 : decode cX11_world 127 = .ok (.iload_n 2, 1) := by decide +kernel
theorem dX11_world_128 : decode cX11_world 128 = .ok (.aload_n 0, 1) := by decide +kernel
theorem dX11_world_129 : decode cX11_world 129 = .ok (.getfield 61, 3) := by decide +kernel
theorem dX11_world_132 : decode cX11_world 132 = .ok (.iload_n 2, 1) := by decide +kernel
theorem dX11_world_133 : decode cX11_world 133 = .ok (.laload, 1) := by decide +kernel
theorem dX11_world_134 : decode cX11_world 134 = .ok (.lastore, 1) := by decide +kernel
theorem dX11_world_135 : decode cX11_world 135 = .ok (.iinc 2 1, 3) := by decide +kernel
theorem dX11_world_138 : decode cX11_world 138 = .ok (.goto (-20), 3) := by decide +kernel
theorem dX11_world_141 : decode cX11_world 141 = .ok (.aload_n 0, 1) := by decide +kernel
theorem dX11_world_142 : decode cX11_world 142 = .ok (.invokevirtual 405, 3) := by decide +kernel
theorem dX11_world_145 : decode cX11_world 145 = .ok (.ireturn, 1) := by decide +kernel
def fX11_world_b141 (a : Nat) (μ : JM) : JO (Int32) := jck ((jT μ a).1 == 12) <| jcl (fX11_worldMany a μ) fun r35 μ36 => some (r35, μ36, 0, 0)
set_option maxHeartbeats 4000000 in
set_option maxRecDepth 100000 in
theorem gX11_world_b141 {b : Nat} {Θ : JE} {RC RS : Nat} {r : Int32} {ν : JM} (X : jX b Θ RX11 cX11_world 3 (some .int) 5 113 RC RS) (a : Nat) (μ : JM) (c m k n : Nat) (hf : fX11_world_b141 a μ = some (r, ν, c, m)) (hk : k + c = RC) (hn : n + m = RS) : WA b Θ 3 (jE b Θ (some (.int r)) ν RC RS) μ k n 141 [(0, va_rf (some a))] [] := by
  rw [fX11_world_b141] at hf
  refine wa_aload_n X 0 dX11_world_141 rfl ?_
  obtain ⟨h34, hf⟩ := jckT hf
  obtain ⟨r35, μ36, c37, m38, c39, m40, e41, hf, h42, h43⟩ := jcl_some hf
  refine wa_rcallV (st2 := [.int r35]) X dX11_world_142 lmX11_405 lMX11_worldMany rfl h34 (mX11_worldMany e41) rfl rfl rfl (va_cats (Nat.le_of_ble_eq_true rfl)) (by decide) (by omega) (by omega) ?_
  obtain ⟨rfl, rfl, rfl, rfl⟩ := jret hf
  exact wa_iret X dX11_world_145 rfl (by omega) (by omega)
def fX11_world_b39 : Nat → Nat → Int32 → JM → JO (Int32)
  | 0, _, _, _ => none
  | fu + 1, a, x1, μ => if (4 : Int32) ≤ x1 then (fX11_world_b141  a μ) else (jck ((jT μ a).1 == 12) <| jde (jP μ a 22) fun q23 => jck ((jT μ q23).1 == 102) <| jck (jin x1 (jT μ q23).2) <| jde (jP μ a 23) fun q27 => jck ((jT μ q27).1 == 102) <| jck (jin x1 (jT μ q27).2) <| jlt (jsJ μ q27 (x1).toNatClampNeg (jJ μ q23 (x1).toNatClampNeg)) fun μ31 => fX11_world_b39 fu a (x1 + (1 : Int32)) μ31)
set_option maxHeartbeats 4000000 in
set_option maxRecDepth 100000 in
theorem gX11_world_b39 {b : Nat} {Θ : JE} {RC RS : Nat} {r : Int32} {ν : JM} (X : jX b Θ RX11 cX11_world 3 (some .int) 5 113 RC RS) : ∀ (fu : Nat) (a : Nat) (x1 : Int32) (μ : JM) (c m k n : Nat), fX11_world_b39 fu a x1 μ = some (r, ν, c, m) → k + c = RC → n + m = RS → WA b Θ 3 (jE b Θ (some (.int r)) ν RC RS) μ k n 39 [(0, va_rf (some a)), (1, .int x1)] [] := by
  intro fu
  induction fu with
  | zero => intro a x1 μ c m k n hf; cases hf
  | succ fu ih =>
    intro a x1 μ c m k n hf hk hn
    rw [fX11_world_b39] at hf
    refine wa_iload_n X 1 dX11_world_39 rfl ?_
    refine wa_iconst (v := (4 : Int32)) X dX11_world_40 (by decide) ?_
    refine wa_icge (tgt := 62) X dX11_world_41 (by decide) (fun h21 => ?_) (fun h21 => ?_)
    · rw [if_pos h21] at hf
      refine wa_goto (tgt := 141) X dX11_world_62 (by decide) ?_
      refine wa_sub (L2 := [(0, va_rf (some a))]) [0] rfl ?_
      exact gX11_world_b141 X a μ _ _ _ _ hf (by omega) (by omega)
    · rw [if_neg h21] at hf
      refine wa_aload_n X 0 dX11_world_44 rfl ?_
      obtain ⟨h22, hf⟩ := jckT hf
      refine wa_getP X dX11_world_45 lfX11_46 rfl h22 rfl ?_
      refine wa_iload_n X 1 dX11_world_48 rfl ?_
      refine wa_aload_n X 0 dX11_world_49 rfl ?_
      refine wa_getP X dX11_world_50 lfX11_42 rfl h22 rfl ?_
      refine wa_iload_n X 1 dX11_world_53 rfl ?_
      obtain ⟨q23, h24, hf⟩ := jde_some hf
      obtain ⟨h25, hf⟩ := jckT hf
      obtain ⟨h26, hf⟩ := jck_some hf
      refine wa_rlald X dX11_world_54 h24 h25 h26 ?_
      obtain ⟨q27, h28, hf⟩ := jde_some hf
      obtain ⟨h29, hf⟩ := jckT hf
      obtain ⟨h30, hf⟩ := jck_some hf
      obtain ⟨μ31, hm32, hf⟩ := jlt_e hf
      have e33 : jT μ31 = jT μ := by rw [hm32]; rfl
      refine wa_rlast (ν := μ31) X dX11_world_55 h28 h29 h30 hm32 ?_
      refine wa_iinc (v := (x1 + (1 : Int32))) (L2 := [(1, .int (x1 + (1 : Int32))), (0, va_rf (some a))]) X 1 dX11_world_56 rfl rfl (by decide) (by first | rfl | simp [va_rf_cat, cat_i, cat_l]) ?_
      refine wa_goto (tgt := 39) X dX11_world_59 (by decide) ?_
      refine wa_sub (L2 := [(0, va_rf (some a)), (1, .int (x1 + (1 : Int32)))]) [1, 0] rfl ?_
      exact ih a (x1 + (1 : Int32)) μ31 _ _ _ _ hf (by omega) (by omega)
def fX11_world_b118 : Nat → Nat → Int32 → JM → JO (Int32)
  | 0, _, _, _ => none
  | fu + 1, a, x2, μ => if (4 : Int32) ≤ x2 then (fX11_world_b141  a μ) else (jck ((jT μ a).1 == 12) <| jde (jP μ a 28) fun q72 => jck ((jT μ q72).1 == 102) <| jck (jin x2 (jT μ q72).2) <| jde (jP μ a 23) fun q76 => jck ((jT μ q76).1 == 102) <| jck (jin x2 (jT μ q76).2) <| jlt (jsJ μ q76 (x2).toNatClampNeg (jJ μ q72 (x2).toNatClampNeg)) fun μ80 => fX11_world_b118 fu a (x2 + (1 : Int32)) μ80)
set_option maxHeartbeats 4000000 in
set_option maxRecDepth 100000 in
theorem gX11_world_b118 {b : Nat} {Θ : JE} {RC RS : Nat} {r : Int32} {ν : JM} (X : jX b Θ RX11 cX11_world 3 (some .int) 5 113 RC RS) : ∀ (fu : Nat) (a : Nat) (x2 : Int32) (μ : JM) (c m k n : Nat), fX11_world_b118 fu a x2 μ = some (r, ν, c, m) → k + c = RC → n + m = RS → WA b Θ 3 (jE b Θ (some (.int r)) ν RC RS) μ k n 118 [(0, va_rf (some a)), (2, .int x2)] [] := by
  intro fu
  induction fu with
  | zero => intro a x2 μ c m k n hf; cases hf
  | succ fu ih =>
    intro a x2 μ c m k n hf hk hn
    rw [fX11_world_b118] at hf
    refine wa_iload_n X 1 dX11_world_118 rfl ?_
    refine wa_iconst (v := (4 : Int32)) X dX11_world_119 (by decide) ?_
    refine wa_icge (tgt := 141) X dX11_world_120 (by decide) (fun h70 => ?_) (fun h70 => ?_)
    · rw [if_pos h70] at hf
      refine wa_sub (L2 := [(0, va_rf (some a))]) [0] rfl ?_
      exact gX11_world_b141 X a μ _ _ _ _ hf (by omega) (by omega)
    · rw [if_neg h70] at hf
      refine wa_aload_n X 0 dX11_world_123 rfl ?_
      obtain ⟨h71, hf⟩ := jckT hf
      refine wa_getP X dX11_world_124 lfX11_46 rfl h71 rfl ?_
      refine wa_iload_n X 1 dX11_world_127 rfl ?_
      refine wa_aload_n X 0 dX11_world_128 rfl ?_
      refine wa_getP X dX11_world_129 lfX11_61 rfl h71 rfl ?_
      refine wa_iload_n X 1 dX11_world_132 rfl ?_
      obtain ⟨q72, h73, hf⟩ := jde_some hf
      obtain ⟨h74, hf⟩ := jckT hf
      obtain ⟨h75, hf⟩ := jck_some hf
      refine wa_rlald X dX11_world_133 h73 h74 h75 ?_
      obtain ⟨q76, h77, hf⟩ := jde_some hf
      obtain ⟨h78, hf⟩ := jckT hf
      obtain ⟨h79, hf⟩ := jck_some hf
      obtain ⟨μ80, hm81, hf⟩ := jlt_e hf
      have e82 : jT μ80 = jT μ := by rw [hm81]; rfl
      refine wa_rlast (ν := μ80) X dX11_world_134 h77 h78 h79 hm81 ?_
      refine wa_iinc (v := (x2 + (1 : Int32))) (L2 := [(2, .int (x2 + (1 : Int32))), (0, va_rf (some a))]) X 1 dX11_world_135 rfl rfl (by decide) (by first | rfl | simp [va_rf_cat, cat_i, cat_l]) ?_
      refine wa_goto (tgt := 118) X dX11_world_138 (by decide) ?_
      refine wa_sub (L2 := [(0, va_rf (some a)), (2, .int (x2 + (1 : Int32)))]) [1, 0] rfl ?_
      exact ih a (x2 + (1 : Int32)) μ80 _ _ _ _ hf (by omega) (by omega)
def fX11_world_b103 (a : Nat) (s0 : Int32) (μ : JM) : JO (Int32) := if s0 = 0 then (jck ((jT μ a).1 == 12) <| some (((-2 : Int32) - (jI μ a 18)), μ, 0, 0)) else (fX11_world_b118  jfuel a (0 : Int32) μ)
set_option maxHeartbeats 4000000 in
set_option maxRecDepth 100000 in
theorem gX11_world_b103 {b : Nat} {Θ : JE} {RC RS : Nat} {r : Int32} {ν : JM} (X : jX b Θ RX11 cX11_world 3 (some .int) 5 113 RC RS) (a : Nat) (s0 : Int32) (μ : JM) (c m k n : Nat) (hf : fX11_world_b103 a s0 μ = some (r, ν, c, m)) (hk : k + c = RC) (hn : n + m = RS) : WA b Θ 3 (jE b Θ (some (.int r)) ν RC RS) μ k n 103 [(0, va_rf (some a))] [.int s0] := by
  rw [fX11_world_b103] at hf
  refine wa_istore_n (L2 := [(1, .int s0), (0, va_rf (some a))]) X dX11_world_103 (by decide) (by first | rfl | (show (1, _) :: List.filter (fun q : Nat × Value => !(q.1 == 1) && !(q.1 + 1 == 1 && q.2.category == 2)) _ = _; simp [va_rf_cat, cat_i, cat_l])) ?_
  refine wa_iload_n X 0 dX11_world_104 rfl ?_
  refine wa_ifne (tgt := 116) X dX11_world_105 (by decide) (fun h68 => ?_) (fun h68 => ?_)
  · rw [if_neg h68] at hf
    refine wa_iconst (v := (0 : Int32)) X dX11_world_116 (by decide) ?_
    refine wa_istore_n (L2 := [(2, .int (0 : Int32)), (1, .int s0), (0, va_rf (some a))]) X dX11_world_117 (by decide) (by first | rfl | (show (2, _) :: List.filter (fun q : Nat × Value => !(q.1 == 2) && !(q.1 + 1 == 2 && q.2.category == 2)) _ = _; simp [va_rf_cat, cat_i, cat_l])) ?_
    refine wa_sub (L2 := [(0, va_rf (some a)), (2, .int (0 : Int32))]) [2, 0] rfl ?_
    exact gX11_world_b118 X jfuel a (0 : Int32) μ _ _ _ _ hf (by omega) (by omega)
  · rw [if_pos h68] at hf
    refine wa_bipush (v := (-2 : Int32)) X dX11_world_108 (by decide) ?_
    refine wa_aload_n X 1 dX11_world_110 rfl ?_
    obtain ⟨h69, hf⟩ := jckT hf
    refine wa_getI X dX11_world_111 lfX11_163 rfl h69 rfl ?_
    refine wa_isub X dX11_world_114 ?_
    obtain ⟨rfl, rfl, rfl, rfl⟩ := jret hf
    exact wa_iret X dX11_world_115 rfl (by omega) (by omega)
def fX11_world_b98 (a : Nat) (μ : JM) : JO (Int32) := fX11_world_b103  a (1 : Int32) μ
set_option maxHeartbeats 4000000 in
set_option maxRecDepth 100000 in
theorem gX11_world_b98 {b : Nat} {Θ : JE} {RC RS : Nat} {r : Int32} {ν : JM} (X : jX b Θ RX11 cX11_world 3 (some .int) 5 113 RC RS) (a : Nat) (μ : JM) (c m k n : Nat) (hf : fX11_world_b98 a μ = some (r, ν, c, m)) (hk : k + c = RC) (hn : n + m = RS) : WA b Θ 3 (jE b Θ (some (.int r)) ν RC RS) μ k n 98 [(0, va_rf (some a))] [] := by
  rw [fX11_world_b98] at hf
  refine wa_iconst (v := (1 : Int32)) X dX11_world_98 (by decide) ?_
  refine wa_goto (tgt := 103) X dX11_world_99 (by decide) ?_
  refine wa_sub (L2 := [(0, va_rf (some a))]) [0] rfl ?_
  exact gX11_world_b103 X a (1 : Int32) μ _ _ _ _ hf (by omega) (by omega)
def fX11_world_b102 (a : Nat) (μ : JM) : JO (Int32) := fX11_world_b103  a (0 : Int32) μ
set_option maxHeartbeats 4000000 in
set_option maxRecDepth 100000 in
theorem gX11_world_b102 {b : Nat} {Θ : JE} {RC RS : Nat} {r : Int32} {ν : JM} (X : jX b Θ RX11 cX11_world 3 (some .int) 5 113 RC RS) (a : Nat) (μ : JM) (c m k n : Nat) (hf : fX11_world_b102 a μ = some (r, ν, c, m)) (hk : k + c = RC) (hn : n + m = RS) : WA b Θ 3 (jE b Θ (some (.int r)) ν RC RS) μ k n 102 [(0, va_rf (some a))] [] := by
  rw [fX11_world_b102] at hf
  refine wa_iconst (v := (0 : Int32)) X dX11_world_102 (by decide) ?_
  refine wa_sub (L2 := [(0, va_rf (some a))]) [0] rfl ?_
  exact gX11_world_b103 X a (0 : Int32) μ _ _ _ _ hf (by omega) (by omega)
def fX11_world_b65 (a : Nat) (μ : JM) : JO (Int32) := jck ((jT μ a).1 == 12) <| if (jI μ a 18) = 0 then (jcl (fX11_condition a μ) fun r46 μ47 => if r46 = 0 then (fX11_world_b102  a μ47) else (jck ((jT μ47 a).1 == 12) <| if (jI μ47 a 14) = 0 then (fX11_world_b98  a μ47) else (jcl (fX11_fails a (0 : Int32) (jI μ47 a 15) μ47) fun r58 μ59 => if r58 = 0 then (fX11_world_b102  a μ59) else (fX11_world_b98  a μ59)))) else (fX11_world_b102  a μ)
set_option maxHeartbeats 4000000 in
set_option maxRecDepth 100000 in
theorem gX11_world_b65 {b : Nat} {Θ : JE} {RC RS : Nat} {r : Int32} {ν : JM} (X : jX b Θ RX11 cX11_world 3 (some .int) 5 113 RC RS) (a : Nat) (μ : JM) (c m k n : Nat) (hf : fX11_world_b65 a μ = some (r, ν, c, m)) (hk : k + c = RC) (hn : n + m = RS) : WA b Θ 3 (jE b Θ (some (.int r)) ν RC RS) μ k n 65 [(0, va_rf (some a))] [] := by
  rw [fX11_world_b65] at hf
  refine wa_aload_n X 0 dX11_world_65 rfl ?_
  obtain ⟨h44, hf⟩ := jckT hf
  refine wa_getI X dX11_world_66 lfX11_163 rfl h44 rfl ?_
  refine wa_ifne (tgt := 102) X dX11_world_69 (by decide) (fun h45 => ?_) (fun h45 => ?_)
  · rw [if_neg h45] at hf
    refine wa_sub (L2 := [(0, va_rf (some a))]) [0] rfl ?_
    exact gX11_world_b102 X a μ _ _ _ _ hf (by omega) (by omega)
  · rw [if_pos h45] at hf
    refine wa_aload_n X 0 dX11_world_72 rfl ?_
    obtain ⟨r46, μ47, c48, m49, c50, m51, e52, hf, h53, h54⟩ := jcl_some hf
    refine wa_rcallV (st2 := [.int r46]) X dX11_world_73 lmX11_315 lMX11_condition rfl h44 (mX11_condition e52) rfl rfl rfl (va_cats (Nat.le_of_ble_eq_true rfl)) (by decide) (by omega) (by omega) ?_
    refine wa_ifeq (tgt := 102) X dX11_world_76 (by decide) (fun h55 => ?_) (fun h55 => ?_)
    · rw [if_pos h55] at hf
      refine wa_sub (L2 := [(0, va_rf (some a))]) [0] rfl ?_
      exact gX11_world_b102 X a μ47 _ _ _ _ hf (by omega) (by omega)
    · rw [if_neg h55] at hf
      refine wa_aload_n X 0 dX11_world_79 rfl ?_
      obtain ⟨h56, hf⟩ := jckT hf
      refine wa_getI X dX11_world_80 lfX11_194 rfl h56 rfl ?_
      refine wa_ifeq (tgt := 98) X dX11_world_83 (by decide) (fun h57 => ?_) (fun h57 => ?_)
      · rw [if_pos h57] at hf
        refine wa_sub (L2 := [(0, va_rf (some a))]) [0] rfl ?_
        exact gX11_world_b98 X a μ47 _ _ _ _ hf (by omega) (by omega)
      · rw [if_neg h57] at hf
        refine wa_aload_n X 0 dX11_world_86 rfl ?_
        refine wa_iconst (v := (0 : Int32)) X dX11_world_87 (by decide) ?_
        refine wa_aload_n X 0 dX11_world_88 rfl ?_
        refine wa_getI X dX11_world_89 lfX11_185 rfl h56 rfl ?_
        obtain ⟨r58, μ59, c60, m61, c62, m63, e64, hf, h65, h66⟩ := jcl_some hf
        refine wa_rcallV (st2 := [.int r58]) X dX11_world_92 lmX11_201 lMX11_fails rfl h56 (mX11_fails e64) rfl rfl rfl (va_cats (Nat.le_of_ble_eq_true rfl)) (by decide) (by omega) (by omega) ?_
        refine wa_ifeq (tgt := 102) X dX11_world_95 (by decide) (fun h67 => ?_) (fun h67 => ?_)
        · rw [if_pos h67] at hf
          refine wa_sub (L2 := [(0, va_rf (some a))]) [0] rfl ?_
          exact gX11_world_b102 X a μ59 _ _ _ _ hf (by omega) (by omega)
        · rw [if_neg h67] at hf
          refine wa_sub (L2 := [(0, va_rf (some a))]) [0] rfl ?_
          exact gX11_world_b98 X a μ59 _ _ _ _ hf (by omega) (by omega)
def fX11_world (a : Nat) (μ : JM) : JO (Int32) := jck ((jT μ a).1 == 12) <| jcl (fX11_takesTape a μ) fun u2 μ3 => jck ((jT μ3 a).1 == 12) <| if 0 ≤ (jI μ3 a 2) then (jlt (jsI μ3 a 33 (1 : Int32)) fun μ13 => jlt (jsI μ13 a 29 (0 : Int32)) fun μ16 => if (jI μ16 a 18) = 0 then (if (jI μ16 a 14) = 0 then (fX11_world_b39  jfuel a (0 : Int32) μ16) else (fX11_world_b65  a μ16)) else (fX11_world_b65  a μ16)) else (some ((-1 : Int32), μ3, 0, 0))
set_option maxHeartbeats 4000000 in
set_option maxRecDepth 100000 in
theorem mX11_world {b : Nat} {a : Nat} {μ : JM} {r : Int32} {ν : JM} {c m : Nat} (hf : fX11_world a μ = some (r, ν, c, m)) : JMet b yX11_world cX11_world 3 (some .int) 5 113 [va_rf (some a)] μ (some (.int r)) ν c m := by
  refine JMet.of (by decide) (lg_sl_le (by simp only [List.map_cons, List.map_nil, List.sum_cons, List.sum_nil, va_rf_cat]; exact Nat.le_of_ble_eq_true rfl)) (fun Θ X hin => ?_)
  refine wa_eq (L2 := [(0, va_rf (some a))]) ?_ rfl (by first | rfl | simp [lv_args, va_rf_cat, cat_i, cat_l]) rfl
  obtain ⟨k, hk0⟩ : ∃ k : Nat, k = 0 := ⟨0, rfl⟩
  obtain ⟨n, hn0⟩ : ∃ n : Nat, n = 0 := ⟨0, rfl⟩
  have hk : k + c = c := by omega
  have hn : n + m = m := by omega
  refine wa_costs hk0.symm hn0.symm ?_
  rw [fX11_world] at hf
  refine wa_aload_n X 0 dX11_world_0 rfl ?_
  obtain ⟨h1, hf⟩ := jckT hf
  obtain ⟨u2, μ3, c4, m5, c6, m7, e8, hf, h9, h10⟩ := jcl_some hf
  refine wa_rcallV (st2 := []) X dX11_world_1 lmX11_264 lMX11_takesTape rfl h1 (mX11_takesTape e8) rfl rfl rfl (va_cats (Nat.le_of_ble_eq_true rfl)) (by decide) (by omega) (by omega) ?_
  refine wa_aload_n X 0 dX11_world_4 rfl ?_
  obtain ⟨h11, hf⟩ := jckT hf
  refine wa_getI X dX11_world_5 lfX11_13 rfl h11 rfl ?_
  refine wa_ifge (tgt := 13) X dX11_world_8 (by decide) (fun h12 => ?_) (fun h12 => ?_)
  · rw [if_pos h12] at hf
    refine wa_aload_n X 0 dX11_world_13 rfl ?_
    refine wa_iconst (v := (1 : Int32)) X dX11_world_14 (by decide) ?_
    obtain ⟨μ13, hm14, hf⟩ := jlt_e hf
    have e15 : jT μ13 = jT μ3 := by rw [hm14]; rfl
    refine wa_rputZ (ν := μ13) X dX11_world_15 lfX11_280 rfl h11 rfl (by decide) rfl hm14 ?_
    refine wa_aload_n X 0 dX11_world_18 rfl ?_
    refine wa_iconst (v := (0 : Int32)) X dX11_world_19 (by decide) ?_
    obtain ⟨μ16, hm17, hf⟩ := jlt_e hf
    have e18 : jT μ16 = jT μ3 := by rw [hm17]; exact e15
    refine wa_rputI (ν := μ16) X dX11_world_20 lfX11_284 rfl (by rw [e15]; exact h11) rfl rfl hm17 ?_
    refine wa_aload_n X 0 dX11_world_23 rfl ?_
    refine wa_getI X dX11_world_24 lfX11_163 rfl (by rw [e18]; exact h11) rfl ?_
    refine wa_ifne (tgt := 65) X dX11_world_27 (by decide) (fun h19 => ?_) (fun h19 => ?_)
    · rw [if_neg h19] at hf
      refine wa_sub (L2 := [(0, va_rf (some a))]) [0] rfl ?_
      exact gX11_world_b65 X a μ16 _ _ _ _ hf (by omega) (by omega)
    · rw [if_pos h19] at hf
      refine wa_aload_n X 0 dX11_world_30 rfl ?_
      refine wa_getI X dX11_world_31 lfX11_194 rfl (by rw [e18]; exact h11) rfl ?_
      refine wa_ifne (tgt := 65) X dX11_world_34 (by decide) (fun h20 => ?_) (fun h20 => ?_)
      · rw [if_neg h20] at hf
        refine wa_sub (L2 := [(0, va_rf (some a))]) [0] rfl ?_
        exact gX11_world_b65 X a μ16 _ _ _ _ hf (by omega) (by omega)
      · rw [if_pos h20] at hf
        refine wa_iconst (v := (0 : Int32)) X dX11_world_37 (by decide) ?_
        refine wa_istore_n (L2 := [(1, .int (0 : Int32)), (0, va_rf (some a))]) X dX11_world_38 (by decide) (by first | rfl | (show (1, _) :: List.filter (fun q : Nat × Value => !(q.1 == 1) && !(q.1 + 1 == 1 && q.2.category == 2)) _ = _; simp [va_rf_cat, cat_i, cat_l])) ?_
        refine wa_sub (L2 := [(0, va_rf (some a)), (1, .int (0 : Int32))]) [1, 0] rfl ?_
        exact gX11_world_b39 X jfuel a (0 : Int32) μ16 _ _ _ _ hf (by omega) (by omega)
  · rw [if_neg h12] at hf
    refine wa_iconst (v := (-1 : Int32)) X dX11_world_11 (by decide) ?_
    obtain ⟨rfl, rfl, rfl, rfl⟩ := jret hf
    exact wa_iret X dX11_world_12 rfl (by omega) (by omega)
theorem dX11_write_0 : decode cX11_write 0 = .ok (.aload_n 0, 1) := by decide +kernel
theorem dX11_write_1 : decode cX11_write 1 = .ok (.iload_n 1, 1) := by decide +kernel
theorem dX11_write_2 : decode cX11_write 2 = .ok (.invokevirtual 393, 3) := by decide +kernel
theorem dX11_write_5 : decode cX11_write 5 = .ok (.ifCond .ne 5, 3) := by decide +kernel
theorem dX11_write_8 : decode cX11_write 8 = .ok (.iconst (-1), 1) := by decide +kernel
theorem dX11_write_9 : decode cX11_write 9 = .ok (.ireturn, 1) := by decide +kernel
theorem dX11_write_10 : decode cX11_write 10 = .ok (.aload_n 0, 1) := by decide +kernel
theorem dX11_write_11 : decode cX11_write 11 = .ok (.aload_n 0, 1) := by decide +kernel
theorem dX11_write_12 : decode cX11_write 12 = .ok (.getfield 113, 3) := by decide +kernel
theorem dX11_write_15 : decode cX11_write 15 = .ok (.aload_n 0, 1) := by decide +kernel
theorem dX11_write_16 : decode cX11_write 16 = .ok (.getfield 116, 3) := by decide +kernel
theorem dX11_write_19 : decode cX11_write 19 = .ok (.iload_n 1, 1) := by decide +kernel
theorem dX11_write_20 : decode cX11_write 20 = .ok (.iaload, 1) := by decide +kernel
theorem dX11_write_21 : decode cX11_write 21 = .ok (.iaload, 1) := by decide +kernel
theorem dX11_write_22 : decode cX11_write 22 = .ok (.putfield 411, 3) := by decide +kernel
theorem dX11_write_25 : decode cX11_write 25 = .ok (.iconst 0, 1) := by decide +kernel
theorem dX11_write_26 : decode cX11_write 26 = .ok (.istore_n 2, 1) := by decide +kernel
theorem dX11_write_27 : decode cX11_write 27 = .ok (.iload_n 2, 1) := by decide +kernel
theorem dX11_write_28 : decode cX11_write 28 = .ok (.aload_n 0, 1) := by decide +kernel
theorem dX11_write_29 : decode cX11_write 29 = .ok (.getfield 411, 3) := by decide +kernel
theorem dX11_write_32 : decode cX11_write 32 = .ok (.if_icmp .ge 33, 3) := by decide +kernel
theorem dX11_write_35 : decode cX11_write 35 = .ok (.aload_n 0, 1) := by decide +kernel
theorem dX11_write_36 : decode cX11_write 36 = .ok (.getfield 137, 3) := by decide +kernel
theorem dX11_write_39 : decode cX11_write 39 = .ok (.iload_n 2, 1) := by decide +kernel
theorem dX11_write_40 : decode cX11_write 40 = .ok (.aload_n 0, 1) := by decide +kernel
theorem dX11_write_41 : decode cX11_write 41 = .ok (.getfield 107, 3) := by decide +kernel
theorem dX11_write_44 : decode cX11_write 44 = .ok (.aload_n 0, 1) := by decide +kernel
theorem dX11_write_45 : decode cX11_write 45 = .ok (.getfield 110, 3) := by decide +kernel
theorem dX11_write_48 : decode cX11_write 48 = .ok (.aload_n 0, 1) := by decide +kernel
theorem dX11_write_49 : decode cX11_write 49 = .ok (.getfield 116, 3) := by decide +kernel
theorem dX11_write_52 : decode cX11_write 52 = .ok (.iload_n 1, 1) := by decide +kernel
theorem dX11_write_53 : decode cX11_write 53 = .ok (.iaload, 1) := by decide +kernel
theorem dX11_write_54 : decode cX11_write 54 = .ok (.iaload, 1) := by decide +kernel
theorem dX11_write_55 : decode cX11_write 55 = .ok (.iload_n 2, 1) := by decide +kernel
theorem dX11_write_56 : decode cX11_write 56 = .ok (.iadd, 1) := by decide +kernel
theorem dX11_write_57 : decode cX11_write 57 = .ok (.baload, 1) := by decide +kernel
theorem dX11_write_58 : decode cX11_write 58 = .ok (.bastore, 1) := by decide +kernel
theorem dX11_write_59 : decode cX11_write 59 = .ok (.iinc 2 1, 3) := by decide +kernel
theorem dX11_write_62 : decode cX11_write 62 = .ok (.goto (-35), 3) := by decide +kernel
theorem dX11_write_65 : decode cX11_write 65 = .ok (.aload_n 0, 1) := by decide +kernel
theorem dX11_write_66 : decode cX11_write 66 = .ok (.getfield 411, 3) := by decide +kernel
theorem dX11_write_69 : decode cX11_write 69 = .ok (.ireturn, 1) := by decide +kernel
def fX11_write_b27 : Nat → Nat → Int32 → Int32 → JM → JO (Int32)
  | 0, _, _, _, _ => none
  | fu + 1, a, x1, x2, μ => jck ((jT μ a).1 == 12) <| if (jI μ a 63) ≤ x2 then (some ((jI μ a 63), μ, 0, 0)) else (jde (jP μ a 50) fun q26 => jck ((jT μ q26).1 == 101) <| jck (jin x1 (jT μ q26).2) <| jde (jP μ a 46) fun q30 => jck ((jT μ q30).1 == 101) <| jck (jin (jI μ q26 (x1).toNatClampNeg) (jT μ q30).2) <| jde (jP μ a 45) fun q34 => jck ((jT μ q34).1 == 100) <| jck (jin ((jI μ q30 ((jI μ q26 (x1).toNatClampNeg)).toNatClampNeg) + x2) (jT μ q34).2) <| jde (jP μ a 62) fun q38 => jck ((jT μ q38).1 == 100) <| jck (jin x2 (jT μ q38).2) <| jlt (jsI μ q38 (x2).toNatClampNeg (vp_nar .byte (jI μ q34 (((jI μ q30 ((jI μ q26 (x1).toNatClampNeg)).toNatClampNeg) + x2)).toNatClampNeg))) fun μ42 => fX11_write_b27 fu a x1 (x2 + (1 : Int32)) μ42)
set_option maxHeartbeats 4000000 in
set_option maxRecDepth 100000 in
theorem gX11_write_b27 {b : Nat} {Θ : JE} {RC RS : Nat} {r : Int32} {ν : JM} (X : jX b Θ RX11 cX11_write 3 (some .int) 3 63 RC RS) : ∀ (fu : Nat) (a : Nat) (x1 : Int32) (x2 : Int32) (μ : JM) (c m k n : Nat), fX11_write_b27 fu a x1 x2 μ = some (r, ν, c, m) → k + c = RC → n + m = RS → WA b Θ 3 (jE b Θ (some (.int r)) ν RC RS) μ k n 27 [(0, va_rf (some a)), (1, .int x1), (2, .int x2)] [] := by
  intro fu
  induction fu with
  | zero => intro a x1 x2 μ c m k n hf; cases hf
  | succ fu ih =>
    intro a x1 x2 μ c m k n hf hk hn
    rw [fX11_write_b27] at hf
    refine wa_iload_n X 2 dX11_write_27 rfl ?_
    refine wa_aload_n X 0 dX11_write_28 rfl ?_
    obtain ⟨h24, hf⟩ := jckT hf
    refine wa_getI X dX11_write_29 lfX11_411 rfl h24 rfl ?_
    refine wa_icge (tgt := 65) X dX11_write_32 (by decide) (fun h25 => ?_) (fun h25 => ?_)
    · rw [if_pos h25] at hf
      refine wa_aload_n X 0 dX11_write_65 rfl ?_
      refine wa_getI X dX11_write_66 lfX11_411 rfl h24 rfl ?_
      obtain ⟨rfl, rfl, rfl, rfl⟩ := jret hf
      exact wa_iret X dX11_write_69 rfl (by omega) (by omega)
    · rw [if_neg h25] at hf
      refine wa_aload_n X 0 dX11_write_35 rfl ?_
      refine wa_getP X dX11_write_36 lfX11_137 rfl h24 rfl ?_
      refine wa_iload_n X 2 dX11_write_39 rfl ?_
      refine wa_aload_n X 0 dX11_write_40 rfl ?_
      refine wa_getP X dX11_write_41 lfX11_107 rfl h24 rfl ?_
      refine wa_aload_n X 0 dX11_write_44 rfl ?_
      refine wa_getP X dX11_write_45 lfX11_110 rfl h24 rfl ?_
      refine wa_aload_n X 0 dX11_write_48 rfl ?_
      refine wa_getP X dX11_write_49 lfX11_116 rfl h24 rfl ?_
      refine wa_iload_n X 1 dX11_write_52 rfl ?_
      obtain ⟨q26, h27, hf⟩ := jde_some hf
      obtain ⟨h28, hf⟩ := jckT hf
      obtain ⟨h29, hf⟩ := jck_some hf
      refine wa_riald X dX11_write_53 h27 h28 h29 ?_
      obtain ⟨q30, h31, hf⟩ := jde_some hf
      obtain ⟨h32, hf⟩ := jckT hf
      obtain ⟨h33, hf⟩ := jck_some hf
      refine wa_riald X dX11_write_54 h31 h32 h33 ?_
      refine wa_iload_n X 2 dX11_write_55 rfl ?_
      refine wa_iadd X dX11_write_56 ?_
      obtain ⟨q34, h35, hf⟩ := jde_some hf
      obtain ⟨h36, hf⟩ := jckT hf
      obtain ⟨h37, hf⟩ := jck_some hf
      refine wa_rbald X dX11_write_57 h35 h36 h37 ?_
      obtain ⟨q38, h39, hf⟩ := jde_some hf
      obtain ⟨h40, hf⟩ := jckT hf
      obtain ⟨h41, hf⟩ := jck_some hf
      obtain ⟨μ42, hm43, hf⟩ := jlt_e hf
      have e44 : jT μ42 = jT μ := by rw [hm43]; rfl
      refine wa_rbast (ν := μ42) X dX11_write_58 h39 h40 h41 hm43 ?_
      refine wa_iinc (v := (x2 + (1 : Int32))) (L2 := [(2, .int (x2 + (1 : Int32))), (0, va_rf (some a)), (1, .int x1)]) X 2 dX11_write_59 rfl rfl (by decide) (by first | rfl | simp [va_rf_cat, cat_i, cat_l]) ?_
      refine wa_goto (tgt := 27) X dX11_write_62 (by decide) ?_
      refine wa_sub (L2 := [(0, va_rf (some a)), (1, .int x1), (2, .int (x2 + (1 : Int32)))]) [1, 2, 0] rfl ?_
      exact ih a x1 (x2 + (1 : Int32)) μ42 _ _ _ _ hf (by omega) (by omega)
def fX11_write (a : Nat) (x1 : Int32) (μ : JM) : JO (Int32) := jck ((jT μ a).1 == 12) <| jcl (fX11_isVersion a x1 μ) fun r2 μ3 => if r2 = 0 then (some ((-1 : Int32), μ3, 0, 0)) else (jck ((jT μ3 a).1 == 12) <| jde (jP μ3 a 50) fun q13 => jck ((jT μ3 q13).1 == 101) <| jck (jin x1 (jT μ3 q13).2) <| jde (jP μ3 a 47) fun q17 => jck ((jT μ3 q17).1 == 101) <| jck (jin (jI μ3 q13 (x1).toNatClampNeg) (jT μ3 q17).2) <| jlt (jsI μ3 a 63 (jI μ3 q17 ((jI μ3 q13 (x1).toNatClampNeg)).toNatClampNeg)) fun μ21 => fX11_write_b27  jfuel a x1 (0 : Int32) μ21)
set_option maxHeartbeats 4000000 in
set_option maxRecDepth 100000 in
theorem mX11_write {b : Nat} {a : Nat} {x1 : Int32} {μ : JM} {r : Int32} {ν : JM} {c m : Nat} (hf : fX11_write a x1 μ = some (r, ν, c, m)) : JMet b yX11_write cX11_write 3 (some .int) 3 63 [va_rf (some a), .int x1] μ (some (.int r)) ν c m := by
  refine JMet.of (by decide) (lg_sl_le (by simp only [List.map_cons, List.map_nil, List.sum_cons, List.sum_nil, va_rf_cat]; exact Nat.le_of_ble_eq_true rfl)) (fun Θ X hin => ?_)
  refine wa_eq (L2 := [(0, va_rf (some a)), (1, .int x1)]) ?_ rfl (by first | rfl | simp [lv_args, va_rf_cat, cat_i, cat_l]) rfl
  obtain ⟨k, hk0⟩ : ∃ k : Nat, k = 0 := ⟨0, rfl⟩
  obtain ⟨n, hn0⟩ : ∃ n : Nat, n = 0 := ⟨0, rfl⟩
  have hk : k + c = c := by omega
  have hn : n + m = m := by omega
  refine wa_costs hk0.symm hn0.symm ?_
  rw [fX11_write] at hf
  refine wa_aload_n X 0 dX11_write_0 rfl ?_
  refine wa_iload_n X 1 dX11_write_1 rfl ?_
  obtain ⟨h1, hf⟩ := jckT hf
  obtain ⟨r2, μ3, c4, m5, c6, m7, e8, hf, h9, h10⟩ := jcl_some hf
  refine wa_rcallV (st2 := [.int r2]) X dX11_write_2 lmX11_393 lMX11_isVersion rfl h1 (mX11_isVersion e8) rfl rfl rfl (va_cats (Nat.le_of_ble_eq_true rfl)) (by decide) (by omega) (by omega) ?_
  refine wa_ifne (tgt := 10) X dX11_write_5 (by decide) (fun h11 => ?_) (fun h11 => ?_)
  · rw [if_neg h11] at hf
    refine wa_aload_n X 0 dX11_write_10 rfl ?_
    refine wa_aload_n X 0 dX11_write_11 rfl ?_
    obtain ⟨h12, hf⟩ := jckT hf
    refine wa_getP X dX11_write_12 lfX11_113 rfl h12 rfl ?_
    refine wa_aload_n X 0 dX11_write_15 rfl ?_
    refine wa_getP X dX11_write_16 lfX11_116 rfl h12 rfl ?_
    refine wa_iload_n X 1 dX11_write_19 rfl ?_
    obtain ⟨q13, h14, hf⟩ := jde_some hf
    obtain ⟨h15, hf⟩ := jckT hf
    obtain ⟨h16, hf⟩ := jck_some hf
    refine wa_riald X dX11_write_20 h14 h15 h16 ?_
    obtain ⟨q17, h18, hf⟩ := jde_some hf
    obtain ⟨h19, hf⟩ := jckT hf
    obtain ⟨h20, hf⟩ := jck_some hf
    refine wa_riald X dX11_write_21 h18 h19 h20 ?_
    obtain ⟨μ21, hm22, hf⟩ := jlt_e hf
    have e23 : jT μ21 = jT μ3 := by rw [hm22]; rfl
    refine wa_rputI (ν := μ21) X dX11_write_22 lfX11_411 rfl h12 rfl rfl hm22 ?_
    refine wa_iconst (v := (0 : Int32)) X dX11_write_25 (by decide) ?_
    refine wa_istore_n (L2 := [(2, .int (0 : Int32)), (0, va_rf (some a)), (1, .int x1)]) X dX11_write_26 (by decide) (by first | rfl | (show (2, _) :: List.filter (fun q : Nat × Value => !(q.1 == 2) && !(q.1 + 1 == 2 && q.2.category == 2)) _ = _; simp [va_rf_cat, cat_i, cat_l])) ?_
    refine wa_sub (L2 := [(0, va_rf (some a)), (1, .int x1), (2, .int (0 : Int32))]) [1, 2, 0] rfl ?_
    exact gX11_write_b27 X jfuel a x1 (0 : Int32) μ21 _ _ _ _ hf (by omega) (by omega)
  · rw [if_pos h11] at hf
    refine wa_iconst (v := (-1 : Int32)) X dX11_write_8 (by decide) ?_
    obtain ⟨rfl, rfl, rfl, rfl⟩ := jret hf
    exact wa_iret X dX11_write_9 rfl (by omega) (by omega)
theorem dX11_octet_0 : decode cX11_octet 0 = .ok (.iload_n 1, 1) := by decide +kernel
theorem dX11_octet_1 : decode cX11_octet 1 = .ok (.iconst 0, 1) := by decide +kernel
theorem dX11_octet_2 : decode cX11_octet 2 = .ok (.aload_n 0, 1) := by decide +kernel
theorem dX11_octet_3 : decode cX11_octet 3 = .ok (.getfield 411, 3) := by decide +kernel
theorem dX11_octet_6 : decode cX11_octet 6 = .ok (.iconst 1, 1) := by decide +kernel
theorem dX11_octet_7 : decode cX11_octet 7 = .ok (.isub, 1) := by decide +kernel
theorem dX11_octet_8 : decode cX11_octet 8 = .ok (.invokestatic 347, 3) := by decide +kernel
theorem dX11_octet_11 : decode cX11_octet 11 = .ok (.ifCond .eq 12, 3) := by decide +kernel
theorem dX11_octet_14 : decode cX11_octet 14 = .ok (.aload_n 0, 1) := by decide +kernel
theorem dX11_octet_15 : decode cX11_octet 15 = .ok (.getfield 137, 3) := by decide +kernel
theorem dX11_octet_18 : decode cX11_octet 18 = .ok (.iload_n 1, 1) := by decide +kernel
theorem dX11_octet_19 : decode cX11_octet 19 = .ok (.baload, 1) := by decide +kernel
theorem dX11_octet_20 : decode cX11_octet 20 = .ok (.goto 4, 3) := by decide +kernel
theorem dX11_octet_23 : decode cX11_octet 23 = .ok (.iconst (-1), 1) := by decide +kernel
theorem dX11_octet_24 : decode cX11_octet 24 = .ok (.ireturn, 1) := by decide +kernel
def fX11_octet (a : Nat) (x1 : Int32) (μ : JM) : JO (Int32) := jck ((jT μ a).1 == 12) <| jcl (fX11_in x1 (0 : Int32) ((jI μ a 63) - (1 : Int32)) μ) fun r2 μ3 => if r2 = 0 then (some ((-1 : Int32), μ3, 0, 0)) else (jck ((jT μ3 a).1 == 12) <| jde (jP μ3 a 62) fun q13 => jck ((jT μ3 q13).1 == 100) <| jck (jin x1 (jT μ3 q13).2) <| some ((jI μ3 q13 (x1).toNatClampNeg), μ3, 0, 0))
set_option maxHeartbeats 4000000 in
set_option maxRecDepth 100000 in
theorem mX11_octet {b : Nat} {a : Nat} {x1 : Int32} {μ : JM} {r : Int32} {ν : JM} {c m : Nat} (hf : fX11_octet a x1 μ = some (r, ν, c, m)) : JMet b yX11_octet cX11_octet 2 (some .int) 1 22 [va_rf (some a), .int x1] μ (some (.int r)) ν c m := by
  refine JMet.of (by decide) (lg_sl_le (by simp only [List.map_cons, List.map_nil, List.sum_cons, List.sum_nil, va_rf_cat]; exact Nat.le_of_ble_eq_true rfl)) (fun Θ X hin => ?_)
  refine wa_eq (L2 := [(0, va_rf (some a)), (1, .int x1)]) ?_ rfl (by first | rfl | simp [lv_args, va_rf_cat, cat_i, cat_l]) rfl
  obtain ⟨k, hk0⟩ : ∃ k : Nat, k = 0 := ⟨0, rfl⟩
  obtain ⟨n, hn0⟩ : ∃ n : Nat, n = 0 := ⟨0, rfl⟩
  have hk : k + c = c := by omega
  have hn : n + m = m := by omega
  refine wa_costs hk0.symm hn0.symm ?_
  rw [fX11_octet] at hf
  refine wa_iload_n X 1 dX11_octet_0 rfl ?_
  refine wa_iconst (v := (0 : Int32)) X dX11_octet_1 (by decide) ?_
  refine wa_aload_n X 0 dX11_octet_2 rfl ?_
  obtain ⟨h1, hf⟩ := jckT hf
  refine wa_getI X dX11_octet_3 lfX11_411 rfl h1 rfl ?_
  refine wa_iconst (v := (1 : Int32)) X dX11_octet_6 (by decide) ?_
  refine wa_isub X dX11_octet_7 ?_
  obtain ⟨r2, μ3, c4, m5, c6, m7, e8, hf, h9, h10⟩ := jcl_some hf
  refine wa_rcallS (st2 := [.int r2]) X dX11_octet_8 lmX11_347 lMX11_in (mX11_in e8) rfl rfl rfl (va_cats (Nat.le_of_ble_eq_true rfl)) (by decide) (by omega) (by omega) ?_
  refine wa_ifeq (tgt := 23) X dX11_octet_11 (by decide) (fun h11 => ?_) (fun h11 => ?_)
  · rw [if_pos h11] at hf
    refine wa_iconst (v := (-1 : Int32)) X dX11_octet_23 (by decide) ?_
    obtain ⟨rfl, rfl, rfl, rfl⟩ := jret hf
    exact wa_iret X dX11_octet_24 rfl (by omega) (by omega)
  · rw [if_neg h11] at hf
    refine wa_aload_n X 0 dX11_octet_14 rfl ?_
    obtain ⟨h12, hf⟩ := jckT hf
    refine wa_getP X dX11_octet_15 lfX11_137 rfl h12 rfl ?_
    refine wa_iload_n X 1 dX11_octet_18 rfl ?_
    obtain ⟨q13, h14, hf⟩ := jde_some hf
    obtain ⟨h15, hf⟩ := jckT hf
    obtain ⟨h16, hf⟩ := jck_some hf
    refine wa_rbald X dX11_octet_19 h14 h15 h16 ?_
    refine wa_goto (tgt := 24) X dX11_octet_20 (by decide) ?_
    obtain ⟨rfl, rfl, rfl, rfl⟩ := jret hf
    exact wa_iret X dX11_octet_24 rfl (by omega) (by omega)
theorem dX11_back_0 : decode cX11_back 0 = .ok (.aload_n 0, 1) := by decide +kernel
theorem dX11_back_1 : decode cX11_back 1 = .ok (.getfield 156, 3) := by decide +kernel
theorem dX11_back_4 : decode cX11_back 4 = .ok (.aload_n 0, 1) := by decide +kernel
theorem dX11_back_5 : decode cX11_back 5 = .ok (.getfield 411, 3) := by decide +kernel
theorem dX11_back_8 : decode cX11_back 8 = .ok (.iadd, 1) := by decide +kernel
theorem dX11_back_9 : decode cX11_back 9 = .ok (.sipush 900, 3) := by decide +kernel
theorem dX11_back_12 : decode cX11_back 12 = .ok (.if_icmp .le 5, 3) := by decide +kernel
theorem dX11_back_15 : decode cX11_back 15 = .ok (.iconst (-1), 1) := by decide +kernel
theorem dX11_back_16 : decode cX11_back 16 = .ok (.ireturn, 1) := by decide +kernel
theorem dX11_back_17 : decode cX11_back 17 = .ok (.iconst 0, 1) := by decide +kernel
theorem dX11_back_18 : decode cX11_back 18 = .ok (.istore_n 1, 1) := by decide +kernel
theorem dX11_back_19 : decode cX11_back 19 = .ok (.iload_n 1, 1) := by decide +kernel
theorem dX11_back_20 : decode cX11_back 20 = .ok (.aload_n 0, 1) := by decide +kernel
theorem dX11_back_21 : decode cX11_back 21 = .ok (.getfield 411, 3) := by decide +kernel
theorem dX11_back_24 : decode cX11_back 24 = .ok (.if_icmp .ge 26, 3) := by decide +kernel
theorem dX11_back_27 : decode cX11_back 27 = .ok (.aload_n 0, 1) := by decide +kernel
theorem dX11_back_28 : decode cX11_back 28 = .ok (.getfield 7, 3) := by decide +kernel
theorem dX11_back_31 : decode cX11_back 31 = .ok (.aload_n 0, 1) := by decide +kernel
theorem dX11_back_32 : decode cX11_back 32 = .ok (.getfield 156, 3) := by decide +kernel
theorem dX11_back_35 : decode cX11_back 35 = .ok (.iload_n 1, 1) := by decide +kernel
theorem dX11_back_36 : decode cX11_back 36 = .ok (.iadd, 1) := by decide +kernel
theorem dX11_back_37 : decode cX11_back 37 = .ok (.aload_n 0, 1) := by decide +kernel
theorem dX11_back_38 : decode cX11_back 38 = .ok (.getfield 137, 3) := by decide +kernel
theorem dX11_back_41 : decode cX11_back 41 = .ok (.iload_n 1, 1) := by decide +kernel
theorem dX11_back_42 : decode cX11_back 42 = .ok (.baload, 1) := by decide +kernel
theorem dX11_back_43 : decode cX11_back 43 = .ok (.bastore, 1) := by decide +kernel
theorem dX11_back_44 : decode cX11_back 44 = .ok (.iinc 1 1, 3) := by decide +kernel
theorem dX11_back_47 : decode cX11_back 47 = .ok (.goto (-28), 3) := by decide +kernel
theorem dX11_back_50 : decode cX11_back 50 = .ok (.aload_n 0, 1) := by decide +kernel
theorem dX11_back_51 : decode cX11_back 51 = .ok (.dup, 1) := by decide +kernel
theorem dX11_back_52 : decode cX11_back 52 = .ok (.getfield 156, 3) := by decide +kernel
theorem dX11_back_55 : decode cX11_back 55 = .ok (.aload_n 0, 1) := by decide +kernel
theorem dX11_back_56 : decode cX11_back 56 = .ok (.getfield 411, 3) := by decide +kernel
theorem dX11_back_59 : decode cX11_back 59 = .ok (.iadd, 1) := by decide +kernel
theorem dX11_back_60 : decode cX11_back 60 = .ok (.putfield 156, 3) := by decide +kernel
theorem dX11_back_63 : decode cX11_back 63 = .ok (.aload_n 0, 1) := by decide +kernel
theorem dX11_back_64 : decode cX11_back 64 = .ok (.iconst 0, 1) := by decide +kernel
theorem dX11_back_65 : decode cX11_back 65 = .ok (.putfield 411, 3) := by decide +kernel
theorem dX11_back_68 : decode cX11_back 68 = .ok (.aload_n 0, 1) := by decide +kernel
theorem dX11_back_69 : decode cX11_back 69 = .ok (.getfield 156, 3) := by decide +kernel
theorem dX11_back_72 : decode cX11_back 72 = .ok (.ireturn, 1) := by decide +kernel
def fX11_back_b19 : Nat → Nat → Int32 → JM → JO (Int32)
  | 0, _, _, _ => none
  | fu + 1, a, x1, μ => jck ((jT μ a).1 == 12) <| if (jI μ a 63) ≤ x1 then (jlt (jsI μ a 1 ((jI μ a 1) + (jI μ a 63))) fun μ5 => jlt (jsI μ5 a 63 (0 : Int32)) fun μ8 => some ((jI μ8 a 1), μ8, 0, 0)) else (jde (jP μ a 62) fun q11 => jck ((jT μ q11).1 == 100) <| jck (jin x1 (jT μ q11).2) <| jde (jP μ a 0) fun q15 => jck ((jT μ q15).1 == 100) <| jck (jin ((jI μ a 1) + x1) (jT μ q15).2) <| jlt (jsI μ q15 (((jI μ a 1) + x1)).toNatClampNeg (vp_nar .byte (jI μ q11 (x1).toNatClampNeg))) fun μ19 => fX11_back_b19 fu a (x1 + (1 : Int32)) μ19)
set_option maxHeartbeats 4000000 in
set_option maxRecDepth 100000 in
theorem gX11_back_b19 {b : Nat} {Θ : JE} {RC RS : Nat} {r : Int32} {ν : JM} (X : jX b Θ RX11 cX11_back 2 (some .int) 0 0 RC RS) : ∀ (fu : Nat) (a : Nat) (x1 : Int32) (μ : JM) (c m k n : Nat), fX11_back_b19 fu a x1 μ = some (r, ν, c, m) → k + c = RC → n + m = RS → WA b Θ 2 (jE b Θ (some (.int r)) ν RC RS) μ k n 19 [(0, va_rf (some a)), (1, .int x1)] [] := by
  intro fu
  induction fu with
  | zero => intro a x1 μ c m k n hf; cases hf
  | succ fu ih =>
    intro a x1 μ c m k n hf hk hn
    rw [fX11_back_b19] at hf
    refine wa_iload_n X 1 dX11_back_19 rfl ?_
    refine wa_aload_n X 0 dX11_back_20 rfl ?_
    obtain ⟨h3, hf⟩ := jckT hf
    refine wa_getI X dX11_back_21 lfX11_411 rfl h3 rfl ?_
    refine wa_icge (tgt := 50) X dX11_back_24 (by decide) (fun h4 => ?_) (fun h4 => ?_)
    · rw [if_pos h4] at hf
      refine wa_aload_n X 0 dX11_back_50 rfl ?_
      refine wa_dup X dX11_back_51 (va_rf_cat _) ?_
      refine wa_getI X dX11_back_52 lfX11_156 rfl h3 rfl ?_
      refine wa_aload_n X 0 dX11_back_55 rfl ?_
      refine wa_getI X dX11_back_56 lfX11_411 rfl h3 rfl ?_
      refine wa_iadd X dX11_back_59 ?_
      obtain ⟨μ5, hm6, hf⟩ := jlt_e hf
      have e7 : jT μ5 = jT μ := by rw [hm6]; rfl
      refine wa_rputI (ν := μ5) X dX11_back_60 lfX11_156 rfl h3 rfl rfl hm6 ?_
      refine wa_aload_n X 0 dX11_back_63 rfl ?_
      refine wa_iconst (v := (0 : Int32)) X dX11_back_64 (by decide) ?_
      obtain ⟨μ8, hm9, hf⟩ := jlt_e hf
      have e10 : jT μ8 = jT μ := by rw [hm9]; exact e7
      refine wa_rputI (ν := μ8) X dX11_back_65 lfX11_411 rfl (by rw [e7]; exact h3) rfl rfl hm9 ?_
      refine wa_aload_n X 0 dX11_back_68 rfl ?_
      refine wa_getI X dX11_back_69 lfX11_156 rfl (by rw [e10]; exact h3) rfl ?_
      obtain ⟨rfl, rfl, rfl, rfl⟩ := jret hf
      exact wa_iret X dX11_back_72 rfl (by omega) (by omega)
    · rw [if_neg h4] at hf
      refine wa_aload_n X 0 dX11_back_27 rfl ?_
      refine wa_getP X dX11_back_28 lfX11_7 rfl h3 rfl ?_
      refine wa_aload_n X 0 dX11_back_31 rfl ?_
      refine wa_getI X dX11_back_32 lfX11_156 rfl h3 rfl ?_
      refine wa_iload_n X 1 dX11_back_35 rfl ?_
      refine wa_iadd X dX11_back_36 ?_
      refine wa_aload_n X 0 dX11_back_37 rfl ?_
      refine wa_getP X dX11_back_38 lfX11_137 rfl h3 rfl ?_
      refine wa_iload_n X 1 dX11_back_41 rfl ?_
      obtain ⟨q11, h12, hf⟩ := jde_some hf
      obtain ⟨h13, hf⟩ := jckT hf
      obtain ⟨h14, hf⟩ := jck_some hf
      refine wa_rbald X dX11_back_42 h12 h13 h14 ?_
      obtain ⟨q15, h16, hf⟩ := jde_some hf
      obtain ⟨h17, hf⟩ := jckT hf
      obtain ⟨h18, hf⟩ := jck_some hf
      obtain ⟨μ19, hm20, hf⟩ := jlt_e hf
      have e21 : jT μ19 = jT μ := by rw [hm20]; rfl
      refine wa_rbast (ν := μ19) X dX11_back_43 h16 h17 h18 hm20 ?_
      refine wa_iinc (v := (x1 + (1 : Int32))) (L2 := [(1, .int (x1 + (1 : Int32))), (0, va_rf (some a))]) X 1 dX11_back_44 rfl rfl (by decide) (by first | rfl | simp [va_rf_cat, cat_i, cat_l]) ?_
      refine wa_goto (tgt := 19) X dX11_back_47 (by decide) ?_
      refine wa_sub (L2 := [(0, va_rf (some a)), (1, .int (x1 + (1 : Int32)))]) [1, 0] rfl ?_
      exact ih a (x1 + (1 : Int32)) μ19 _ _ _ _ hf (by omega) (by omega)
def fX11_back (a : Nat) (μ : JM) : JO (Int32) := jck ((jT μ a).1 == 12) <| if ((jI μ a 1) + (jI μ a 63)) ≤ (900 : Int32) then (fX11_back_b19  jfuel a (0 : Int32) μ) else (some ((-1 : Int32), μ, 0, 0))
set_option maxHeartbeats 4000000 in
set_option maxRecDepth 100000 in
theorem mX11_back {b : Nat} {a : Nat} {μ : JM} {r : Int32} {ν : JM} {c m : Nat} (hf : fX11_back a μ = some (r, ν, c, m)) : JMet b yX11_back cX11_back 2 (some .int) 0 0 [va_rf (some a)] μ (some (.int r)) ν c m := by
  refine JMet.of (by decide) (lg_sl_le (by simp only [List.map_cons, List.map_nil, List.sum_cons, List.sum_nil, va_rf_cat]; exact Nat.le_of_ble_eq_true rfl)) (fun Θ X hin => ?_)
  refine wa_eq (L2 := [(0, va_rf (some a))]) ?_ rfl (by first | rfl | simp [lv_args, va_rf_cat, cat_i, cat_l]) rfl
  obtain ⟨k, hk0⟩ : ∃ k : Nat, k = 0 := ⟨0, rfl⟩
  obtain ⟨n, hn0⟩ : ∃ n : Nat, n = 0 := ⟨0, rfl⟩
  have hk : k + c = c := by omega
  have hn : n + m = m := by omega
  refine wa_costs hk0.symm hn0.symm ?_
  rw [fX11_back] at hf
  refine wa_aload_n X 0 dX11_back_0 rfl ?_
  obtain ⟨h1, hf⟩ := jckT hf
  refine wa_getI X dX11_back_1 lfX11_156 rfl h1 rfl ?_
  refine wa_aload_n X 0 dX11_back_4 rfl ?_
  refine wa_getI X dX11_back_5 lfX11_411 rfl h1 rfl ?_
  refine wa_iadd X dX11_back_8 ?_
  refine wa_sipush (v := (900 : Int32)) X dX11_back_9 (by decide) ?_
  refine wa_icle (tgt := 17) X dX11_back_12 (by decide) (fun h2 => ?_) (fun h2 => ?_)
  · rw [if_pos h2] at hf
    refine wa_iconst (v := (0 : Int32)) X dX11_back_17 (by decide) ?_
    refine wa_istore_n (L2 := [(1, .int (0 : Int32)), (0, va_rf (some a))]) X dX11_back_18 (by decide) (by first | rfl | (show (1, _) :: List.filter (fun q : Nat × Value => !(q.1 == 1) && !(q.1 + 1 == 1 && q.2.category == 2)) _ = _; simp [va_rf_cat, cat_i, cat_l])) ?_
    refine wa_sub (L2 := [(0, va_rf (some a)), (1, .int (0 : Int32))]) [1, 0] rfl ?_
    exact gX11_back_b19 X jfuel a (0 : Int32) μ _ _ _ _ hf (by omega) (by omega)
  · rw [if_neg h2] at hf
    refine wa_iconst (v := (-1 : Int32)) X dX11_back_15 (by decide) ?_
    obtain ⟨rfl, rfl, rfl, rfl⟩ := jret hf
    exact wa_iret X dX11_back_16 rfl (by omega) (by omega)
theorem dX11_isClause_0 : decode cX11_isClause 0 = .ok (.aload_n 0, 1) := by decide +kernel
theorem dX11_isClause_1 : decode cX11_isClause 1 = .ok (.iload_n 1, 1) := by decide +kernel
theorem dX11_isClause_2 : decode cX11_isClause 2 = .ok (.invokevirtual 393, 3) := by decide +kernel
theorem dX11_isClause_5 : decode cX11_isClause 5 = .ok (.ifCond .eq 23, 3) := by decide +kernel
theorem dX11_isClause_8 : decode cX11_isClause 8 = .ok (.iload_n 2, 1) := by decide +kernel
theorem dX11_isClause_9 : decode cX11_isClause 9 = .ok (.iconst 0, 1) := by decide +kernel
theorem dX11_isClause_10 : decode cX11_isClause 10 = .ok (.aload_n 0, 1) := by decide +kernel
theorem dX11_isClause_11 : decode cX11_isClause 11 = .ok (.getfield 73, 3) := by decide +kernel
theorem dX11_isClause_14 : decode cX11_isClause 14 = .ok (.iload_n 1, 1) := by decide +kernel
theorem dX11_isClause_15 : decode cX11_isClause 15 = .ok (.iaload, 1) := by decide +kernel
theorem dX11_isClause_16 : decode cX11_isClause 16 = .ok (.iconst 1, 1) := by decide +kernel
theorem dX11_isClause_17 : decode cX11_isClause 17 = .ok (.isub, 1) := by decide +kernel
theorem dX11_isClause_18 : decode cX11_isClause 18 = .ok (.invokestatic 347, 3) := by decide +kernel
theorem dX11_isClause_21 : decode cX11_isClause 21 = .ok (.ifCond .eq 7, 3) := by decide +kernel
theorem dX11_isClause_24 : decode cX11_isClause 24 = .ok (.iconst 1, 1) := by decide +kernel
theorem dX11_isClause_25 : decode cX11_isClause 25 = .ok (.goto 4, 3) := by decide +kernel
theorem dX11_isClause_28 : decode cX11_isClause 28 = .ok (.iconst 0, 1) := by decide +kernel
theorem dX11_isClause_29 : decode cX11_isClause 29 = .ok (.ireturn, 1) := by decide +kernel
def fX11_isClause (a : Nat) (x1 : Int32) (x2 : Int32) (μ : JM) : JO (Int32) := jck ((jT μ a).1 == 12) <| jcl (fX11_isVersion a x1 μ) fun r2 μ3 => if r2 = 0 then (some ((0 : Int32), μ3, 0, 0)) else (jck ((jT μ3 a).1 == 12) <| jde (jP μ3 a 34) fun q13 => jck ((jT μ3 q13).1 == 101) <| jck (jin x1 (jT μ3 q13).2) <| jcl (fX11_in x2 (0 : Int32) ((jI μ3 q13 (x1).toNatClampNeg) - (1 : Int32)) μ3) fun r17 μ18 => if r17 = 0 then (some ((0 : Int32), μ18, 0, 0)) else (some ((1 : Int32), μ18, 0, 0)))
set_option maxHeartbeats 4000000 in
set_option maxRecDepth 100000 in
theorem mX11_isClause {b : Nat} {a : Nat} {x1 : Int32} {x2 : Int32} {μ : JM} {r : Int32} {ν : JM} {c m : Nat} (hf : fX11_isClause a x1 x2 μ = some (r, ν, c, m)) : JMet b yX11_isClause cX11_isClause 3 (some .boolean) 3 63 [va_rf (some a), .int x1, .int x2] μ (some (.int r)) ν c m := by
  refine JMet.of (by decide) (lg_sl_le (by simp only [List.map_cons, List.map_nil, List.sum_cons, List.sum_nil, va_rf_cat]; exact Nat.le_of_ble_eq_true rfl)) (fun Θ X hin => ?_)
  refine wa_eq (L2 := [(0, va_rf (some a)), (1, .int x1), (2, .int x2)]) ?_ rfl (by first | rfl | simp [lv_args, va_rf_cat, cat_i, cat_l]) rfl
  obtain ⟨k, hk0⟩ : ∃ k : Nat, k = 0 := ⟨0, rfl⟩
  obtain ⟨n, hn0⟩ : ∃ n : Nat, n = 0 := ⟨0, rfl⟩
  have hk : k + c = c := by omega
  have hn : n + m = m := by omega
  refine wa_costs hk0.symm hn0.symm ?_
  rw [fX11_isClause] at hf
  refine wa_aload_n X 0 dX11_isClause_0 rfl ?_
  refine wa_iload_n X 1 dX11_isClause_1 rfl ?_
  obtain ⟨h1, hf⟩ := jckT hf
  obtain ⟨r2, μ3, c4, m5, c6, m7, e8, hf, h9, h10⟩ := jcl_some hf
  refine wa_rcallV (st2 := [.int r2]) X dX11_isClause_2 lmX11_393 lMX11_isVersion rfl h1 (mX11_isVersion e8) rfl rfl rfl (va_cats (Nat.le_of_ble_eq_true rfl)) (by decide) (by omega) (by omega) ?_
  refine wa_ifeq (tgt := 28) X dX11_isClause_5 (by decide) (fun h11 => ?_) (fun h11 => ?_)
  · rw [if_pos h11] at hf
    refine wa_iconst (v := (0 : Int32)) X dX11_isClause_28 (by decide) ?_
    obtain ⟨rfl, rfl, rfl, rfl⟩ := jret hf
    exact wa_iret X dX11_isClause_29 rfl (by omega) (by omega)
  · rw [if_neg h11] at hf
    refine wa_iload_n X 2 dX11_isClause_8 rfl ?_
    refine wa_iconst (v := (0 : Int32)) X dX11_isClause_9 (by decide) ?_
    refine wa_aload_n X 0 dX11_isClause_10 rfl ?_
    obtain ⟨h12, hf⟩ := jckT hf
    refine wa_getP X dX11_isClause_11 lfX11_73 rfl h12 rfl ?_
    refine wa_iload_n X 1 dX11_isClause_14 rfl ?_
    obtain ⟨q13, h14, hf⟩ := jde_some hf
    obtain ⟨h15, hf⟩ := jckT hf
    obtain ⟨h16, hf⟩ := jck_some hf
    refine wa_riald X dX11_isClause_15 h14 h15 h16 ?_
    refine wa_iconst (v := (1 : Int32)) X dX11_isClause_16 (by decide) ?_
    refine wa_isub X dX11_isClause_17 ?_
    obtain ⟨r17, μ18, c19, m20, c21, m22, e23, hf, h24, h25⟩ := jcl_some hf
    refine wa_rcallS (st2 := [.int r17]) X dX11_isClause_18 lmX11_347 lMX11_in (mX11_in e23) rfl rfl rfl (va_cats (Nat.le_of_ble_eq_true rfl)) (by decide) (by omega) (by omega) ?_
    refine wa_ifeq (tgt := 28) X dX11_isClause_21 (by decide) (fun h26 => ?_) (fun h26 => ?_)
    · rw [if_pos h26] at hf
      refine wa_iconst (v := (0 : Int32)) X dX11_isClause_28 (by decide) ?_
      obtain ⟨rfl, rfl, rfl, rfl⟩ := jret hf
      exact wa_iret X dX11_isClause_29 rfl (by omega) (by omega)
    · rw [if_neg h26] at hf
      refine wa_iconst (v := (1 : Int32)) X dX11_isClause_24 (by decide) ?_
      refine wa_goto (tgt := 29) X dX11_isClause_25 (by decide) ?_
      obtain ⟨rfl, rfl, rfl, rfl⟩ := jret hf
      exact wa_iret X dX11_isClause_29 rfl (by omega) (by omega)
theorem dX11_clause__0 : decode cX11_clause_ 0 = .ok (.aload_n 0, 1) := by decide +kernel
theorem dX11_clause__1 : decode cX11_clause_ 1 = .ok (.iload_n 1, 1) := by decide +kernel
theorem dX11_clause__2 : decode cX11_clause_ 2 = .ok (.iload_n 2, 1) := by decide +kernel
theorem dX11_clause__3 : decode cX11_clause_ 3 = .ok (.invokevirtual 414, 3) := by decide +kernel
theorem dX11_clause__6 : decode cX11_clause_ 6 = .ok (.ifCond .ne 5, 3) := by decide +kernel
theorem dX11_clause__9 : decode cX11_clause_ 9 = .ok (.iconst (-1), 1) := by decide +kernel
theorem dX11_clause__10 : decode cX11_clause_ 10 = .ok (.ireturn, 1) := by decide +kernel
theorem dX11_clause__11 : decode cX11_clause_ 11 = .ok (.bipush 24, 2) := by decide +kernel
theorem dX11_clause__13 : decode cX11_clause_ 13 = .ok (.iload_n 1, 1) := by decide +kernel
theorem dX11_clause__14 : decode cX11_clause_ 14 = .ok (.imul, 1) := by decide +kernel
theorem dX11_clause__15 : decode cX11_clause_ 15 = .ok (.iload_n 2, 1) := by decide +kernel
theorem dX11_clause__16 : decode cX11_clause_ 16 = .ok (.iadd, 1) := by decide +kernel
theorem dX11_clause__17 : decode cX11_clause_ 17 = .ok (.istore 4, 2) := by decide +kernel
theorem dX11_clause__19 : decode cX11_clause_ 19 = .ok (.iload_n 3, 1) := by decide +kernel
theorem dX11_clause__20 : decode cX11_clause_ 20 = .ok (.tableswitch 100 0 6 #[44, 52, 60, 68, 76, 84, 92], 44) := by decide +kernel
theorem dX11_clause__64 : decode cX11_clause_ 64 = .ok (.aload_n 0, 1) := by decide +kernel
theorem dX11_clause__65 : decode cX11_clause_ 65 = .ok (.getfield 76, 3) := by decide +kernel
theorem dX11_clause__68 : decode cX11_clause_ 68 = .ok (.iload 4, 2) := by decide +kernel
theorem dX11_clause__70 : decode cX11_clause_ 70 = .ok (.iaload, 1) := by decide +kernel
theorem dX11_clause__71 : decode cX11_clause_ 71 = .ok (.ireturn, 1) := by decide +kernel
theorem dX11_clause__72 : decode cX11_clause_ 72 = .ok (.aload_n 0, 1) := by decide +kernel
theorem dX11_clause__73 : decode cX11_clause_ 73 = .ok (.getfield 79, 3) := by decide +kernel
theorem dX11_clause__76 : decode cX11_clause_ 76 = .ok (.iload 4, 2) := by decide +kernel
theorem dX11_clause__78 : decode cX11_clause_ 78 = .ok (.iaload, 1) := by decide +kernel
theorem dX11_clause__79 : decode cX11_clause_ 79 = .ok (.ireturn, 1) := by decide +kernel
theorem dX11_clause__80 : decode cX11_clause_ 80 = .ok (.aload_n 0, 1) := by decide +kernel
theorem dX11_clause__81 : decode cX11_clause_ 81 = .ok (.getfield 82, 3) := by decide +kernel
theorem dX11_clause__84 : decode cX11_clause_ 84 = .ok (.iload 4, 2) := by decide +kernel
theorem dX11_clause__86 : decode cX11_clause_ 86 = .ok (.iaload, 1) := by decide +kernel
theorem dX11_clause__87 : decode cX11_clause_ 87 = .ok (.ireturn, 1) := by decide +kernel
theorem dX11_clause__88 : decode cX11_clause_ 88 = .ok (.aload_n 0, 1) := by decide +kernel
theorem dX11_clause__89 : decode cX11_clause_ 89 = .ok (.getfield 85, 3) := by decide +kernel
theorem dX11_clause__92 : decode cX11_clause_ 92 = .ok (.iload 4, 2) := by decide +kernel
theorem dX11_clause__94 : decode cX11_clause_ 94 = .ok (.iaload, 1) := by decide +kernel
theorem dX11_clause__95 : decode cX11_clause_ 95 = .ok (.ireturn, 1) := by decide +kernel
theorem dX11_clause__96 : decode cX11_clause_ 96 = .ok (.aload_n 0, 1) := by decide +kernel
theorem dX11_clause__97 : decode cX11_clause_ 97 = .ok (.getfield 88, 3) := by decide +kernel
theorem dX11_clause__100 : decode cX11_clause_ 100 = .ok (.iload 4, 2) := by decide +kernel
theorem dX11_clause__102 : decode cX11_clause_ 102 = .ok (.iaload, 1) := by decide +kernel
theorem dX11_clause__103 : decode cX11_clause_ 103 = .ok (.ireturn, 1) := by decide +kernel
theorem dX11_clause__104 : decode cX11_clause_ 104 = .ok (.aload_n 0, 1) := by decide +kernel
theorem dX11_clause__105 : decode cX11_clause_ 105 = .ok (.getfield 91, 3) := by decide +kernel
theorem dX11_clause__108 : decode cX11_clause_ 108 = .ok (.iload 4, 2) := by decide +kernel
theorem dX11_clause__110 : decode cX11_clause_ 110 = .ok (.iaload, 1) := by decide +kernel
theorem dX11_clause__111 : decode cX11_clause_ 111 = .ok (.ireturn, 1) := by decide +kernel
theorem dX11_clause__112 : decode cX11_clause_ 112 = .ok (.aload_n 0, 1) := by decide +kernel
theorem dX11_clause__113 : decode cX11_clause_ 113 = .ok (.getfield 100, 3) := by decide +kernel
theorem dX11_clause__116 : decode cX11_clause_ 116 = .ok (.iload 4, 2) := by decide +kernel
theorem dX11_clause__118 : decode cX11_clause_ 118 = .ok (.iaload, 1) := by decide +kernel
theorem dX11_clause__119 : decode cX11_clause_ 119 = .ok (.ireturn, 1) := by decide +kernel
theorem dX11_clause__120 : decode cX11_clause_ 120 = .ok (.iconst (-1), 1) := by decide +kernel
theorem dX11_clause__121 : decode cX11_clause_ 121 = .ok (.ireturn, 1) := by decide +kernel
def fX11_clause_ (a : Nat) (x1 : Int32) (x2 : Int32) (x3 : Int32) (μ : JM) : JO (Int32) := jck ((jT μ a).1 == 12) <| jcl (fX11_isClause a x1 x2 μ) fun r2 μ3 => if r2 = 0 then (some ((-1 : Int32), μ3, 0, 0)) else (if x3 = (0 : Int32) then (jck ((jT μ3 a).1 == 12) <| jde (jP μ3 a 35) fun q14 => jck ((jT μ3 q14).1 == 101) <| jck (jin (((24 : Int32) * x1) + x2) (jT μ3 q14).2) <| some ((jI μ3 q14 ((((24 : Int32) * x1) + x2)).toNatClampNeg), μ3, 0, 0)) else (if x3 = (1 : Int32) then (jck ((jT μ3 a).1 == 12) <| jde (jP μ3 a 36) fun q20 => jck ((jT μ3 q20).1 == 101) <| jck (jin (((24 : Int32) * x1) + x2) (jT μ3 q20).2) <| some ((jI μ3 q20 ((((24 : Int32) * x1) + x2)).toNatClampNeg), μ3, 0, 0)) else (if x3 = (2 : Int32) then (jck ((jT μ3 a).1 == 12) <| jde (jP μ3 a 37) fun q26 => jck ((jT μ3 q26).1 == 101) <| jck (jin (((24 : Int32) * x1) + x2) (jT μ3 q26).2) <| some ((jI μ3 q26 ((((24 : Int32) * x1) + x2)).toNatClampNeg), μ3, 0, 0)) else (if x3 = (3 : Int32) then (jck ((jT μ3 a).1 == 12) <| jde (jP μ3 a 38) fun q32 => jck ((jT μ3 q32).1 == 101) <| jck (jin (((24 : Int32) * x1) + x2) (jT μ3 q32).2) <| some ((jI μ3 q32 ((((24 : Int32) * x1) + x2)).toNatClampNeg), μ3, 0, 0)) else (if x3 = (4 : Int32) then (jck ((jT μ3 a).1 == 12) <| jde (jP μ3 a 39) fun q38 => jck ((jT μ3 q38).1 == 101) <| jck (jin (((24 : Int32) * x1) + x2) (jT μ3 q38).2) <| some ((jI μ3 q38 ((((24 : Int32) * x1) + x2)).toNatClampNeg), μ3, 0, 0)) else (if x3 = (5 : Int32) then (jck ((jT μ3 a).1 == 12) <| jde (jP μ3 a 40) fun q44 => jck ((jT μ3 q44).1 == 101) <| jck (jin (((24 : Int32) * x1) + x2) (jT μ3 q44).2) <| some ((jI μ3 q44 ((((24 : Int32) * x1) + x2)).toNatClampNeg), μ3, 0, 0)) else (if x3 = (6 : Int32) then (jck ((jT μ3 a).1 == 12) <| jde (jP μ3 a 43) fun q50 => jck ((jT μ3 q50).1 == 101) <| jck (jin (((24 : Int32) * x1) + x2) (jT μ3 q50).2) <| some ((jI μ3 q50 ((((24 : Int32) * x1) + x2)).toNatClampNeg), μ3, 0, 0)) else (some ((-1 : Int32), μ3, 0, 0)))))))))
set_option maxHeartbeats 4000000 in
set_option maxRecDepth 100000 in
theorem mX11_clause_ {b : Nat} {a : Nat} {x1 : Int32} {x2 : Int32} {x3 : Int32} {μ : JM} {r : Int32} {ν : JM} {c m : Nat} (hf : fX11_clause_ a x1 x2 x3 μ = some (r, ν, c, m)) : JMet b yX11_clause_ cX11_clause_ 5 (some .int) 4 85 [va_rf (some a), .int x1, .int x2, .int x3] μ (some (.int r)) ν c m := by
  refine JMet.of (by decide) (lg_sl_le (by simp only [List.map_cons, List.map_nil, List.sum_cons, List.sum_nil, va_rf_cat]; exact Nat.le_of_ble_eq_true rfl)) (fun Θ X hin => ?_)
  refine wa_eq (L2 := [(0, va_rf (some a)), (1, .int x1), (2, .int x2), (3, .int x3)]) ?_ rfl (by first | rfl | simp [lv_args, va_rf_cat, cat_i, cat_l]) rfl
  obtain ⟨k, hk0⟩ : ∃ k : Nat, k = 0 := ⟨0, rfl⟩
  obtain ⟨n, hn0⟩ : ∃ n : Nat, n = 0 := ⟨0, rfl⟩
  have hk : k + c = c := by omega
  have hn : n + m = m := by omega
  refine wa_costs hk0.symm hn0.symm ?_
  rw [fX11_clause_] at hf
  refine wa_aload_n X 0 dX11_clause__0 rfl ?_
  refine wa_iload_n X 1 dX11_clause__1 rfl ?_
  refine wa_iload_n X 2 dX11_clause__2 rfl ?_
  obtain ⟨h1, hf⟩ := jckT hf
  obtain ⟨r2, μ3, c4, m5, c6, m7, e8, hf, h9, h10⟩ := jcl_some hf
  refine wa_rcallV (st2 := [.int r2]) X dX11_clause__3 lmX11_414 lMX11_isClause rfl h1 (mX11_isClause e8) rfl rfl rfl (va_cats (Nat.le_of_ble_eq_true rfl)) (by decide) (by omega) (by omega) ?_
  refine wa_ifne (tgt := 11) X dX11_clause__6 (by decide) (fun h11 => ?_) (fun h11 => ?_)
  · rw [if_neg h11] at hf
    refine wa_bipush (v := (24 : Int32)) X dX11_clause__11 (by decide) ?_
    refine wa_iload_n X 1 dX11_clause__13 rfl ?_
    refine wa_imul X dX11_clause__14 ?_
    refine wa_iload_n X 2 dX11_clause__15 rfl ?_
    refine wa_iadd X dX11_clause__16 ?_
    refine wa_istore (L2 := [(4, .int (((24 : Int32) * x1) + x2)), (0, va_rf (some a)), (1, .int x1), (2, .int x2), (3, .int x3)]) X dX11_clause__17 (by decide) (by first | rfl | (show (4, _) :: List.filter (fun q : Nat × Value => !(q.1 == 4) && !(q.1 + 1 == 4 && q.2.category == 2)) _ = _; simp [va_rf_cat, cat_i, cat_l])) ?_
    refine wa_iload_n X 4 dX11_clause__19 rfl ?_
    by_cases h12 : x3 = (0 : Int32)
    · rw [if_pos h12] at hf
      refine wa_tin (tgt := 64) X dX11_clause__20 h12 (by decide) (by decide) rfl (by decide) ?_
      refine wa_aload_n X 1 dX11_clause__64 rfl ?_
      obtain ⟨h13, hf⟩ := jckT hf
      refine wa_getP X dX11_clause__65 lfX11_76 rfl h13 rfl ?_
      refine wa_iload X 0 dX11_clause__68 rfl ?_
      obtain ⟨q14, h15, hf⟩ := jde_some hf
      obtain ⟨h16, hf⟩ := jckT hf
      obtain ⟨h17, hf⟩ := jck_some hf
      refine wa_riald X dX11_clause__70 h15 h16 h17 ?_
      obtain ⟨rfl, rfl, rfl, rfl⟩ := jret hf
      exact wa_iret X dX11_clause__71 rfl (by omega) (by omega)
    rw [if_neg h12] at hf
    by_cases h18 : x3 = (1 : Int32)
    · rw [if_pos h18] at hf
      refine wa_tin (tgt := 72) X dX11_clause__20 h18 (by decide) (by decide) rfl (by decide) ?_
      refine wa_aload_n X 1 dX11_clause__72 rfl ?_
      obtain ⟨h19, hf⟩ := jckT hf
      refine wa_getP X dX11_clause__73 lfX11_79 rfl h19 rfl ?_
      refine wa_iload X 0 dX11_clause__76 rfl ?_
      obtain ⟨q20, h21, hf⟩ := jde_some hf
      obtain ⟨h22, hf⟩ := jckT hf
      obtain ⟨h23, hf⟩ := jck_some hf
      refine wa_riald X dX11_clause__78 h21 h22 h23 ?_
      obtain ⟨rfl, rfl, rfl, rfl⟩ := jret hf
      exact wa_iret X dX11_clause__79 rfl (by omega) (by omega)
    rw [if_neg h18] at hf
    by_cases h24 : x3 = (2 : Int32)
    · rw [if_pos h24] at hf
      refine wa_tin (tgt := 80) X dX11_clause__20 h24 (by decide) (by decide) rfl (by decide) ?_
      refine wa_aload_n X 1 dX11_clause__80 rfl ?_
      obtain ⟨h25, hf⟩ := jckT hf
      refine wa_getP X dX11_clause__81 lfX11_82 rfl h25 rfl ?_
      refine wa_iload X 0 dX11_clause__84 rfl ?_
      obtain ⟨q26, h27, hf⟩ := jde_some hf
      obtain ⟨h28, hf⟩ := jckT hf
      obtain ⟨h29, hf⟩ := jck_some hf
      refine wa_riald X dX11_clause__86 h27 h28 h29 ?_
      obtain ⟨rfl, rfl, rfl, rfl⟩ := jret hf
      exact wa_iret X dX11_clause__87 rfl (by omega) (by omega)
    rw [if_neg h24] at hf
    by_cases h30 : x3 = (3 : Int32)
    · rw [if_pos h30] at hf
      refine wa_tin (tgt := 88) X dX11_clause__20 h30 (by decide) (by decide) rfl (by decide) ?_
      refine wa_aload_n X 1 dX11_clause__88 rfl ?_
      obtain ⟨h31, hf⟩ := jckT hf
      refine wa_getP X dX11_clause__89 lfX11_85 rfl h31 rfl ?_
      refine wa_iload X 0 dX11_clause__92 rfl ?_
      obtain ⟨q32, h33, hf⟩ := jde_some hf
      obtain ⟨h34, hf⟩ := jckT hf
      obtain ⟨h35, hf⟩ := jck_some hf
      refine wa_riald X dX11_clause__94 h33 h34 h35 ?_
      obtain ⟨rfl, rfl, rfl, rfl⟩ := jret hf
      exact wa_iret X dX11_clause__95 rfl (by omega) (by omega)
    rw [if_neg h30] at hf
    by_cases h36 : x3 = (4 : Int32)
    · rw [if_pos h36] at hf
      refine wa_tin (tgt := 96) X dX11_clause__20 h36 (by decide) (by decide) rfl (by decide) ?_
      refine wa_aload_n X 1 dX11_clause__96 rfl ?_
      obtain ⟨h37, hf⟩ := jckT hf
      refine wa_getP X dX11_clause__97 lfX11_88 rfl h37 rfl ?_
      refine wa_iload X 0 dX11_clause__100 rfl ?_
      obtain ⟨q38, h39, hf⟩ := jde_some hf
      obtain ⟨h40, hf⟩ := jckT hf
      obtain ⟨h41, hf⟩ := jck_some hf
      refine wa_riald X dX11_clause__102 h39 h40 h41 ?_
      obtain ⟨rfl, rfl, rfl, rfl⟩ := jret hf
      exact wa_iret X dX11_clause__103 rfl (by omega) (by omega)
    rw [if_neg h36] at hf
    by_cases h42 : x3 = (5 : Int32)
    · rw [if_pos h42] at hf
      refine wa_tin (tgt := 104) X dX11_clause__20 h42 (by decide) (by decide) rfl (by decide) ?_
      refine wa_aload_n X 1 dX11_clause__104 rfl ?_
      obtain ⟨h43, hf⟩ := jckT hf
      refine wa_getP X dX11_clause__105 lfX11_91 rfl h43 rfl ?_
      refine wa_iload X 0 dX11_clause__108 rfl ?_
      obtain ⟨q44, h45, hf⟩ := jde_some hf
      obtain ⟨h46, hf⟩ := jckT hf
      obtain ⟨h47, hf⟩ := jck_some hf
      refine wa_riald X dX11_clause__110 h45 h46 h47 ?_
      obtain ⟨rfl, rfl, rfl, rfl⟩ := jret hf
      exact wa_iret X dX11_clause__111 rfl (by omega) (by omega)
    rw [if_neg h42] at hf
    by_cases h48 : x3 = (6 : Int32)
    · rw [if_pos h48] at hf
      refine wa_tin (tgt := 112) X dX11_clause__20 h48 (by decide) (by decide) rfl (by decide) ?_
      refine wa_aload_n X 1 dX11_clause__112 rfl ?_
      obtain ⟨h49, hf⟩ := jckT hf
      refine wa_getP X dX11_clause__113 lfX11_100 rfl h49 rfl ?_
      refine wa_iload X 0 dX11_clause__116 rfl ?_
      obtain ⟨q50, h51, hf⟩ := jde_some hf
      obtain ⟨h52, hf⟩ := jckT hf
      obtain ⟨h53, hf⟩ := jck_some hf
      refine wa_riald X dX11_clause__118 h51 h52 h53 ?_
      obtain ⟨rfl, rfl, rfl, rfl⟩ := jret hf
      exact wa_iret X dX11_clause__119 rfl (by omega) (by omega)
    rw [if_neg h48] at hf
    have ih12 := lv_neT h12 (show ((0 : Int32)).toInt = 0 from rfl)
    have ih18 := lv_neT h18 (show ((1 : Int32)).toInt = 1 from rfl)
    have ih24 := lv_neT h24 (show ((2 : Int32)).toInt = 2 from rfl)
    have ih30 := lv_neT h30 (show ((3 : Int32)).toInt = 3 from rfl)
    have ih36 := lv_neT h36 (show ((4 : Int32)).toInt = 4 from rfl)
    have ih42 := lv_neT h42 (show ((5 : Int32)).toInt = 5 from rfl)
    have ih48 := lv_neT h48 (show ((6 : Int32)).toInt = 6 from rfl)
    refine wa_tout (tgt := 120) X dX11_clause__20 (by omega) (by decide) ?_
    refine wa_iconst (v := (-1 : Int32)) X dX11_clause__120 (by decide) ?_
    obtain ⟨rfl, rfl, rfl, rfl⟩ := jret hf
    exact wa_iret X dX11_clause__121 rfl (by omega) (by omega)
  · rw [if_pos h11] at hf
    refine wa_iconst (v := (-1 : Int32)) X dX11_clause__9 (by decide) ?_
    obtain ⟨rfl, rfl, rfl, rfl⟩ := jret hf
    exact wa_iret X dX11_clause__10 rfl (by omega) (by omega)
theorem dX11_letter_0 : decode cX11_letter 0 = .ok (.aload_n 0, 1) := by decide +kernel
theorem dX11_letter_1 : decode cX11_letter 1 = .ok (.iload_n 1, 1) := by decide +kernel
theorem dX11_letter_2 : decode cX11_letter 2 = .ok (.iload_n 2, 1) := by decide +kernel
theorem dX11_letter_3 : decode cX11_letter 3 = .ok (.invokevirtual 414, 3) := by decide +kernel
theorem dX11_letter_6 : decode cX11_letter 6 = .ok (.ifCond .eq 43, 3) := by decide +kernel
theorem dX11_letter_9 : decode cX11_letter 9 = .ok (.iload_n 3, 1) := by decide +kernel
theorem dX11_letter_10 : decode cX11_letter 10 = .ok (.iconst 0, 1) := by decide +kernel
theorem dX11_letter_11 : decode cX11_letter 11 = .ok (.aload_n 0, 1) := by decide +kernel
theorem dX11_letter_12 : decode cX11_letter 12 = .ok (.getfield 100, 3) := by decide +kernel
theorem dX11_letter_15 : decode cX11_letter 15 = .ok (.bipush 24, 2) := by decide +kernel
theorem dX11_letter_17 : decode cX11_letter 17 = .ok (.iload_n 1, 1) := by decide +kernel
theorem dX11_letter_18 : decode cX11_letter 18 = .ok (.imul, 1) := by decide +kernel
theorem dX11_letter_19 : decode cX11_letter 19 = .ok (.iload_n 2, 1) := by decide +kernel
theorem dX11_letter_20 : decode cX11_letter 20 = .ok (.iadd, 1) := by decide +kernel
theorem dX11_letter_21 : decode cX11_letter 21 = .ok (.iaload, 1) := by decide +kernel
theorem dX11_letter_22 : decode cX11_letter 22 = .ok (.iconst 1, 1) := by decide +kernel
theorem dX11_letter_23 : decode cX11_letter 23 = .ok (.isub, 1) := by decide +kernel
theorem dX11_letter_24 : decode cX11_letter 24 = .ok (.invokestatic 347, 3) := by decide +kernel
theorem dX11_letter_27 : decode cX11_letter 27 = .ok (.ifCond .eq 22, 3) := by decide +kernel
theorem dX11_letter_30 : decode cX11_letter 30 = .ok (.aload_n 0, 1) := by decide +kernel
theorem dX11_letter_31 : decode cX11_letter 31 = .ok (.getfield 97, 3) := by decide +kernel
theorem dX11_letter_34 : decode cX11_letter 34 = .ok (.bipush 12, 2) := by decide +kernel
theorem dX11_letter_36 : decode cX11_letter 36 = .ok (.bipush 24, 2) := by decide +kernel
theorem dX11_letter_38 : decode cX11_letter 38 = .ok (.iload_n 1, 1) := by decide +kernel
theorem dX11_letter_39 : decode cX11_letter 39 = .ok (.imul, 1) := by decide +kernel
theorem dX11_letter_40 : decode cX11_letter 40 = .ok (.iload_n 2, 1) := by decide +kernel
theorem dX11_letter_41 : decode cX11_letter 41 = .ok (.iadd, 1) := by decide +kernel
theorem dX11_letter_42 : decode cX11_letter 42 = .ok (.imul, 1) := by decide +kernel
theorem dX11_letter_43 : decode cX11_letter 43 = .ok (.iload_n 3, 1) := by decide +kernel
theorem dX11_letter_44 : decode cX11_letter 44 = .ok (.iadd, 1) := by decide +kernel
theorem dX11_letter_45 : decode cX11_letter 45 = .ok (.baload, 1) := by decide +kernel
theorem dX11_letter_46 : decode cX11_letter 46 = .ok (.goto 4, 3) := by decide +kernel
theorem dX11_letter_49 : decode cX11_letter 49 = .ok (.iconst (-1), 1) := by decide +kernel
theorem dX11_letter_50 : decode cX11_letter 50 = .ok (.ireturn, 1) := by decide +kernel
def fX11_letter (a : Nat) (x1 : Int32) (x2 : Int32) (x3 : Int32) (μ : JM) : JO (Int32) := jck ((jT μ a).1 == 12) <| jcl (fX11_isClause a x1 x2 μ) fun r2 μ3 => if r2 = 0 then (some ((-1 : Int32), μ3, 0, 0)) else (jck ((jT μ3 a).1 == 12) <| jde (jP μ3 a 43) fun q13 => jck ((jT μ3 q13).1 == 101) <| jck (jin (((24 : Int32) * x1) + x2) (jT μ3 q13).2) <| jcl (fX11_in x3 (0 : Int32) ((jI μ3 q13 ((((24 : Int32) * x1) + x2)).toNatClampNeg) - (1 : Int32)) μ3) fun r17 μ18 => if r17 = 0 then (some ((-1 : Int32), μ18, 0, 0)) else (jck ((jT μ18 a).1 == 12) <| jde (jP μ18 a 42) fun q28 => jck ((jT μ18 q28).1 == 100) <| jck (jin (((12 : Int32) * (((24 : Int32) * x1) + x2)) + x3) (jT μ18 q28).2) <| some ((jI μ18 q28 ((((12 : Int32) * (((24 : Int32) * x1) + x2)) + x3)).toNatClampNeg), μ18, 0, 0)))
set_option maxHeartbeats 4000000 in
set_option maxRecDepth 100000 in
theorem mX11_letter {b : Nat} {a : Nat} {x1 : Int32} {x2 : Int32} {x3 : Int32} {μ : JM} {r : Int32} {ν : JM} {c m : Nat} (hf : fX11_letter a x1 x2 x3 μ = some (r, ν, c, m)) : JMet b yX11_letter cX11_letter 4 (some .int) 4 85 [va_rf (some a), .int x1, .int x2, .int x3] μ (some (.int r)) ν c m := by
  refine JMet.of (by decide) (lg_sl_le (by simp only [List.map_cons, List.map_nil, List.sum_cons, List.sum_nil, va_rf_cat]; exact Nat.le_of_ble_eq_true rfl)) (fun Θ X hin => ?_)
  refine wa_eq (L2 := [(0, va_rf (some a)), (1, .int x1), (2, .int x2), (3, .int x3)]) ?_ rfl (by first | rfl | simp [lv_args, va_rf_cat, cat_i, cat_l]) rfl
  obtain ⟨k, hk0⟩ : ∃ k : Nat, k = 0 := ⟨0, rfl⟩
  obtain ⟨n, hn0⟩ : ∃ n : Nat, n = 0 := ⟨0, rfl⟩
  have hk : k + c = c := by omega
  have hn : n + m = m := by omega
  refine wa_costs hk0.symm hn0.symm ?_
  rw [fX11_letter] at hf
  refine wa_aload_n X 0 dX11_letter_0 rfl ?_
  refine wa_iload_n X 1 dX11_letter_1 rfl ?_
  refine wa_iload_n X 2 dX11_letter_2 rfl ?_
  obtain ⟨h1, hf⟩ := jckT hf
  obtain ⟨r2, μ3, c4, m5, c6, m7, e8, hf, h9, h10⟩ := jcl_some hf
  refine wa_rcallV (st2 := [.int r2]) X dX11_letter_3 lmX11_414 lMX11_isClause rfl h1 (mX11_isClause e8) rfl rfl rfl (va_cats (Nat.le_of_ble_eq_true rfl)) (by decide) (by omega) (by omega) ?_
  refine wa_ifeq (tgt := 49) X dX11_letter_6 (by decide) (fun h11 => ?_) (fun h11 => ?_)
  · rw [if_pos h11] at hf
    refine wa_iconst (v := (-1 : Int32)) X dX11_letter_49 (by decide) ?_
    obtain ⟨rfl, rfl, rfl, rfl⟩ := jret hf
    exact wa_iret X dX11_letter_50 rfl (by omega) (by omega)
  · rw [if_neg h11] at hf
    refine wa_iload_n X 3 dX11_letter_9 rfl ?_
    refine wa_iconst (v := (0 : Int32)) X dX11_letter_10 (by decide) ?_
    refine wa_aload_n X 0 dX11_letter_11 rfl ?_
    obtain ⟨h12, hf⟩ := jckT hf
    refine wa_getP X dX11_letter_12 lfX11_100 rfl h12 rfl ?_
    refine wa_bipush (v := (24 : Int32)) X dX11_letter_15 (by decide) ?_
    refine wa_iload_n X 1 dX11_letter_17 rfl ?_
    refine wa_imul X dX11_letter_18 ?_
    refine wa_iload_n X 2 dX11_letter_19 rfl ?_
    refine wa_iadd X dX11_letter_20 ?_
    obtain ⟨q13, h14, hf⟩ := jde_some hf
    obtain ⟨h15, hf⟩ := jckT hf
    obtain ⟨h16, hf⟩ := jck_some hf
    refine wa_riald X dX11_letter_21 h14 h15 h16 ?_
    refine wa_iconst (v := (1 : Int32)) X dX11_letter_22 (by decide) ?_
    refine wa_isub X dX11_letter_23 ?_
    obtain ⟨r17, μ18, c19, m20, c21, m22, e23, hf, h24, h25⟩ := jcl_some hf
    refine wa_rcallS (st2 := [.int r17]) X dX11_letter_24 lmX11_347 lMX11_in (mX11_in e23) rfl rfl rfl (va_cats (Nat.le_of_ble_eq_true rfl)) (by decide) (by omega) (by omega) ?_
    refine wa_ifeq (tgt := 49) X dX11_letter_27 (by decide) (fun h26 => ?_) (fun h26 => ?_)
    · rw [if_pos h26] at hf
      refine wa_iconst (v := (-1 : Int32)) X dX11_letter_49 (by decide) ?_
      obtain ⟨rfl, rfl, rfl, rfl⟩ := jret hf
      exact wa_iret X dX11_letter_50 rfl (by omega) (by omega)
    · rw [if_neg h26] at hf
      refine wa_aload_n X 0 dX11_letter_30 rfl ?_
      obtain ⟨h27, hf⟩ := jckT hf
      refine wa_getP X dX11_letter_31 lfX11_97 rfl h27 rfl ?_
      refine wa_bipush (v := (12 : Int32)) X dX11_letter_34 (by decide) ?_
      refine wa_bipush (v := (24 : Int32)) X dX11_letter_36 (by decide) ?_
      refine wa_iload_n X 1 dX11_letter_38 rfl ?_
      refine wa_imul X dX11_letter_39 ?_
      refine wa_iload_n X 2 dX11_letter_40 rfl ?_
      refine wa_iadd X dX11_letter_41 ?_
      refine wa_imul X dX11_letter_42 ?_
      refine wa_iload_n X 3 dX11_letter_43 rfl ?_
      refine wa_iadd X dX11_letter_44 ?_
      obtain ⟨q28, h29, hf⟩ := jde_some hf
      obtain ⟨h30, hf⟩ := jckT hf
      obtain ⟨h31, hf⟩ := jck_some hf
      refine wa_rbald X dX11_letter_45 h29 h30 h31 ?_
      refine wa_goto (tgt := 50) X dX11_letter_46 (by decide) ?_
      obtain ⟨rfl, rfl, rfl, rfl⟩ := jret hf
      exact wa_iret X dX11_letter_50 rfl (by omega) (by omega)
theorem dX11_isCase_0 : decode cX11_isCase 0 = .ok (.aload_n 0, 1) := by decide +kernel
theorem dX11_isCase_1 : decode cX11_isCase 1 = .ok (.getfield 13, 3) := by decide +kernel
theorem dX11_isCase_4 : decode cX11_isCase 4 = .ok (.ifCond .lt 23, 3) := by decide +kernel
theorem dX11_isCase_7 : decode cX11_isCase 7 = .ok (.iload_n 1, 1) := by decide +kernel
theorem dX11_isCase_8 : decode cX11_isCase 8 = .ok (.iconst 0, 1) := by decide +kernel
theorem dX11_isCase_9 : decode cX11_isCase 9 = .ok (.iconst 1, 1) := by decide +kernel
theorem dX11_isCase_10 : decode cX11_isCase 10 = .ok (.aload_n 0, 1) := by decide +kernel
theorem dX11_isCase_11 : decode cX11_isCase 11 = .ok (.getfield 13, 3) := by decide +kernel
theorem dX11_isCase_14 : decode cX11_isCase 14 = .ok (.ishl, 1) := by decide +kernel
theorem dX11_isCase_15 : decode cX11_isCase 15 = .ok (.iconst 1, 1) := by decide +kernel
theorem dX11_isCase_16 : decode cX11_isCase 16 = .ok (.isub, 1) := by decide +kernel
theorem dX11_isCase_17 : decode cX11_isCase 17 = .ok (.invokestatic 347, 3) := by decide +kernel
theorem dX11_isCase_20 : decode cX11_isCase 20 = .ok (.ifCond .eq 7, 3) := by decide +kernel
theorem dX11_isCase_23 : decode cX11_isCase 23 = .ok (.iconst 1, 1) := by decide +kernel
theorem dX11_isCase_24 : decode cX11_isCase 24 = .ok (.goto 4, 3) := by decide +kernel
theorem dX11_isCase_27 : decode cX11_isCase 27 = .ok (.iconst 0, 1) := by decide +kernel
theorem dX11_isCase_28 : decode cX11_isCase 28 = .ok (.ireturn, 1) := by decide +kernel
def fX11_isCase (a : Nat) (x1 : Int32) (μ : JM) : JO (Int32) := jck ((jT μ a).1 == 12) <| if (jI μ a 2) < 0 then (some ((0 : Int32), μ, 0, 0)) else (jcl (fX11_in x1 (0 : Int32) ((jshl (1 : Int32) (jI μ a 2)) - (1 : Int32)) μ) fun r3 μ4 => if r3 = 0 then (some ((0 : Int32), μ4, 0, 0)) else (some ((1 : Int32), μ4, 0, 0)))
set_option maxHeartbeats 4000000 in
set_option maxRecDepth 100000 in
theorem mX11_isCase {b : Nat} {a : Nat} {x1 : Int32} {μ : JM} {r : Int32} {ν : JM} {c m : Nat} (hf : fX11_isCase a x1 μ = some (r, ν, c, m)) : JMet b yX11_isCase cX11_isCase 2 (some .boolean) 1 22 [va_rf (some a), .int x1] μ (some (.int r)) ν c m := by
  refine JMet.of (by decide) (lg_sl_le (by simp only [List.map_cons, List.map_nil, List.sum_cons, List.sum_nil, va_rf_cat]; exact Nat.le_of_ble_eq_true rfl)) (fun Θ X hin => ?_)
  refine wa_eq (L2 := [(0, va_rf (some a)), (1, .int x1)]) ?_ rfl (by first | rfl | simp [lv_args, va_rf_cat, cat_i, cat_l]) rfl
  obtain ⟨k, hk0⟩ : ∃ k : Nat, k = 0 := ⟨0, rfl⟩
  obtain ⟨n, hn0⟩ : ∃ n : Nat, n = 0 := ⟨0, rfl⟩
  have hk : k + c = c := by omega
  have hn : n + m = m := by omega
  refine wa_costs hk0.symm hn0.symm ?_
  rw [fX11_isCase] at hf
  refine wa_aload_n X 0 dX11_isCase_0 rfl ?_
  obtain ⟨h1, hf⟩ := jckT hf
  refine wa_getI X dX11_isCase_1 lfX11_13 rfl h1 rfl ?_
  refine wa_iflt (tgt := 27) X dX11_isCase_4 (by decide) (fun h2 => ?_) (fun h2 => ?_)
  · rw [if_pos h2] at hf
    refine wa_iconst (v := (0 : Int32)) X dX11_isCase_27 (by decide) ?_
    obtain ⟨rfl, rfl, rfl, rfl⟩ := jret hf
    exact wa_iret X dX11_isCase_28 rfl (by omega) (by omega)
  · rw [if_neg h2] at hf
    refine wa_iload_n X 1 dX11_isCase_7 rfl ?_
    refine wa_iconst (v := (0 : Int32)) X dX11_isCase_8 (by decide) ?_
    refine wa_iconst (v := (1 : Int32)) X dX11_isCase_9 (by decide) ?_
    refine wa_aload_n X 0 dX11_isCase_10 rfl ?_
    refine wa_getI X dX11_isCase_11 lfX11_13 rfl h1 rfl ?_
    refine wa_ishl X dX11_isCase_14 ?_
    refine wa_iconst (v := (1 : Int32)) X dX11_isCase_15 (by decide) ?_
    refine wa_isub X dX11_isCase_16 ?_
    obtain ⟨r3, μ4, c5, m6, c7, m8, e9, hf, h10, h11⟩ := jcl_some hf
    refine wa_rcallS (st2 := [.int r3]) X dX11_isCase_17 lmX11_347 lMX11_in (mX11_in e9) rfl rfl rfl (va_cats (Nat.le_of_ble_eq_true rfl)) (by decide) (by omega) (by omega) ?_
    refine wa_ifeq (tgt := 27) X dX11_isCase_20 (by decide) (fun h12 => ?_) (fun h12 => ?_)
    · rw [if_pos h12] at hf
      refine wa_iconst (v := (0 : Int32)) X dX11_isCase_27 (by decide) ?_
      obtain ⟨rfl, rfl, rfl, rfl⟩ := jret hf
      exact wa_iret X dX11_isCase_28 rfl (by omega) (by omega)
    · rw [if_neg h12] at hf
      refine wa_iconst (v := (1 : Int32)) X dX11_isCase_23 (by decide) ?_
      refine wa_goto (tgt := 28) X dX11_isCase_24 (by decide) ?_
      obtain ⟨rfl, rfl, rfl, rfl⟩ := jret hf
      exact wa_iret X dX11_isCase_28 rfl (by omega) (by omega)
theorem dX11_isSo_0 : decode cX11_isSo 0 = .ok (.aload_n 0, 1) := by decide +kernel
theorem dX11_isSo_1 : decode cX11_isSo 1 = .ok (.getfield 103, 3) := by decide +kernel
theorem dX11_isSo_4 : decode cX11_isSo 4 = .ok (.iconst 4, 1) := by decide +kernel
theorem dX11_isSo_5 : decode cX11_isSo 5 = .ok (.bipush 24, 2) := by decide +kernel
theorem dX11_isSo_7 : decode cX11_isSo 7 = .ok (.iload_n 1, 1) := by decide +kernel
theorem dX11_isSo_8 : decode cX11_isSo 8 = .ok (.imul, 1) := by decide +kernel
theorem dX11_isSo_9 : decode cX11_isSo 9 = .ok (.iload_n 2, 1) := by decide +kernel
theorem dX11_isSo_10 : decode cX11_isSo 10 = .ok (.iadd, 1) := by decide +kernel
theorem dX11_isSo_11 : decode cX11_isSo 11 = .ok (.imul, 1) := by decide +kernel
theorem dX11_isSo_12 : decode cX11_isSo 12 = .ok (.iload_n 3, 1) := by decide +kernel
theorem dX11_isSo_13 : decode cX11_isSo 13 = .ok (.bipush 64, 2) := by decide +kernel
theorem dX11_isSo_15 : decode cX11_isSo 15 = .ok (.idiv, 1) := by decide +kernel
theorem dX11_isSo_16 : decode cX11_isSo 16 = .ok (.iadd, 1) := by decide +kernel
theorem dX11_isSo_17 : decode cX11_isSo 17 = .ok (.laload, 1) := by decide +kernel
theorem dX11_isSo_18 : decode cX11_isSo 18 = .ok (.iload_n 3, 1) := by decide +kernel
theorem dX11_isSo_19 : decode cX11_isSo 19 = .ok (.bipush 64, 2) := by decide +kernel
theorem dX11_isSo_21 : decode cX11_isSo 21 = .ok (.irem, 1) := by decide +kernel
theorem dX11_isSo_22 : decode cX11_isSo 22 = .ok (.lushr, 1) := by decide +kernel
theorem dX11_isSo_23 : decode cX11_isSo 23 = .ok (.lconst 1, 1) := by decide +kernel
theorem dX11_isSo_24 : decode cX11_isSo 24 = .ok (.land, 1) := by decide +kernel
theorem dX11_isSo_25 : decode cX11_isSo 25 = .ok (.lconst 1, 1) := by decide +kernel
theorem dX11_isSo_26 : decode cX11_isSo 26 = .ok (.lcmp, 1) := by decide +kernel
theorem dX11_isSo_27 : decode cX11_isSo 27 = .ok (.ifCond .ne 7, 3) := by decide +kernel
theorem dX11_isSo_30 : decode cX11_isSo 30 = .ok (.iconst 1, 1) := by decide +kernel
theorem dX11_isSo_31 : decode cX11_isSo 31 = .ok (.goto 4, 3) := by decide +kernel
theorem dX11_isSo_34 : decode cX11_isSo 34 = .ok (.iconst 0, 1) := by decide +kernel
theorem dX11_isSo_35 : decode cX11_isSo 35 = .ok (.ireturn, 1) := by decide +kernel
def fX11_isSo (a : Nat) (x1 : Int32) (x2 : Int32) (x3 : Int32) (μ : JM) : JO (Int32) := jck ((jT μ a).1 == 12) <| jde (jP μ a 44) fun q2 => jck ((jT μ q2).1 == 102) <| jck (jin (((4 : Int32) * (((24 : Int32) * x1) + x2)) + (x3 / (64 : Int32))) (jT μ q2).2) <| if (lg_cmp ((jlushr (jJ μ q2 ((((4 : Int32) * (((24 : Int32) * x1) + x2)) + (x3 / (64 : Int32)))).toNatClampNeg) (jrem x3 (64 : Int32))) &&& (1 : Int64)) (1 : Int64)) = 0 then (some ((1 : Int32), μ, 0, 0)) else (some ((0 : Int32), μ, 0, 0))
set_option maxHeartbeats 4000000 in
set_option maxRecDepth 100000 in
theorem mX11_isSo {b : Nat} {a : Nat} {x1 : Int32} {x2 : Int32} {x3 : Int32} {μ : JM} {r : Int32} {ν : JM} {c m : Nat} (hf : fX11_isSo a x1 x2 x3 μ = some (r, ν, c, m)) : JMet b yX11_isSo cX11_isSo 4 (some .boolean) 0 0 [va_rf (some a), .int x1, .int x2, .int x3] μ (some (.int r)) ν c m := by
  refine JMet.of (by decide) (lg_sl_le (by simp only [List.map_cons, List.map_nil, List.sum_cons, List.sum_nil, va_rf_cat]; exact Nat.le_of_ble_eq_true rfl)) (fun Θ X hin => ?_)
  refine wa_eq (L2 := [(0, va_rf (some a)), (1, .int x1), (2, .int x2), (3, .int x3)]) ?_ rfl (by first | rfl | simp [lv_args, va_rf_cat, cat_i, cat_l]) rfl
  obtain ⟨k, hk0⟩ : ∃ k : Nat, k = 0 := ⟨0, rfl⟩
  obtain ⟨n, hn0⟩ : ∃ n : Nat, n = 0 := ⟨0, rfl⟩
  have hk : k + c = c := by omega
  have hn : n + m = m := by omega
  refine wa_costs hk0.symm hn0.symm ?_
  rw [fX11_isSo] at hf
  refine wa_aload_n X 0 dX11_isSo_0 rfl ?_
  obtain ⟨h1, hf⟩ := jckT hf
  refine wa_getP X dX11_isSo_1 lfX11_103 rfl h1 rfl ?_
  refine wa_iconst (v := (4 : Int32)) X dX11_isSo_4 (by decide) ?_
  refine wa_bipush (v := (24 : Int32)) X dX11_isSo_5 (by decide) ?_
  refine wa_iload_n X 1 dX11_isSo_7 rfl ?_
  refine wa_imul X dX11_isSo_8 ?_
  refine wa_iload_n X 2 dX11_isSo_9 rfl ?_
  refine wa_iadd X dX11_isSo_10 ?_
  refine wa_imul X dX11_isSo_11 ?_
  refine wa_iload_n X 3 dX11_isSo_12 rfl ?_
  refine wa_bipush (v := (64 : Int32)) X dX11_isSo_13 (by decide) ?_
  refine wa_idiv X dX11_isSo_15 (by decide) ?_
  refine wa_iadd X dX11_isSo_16 ?_
  obtain ⟨q2, h3, hf⟩ := jde_some hf
  obtain ⟨h4, hf⟩ := jckT hf
  obtain ⟨h5, hf⟩ := jck_some hf
  refine wa_rlald X dX11_isSo_17 h3 h4 h5 ?_
  refine wa_iload_n X 3 dX11_isSo_18 rfl ?_
  refine wa_bipush (v := (64 : Int32)) X dX11_isSo_19 (by decide) ?_
  refine wa_irem X dX11_isSo_21 (by decide) ?_
  refine wa_lushr X dX11_isSo_22 ?_
  refine wa_lconst (v := (1 : Int64)) X dX11_isSo_23 (by decide) ?_
  refine wa_land X dX11_isSo_24 ?_
  refine wa_lconst (v := (1 : Int64)) X dX11_isSo_25 (by decide) ?_
  refine wa_lcmp X dX11_isSo_26 ?_
  refine wa_ifne (tgt := 34) X dX11_isSo_27 (by decide) (fun h6 => ?_) (fun h6 => ?_)
  · rw [if_neg h6] at hf
    refine wa_iconst (v := (0 : Int32)) X dX11_isSo_34 (by decide) ?_
    obtain ⟨rfl, rfl, rfl, rfl⟩ := jret hf
    exact wa_iret X dX11_isSo_35 rfl (by omega) (by omega)
  · rw [if_pos h6] at hf
    refine wa_iconst (v := (1 : Int32)) X dX11_isSo_30 (by decide) ?_
    refine wa_goto (tgt := 35) X dX11_isSo_31 (by decide) ?_
    obtain ⟨rfl, rfl, rfl, rfl⟩ := jret hf
    exact wa_iret X dX11_isSo_35 rfl (by omega) (by omega)
theorem dX11_holds_0 : decode cX11_holds 0 = .ok (.aload_n 0, 1) := by decide +kernel
theorem dX11_holds_1 : decode cX11_holds 1 = .ok (.iload_n 1, 1) := by decide +kernel
theorem dX11_holds_2 : decode cX11_holds 2 = .ok (.iload_n 2, 1) := by decide +kernel
theorem dX11_holds_3 : decode cX11_holds 3 = .ok (.invokevirtual 414, 3) := by decide +kernel
theorem dX11_holds_6 : decode cX11_holds 6 = .ok (.ifCond .eq 11, 3) := by decide +kernel
theorem dX11_holds_9 : decode cX11_holds 9 = .ok (.aload_n 0, 1) := by decide +kernel
theorem dX11_holds_10 : decode cX11_holds 10 = .ok (.iload_n 3, 1) := by decide +kernel
theorem dX11_holds_11 : decode cX11_holds 11 = .ok (.invokevirtual 417, 3) := by decide +kernel
theorem dX11_holds_14 : decode cX11_holds 14 = .ok (.ifCond .ne 7, 3) := by decide +kernel
theorem dX11_holds_17 : decode cX11_holds 17 = .ok (.iconst (-1), 1) := by decide +kernel
theorem dX11_holds_18 : decode cX11_holds 18 = .ok (.goto 18, 3) := by decide +kernel
theorem dX11_holds_21 : decode cX11_holds 21 = .ok (.aload_n 0, 1) := by decide +kernel
theorem dX11_holds_22 : decode cX11_holds 22 = .ok (.iload_n 1, 1) := by decide +kernel
theorem dX11_holds_23 : decode cX11_holds 23 = .ok (.iload_n 2, 1) := by decide +kernel
theorem dX11_holds_24 : decode cX11_holds 24 = .ok (.iload_n 3, 1) := by decide +kernel
theorem dX11_holds_25 : decode cX11_holds 25 = .ok (.invokevirtual 420, 3) := by decide +kernel
theorem dX11_holds_28 : decode cX11_holds 28 = .ok (.ifCond .eq 7, 3) := by decide +kernel
theorem dX11_holds_31 : decode cX11_holds 31 = .ok (.iconst 1, 1) := by decide +kernel
theorem dX11_holds_32 : decode cX11_holds 32 = .ok (.goto 4, 3) := by decide +kernel
theorem dX11_holds_35 : decode cX11_holds 35 = .ok (.iconst 0, 1) := by decide +kernel
theorem dX11_holds_36 : decode cX11_holds 36 = .ok (.ireturn, 1) := by decide +kernel
def fX11_holds (a : Nat) (x1 : Int32) (x2 : Int32) (x3 : Int32) (μ : JM) : JO (Int32) := jck ((jT μ a).1 == 12) <| jcl (fX11_isClause a x1 x2 μ) fun r2 μ3 => if r2 = 0 then (some ((-1 : Int32), μ3, 0, 0)) else (jck ((jT μ3 a).1 == 12) <| jcl (fX11_isCase a x3 μ3) fun r13 μ14 => if r13 = 0 then (some ((-1 : Int32), μ14, 0, 0)) else (jck ((jT μ14 a).1 == 12) <| jcl (fX11_isSo a x1 x2 x3 μ14) fun r24 μ25 => if r24 = 0 then (some ((0 : Int32), μ25, 0, 0)) else (some ((1 : Int32), μ25, 0, 0))))
set_option maxHeartbeats 4000000 in
set_option maxRecDepth 100000 in
theorem mX11_holds {b : Nat} {a : Nat} {x1 : Int32} {x2 : Int32} {x3 : Int32} {μ : JM} {r : Int32} {ν : JM} {c m : Nat} (hf : fX11_holds a x1 x2 x3 μ = some (r, ν, c, m)) : JMet b yX11_holds cX11_holds 4 (some .int) 4 85 [va_rf (some a), .int x1, .int x2, .int x3] μ (some (.int r)) ν c m := by
  refine JMet.of (by decide) (lg_sl_le (by simp only [List.map_cons, List.map_nil, List.sum_cons, List.sum_nil, va_rf_cat]; exact Nat.le_of_ble_eq_true rfl)) (fun Θ X hin => ?_)
  refine wa_eq (L2 := [(0, va_rf (some a)), (1, .int x1), (2, .int x2), (3, .int x3)]) ?_ rfl (by first | rfl | simp [lv_args, va_rf_cat, cat_i, cat_l]) rfl
  obtain ⟨k, hk0⟩ : ∃ k : Nat, k = 0 := ⟨0, rfl⟩
  obtain ⟨n, hn0⟩ : ∃ n : Nat, n = 0 := ⟨0, rfl⟩
  have hk : k + c = c := by omega
  have hn : n + m = m := by omega
  refine wa_costs hk0.symm hn0.symm ?_
  rw [fX11_holds] at hf
  refine wa_aload_n X 0 dX11_holds_0 rfl ?_
  refine wa_iload_n X 1 dX11_holds_1 rfl ?_
  refine wa_iload_n X 2 dX11_holds_2 rfl ?_
  obtain ⟨h1, hf⟩ := jckT hf
  obtain ⟨r2, μ3, c4, m5, c6, m7, e8, hf, h9, h10⟩ := jcl_some hf
  refine wa_rcallV (st2 := [.int r2]) X dX11_holds_3 lmX11_414 lMX11_isClause rfl h1 (mX11_isClause e8) rfl rfl rfl (va_cats (Nat.le_of_ble_eq_true rfl)) (by decide) (by omega) (by omega) ?_
  refine wa_ifeq (tgt := 17) X dX11_holds_6 (by decide) (fun h11 => ?_) (fun h11 => ?_)
  · rw [if_pos h11] at hf
    refine wa_iconst (v := (-1 : Int32)) X dX11_holds_17 (by decide) ?_
    refine wa_goto (tgt := 36) X dX11_holds_18 (by decide) ?_
    obtain ⟨rfl, rfl, rfl, rfl⟩ := jret hf
    exact wa_iret X dX11_holds_36 rfl (by omega) (by omega)
  · rw [if_neg h11] at hf
    refine wa_aload_n X 0 dX11_holds_9 rfl ?_
    refine wa_iload_n X 3 dX11_holds_10 rfl ?_
    obtain ⟨h12, hf⟩ := jckT hf
    obtain ⟨r13, μ14, c15, m16, c17, m18, e19, hf, h20, h21⟩ := jcl_some hf
    refine wa_rcallV (st2 := [.int r13]) X dX11_holds_11 lmX11_417 lMX11_isCase rfl h12 (mX11_isCase e19) rfl rfl rfl (va_cats (Nat.le_of_ble_eq_true rfl)) (by decide) (by omega) (by omega) ?_
    refine wa_ifne (tgt := 21) X dX11_holds_14 (by decide) (fun h22 => ?_) (fun h22 => ?_)
    · rw [if_neg h22] at hf
      refine wa_aload_n X 0 dX11_holds_21 rfl ?_
      refine wa_iload_n X 1 dX11_holds_22 rfl ?_
      refine wa_iload_n X 2 dX11_holds_23 rfl ?_
      refine wa_iload_n X 3 dX11_holds_24 rfl ?_
      obtain ⟨h23, hf⟩ := jckT hf
      obtain ⟨r24, μ25, c26, m27, c28, m29, e30, hf, h31, h32⟩ := jcl_some hf
      refine wa_rcallV (st2 := [.int r24]) X dX11_holds_25 lmX11_420 lMX11_isSo rfl h23 (mX11_isSo e30) rfl rfl rfl (va_cats (Nat.le_of_ble_eq_true rfl)) (by decide) (by omega) (by omega) ?_
      refine wa_ifeq (tgt := 35) X dX11_holds_28 (by decide) (fun h33 => ?_) (fun h33 => ?_)
      · rw [if_pos h33] at hf
        refine wa_iconst (v := (0 : Int32)) X dX11_holds_35 (by decide) ?_
        obtain ⟨rfl, rfl, rfl, rfl⟩ := jret hf
        exact wa_iret X dX11_holds_36 rfl (by omega) (by omega)
      · rw [if_neg h33] at hf
        refine wa_iconst (v := (1 : Int32)) X dX11_holds_31 (by decide) ?_
        refine wa_goto (tgt := 36) X dX11_holds_32 (by decide) ?_
        obtain ⟨rfl, rfl, rfl, rfl⟩ := jret hf
        exact wa_iret X dX11_holds_36 rfl (by omega) (by omega)
    · rw [if_pos h22] at hf
      refine wa_iconst (v := (-1 : Int32)) X dX11_holds_17 (by decide) ?_
      refine wa_goto (tgt := 36) X dX11_holds_18 (by decide) ?_
      obtain ⟨rfl, rfl, rfl, rfl⟩ := jret hf
      exact wa_iret X dX11_holds_36 rfl (by omega) (by omega)
theorem dX11_outcomeOf_0 : decode cX11_outcomeOf 0 = .ok (.bipush 24, 2) := by decide +kernel
theorem dX11_outcomeOf_2 : decode cX11_outcomeOf 2 = .ok (.iload_n 1, 1) := by decide +kernel
theorem dX11_outcomeOf_3 : decode cX11_outcomeOf 3 = .ok (.imul, 1) := by decide +kernel
theorem dX11_outcomeOf_4 : decode cX11_outcomeOf 4 = .ok (.iload_n 2, 1) := by decide +kernel
theorem dX11_outcomeOf_5 : decode cX11_outcomeOf 5 = .ok (.iadd, 1) := by decide +kernel
theorem dX11_outcomeOf_6 : decode cX11_outcomeOf 6 = .ok (.istore_n 3, 1) := by decide +kernel
theorem dX11_outcomeOf_7 : decode cX11_outcomeOf 7 = .ok (.aload_n 0, 1) := by decide +kernel
theorem dX11_outcomeOf_8 : decode cX11_outcomeOf 8 = .ok (.getfield 76, 3) := by decide +kernel
theorem dX11_outcomeOf_11 : decode cX11_outcomeOf 11 = .ok (.iload_n 3, 1) := by decide +kernel
theorem dX11_outcomeOf_12 : decode cX11_outcomeOf 12 = .ok (.iaload, 1) := by decide +kernel
theorem dX11_outcomeOf_13 : decode cX11_outcomeOf 13 = .ok (.iconst 1, 1) := by decide +kernel
theorem dX11_outcomeOf_14 : decode cX11_outcomeOf 14 = .ok (.if_icmp .ne 21, 3) := by decide +kernel
theorem dX11_outcomeOf_17 : decode cX11_outcomeOf 17 = .ok (.iconst 2, 1) := by decide +kernel
theorem dX11_outcomeOf_18 : decode cX11_outcomeOf 18 = .ok (.aload_n 0, 1) := by decide +kernel
theorem dX11_outcomeOf_19 : decode cX11_outcomeOf 19 = .ok (.getfield 85, 3) := by decide +kernel
theorem dX11_outcomeOf_22 : decode cX11_outcomeOf 22 = .ok (.iload_n 3, 1) := by decide +kernel
theorem dX11_outcomeOf_23 : decode cX11_outcomeOf 23 = .ok (.iaload, 1) := by decide +kernel
theorem dX11_outcomeOf_24 : decode cX11_outcomeOf 24 = .ok (.imul, 1) := by decide +kernel
theorem dX11_outcomeOf_25 : decode cX11_outcomeOf 25 = .ok (.aload_n 0, 1) := by decide +kernel
theorem dX11_outcomeOf_26 : decode cX11_outcomeOf 26 = .ok (.getfield 88, 3) := by decide +kernel
theorem dX11_outcomeOf_29 : decode cX11_outcomeOf 29 = .ok (.iload_n 3, 1) := by decide +kernel
theorem dX11_outcomeOf_30 : decode cX11_outcomeOf 30 = .ok (.iaload, 1) := by decide +kernel
theorem dX11_outcomeOf_31 : decode cX11_outcomeOf 31 = .ok (.iadd, 1) := by decide +kernel
theorem dX11_outcomeOf_32 : decode cX11_outcomeOf 32 = .ok (.goto 4, 3) := by decide +kernel
theorem dX11_outcomeOf_35 : decode cX11_outcomeOf 35 = .ok (.iconst 0, 1) := by decide +kernel
theorem dX11_outcomeOf_36 : decode cX11_outcomeOf 36 = .ok (.istore 4, 2) := by decide +kernel
theorem dX11_outcomeOf_38 : decode cX11_outcomeOf 38 = .ok (.aload_n 0, 1) := by decide +kernel
theorem dX11_outcomeOf_39 : decode cX11_outcomeOf 39 = .ok (.getfield 76, 3) := by decide +kernel
theorem dX11_outcomeOf_42 : decode cX11_outcomeOf 42 = .ok (.iload_n 3, 1) := by decide +kernel
theorem dX11_outcomeOf_43 : decode cX11_outcomeOf 43 = .ok (.iaload, 1) := by decide +kernel
theorem dX11_outcomeOf_44 : decode cX11_outcomeOf 44 = .ok (.bipush 8, 2) := by decide +kernel
theorem dX11_outcomeOf_46 : decode cX11_outcomeOf 46 = .ok (.imul, 1) := by decide +kernel
theorem dX11_outcomeOf_47 : decode cX11_outcomeOf 47 = .ok (.aload_n 0, 1) := by decide +kernel
theorem dX11_outcomeOf_48 : decode cX11_outcomeOf 48 = .ok (.getfield 79, 3) := by decide +kernel
theorem dX11_outcomeOf_51 : decode cX11_outcomeOf 51 = .ok (.iload_n 3, 1) := by decide +kernel
theorem dX11_outcomeOf_52 : decode cX11_outcomeOf 52 = .ok (.iaload, 1) := by decide +kernel
theorem dX11_outcomeOf_53 : decode cX11_outcomeOf 53 = .ok (.iadd, 1) := by decide +kernel
theorem dX11_outcomeOf_54 : decode cX11_outcomeOf 54 = .ok (.bipush 16, 2) := by decide +kernel
theorem dX11_outcomeOf_56 : decode cX11_outcomeOf 56 = .ok (.imul, 1) := by decide +kernel
theorem dX11_outcomeOf_57 : decode cX11_outcomeOf 57 = .ok (.aload_n 0, 1) := by decide +kernel
theorem dX11_outcomeOf_58 : decode cX11_outcomeOf 58 = .ok (.getfield 82, 3) := by decide +kernel
theorem dX11_outcomeOf_61 : decode cX11_outcomeOf 61 = .ok (.iload_n 3, 1) := by decide +kernel
theorem dX11_outcomeOf_62 : decode cX11_outcomeOf 62 = .ok (.iaload, 1) := by decide +kernel
theorem dX11_outcomeOf_63 : decode cX11_outcomeOf 63 = .ok (.iadd, 1) := by decide +kernel
theorem dX11_outcomeOf_64 : decode cX11_outcomeOf 64 = .ok (.sipush 1024, 3) := by decide +kernel
theorem dX11_outcomeOf_67 : decode cX11_outcomeOf 67 = .ok (.imul, 1) := by decide +kernel
theorem dX11_outcomeOf_68 : decode cX11_outcomeOf 68 = .ok (.iload 4, 2) := by decide +kernel
theorem dX11_outcomeOf_70 : decode cX11_outcomeOf 70 = .ok (.iadd, 1) := by decide +kernel
theorem dX11_outcomeOf_71 : decode cX11_outcomeOf 71 = .ok (.ireturn, 1) := by decide +kernel
def fX11_outcomeOf_b36 (a : Nat) (x3 : Int32) (s0 : Int32) (μ : JM) : JO (Int32) := jck ((jT μ a).1 == 12) <| jde (jP μ a 35) fun q16 => jck ((jT μ q16).1 == 101) <| jck (jin x3 (jT μ q16).2) <| jde (jP μ a 36) fun q20 => jck ((jT μ q20).1 == 101) <| jck (jin x3 (jT μ q20).2) <| jde (jP μ a 37) fun q24 => jck ((jT μ q24).1 == 101) <| jck (jin x3 (jT μ q24).2) <| some ((((((((jI μ q16 (x3).toNatClampNeg) * (8 : Int32)) + (jI μ q20 (x3).toNatClampNeg)) * (16 : Int32)) + (jI μ q24 (x3).toNatClampNeg)) * (1024 : Int32)) + s0), μ, 0, 0)
set_option maxHeartbeats 4000000 in
set_option maxRecDepth 100000 in
theorem gX11_outcomeOf_b36 {b : Nat} {Θ : JE} {RC RS : Nat} {r : Int32} {ν : JM} (X : jX b Θ RX11 cX11_outcomeOf 5 (some .int) 0 0 RC RS) (a : Nat) (x3 : Int32) (s0 : Int32) (μ : JM) (c m k n : Nat) (hf : fX11_outcomeOf_b36 a x3 s0 μ = some (r, ν, c, m)) (hk : k + c = RC) (hn : n + m = RS) : WA b Θ 5 (jE b Θ (some (.int r)) ν RC RS) μ k n 36 [(0, va_rf (some a)), (3, .int x3)] [.int s0] := by
  rw [fX11_outcomeOf_b36] at hf
  refine wa_istore (L2 := [(4, .int s0), (0, va_rf (some a)), (3, .int x3)]) X dX11_outcomeOf_36 (by decide) (by first | rfl | (show (4, _) :: List.filter (fun q : Nat × Value => !(q.1 == 4) && !(q.1 + 1 == 4 && q.2.category == 2)) _ = _; simp [va_rf_cat, cat_i, cat_l])) ?_
  refine wa_aload_n X 1 dX11_outcomeOf_38 rfl ?_
  obtain ⟨h15, hf⟩ := jckT hf
  refine wa_getP X dX11_outcomeOf_39 lfX11_76 rfl h15 rfl ?_
  refine wa_iload_n X 2 dX11_outcomeOf_42 rfl ?_
  obtain ⟨q16, h17, hf⟩ := jde_some hf
  obtain ⟨h18, hf⟩ := jckT hf
  obtain ⟨h19, hf⟩ := jck_some hf
  refine wa_riald X dX11_outcomeOf_43 h17 h18 h19 ?_
  refine wa_bipush (v := (8 : Int32)) X dX11_outcomeOf_44 (by decide) ?_
  refine wa_imul X dX11_outcomeOf_46 ?_
  refine wa_aload_n X 1 dX11_outcomeOf_47 rfl ?_
  refine wa_getP X dX11_outcomeOf_48 lfX11_79 rfl h15 rfl ?_
  refine wa_iload_n X 2 dX11_outcomeOf_51 rfl ?_
  obtain ⟨q20, h21, hf⟩ := jde_some hf
  obtain ⟨h22, hf⟩ := jckT hf
  obtain ⟨h23, hf⟩ := jck_some hf
  refine wa_riald X dX11_outcomeOf_52 h21 h22 h23 ?_
  refine wa_iadd X dX11_outcomeOf_53 ?_
  refine wa_bipush (v := (16 : Int32)) X dX11_outcomeOf_54 (by decide) ?_
  refine wa_imul X dX11_outcomeOf_56 ?_
  refine wa_aload_n X 1 dX11_outcomeOf_57 rfl ?_
  refine wa_getP X dX11_outcomeOf_58 lfX11_82 rfl h15 rfl ?_
  refine wa_iload_n X 2 dX11_outcomeOf_61 rfl ?_
  obtain ⟨q24, h25, hf⟩ := jde_some hf
  obtain ⟨h26, hf⟩ := jckT hf
  obtain ⟨h27, hf⟩ := jck_some hf
  refine wa_riald X dX11_outcomeOf_62 h25 h26 h27 ?_
  refine wa_iadd X dX11_outcomeOf_63 ?_
  refine wa_sipush (v := (1024 : Int32)) X dX11_outcomeOf_64 (by decide) ?_
  refine wa_imul X dX11_outcomeOf_67 ?_
  refine wa_iload X 0 dX11_outcomeOf_68 rfl ?_
  refine wa_iadd X dX11_outcomeOf_70 ?_
  obtain ⟨rfl, rfl, rfl, rfl⟩ := jret hf
  exact wa_iret X dX11_outcomeOf_71 rfl (by omega) (by omega)
def fX11_outcomeOf (a : Nat) (x1 : Int32) (x2 : Int32) (μ : JM) : JO (Int32) := jck ((jT μ a).1 == 12) <| jde (jP μ a 35) fun q2 => jck ((jT μ q2).1 == 101) <| jck (jin (((24 : Int32) * x1) + x2) (jT μ q2).2) <| if (jI μ q2 ((((24 : Int32) * x1) + x2)).toNatClampNeg) = (1 : Int32) then (jde (jP μ a 38) fun q7 => jck ((jT μ q7).1 == 101) <| jck (jin (((24 : Int32) * x1) + x2) (jT μ q7).2) <| jde (jP μ a 39) fun q11 => jck ((jT μ q11).1 == 101) <| jck (jin (((24 : Int32) * x1) + x2) (jT μ q11).2) <| fX11_outcomeOf_b36  a (((24 : Int32) * x1) + x2) (((2 : Int32) * (jI μ q7 ((((24 : Int32) * x1) + x2)).toNatClampNeg)) + (jI μ q11 ((((24 : Int32) * x1) + x2)).toNatClampNeg)) μ) else (fX11_outcomeOf_b36  a (((24 : Int32) * x1) + x2) (0 : Int32) μ)
set_option maxHeartbeats 4000000 in
set_option maxRecDepth 100000 in
theorem mX11_outcomeOf {b : Nat} {a : Nat} {x1 : Int32} {x2 : Int32} {μ : JM} {r : Int32} {ν : JM} {c m : Nat} (hf : fX11_outcomeOf a x1 x2 μ = some (r, ν, c, m)) : JMet b yX11_outcomeOf cX11_outcomeOf 5 (some .int) 0 0 [va_rf (some a), .int x1, .int x2] μ (some (.int r)) ν c m := by
  refine JMet.of (by decide) (lg_sl_le (by simp only [List.map_cons, List.map_nil, List.sum_cons, List.sum_nil, va_rf_cat]; exact Nat.le_of_ble_eq_true rfl)) (fun Θ X hin => ?_)
  refine wa_eq (L2 := [(0, va_rf (some a)), (1, .int x1), (2, .int x2)]) ?_ rfl (by first | rfl | simp [lv_args, va_rf_cat, cat_i, cat_l]) rfl
  obtain ⟨k, hk0⟩ : ∃ k : Nat, k = 0 := ⟨0, rfl⟩
  obtain ⟨n, hn0⟩ : ∃ n : Nat, n = 0 := ⟨0, rfl⟩
  have hk : k + c = c := by omega
  have hn : n + m = m := by omega
  refine wa_costs hk0.symm hn0.symm ?_
  rw [fX11_outcomeOf] at hf
  refine wa_bipush (v := (24 : Int32)) X dX11_outcomeOf_0 (by decide) ?_
  refine wa_iload_n X 1 dX11_outcomeOf_2 rfl ?_
  refine wa_imul X dX11_outcomeOf_3 ?_
  refine wa_iload_n X 2 dX11_outcomeOf_4 rfl ?_
  refine wa_iadd X dX11_outcomeOf_5 ?_
  refine wa_istore_n (L2 := [(3, .int (((24 : Int32) * x1) + x2)), (0, va_rf (some a)), (1, .int x1), (2, .int x2)]) X dX11_outcomeOf_6 (by decide) (by first | rfl | (show (3, _) :: List.filter (fun q : Nat × Value => !(q.1 == 3) && !(q.1 + 1 == 3 && q.2.category == 2)) _ = _; simp [va_rf_cat, cat_i, cat_l])) ?_
  refine wa_aload_n X 1 dX11_outcomeOf_7 rfl ?_
  obtain ⟨h1, hf⟩ := jckT hf
  refine wa_getP X dX11_outcomeOf_8 lfX11_76 rfl h1 rfl ?_
  refine wa_iload_n X 0 dX11_outcomeOf_11 rfl ?_
  obtain ⟨q2, h3, hf⟩ := jde_some hf
  obtain ⟨h4, hf⟩ := jckT hf
  obtain ⟨h5, hf⟩ := jck_some hf
  refine wa_riald X dX11_outcomeOf_12 h3 h4 h5 ?_
  refine wa_iconst (v := (1 : Int32)) X dX11_outcomeOf_13 (by decide) ?_
  refine wa_icne (tgt := 35) X dX11_outcomeOf_14 (by decide) (fun h6 => ?_) (fun h6 => ?_)
  · rw [if_neg h6] at hf
    refine wa_iconst (v := (0 : Int32)) X dX11_outcomeOf_35 (by decide) ?_
    refine wa_sub (L2 := [(0, va_rf (some a)), (3, .int (((24 : Int32) * x1) + x2))]) [1, 0] rfl ?_
    exact gX11_outcomeOf_b36 X a (((24 : Int32) * x1) + x2) (0 : Int32) μ _ _ _ _ hf (by omega) (by omega)
  · rw [if_pos h6] at hf
    refine wa_iconst (v := (2 : Int32)) X dX11_outcomeOf_17 (by decide) ?_
    refine wa_aload_n X 1 dX11_outcomeOf_18 rfl ?_
    refine wa_getP X dX11_outcomeOf_19 lfX11_85 rfl h1 rfl ?_
    refine wa_iload_n X 0 dX11_outcomeOf_22 rfl ?_
    obtain ⟨q7, h8, hf⟩ := jde_some hf
    obtain ⟨h9, hf⟩ := jckT hf
    obtain ⟨h10, hf⟩ := jck_some hf
    refine wa_riald X dX11_outcomeOf_23 h8 h9 h10 ?_
    refine wa_imul X dX11_outcomeOf_24 ?_
    refine wa_aload_n X 1 dX11_outcomeOf_25 rfl ?_
    refine wa_getP X dX11_outcomeOf_26 lfX11_88 rfl h1 rfl ?_
    refine wa_iload_n X 0 dX11_outcomeOf_29 rfl ?_
    obtain ⟨q11, h12, hf⟩ := jde_some hf
    obtain ⟨h13, hf⟩ := jckT hf
    obtain ⟨h14, hf⟩ := jck_some hf
    refine wa_riald X dX11_outcomeOf_30 h12 h13 h14 ?_
    refine wa_iadd X dX11_outcomeOf_31 ?_
    refine wa_goto (tgt := 36) X dX11_outcomeOf_32 (by decide) ?_
    refine wa_sub (L2 := [(0, va_rf (some a)), (3, .int (((24 : Int32) * x1) + x2))]) [1, 0] rfl ?_
    exact gX11_outcomeOf_b36 X a (((24 : Int32) * x1) + x2) (((2 : Int32) * (jI μ q7 ((((24 : Int32) * x1) + x2)).toNatClampNeg)) + (jI μ q11 ((((24 : Int32) * x1) + x2)).toNatClampNeg)) μ _ _ _ _ hf (by omega) (by omega)
theorem dX11_finds_0 : decode cX11_finds 0 = .ok (.aload_n 0, 1) := by decide +kernel
theorem dX11_finds_1 : decode cX11_finds 1 = .ok (.iconst 0, 1) := by decide +kernel
theorem dX11_finds_2 : decode cX11_finds 2 = .ok (.putfield 423, 3) := by decide +kernel
theorem dX11_finds_5 : decode cX11_finds 5 = .ok (.iconst 0, 1) := by decide +kernel
theorem dX11_finds_6 : decode cX11_finds 6 = .ok (.istore_n 3, 1) := by decide +kernel
theorem dX11_finds_7 : decode cX11_finds 7 = .ok (.iload_n 3, 1) := by decide +kernel
theorem dX11_finds_8 : decode cX11_finds 8 = .ok (.aload_n 0, 1) := by decide +kernel
theorem dX11_finds_9 : decode cX11_finds 9 = .ok (.getfield 73, 3) := by decide +kernel
theorem dX11_finds_12 : decode cX11_finds 12 = .ok (.iload_n 1, 1) := by decide +kernel
theorem dX11_finds_13 : decode cX11_finds 13 = .ok (.iaload, 1) := by decide +kernel
theorem dX11_finds_14 : decode cX11_finds 14 = .ok (.if_icmp .ge 152, 3) := by decide +kernel
theorem dX11_finds_17 : decode cX11_finds 17 = .ok (.aload_n 0, 1) := by decide +kernel
theorem dX11_finds_18 : decode cX11_finds 18 = .ok (.getfield 76, 3) := by decide +kernel
theorem dX11_finds_21 : decode cX11_finds 21 = .ok (.bipush 24, 2) := by decide +kernel
theorem dX11_finds_23 : decode cX11_finds 23 = .ok (.iload_n 1, 1) := by decide +kernel
theorem dX11_finds_24 : decode cX11_finds 24 = .ok (.imul, 1) := by decide +kernel
theorem dX11_finds_25 : decode cX11_finds 25 = .ok (.iload_n 3, 1) := by decide +kernel
theorem dX11_finds_26 : decode cX11_finds 26 = .ok (.iadd, 1) := by decide +kernel
theorem dX11_finds_27 : decode cX11_finds 27 = .ok (.iaload, 1) := by decide +kernel
theorem dX11_finds_28 : decode cX11_finds 28 = .ok (.ifCond .eq 132, 3) := by decide +kernel
theorem dX11_finds_31 : decode cX11_finds 31 = .ok (.aload_n 0, 1) := by decide +kernel
theorem dX11_finds_32 : decode cX11_finds 32 = .ok (.iload_n 1, 1) := by decide +kernel
theorem dX11_finds_33 : decode cX11_finds 33 = .ok (.iload_n 3, 1) := by decide +kernel
theorem dX11_finds_34 : decode cX11_finds 34 = .ok (.iload_n 2, 1) := by decide +kernel
theorem dX11_finds_35 : decode cX11_finds 35 = .ok (.invokevirtual 420, 3) := by decide +kernel
theorem dX11_finds_38 : decode cX11_finds 38 = .ok (.ifCond .ne 6, 3) := by decide +kernel
theorem dX11_finds_41 : decode cX11_finds 41 = .ok (.goto 119, 3) := by decide +kernel
theorem dX11_finds_44 : decode cX11_finds 44 = .ok (.aload_n 0, 1) := by decide +kernel
theorem dX11_finds_45 : decode cX11_finds 45 = .ok (.iload_n 1, 1) := by decide +kernel
theorem dX11_finds_46 : decode cX11_finds 46 = .ok (.iload_n 3, 1) := by decide +kernel
theorem dX11_finds_47 : decode cX11_finds 47 = .ok (.invokevirtual 426, 3) := by decide +kernel
theorem dX11_finds_50 : decode cX11_finds 50 = .ok (.istore 4, 2) := by decide +kernel
theorem dX11_finds_52 : decode cX11_finds 52 = .ok (.iconst 0, 1) := by decide +kernel
theorem dX11_finds_53 : decode cX11_finds 53 = .ok (.istore 5, 2) := by decide +kernel
theorem dX11_finds_55 : decode cX11_finds 55 = .ok (.iload 5, 2) := by decide +kernel
theorem dX11_finds_57 : decode cX11_finds 57 = .ok (.aload_n 0, 1) := by decide +kernel
theorem dX11_finds_58 : decode cX11_finds 58 = .ok (.getfield 423, 3) := by decide +kernel
theorem dX11_finds_61 : decode cX11_finds 61 = .ok (.if_icmp .ge 21, 3) := by decide +kernel
theorem dX11_finds_64 : decode cX11_finds 64 = .ok (.aload_n 0, 1) := by decide +kernel
theorem dX11_finds_65 : decode cX11_finds 65 = .ok (.getfield 140, 3) := by decide +kernel
theorem dX11_finds_68 : decode cX11_finds 68 = .ok (.iload 5, 2) := by decide +kernel
theorem dX11_finds_70 : decode cX11_finds 70 = .ok (.iaload, 1) := by decide +kernel
theorem dX11_finds_71 : decode cX11_finds 71 = .ok (.iload 4, 2) := by decide +kernel
theorem dX11_finds_73 : decode cX11_finds 73 = .ok (.if_icmp .ge 9, 3) := by decide +kernel
theorem dX11_finds_76 : decode cX11_finds 76 = .ok (.iinc 5 1, 3) := by decide +kernel
theorem dX11_finds_79 : decode cX11_finds 79 = .ok (.goto (-24), 3) := by decide +kernel
theorem dX11_finds_82 : decode cX11_finds 82 = .ok (.iload 5, 2) := by decide +kernel
theorem dX11_finds_84 : decode cX11_finds 84 = .ok (.aload_n 0, 1) := by decide +kernel
theorem dX11_finds_85 : decode cX11_finds 85 = .ok (.getfield 423, 3) := by decide +kernel
theorem dX11_finds_88 : decode cX11_finds 88 = .ok (.if_icmp .ge 18, 3) := by decide +kernel
theorem dX11_finds_91 : decode cX11_finds 91 = .ok (.aload_n 0, 1) := by decide +kernel
theorem dX11_finds_92 : decode cX11_finds 92 = .ok (.getfield 140, 3) := by decide +kernel
theorem dX11_finds_95 : decode cX11_finds 95 = .ok (.iload 5, 2) := by decide +kernel
theorem dX11_finds_97 : decode cX11_finds 97 = .ok (.iaload, 1) := by decide +kernel
theorem dX11_finds_98 : decode cX11_finds 98 = .ok (.iload 4, 2) := by decide +kernel
theorem dX11_finds_100 : decode cX11_finds 100 = .ok (.if_icmp .ne 6, 3) := by decide +kernel
theorem dX11_finds_103 : decode cX11_finds 103 = .ok (.goto 57, 3) := by decide +kernel
theorem dX11_finds_106 : decode cX11_finds 106 = .ok (.aload_n 0, 1) := by decide +kernel
theorem dX11_finds_107 : decode cX11_finds 107 = .ok (.getfield 423, 3) := by decide +kernel
theorem dX11_finds_110 : decode cX11_finds 110 = .ok (.istore 6, 2) := by decide +kernel
theorem dX11_finds_112 : decode cX11_finds 112 = .ok (.iload 6, 2) := by decide +kernel
theorem dX11_finds_114 : decode cX11_finds 114 = .ok (.iload 5, 2) := by decide +kernel
theorem dX11_finds_116 : decode cX11_finds 116 = .ok (.if_icmp .le 25, 3) := by decide +kernel
theorem dX11_finds_119 : decode cX11_finds 119 = .ok (.aload_n 0, 1) := by decide +kernel
theorem dX11_finds_120 : decode cX11_finds 120 = .ok (.getfield 140, 3) := by decide +kernel
theorem dX11_finds_123 : decode cX11_finds 123 = .ok (.iload 6, 2) := by decide +kernel
theorem dX11_finds_125 : decode cX11_finds 125 = .ok (.aload_n 0, 1) := by decide +kernel
theorem dX11_finds_126 : decode cX11_finds 126 = .ok (.getfield 140, 3) := by decide +kernel
theorem dX11_finds_129 : decode cX11_finds 129 = .ok (.iload 6, 2) := by decide +kernel
theorem dX11_finds_131 : decode cX11_finds 131 = .ok (.iconst 1, 1) := by decide +kernel
theorem dX11_finds_132 : decode cX11_finds 132 = .ok (.isub, 1) := by decide +kernel
theorem dX11_finds_133 : decode cX11_finds 133 = .ok (.iaload, 1) := by decide +kernel
theorem dX11_finds_134 : decode cX11_finds 134 = .ok (.iastore, 1) := by decide +kernel
theorem dX11_finds_135 : decode cX11_finds 135 = .ok (.iinc 6 (-1), 3) := by decide +kernel
theorem dX11_finds_138 : decode cX11_finds 138 = .ok (.goto (-26), 3) := by decide +kernel
theorem dX11_finds_141 : decode cX11_finds 141 = .ok (.aload_n 0, 1) := by decide +kernel
theorem dX11_finds_142 : decode cX11_finds 142 = .ok (.getfield 140, 3) := by decide +kernel
theorem dX11_finds_145 : decode cX11_finds 145 = .ok (.iload 5, 2) := by decide +kernel
theorem dX11_finds_147 : decode cX11_finds 147 = .ok (.iload 4, 2) := by decide +kernel
theorem dX11_finds_149 : decode cX11_finds 149 = .ok (.iastore, 1) := by decide +kernel
theorem dX11_finds_150 : decode cX11_finds 150 = .ok (.aload_n 0, 1) := by decide +kernel
theorem dX11_finds_151 : decode cX11_finds 151 = .ok (.dup, 1) := by decide +kernel
theorem dX11_finds_152 : decode cX11_finds 152 = .ok (.getfield 423, 3) := by decide +kernel
theorem dX11_finds_155 : decode cX11_finds 155 = .ok (.iconst 1, 1) := by decide +kernel
theorem dX11_finds_156 : decode cX11_finds 156 = .ok (.iadd, 1) := by decide +kernel
theorem dX11_finds_157 : decode cX11_finds 157 = .ok (.putfield 423, 3) := by decide +kernel
theorem dX11_finds_160 : decode cX11_finds 160 = .ok (.iinc 3 1, 3) := by decide +kernel
theorem dX11_finds_163 : decode cX11_finds 163 = .ok (.goto (-156), 3) := by decide +kernel
theorem dX11_finds_166 : decode cX11_finds 166 = .ok (.return_, 1) := by decide +kernel
def fX11_finds_b160 (rec7 : Nat → Int32 → Int32 → Int32 → JM → JO (Unit)) (a : Nat) (x1 : Int32) (x2 : Int32) (x3 : Int32) (μ : JM) : JO (Unit) := rec7 a x1 x2 (x3 + (1 : Int32)) μ
set_option maxHeartbeats 4000000 in
set_option maxRecDepth 100000 in
theorem gX11_finds_b160 {b : Nat} {Θ : JE} {RC RS : Nat} {r : Unit} {ν : JM} (X : jX b Θ RX11 cX11_finds 7 none 1 24 RC RS) {rec7 : Nat → Int32 → Int32 → Int32 → JM → JO (Unit)} (hrec7 : ∀ (a : Nat) (x1 : Int32) (x2 : Int32) (x3 : Int32) (μ : JM) (c m k n : Nat), rec7 a x1 x2 x3 μ = some (r, ν, c, m) → k + c = RC → n + m = RS → WA b Θ 7 (jE b Θ (none) ν RC RS) μ k n 7 [(0, va_rf (some a)), (1, .int x1), (2, .int x2), (3, .int x3)] []) (a : Nat) (x1 : Int32) (x2 : Int32) (x3 : Int32) (μ : JM) (c m k n : Nat) (hf : fX11_finds_b160 rec7 a x1 x2 x3 μ = some (r, ν, c, m)) (hk : k + c = RC) (hn : n + m = RS) : WA b Θ 7 (jE b Θ (none) ν RC RS) μ k n 160 [(0, va_rf (some a)), (1, .int x1), (2, .int x2), (3, .int x3)] [] := by
  rw [fX11_finds_b160] at hf
  refine wa_iinc (v := (x3 + (1 : Int32))) (L2 := [(3, .int (x3 + (1 : Int32))), (0, va_rf (some a)), (1, .int x1), (2, .int x2)]) X 3 dX11_finds_160 rfl rfl (by decide) (by first | rfl | simp [va_rf_cat, cat_i, cat_l]) ?_
  refine wa_goto (tgt := 7) X dX11_finds_163 (by decide) ?_
  refine wa_sub (L2 := [(0, va_rf (some a)), (1, .int x1), (2, .int x2), (3, .int (x3 + (1 : Int32)))]) [1, 2, 3, 0] rfl ?_
  exact hrec7 a x1 x2 (x3 + (1 : Int32)) μ _ _ _ _ hf (by omega) (by omega)
def fX11_finds_b112 (rec7 : Nat → Int32 → Int32 → Int32 → JM → JO (Unit)) : Nat → Nat → Int32 → Int32 → Int32 → Int32 → Int32 → Int32 → JM → JO (Unit)
  | 0, _, _, _, _, _, _, _, _ => none
  | fu + 1, a, x1, x2, x3, x4, x5, x6, μ => if x6 ≤ x5 then (jck ((jT μ a).1 == 12) <| jde (jP μ a 64) fun q53 => jck ((jT μ q53).1 == 101) <| jck (jin x5 (jT μ q53).2) <| jlt (jsI μ q53 (x5).toNatClampNeg x4) fun μ57 => jlt (jsI μ57 a 65 ((jI μ57 a 65) + (1 : Int32))) fun μ60 => fX11_finds_b160 rec7 a x1 x2 x3 μ60) else (jck ((jT μ a).1 == 12) <| jde (jP μ a 64) fun q64 => jck ((jT μ q64).1 == 101) <| jck (jin (x6 - (1 : Int32)) (jT μ q64).2) <| jck (jin x6 (jT μ q64).2) <| jlt (jsI μ q64 (x6).toNatClampNeg (jI μ q64 ((x6 - (1 : Int32))).toNatClampNeg)) fun μ69 => fX11_finds_b112 rec7 fu a x1 x2 x3 x4 x5 (x6 + (-1 : Int32)) μ69)
set_option maxHeartbeats 4000000 in
set_option maxRecDepth 100000 in
theorem gX11_finds_b112 {b : Nat} {Θ : JE} {RC RS : Nat} {r : Unit} {ν : JM} (X : jX b Θ RX11 cX11_finds 7 none 1 24 RC RS) {rec7 : Nat → Int32 → Int32 → Int32 → JM → JO (Unit)} (hrec7 : ∀ (a : Nat) (x1 : Int32) (x2 : Int32) (x3 : Int32) (μ : JM) (c m k n : Nat), rec7 a x1 x2 x3 μ = some (r, ν, c, m) → k + c = RC → n + m = RS → WA b Θ 7 (jE b Θ (none) ν RC RS) μ k n 7 [(0, va_rf (some a)), (1, .int x1), (2, .int x2), (3, .int x3)] []) : ∀ (fu : Nat) (a : Nat) (x1 : Int32) (x2 : Int32) (x3 : Int32) (x4 : Int32) (x5 : Int32) (x6 : Int32) (μ : JM) (c m k n : Nat), fX11_finds_b112 rec7 fu a x1 x2 x3 x4 x5 x6 μ = some (r, ν, c, m) → k + c = RC → n + m = RS → WA b Θ 7 (jE b Θ (none) ν RC RS) μ k n 112 [(0, va_rf (some a)), (1, .int x1), (2, .int x2), (3, .int x3), (4, .int x4), (5, .int x5), (6, .int x6)] [] := by
  intro fu
  induction fu with
  | zero => intro a x1 x2 x3 x4 x5 x6 μ c m k n hf; cases hf
  | succ fu ih =>
    intro a x1 x2 x3 x4 x5 x6 μ c m k n hf hk hn
    rw [fX11_finds_b112] at hf
    refine wa_iload X 6 dX11_finds_112 rfl ?_
    refine wa_iload X 5 dX11_finds_114 rfl ?_
    refine wa_icle (tgt := 141) X dX11_finds_116 (by decide) (fun h51 => ?_) (fun h51 => ?_)
    · rw [if_pos h51] at hf
      refine wa_aload_n X 0 dX11_finds_141 rfl ?_
      obtain ⟨h52, hf⟩ := jckT hf
      refine wa_getP X dX11_finds_142 lfX11_140 rfl h52 rfl ?_
      refine wa_iload X 5 dX11_finds_145 rfl ?_
      refine wa_iload X 4 dX11_finds_147 rfl ?_
      obtain ⟨q53, h54, hf⟩ := jde_some hf
      obtain ⟨h55, hf⟩ := jckT hf
      obtain ⟨h56, hf⟩ := jck_some hf
      obtain ⟨μ57, hm58, hf⟩ := jlt_e hf
      have e59 : jT μ57 = jT μ := by rw [hm58]; rfl
      refine wa_riast (ν := μ57) X dX11_finds_149 h54 h55 h56 hm58 ?_
      refine wa_aload_n X 0 dX11_finds_150 rfl ?_
      refine wa_dup X dX11_finds_151 (va_rf_cat _) ?_
      refine wa_getI X dX11_finds_152 lfX11_423 rfl (by rw [e59]; exact h52) rfl ?_
      refine wa_iconst (v := (1 : Int32)) X dX11_finds_155 (by decide) ?_
      refine wa_iadd X dX11_finds_156 ?_
      obtain ⟨μ60, hm61, hf⟩ := jlt_e hf
      have e62 : jT μ60 = jT μ := by rw [hm61]; exact e59
      refine wa_rputI (ν := μ60) X dX11_finds_157 lfX11_423 rfl (by rw [e59]; exact h52) rfl rfl hm61 ?_
      refine wa_sub (L2 := [(0, va_rf (some a)), (1, .int x1), (2, .int x2), (3, .int x3)]) [0, 1, 2, 3] rfl ?_
      exact gX11_finds_b160 X hrec7 a x1 x2 x3 μ60 _ _ _ _ hf (by omega) (by omega)
    · rw [if_neg h51] at hf
      refine wa_aload_n X 0 dX11_finds_119 rfl ?_
      obtain ⟨h63, hf⟩ := jckT hf
      refine wa_getP X dX11_finds_120 lfX11_140 rfl h63 rfl ?_
      refine wa_iload X 6 dX11_finds_123 rfl ?_
      refine wa_aload_n X 0 dX11_finds_125 rfl ?_
      refine wa_getP X dX11_finds_126 lfX11_140 rfl h63 rfl ?_
      refine wa_iload X 6 dX11_finds_129 rfl ?_
      refine wa_iconst (v := (1 : Int32)) X dX11_finds_131 (by decide) ?_
      refine wa_isub X dX11_finds_132 ?_
      obtain ⟨q64, h65, hf⟩ := jde_some hf
      obtain ⟨h66, hf⟩ := jckT hf
      obtain ⟨h67, hf⟩ := jck_some hf
      refine wa_riald X dX11_finds_133 h65 h66 h67 ?_
      obtain ⟨h68, hf⟩ := jck_some hf
      obtain ⟨μ69, hm70, hf⟩ := jlt_e hf
      have e71 : jT μ69 = jT μ := by rw [hm70]; rfl
      refine wa_riast (ν := μ69) X dX11_finds_134 h65 h66 h68 hm70 ?_
      refine wa_iinc (v := (x6 + (-1 : Int32))) (L2 := [(6, .int (x6 + (-1 : Int32))), (0, va_rf (some a)), (1, .int x1), (2, .int x2), (3, .int x3), (4, .int x4), (5, .int x5)]) X 6 dX11_finds_135 rfl rfl (by decide) (by first | rfl | simp [va_rf_cat, cat_i, cat_l]) ?_
      refine wa_goto (tgt := 112) X dX11_finds_138 (by decide) ?_
      refine wa_sub (L2 := [(0, va_rf (some a)), (1, .int x1), (2, .int x2), (3, .int x3), (4, .int x4), (5, .int x5), (6, .int (x6 + (-1 : Int32)))]) [1, 2, 3, 4, 5, 6, 0] rfl ?_
      exact ih a x1 x2 x3 x4 x5 (x6 + (-1 : Int32)) μ69 _ _ _ _ hf (by omega) (by omega)
def fX11_finds_b106 (rec7 : Nat → Int32 → Int32 → Int32 → JM → JO (Unit)) (a : Nat) (x1 : Int32) (x2 : Int32) (x3 : Int32) (x4 : Int32) (x5 : Int32) (μ : JM) : JO (Unit) := jck ((jT μ a).1 == 12) <| fX11_finds_b112 rec7 jfuel a x1 x2 x3 x4 x5 (jI μ a 65) μ
set_option maxHeartbeats 4000000 in
set_option maxRecDepth 100000 in
theorem gX11_finds_b106 {b : Nat} {Θ : JE} {RC RS : Nat} {r : Unit} {ν : JM} (X : jX b Θ RX11 cX11_finds 7 none 1 24 RC RS) {rec7 : Nat → Int32 → Int32 → Int32 → JM → JO (Unit)} (hrec7 : ∀ (a : Nat) (x1 : Int32) (x2 : Int32) (x3 : Int32) (μ : JM) (c m k n : Nat), rec7 a x1 x2 x3 μ = some (r, ν, c, m) → k + c = RC → n + m = RS → WA b Θ 7 (jE b Θ (none) ν RC RS) μ k n 7 [(0, va_rf (some a)), (1, .int x1), (2, .int x2), (3, .int x3)] []) (a : Nat) (x1 : Int32) (x2 : Int32) (x3 : Int32) (x4 : Int32) (x5 : Int32) (μ : JM) (c m k n : Nat) (hf : fX11_finds_b106 rec7 a x1 x2 x3 x4 x5 μ = some (r, ν, c, m)) (hk : k + c = RC) (hn : n + m = RS) : WA b Θ 7 (jE b Θ (none) ν RC RS) μ k n 106 [(0, va_rf (some a)), (1, .int x1), (2, .int x2), (3, .int x3), (4, .int x4), (5, .int x5)] [] := by
  rw [fX11_finds_b106] at hf
  refine wa_aload_n X 0 dX11_finds_106 rfl ?_
  obtain ⟨h50, hf⟩ := jckT hf
  refine wa_getI X dX11_finds_107 lfX11_423 rfl h50 rfl ?_
  refine wa_istore (L2 := [(6, .int (jI μ a 65)), (0, va_rf (some a)), (1, .int x1), (2, .int x2), (3, .int x3), (4, .int x4), (5, .int x5)]) X dX11_finds_110 (by decide) (by first | rfl | (show (6, _) :: List.filter (fun q : Nat × Value => !(q.1 == 6) && !(q.1 + 1 == 6 && q.2.category == 2)) _ = _; simp [va_rf_cat, cat_i, cat_l])) ?_
  refine wa_sub (L2 := [(0, va_rf (some a)), (1, .int x1), (2, .int x2), (3, .int x3), (4, .int x4), (5, .int x5), (6, .int (jI μ a 65))]) [1, 2, 3, 4, 5, 6, 0] rfl ?_
  exact gX11_finds_b112 X hrec7 jfuel a x1 x2 x3 x4 x5 (jI μ a 65) μ _ _ _ _ hf (by omega) (by omega)
def fX11_finds_b82 (rec7 : Nat → Int32 → Int32 → Int32 → JM → JO (Unit)) (a : Nat) (x1 : Int32) (x2 : Int32) (x3 : Int32) (x4 : Int32) (x5 : Int32) (μ : JM) : JO (Unit) := jck ((jT μ a).1 == 12) <| if (jI μ a 65) ≤ x5 then (fX11_finds_b106 rec7 a x1 x2 x3 x4 x5 μ) else (jde (jP μ a 64) fun q45 => jck ((jT μ q45).1 == 101) <| jck (jin x5 (jT μ q45).2) <| if (jI μ q45 (x5).toNatClampNeg) = x4 then (fX11_finds_b160 rec7 a x1 x2 x3 μ) else (fX11_finds_b106 rec7 a x1 x2 x3 x4 x5 μ))
set_option maxHeartbeats 4000000 in
set_option maxRecDepth 100000 in
theorem gX11_finds_b82 {b : Nat} {Θ : JE} {RC RS : Nat} {r : Unit} {ν : JM} (X : jX b Θ RX11 cX11_finds 7 none 1 24 RC RS) {rec7 : Nat → Int32 → Int32 → Int32 → JM → JO (Unit)} (hrec7 : ∀ (a : Nat) (x1 : Int32) (x2 : Int32) (x3 : Int32) (μ : JM) (c m k n : Nat), rec7 a x1 x2 x3 μ = some (r, ν, c, m) → k + c = RC → n + m = RS → WA b Θ 7 (jE b Θ (none) ν RC RS) μ k n 7 [(0, va_rf (some a)), (1, .int x1), (2, .int x2), (3, .int x3)] []) (a : Nat) (x1 : Int32) (x2 : Int32) (x3 : Int32) (x4 : Int32) (x5 : Int32) (μ : JM) (c m k n : Nat) (hf : fX11_finds_b82 rec7 a x1 x2 x3 x4 x5 μ = some (r, ν, c, m)) (hk : k + c = RC) (hn : n + m = RS) : WA b Θ 7 (jE b Θ (none) ν RC RS) μ k n 82 [(0, va_rf (some a)), (1, .int x1), (2, .int x2), (3, .int x3), (4, .int x4), (5, .int x5)] [] := by
  rw [fX11_finds_b82] at hf
  refine wa_iload X 5 dX11_finds_82 rfl ?_
  refine wa_aload_n X 0 dX11_finds_84 rfl ?_
  obtain ⟨h43, hf⟩ := jckT hf
  refine wa_getI X dX11_finds_85 lfX11_423 rfl h43 rfl ?_
  refine wa_icge (tgt := 106) X dX11_finds_88 (by decide) (fun h44 => ?_) (fun h44 => ?_)
  · rw [if_pos h44] at hf
    refine wa_sub (L2 := [(0, va_rf (some a)), (1, .int x1), (2, .int x2), (3, .int x3), (4, .int x4), (5, .int x5)]) [0, 1, 2, 3, 4, 5] rfl ?_
    exact gX11_finds_b106 X hrec7 a x1 x2 x3 x4 x5 μ _ _ _ _ hf (by omega) (by omega)
  · rw [if_neg h44] at hf
    refine wa_aload_n X 0 dX11_finds_91 rfl ?_
    refine wa_getP X dX11_finds_92 lfX11_140 rfl h43 rfl ?_
    refine wa_iload X 5 dX11_finds_95 rfl ?_
    obtain ⟨q45, h46, hf⟩ := jde_some hf
    obtain ⟨h47, hf⟩ := jckT hf
    obtain ⟨h48, hf⟩ := jck_some hf
    refine wa_riald X dX11_finds_97 h46 h47 h48 ?_
    refine wa_iload X 4 dX11_finds_98 rfl ?_
    refine wa_icne (tgt := 106) X dX11_finds_100 (by decide) (fun h49 => ?_) (fun h49 => ?_)
    · rw [if_neg h49] at hf
      refine wa_sub (L2 := [(0, va_rf (some a)), (1, .int x1), (2, .int x2), (3, .int x3), (4, .int x4), (5, .int x5)]) [0, 1, 2, 3, 4, 5] rfl ?_
      exact gX11_finds_b106 X hrec7 a x1 x2 x3 x4 x5 μ _ _ _ _ hf (by omega) (by omega)
    · rw [if_pos h49] at hf
      refine wa_goto (tgt := 160) X dX11_finds_103 (by decide) ?_
      refine wa_sub (L2 := [(0, va_rf (some a)), (1, .int x1), (2, .int x2), (3, .int x3)]) [0, 1, 2, 3] rfl ?_
      exact gX11_finds_b160 X hrec7 a x1 x2 x3 μ _ _ _ _ hf (by omega) (by omega)
def fX11_finds_b55 (rec7 : Nat → Int32 → Int32 → Int32 → JM → JO (Unit)) : Nat → Nat → Int32 → Int32 → Int32 → Int32 → Int32 → JM → JO (Unit)
  | 0, _, _, _, _, _, _, _ => none
  | fu + 1, a, x1, x2, x3, x4, x5, μ => jck ((jT μ a).1 == 12) <| if (jI μ a 65) ≤ x5 then (fX11_finds_b82 rec7 a x1 x2 x3 x4 x5 μ) else (jde (jP μ a 64) fun q38 => jck ((jT μ q38).1 == 101) <| jck (jin x5 (jT μ q38).2) <| if x4 ≤ (jI μ q38 (x5).toNatClampNeg) then (fX11_finds_b82 rec7 a x1 x2 x3 x4 x5 μ) else (fX11_finds_b55 rec7 fu a x1 x2 x3 x4 (x5 + (1 : Int32)) μ))
set_option maxHeartbeats 4000000 in
set_option maxRecDepth 100000 in
theorem gX11_finds_b55 {b : Nat} {Θ : JE} {RC RS : Nat} {r : Unit} {ν : JM} (X : jX b Θ RX11 cX11_finds 7 none 1 24 RC RS) {rec7 : Nat → Int32 → Int32 → Int32 → JM → JO (Unit)} (hrec7 : ∀ (a : Nat) (x1 : Int32) (x2 : Int32) (x3 : Int32) (μ : JM) (c m k n : Nat), rec7 a x1 x2 x3 μ = some (r, ν, c, m) → k + c = RC → n + m = RS → WA b Θ 7 (jE b Θ (none) ν RC RS) μ k n 7 [(0, va_rf (some a)), (1, .int x1), (2, .int x2), (3, .int x3)] []) : ∀ (fu : Nat) (a : Nat) (x1 : Int32) (x2 : Int32) (x3 : Int32) (x4 : Int32) (x5 : Int32) (μ : JM) (c m k n : Nat), fX11_finds_b55 rec7 fu a x1 x2 x3 x4 x5 μ = some (r, ν, c, m) → k + c = RC → n + m = RS → WA b Θ 7 (jE b Θ (none) ν RC RS) μ k n 55 [(0, va_rf (some a)), (1, .int x1), (2, .int x2), (3, .int x3), (4, .int x4), (5, .int x5)] [] := by
  intro fu
  induction fu with
  | zero => intro a x1 x2 x3 x4 x5 μ c m k n hf; cases hf
  | succ fu ih =>
    intro a x1 x2 x3 x4 x5 μ c m k n hf hk hn
    rw [fX11_finds_b55] at hf
    refine wa_iload X 5 dX11_finds_55 rfl ?_
    refine wa_aload_n X 0 dX11_finds_57 rfl ?_
    obtain ⟨h36, hf⟩ := jckT hf
    refine wa_getI X dX11_finds_58 lfX11_423 rfl h36 rfl ?_
    refine wa_icge (tgt := 82) X dX11_finds_61 (by decide) (fun h37 => ?_) (fun h37 => ?_)
    · rw [if_pos h37] at hf
      refine wa_sub (L2 := [(0, va_rf (some a)), (1, .int x1), (2, .int x2), (3, .int x3), (4, .int x4), (5, .int x5)]) [0, 1, 2, 3, 4, 5] rfl ?_
      exact gX11_finds_b82 X hrec7 a x1 x2 x3 x4 x5 μ _ _ _ _ hf (by omega) (by omega)
    · rw [if_neg h37] at hf
      refine wa_aload_n X 0 dX11_finds_64 rfl ?_
      refine wa_getP X dX11_finds_65 lfX11_140 rfl h36 rfl ?_
      refine wa_iload X 5 dX11_finds_68 rfl ?_
      obtain ⟨q38, h39, hf⟩ := jde_some hf
      obtain ⟨h40, hf⟩ := jckT hf
      obtain ⟨h41, hf⟩ := jck_some hf
      refine wa_riald X dX11_finds_70 h39 h40 h41 ?_
      refine wa_iload X 4 dX11_finds_71 rfl ?_
      refine wa_icge (tgt := 82) X dX11_finds_73 (by decide) (fun h42 => ?_) (fun h42 => ?_)
      · rw [if_pos h42] at hf
        refine wa_sub (L2 := [(0, va_rf (some a)), (1, .int x1), (2, .int x2), (3, .int x3), (4, .int x4), (5, .int x5)]) [0, 1, 2, 3, 4, 5] rfl ?_
        exact gX11_finds_b82 X hrec7 a x1 x2 x3 x4 x5 μ _ _ _ _ hf (by omega) (by omega)
      · rw [if_neg h42] at hf
        refine wa_iinc (v := (x5 + (1 : Int32))) (L2 := [(5, .int (x5 + (1 : Int32))), (0, va_rf (some a)), (1, .int x1), (2, .int x2), (3, .int x3), (4, .int x4)]) X 5 dX11_finds_76 rfl rfl (by decide) (by first | rfl | simp [va_rf_cat, cat_i, cat_l]) ?_
        refine wa_goto (tgt := 55) X dX11_finds_79 (by decide) ?_
        refine wa_sub (L2 := [(0, va_rf (some a)), (1, .int x1), (2, .int x2), (3, .int x3), (4, .int x4), (5, .int (x5 + (1 : Int32)))]) [1, 2, 3, 4, 5, 0] rfl ?_
        exact ih a x1 x2 x3 x4 (x5 + (1 : Int32)) μ _ _ _ _ hf (by omega) (by omega)
def fX11_finds_b7 : Nat → Nat → Int32 → Int32 → Int32 → JM → JO (Unit)
  | 0, _, _, _, _, _ => none
  | fu + 1, a, x1, x2, x3, μ => jck ((jT μ a).1 == 12) <| jde (jP μ a 34) fun q6 => jck ((jT μ q6).1 == 101) <| jck (jin x1 (jT μ q6).2) <| if (jI μ q6 (x1).toNatClampNeg) ≤ x3 then (some ((), μ, 0, 0)) else (jde (jP μ a 35) fun q11 => jck ((jT μ q11).1 == 101) <| jck (jin (((24 : Int32) * x1) + x3) (jT μ q11).2) <| if (jI μ q11 ((((24 : Int32) * x1) + x3)).toNatClampNeg) = 0 then (fX11_finds_b160 (fX11_finds_b7 fu) a x1 x2 x3 μ) else (jcl (fX11_isSo a x1 x3 x2 μ) fun r16 μ17 => if r16 = 0 then (fX11_finds_b160 (fX11_finds_b7 fu) a x1 x2 x3 μ17) else (jck ((jT μ17 a).1 == 12) <| jcl (fX11_outcomeOf a x1 x3 μ17) fun r27 μ28 => fX11_finds_b55 (fX11_finds_b7 fu) jfuel a x1 x2 x3 r27 (0 : Int32) μ28)))
set_option maxHeartbeats 4000000 in
set_option maxRecDepth 100000 in
theorem gX11_finds_b7 {b : Nat} {Θ : JE} {RC RS : Nat} {r : Unit} {ν : JM} (X : jX b Θ RX11 cX11_finds 7 none 1 24 RC RS) : ∀ (fu : Nat) (a : Nat) (x1 : Int32) (x2 : Int32) (x3 : Int32) (μ : JM) (c m k n : Nat), fX11_finds_b7 fu a x1 x2 x3 μ = some (r, ν, c, m) → k + c = RC → n + m = RS → WA b Θ 7 (jE b Θ (none) ν RC RS) μ k n 7 [(0, va_rf (some a)), (1, .int x1), (2, .int x2), (3, .int x3)] [] := by
  intro fu
  induction fu with
  | zero => intro a x1 x2 x3 μ c m k n hf; cases hf
  | succ fu ih =>
    intro a x1 x2 x3 μ c m k n hf hk hn
    rw [fX11_finds_b7] at hf
    refine wa_iload_n X 3 dX11_finds_7 rfl ?_
    refine wa_aload_n X 0 dX11_finds_8 rfl ?_
    obtain ⟨h5, hf⟩ := jckT hf
    refine wa_getP X dX11_finds_9 lfX11_73 rfl h5 rfl ?_
    refine wa_iload_n X 1 dX11_finds_12 rfl ?_
    obtain ⟨q6, h7, hf⟩ := jde_some hf
    obtain ⟨h8, hf⟩ := jckT hf
    obtain ⟨h9, hf⟩ := jck_some hf
    refine wa_riald X dX11_finds_13 h7 h8 h9 ?_
    refine wa_icge (tgt := 166) X dX11_finds_14 (by decide) (fun h10 => ?_) (fun h10 => ?_)
    · rw [if_pos h10] at hf
      obtain ⟨rfl, rfl, rfl, rfl⟩ := jret hf
      exact wa_vret X dX11_finds_166 (by omega) (by omega)
    · rw [if_neg h10] at hf
      refine wa_aload_n X 0 dX11_finds_17 rfl ?_
      refine wa_getP X dX11_finds_18 lfX11_76 rfl h5 rfl ?_
      refine wa_bipush (v := (24 : Int32)) X dX11_finds_21 (by decide) ?_
      refine wa_iload_n X 1 dX11_finds_23 rfl ?_
      refine wa_imul X dX11_finds_24 ?_
      refine wa_iload_n X 3 dX11_finds_25 rfl ?_
      refine wa_iadd X dX11_finds_26 ?_
      obtain ⟨q11, h12, hf⟩ := jde_some hf
      obtain ⟨h13, hf⟩ := jckT hf
      obtain ⟨h14, hf⟩ := jck_some hf
      refine wa_riald X dX11_finds_27 h12 h13 h14 ?_
      refine wa_ifeq (tgt := 160) X dX11_finds_28 (by decide) (fun h15 => ?_) (fun h15 => ?_)
      · rw [if_pos h15] at hf
        refine wa_sub (L2 := [(0, va_rf (some a)), (1, .int x1), (2, .int x2), (3, .int x3)]) [0, 1, 2, 3] rfl ?_
        exact gX11_finds_b160 X ih a x1 x2 x3 μ _ _ _ _ hf (by omega) (by omega)
      · rw [if_neg h15] at hf
        refine wa_aload_n X 0 dX11_finds_31 rfl ?_
        refine wa_iload_n X 1 dX11_finds_32 rfl ?_
        refine wa_iload_n X 3 dX11_finds_33 rfl ?_
        refine wa_iload_n X 2 dX11_finds_34 rfl ?_
        obtain ⟨r16, μ17, c18, m19, c20, m21, e22, hf, h23, h24⟩ := jcl_some hf
        refine wa_rcallV (st2 := [.int r16]) X dX11_finds_35 lmX11_420 lMX11_isSo rfl h5 (mX11_isSo e22) rfl rfl rfl (va_cats (Nat.le_of_ble_eq_true rfl)) (by decide) (by omega) (by omega) ?_
        refine wa_ifne (tgt := 44) X dX11_finds_38 (by decide) (fun h25 => ?_) (fun h25 => ?_)
        · rw [if_neg h25] at hf
          refine wa_aload_n X 0 dX11_finds_44 rfl ?_
          refine wa_iload_n X 1 dX11_finds_45 rfl ?_
          refine wa_iload_n X 3 dX11_finds_46 rfl ?_
          obtain ⟨h26, hf⟩ := jckT hf
          obtain ⟨r27, μ28, c29, m30, c31, m32, e33, hf, h34, h35⟩ := jcl_some hf
          refine wa_rcallV (st2 := [.int r27]) X dX11_finds_47 lmX11_426 lMX11_outcomeOf rfl h26 (mX11_outcomeOf e33) rfl rfl rfl (va_cats (Nat.le_of_ble_eq_true rfl)) (by decide) (by omega) (by omega) ?_
          refine wa_istore (L2 := [(4, .int r27), (0, va_rf (some a)), (1, .int x1), (2, .int x2), (3, .int x3)]) X dX11_finds_50 (by decide) (by first | rfl | (show (4, _) :: List.filter (fun q : Nat × Value => !(q.1 == 4) && !(q.1 + 1 == 4 && q.2.category == 2)) _ = _; simp [va_rf_cat, cat_i, cat_l])) ?_
          refine wa_iconst (v := (0 : Int32)) X dX11_finds_52 (by decide) ?_
          refine wa_istore (L2 := [(5, .int (0 : Int32)), (4, .int r27), (0, va_rf (some a)), (1, .int x1), (2, .int x2), (3, .int x3)]) X dX11_finds_53 (by decide) (by first | rfl | (show (5, _) :: List.filter (fun q : Nat × Value => !(q.1 == 5) && !(q.1 + 1 == 5 && q.2.category == 2)) _ = _; simp [va_rf_cat, cat_i, cat_l])) ?_
          refine wa_sub (L2 := [(0, va_rf (some a)), (1, .int x1), (2, .int x2), (3, .int x3), (4, .int r27), (5, .int (0 : Int32))]) [2, 3, 4, 5, 1, 0] rfl ?_
          exact gX11_finds_b55 X ih jfuel a x1 x2 x3 r27 (0 : Int32) μ28 _ _ _ _ hf (by omega) (by omega)
        · rw [if_pos h25] at hf
          refine wa_goto (tgt := 160) X dX11_finds_41 (by decide) ?_
          refine wa_sub (L2 := [(0, va_rf (some a)), (1, .int x1), (2, .int x2), (3, .int x3)]) [0, 1, 2, 3] rfl ?_
          exact gX11_finds_b160 X ih a x1 x2 x3 μ17 _ _ _ _ hf (by omega) (by omega)
def fX11_finds (a : Nat) (x1 : Int32) (x2 : Int32) (μ : JM) : JO (Unit) := jck ((jT μ a).1 == 12) <| jlt (jsI μ a 65 (0 : Int32)) fun μ2 => fX11_finds_b7  jfuel a x1 x2 (0 : Int32) μ2
set_option maxHeartbeats 4000000 in
set_option maxRecDepth 100000 in
theorem mX11_finds {b : Nat} {a : Nat} {x1 : Int32} {x2 : Int32} {μ : JM} {r : Unit} {ν : JM} {c m : Nat} (hf : fX11_finds a x1 x2 μ = some (r, ν, c, m)) : JMet b yX11_finds cX11_finds 7 none 1 24 [va_rf (some a), .int x1, .int x2] μ (none) ν c m := by
  refine JMet.of (by decide) (lg_sl_le (by simp only [List.map_cons, List.map_nil, List.sum_cons, List.sum_nil, va_rf_cat]; exact Nat.le_of_ble_eq_true rfl)) (fun Θ X hin => ?_)
  refine wa_eq (L2 := [(0, va_rf (some a)), (1, .int x1), (2, .int x2)]) ?_ rfl (by first | rfl | simp [lv_args, va_rf_cat, cat_i, cat_l]) rfl
  obtain ⟨k, hk0⟩ : ∃ k : Nat, k = 0 := ⟨0, rfl⟩
  obtain ⟨n, hn0⟩ : ∃ n : Nat, n = 0 := ⟨0, rfl⟩
  have hk : k + c = c := by omega
  have hn : n + m = m := by omega
  refine wa_costs hk0.symm hn0.symm ?_
  rw [fX11_finds] at hf
  refine wa_aload_n X 0 dX11_finds_0 rfl ?_
  refine wa_iconst (v := (0 : Int32)) X dX11_finds_1 (by decide) ?_
  obtain ⟨h1, hf⟩ := jckT hf
  obtain ⟨μ2, hm3, hf⟩ := jlt_e hf
  have e4 : jT μ2 = jT μ := by rw [hm3]; rfl
  refine wa_rputI (ν := μ2) X dX11_finds_2 lfX11_423 rfl h1 rfl rfl hm3 ?_
  refine wa_iconst (v := (0 : Int32)) X dX11_finds_5 (by decide) ?_
  refine wa_istore_n (L2 := [(3, .int (0 : Int32)), (0, va_rf (some a)), (1, .int x1), (2, .int x2)]) X dX11_finds_6 (by decide) (by first | rfl | (show (3, _) :: List.filter (fun q : Nat × Value => !(q.1 == 3) && !(q.1 + 1 == 3 && q.2.category == 2)) _ = _; simp [va_rf_cat, cat_i, cat_l])) ?_
  refine wa_sub (L2 := [(0, va_rf (some a)), (1, .int x1), (2, .int x2), (3, .int (0 : Int32))]) [1, 2, 3, 0] rfl ?_
  exact gX11_finds_b7 X jfuel a x1 x2 (0 : Int32) μ2 _ _ _ _ hf (by omega) (by omega)
