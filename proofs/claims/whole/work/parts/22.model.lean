/-! functions and walks, by program -/
theorem dX11_one_0 : decode cX11_one 0 = .ok (.aload_n 0, 1) := by decide +kernel
theorem dX11_one_1 : decode cX11_one 1 = .ok (.getfield 194, 3) := by decide +kernel
theorem dX11_one_4 : decode cX11_one 4 = .ok (.iconst 1, 1) := by decide +kernel
theorem dX11_one_5 : decode cX11_one 5 = .ok (.if_icmp .ne 10, 3) := by decide +kernel
theorem dX11_one_8 : decode cX11_one 8 = .ok (.aload_n 0, 1) := by decide +kernel
theorem dX11_one_9 : decode cX11_one 9 = .ok (.invokevirtual 261, 3) := by decide +kernel
theorem dX11_one_12 : decode cX11_one 12 = .ok (.ifCond .eq 13, 3) := by decide +kernel
theorem dX11_one_15 : decode cX11_one 15 = .ok (.aload_n 0, 1) := by decide +kernel
theorem dX11_one_16 : decode cX11_one 16 = .ok (.iconst 0, 1) := by decide +kernel
theorem dX11_one_17 : decode cX11_one 17 = .ok (.aload_n 0, 1) := by decide +kernel
theorem dX11_one_18 : decode cX11_one 18 = .ok (.getfield 185, 3) := by decide +kernel
theorem dX11_one_21 : decode cX11_one 21 = .ok (.invokevirtual 201, 3) := by decide +kernel
theorem dX11_one_24 : decode cX11_one 24 = .ok (.ireturn, 1) := by decide +kernel
theorem dX11_one_25 : decode cX11_one 25 = .ok (.aload_n 0, 1) := by decide +kernel
theorem dX11_one_26 : decode cX11_one 26 = .ok (.aload_n 0, 1) := by decide +kernel
theorem dX11_one_27 : decode cX11_one 27 = .ok (.getfield 17, 3) := by decide +kernel
theorem dX11_one_30 : decode cX11_one 30 = .ok (.aload_n 0, 1) := by decide +kernel
theorem dX11_one_31 : decode cX11_one 31 = .ok (.getfield 20, 3) := by decide +kernel
theorem dX11_one_34 : decode cX11_one 34 = .ok (.aload_n 0, 1) := by decide +kernel
theorem dX11_one_35 : decode cX11_one 35 = .ok (.getfield 13, 3) := by decide +kernel
theorem dX11_one_38 : decode cX11_one 38 = .ok (.invokevirtual 270, 3) := by decide +kernel
theorem dX11_one_41 : decode cX11_one 41 = .ok (.istore_n 1, 1) := by decide +kernel
theorem dX11_one_42 : decode cX11_one 42 = .ok (.iload_n 1, 1) := by decide +kernel
theorem dX11_one_43 : decode cX11_one 43 = .ok (.ifCond .ge 29, 3) := by decide +kernel
theorem dX11_one_46 : decode cX11_one 46 = .ok (.aload_n 0, 1) := by decide +kernel
theorem dX11_one_47 : decode cX11_one 47 = .ok (.getfield 280, 3) := by decide +kernel
theorem dX11_one_50 : decode cX11_one 50 = .ok (.ifCond .eq 22, 3) := by decide +kernel
theorem dX11_one_53 : decode cX11_one 53 = .ok (.aload_n 0, 1) := by decide +kernel
theorem dX11_one_54 : decode cX11_one 54 = .ok (.aload_n 0, 1) := by decide +kernel
theorem dX11_one_55 : decode cX11_one 55 = .ok (.getfield 64, 3) := by decide +kernel
theorem dX11_one_58 : decode cX11_one 58 = .ok (.aload_n 0, 1) := by decide +kernel
theorem dX11_one_59 : decode cX11_one 59 = .ok (.getfield 67, 3) := by decide +kernel
theorem dX11_one_62 : decode cX11_one 62 = .ok (.aload_n 0, 1) := by decide +kernel
theorem dX11_one_63 : decode cX11_one 63 = .ok (.getfield 284, 3) := by decide +kernel
theorem dX11_one_66 : decode cX11_one 66 = .ok (.invokevirtual 270, 3) := by decide +kernel
theorem dX11_one_69 : decode cX11_one 69 = .ok (.goto 4, 3) := by decide +kernel
theorem dX11_one_72 : decode cX11_one 72 = .ok (.iconst (-1), 1) := by decide +kernel
theorem dX11_one_73 : decode cX11_one 73 = .ok (.istore_n 2, 1) := by decide +kernel
theorem dX11_one_74 : decode cX11_one 74 = .ok (.aload_n 0, 1) := by decide +kernel
theorem dX11_one_75 : decode cX11_one 75 = .ok (.getfield 280, 3) := by decide +kernel
theorem dX11_one_78 : decode cX11_one 78 = .ok (.ifCond .eq 21, 3) := by decide +kernel
theorem dX11_one_81 : decode cX11_one 81 = .ok (.iload_n 1, 1) := by decide +kernel
theorem dX11_one_82 : decode cX11_one 82 = .ok (.ifCond .ge 17, 3) := by decide +kernel
theorem dX11_one_85 : decode cX11_one 85 = .ok (.iload_n 2, 1) := by decide +kernel
theorem dX11_one_86 : decode cX11_one 86 = .ok (.ifCond .ge 13, 3) := by decide +kernel
theorem dX11_one_89 : decode cX11_one 89 = .ok (.aload_n 0, 1) := by decide +kernel
theorem dX11_one_90 : decode cX11_one 90 = .ok (.iconst 3, 1) := by decide +kernel
theorem dX11_one_91 : decode cX11_one 91 = .ok (.aload_n 0, 1) := by decide +kernel
theorem dX11_one_92 : decode cX11_one 92 = .ok (.getfield 185, 3) := by decide +kernel
theorem dX11_one_95 : decode cX11_one 95 = .ok (.invokevirtual 201, 3) := by decide +kernel
theorem dX11_one_98 : decode cX11_one 98 = .ok (.ireturn, 1) := by decide +kernel
theorem dX11_one_99 : decode cX11_one 99 = .ok (.iconst 0, 1) := by decide +kernel
theorem dX11_one_100 : decode cX11_one 100 = .ok (.istore_n 3, 1) := by decide +kernel
theorem dX11_one_101 : decode cX11_one 101 = .ok (.iload_n 3, 1) := by decide +kernel
theorem dX11_one_102 : decode cX11_one 102 = .ok (.iconst 4, 1) := by decide +kernel
theorem dX11_one_103 : decode cX11_one 103 = .ok (.if_icmp .ge 50, 3) := by decide +kernel
theorem dX11_one_106 : decode cX11_one 106 = .ok (.aload_n 0, 1) := by decide +kernel
theorem dX11_one_107 : decode cX11_one 107 = .ok (.getfield 61, 3) := by decide +kernel
theorem dX11_one_110 : decode cX11_one 110 = .ok (.iload_n 3, 1) := by decide +kernel
theorem dX11_one_111 : decode cX11_one 111 = .ok (.iload_n 1, 1) := by decide +kernel
theorem dX11_one_112 : decode cX11_one 112 = .ok (.ifCond .lt 16, 3) := by decide +kernel
theorem dX11_one_115 : decode cX11_one 115 = .ok (.aload_n 0, 1) := by decide +kernel
theorem dX11_one_116 : decode cX11_one 116 = .ok (.getfield 49, 3) := by decide +kernel
theorem dX11_one_119 : decode cX11_one 119 = .ok (.iconst 4, 1) := by decide +kernel
theorem dX11_one_120 : decode cX11_one 120 = .ok (.iload_n 1, 1) := by decide +kernel
theorem dX11_one_121 : decode cX11_one 121 = .ok (.imul, 1) := by decide +kernel
theorem dX11_one_122 : decode cX11_one 122 = .ok (.iload_n 3, 1) := by decide +kernel
theorem dX11_one_123 : decode cX11_one 123 = .ok (.iadd, 1) := by decide +kernel
theorem dX11_one_124 : decode cX11_one 124 = .ok (.laload, 1) := by decide +kernel
theorem dX11_one_125 : decode cX11_one 125 = .ok (.goto 21, 3) := by decide +kernel
theorem dX11_one_128 : decode cX11_one 128 = .ok (.iload_n 2, 1) := by decide +kernel
theorem dX11_one_129 : decode cX11_one 129 = .ok (.ifCond .lt 16, 3) := by decide +kernel
theorem dX11_one_132 : decode cX11_one 132 = .ok (.aload_n 0, 1) := by decide +kernel
theorem dX11_one_133 : decode cX11_one 133 = .ok (.getfield 70, 3) := by decide +kernel
theorem dX11_one_136 : decode cX11_one 136 = .ok (.iconst 4, 1) := by decide +kernel
theorem dX11_one_137 : decode cX11_one 137 = .ok (.iload_n 2, 1) := by decide +kernel
theorem dX11_one_138 : decode cX11_one 138 = .ok (.imul, 1) := by decide +kernel
theorem dX11_one_139 : decode cX11_one 139 = .ok (.iload_n 3, 1) := by decide +kernel
theorem dX11_one_140 : decode cX11_one 140 = .ok (.iadd, 1) := by decide +kernel
theorem dX11_one_141 : decode cX11_one 141 = .ok (.laload, 1) := by decide +kernel
theorem dX11_one_142 : decode cX11_one 142 = .ok (.goto 4, 3) := by decide +kernel
theorem dX11_one_145 : decode cX11_one 145 = .ok (.lconst 0, 1) := by decide +kernel
theorem dX11_one_146 : decode cX11_one 146 = .ok (.lastore, 1) := by decide +kernel
theorem dX11_one_147 : decode cX11_one 147 = .ok (.iinc 3 1, 3) := by decide +kernel
theorem dX11_one_150 : decode cX11_one 150 = .ok (.goto (-49), 3) := by decide +kernel
theorem dX11_one_153 : decode cX11_one 153 = .ok (.iconst 1, 1) := by decide +kernel
theorem dX11_one_154 : decode cX11_one 154 = .ok (.ireturn, 1) := by decide +kernel
def fX11_one_b15 (a : Nat) (μ : JM) : JO (Int32) := jck ((jT μ a).1 == 12) <| jcl (fX11_fails a (0 : Int32) (jI μ a 15) μ) fun r36 μ37 => jck (jbl r36) <| some (r36, μ37, 0, 0)
set_option maxHeartbeats 4000000 in
set_option maxRecDepth 100000 in
theorem gX11_one_b15 {b : Nat} {Θ : JE} {RC RS : Nat} {r : Int32} {ν : JM} (X : jX b Θ RX11 cX11_one 4 (some .boolean) 3 65 RC RS) (a : Nat) (μ : JM) (c m k n : Nat) (hf : fX11_one_b15 a μ = some (r, ν, c, m)) (hk : k + c = RC) (hn : n + m = RS) : WA b Θ 4 (jE b Θ (some (.int r)) ν RC RS) μ k n 15 [(0, va_rf (some a))] [] := by
  rw [fX11_one_b15] at hf
  refine wa_aload_n X 0 dX11_one_15 rfl ?_
  refine wa_iconst (v := (0 : Int32)) X dX11_one_16 (by decide) ?_
  refine wa_aload_n X 0 dX11_one_17 rfl ?_
  obtain ⟨h35, hf⟩ := jckT hf
  refine wa_getI X dX11_one_18 lfX11_185 rfl h35 rfl ?_
  obtain ⟨r36, μ37, c38, m39, c40, m41, e42, hf, h43, h44⟩ := jcl_some hf
  refine wa_rcallV (st2 := [.int r36]) X dX11_one_21 lmX11_201 lMX11_fails rfl h35 (mX11_fails e42) rfl rfl rfl (va_cats (Nat.le_of_ble_eq_true rfl)) (by decide) (by omega) (by omega) ?_
  obtain ⟨h45, hf⟩ := jck_some hf
  obtain ⟨rfl, rfl, rfl, rfl⟩ := jret hf
  exact wa_iret X dX11_one_24 (jbl_nar h45) (by omega) (by omega)
def fX11_one_b146 (rec101 : Nat → Int32 → Int32 → Int32 → JM → JO (Int32)) (a : Nat) (x1 : Int32) (x2 : Int32) (x3 : Int32) (s0 : Int64) (s1 : Int32) (s2 : Option Nat) (μ : JM) : JO (Int32) := jde s2 fun q72 => jck ((jT μ q72).1 == 102) <| jck (jin s1 (jT μ q72).2) <| jlt (jsJ μ q72 (s1).toNatClampNeg s0) fun μ76 => rec101 a x1 x2 (x3 + (1 : Int32)) μ76
set_option maxHeartbeats 4000000 in
set_option maxRecDepth 100000 in
theorem gX11_one_b146 {b : Nat} {Θ : JE} {RC RS : Nat} {r : Int32} {ν : JM} (X : jX b Θ RX11 cX11_one 4 (some .boolean) 3 65 RC RS) {rec101 : Nat → Int32 → Int32 → Int32 → JM → JO (Int32)} (hrec101 : ∀ (a : Nat) (x1 : Int32) (x2 : Int32) (x3 : Int32) (μ : JM) (c m k n : Nat), rec101 a x1 x2 x3 μ = some (r, ν, c, m) → k + c = RC → n + m = RS → WA b Θ 4 (jE b Θ (some (.int r)) ν RC RS) μ k n 101 [(0, va_rf (some a)), (1, .int x1), (2, .int x2), (3, .int x3)] []) (a : Nat) (x1 : Int32) (x2 : Int32) (x3 : Int32) (s0 : Int64) (s1 : Int32) (s2 : Option Nat) (μ : JM) (c m k n : Nat) (hf : fX11_one_b146 rec101 a x1 x2 x3 s0 s1 s2 μ = some (r, ν, c, m)) (hk : k + c = RC) (hn : n + m = RS) : WA b Θ 4 (jE b Θ (some (.int r)) ν RC RS) μ k n 146 [(0, va_rf (some a)), (1, .int x1), (2, .int x2), (3, .int x3)] [.long s0, .int s1, va_rf s2] := by
  rw [fX11_one_b146] at hf
  obtain ⟨q72, h73, hf⟩ := jde_some hf
  obtain ⟨h74, hf⟩ := jckT hf
  obtain ⟨h75, hf⟩ := jck_some hf
  obtain ⟨μ76, hm77, hf⟩ := jlt_e hf
  have e78 : jT μ76 = jT μ := by rw [hm77]; rfl
  refine wa_rlast (ν := μ76) X dX11_one_146 h73 h74 h75 hm77 ?_
  refine wa_iinc (v := (x3 + (1 : Int32))) (L2 := [(3, .int (x3 + (1 : Int32))), (0, va_rf (some a)), (1, .int x1), (2, .int x2)]) X 3 dX11_one_147 rfl rfl (by decide) (by first | rfl | simp [va_rf_cat, cat_i, cat_l]) ?_
  refine wa_goto (tgt := 101) X dX11_one_150 (by decide) ?_
  refine wa_sub (L2 := [(0, va_rf (some a)), (1, .int x1), (2, .int x2), (3, .int (x3 + (1 : Int32)))]) [1, 2, 3, 0] rfl ?_
  exact hrec101 a x1 x2 (x3 + (1 : Int32)) μ76 _ _ _ _ hf (by omega) (by omega)
def fX11_one_b101 : Nat → Nat → Int32 → Int32 → Int32 → JM → JO (Int32)
  | 0, _, _, _, _, _ => none
  | fu + 1, a, x1, x2, x3, μ => if (4 : Int32) ≤ x3 then (some ((1 : Int32), μ, 0, 0)) else (jck ((jT μ a).1 == 12) <| if x1 < 0 then (if x2 < 0 then (fX11_one_b146 (fX11_one_b101 fu) a x1 x2 x3 (0 : Int64) x3 (jP μ a 28) μ) else (jde (jP μ a 32) fun q64 => jck ((jT μ q64).1 == 102) <| jck (jin (((4 : Int32) * x2) + x3) (jT μ q64).2) <| fX11_one_b146 (fX11_one_b101 fu) a x1 x2 x3 (jJ μ q64 ((((4 : Int32) * x2) + x3)).toNatClampNeg) x3 (jP μ a 28) μ)) else (jde (jP μ a 24) fun q68 => jck ((jT μ q68).1 == 102) <| jck (jin (((4 : Int32) * x1) + x3) (jT μ q68).2) <| fX11_one_b146 (fX11_one_b101 fu) a x1 x2 x3 (jJ μ q68 ((((4 : Int32) * x1) + x3)).toNatClampNeg) x3 (jP μ a 28) μ))
set_option maxHeartbeats 4000000 in
set_option maxRecDepth 100000 in
theorem gX11_one_b101 {b : Nat} {Θ : JE} {RC RS : Nat} {r : Int32} {ν : JM} (X : jX b Θ RX11 cX11_one 4 (some .boolean) 3 65 RC RS) : ∀ (fu : Nat) (a : Nat) (x1 : Int32) (x2 : Int32) (x3 : Int32) (μ : JM) (c m k n : Nat), fX11_one_b101 fu a x1 x2 x3 μ = some (r, ν, c, m) → k + c = RC → n + m = RS → WA b Θ 4 (jE b Θ (some (.int r)) ν RC RS) μ k n 101 [(0, va_rf (some a)), (1, .int x1), (2, .int x2), (3, .int x3)] [] := by
  intro fu
  induction fu with
  | zero => intro a x1 x2 x3 μ c m k n hf; cases hf
  | succ fu ih =>
    intro a x1 x2 x3 μ c m k n hf hk hn
    rw [fX11_one_b101] at hf
    refine wa_iload_n X 3 dX11_one_101 rfl ?_
    refine wa_iconst (v := (4 : Int32)) X dX11_one_102 (by decide) ?_
    refine wa_icge (tgt := 153) X dX11_one_103 (by decide) (fun h60 => ?_) (fun h60 => ?_)
    · rw [if_pos h60] at hf
      refine wa_iconst (v := (1 : Int32)) X dX11_one_153 (by decide) ?_
      obtain ⟨rfl, rfl, rfl, rfl⟩ := jret hf
      exact wa_iret X dX11_one_154 rfl (by omega) (by omega)
    · rw [if_neg h60] at hf
      refine wa_aload_n X 0 dX11_one_106 rfl ?_
      obtain ⟨h61, hf⟩ := jckT hf
      refine wa_getP X dX11_one_107 lfX11_61 rfl h61 rfl ?_
      refine wa_iload_n X 3 dX11_one_110 rfl ?_
      refine wa_iload_n X 1 dX11_one_111 rfl ?_
      refine wa_iflt (tgt := 128) X dX11_one_112 (by decide) (fun h62 => ?_) (fun h62 => ?_)
      · rw [if_pos h62] at hf
        refine wa_iload_n X 2 dX11_one_128 rfl ?_
        refine wa_iflt (tgt := 145) X dX11_one_129 (by decide) (fun h63 => ?_) (fun h63 => ?_)
        · rw [if_pos h63] at hf
          refine wa_lconst (v := (0 : Int64)) X dX11_one_145 (by decide) ?_
          refine wa_sub (L2 := [(0, va_rf (some a)), (1, .int x1), (2, .int x2), (3, .int x3)]) [0, 1, 2, 3] rfl ?_
          exact gX11_one_b146 X ih a x1 x2 x3 (0 : Int64) x3 (jP μ a 28) μ _ _ _ _ hf (by omega) (by omega)
        · rw [if_neg h63] at hf
          refine wa_aload_n X 0 dX11_one_132 rfl ?_
          refine wa_getP X dX11_one_133 lfX11_70 rfl h61 rfl ?_
          refine wa_iconst (v := (4 : Int32)) X dX11_one_136 (by decide) ?_
          refine wa_iload_n X 2 dX11_one_137 rfl ?_
          refine wa_imul X dX11_one_138 ?_
          refine wa_iload_n X 3 dX11_one_139 rfl ?_
          refine wa_iadd X dX11_one_140 ?_
          obtain ⟨q64, h65, hf⟩ := jde_some hf
          obtain ⟨h66, hf⟩ := jckT hf
          obtain ⟨h67, hf⟩ := jck_some hf
          refine wa_rlald X dX11_one_141 h65 h66 h67 ?_
          refine wa_goto (tgt := 146) X dX11_one_142 (by decide) ?_
          refine wa_sub (L2 := [(0, va_rf (some a)), (1, .int x1), (2, .int x2), (3, .int x3)]) [0, 1, 2, 3] rfl ?_
          exact gX11_one_b146 X ih a x1 x2 x3 (jJ μ q64 ((((4 : Int32) * x2) + x3)).toNatClampNeg) x3 (jP μ a 28) μ _ _ _ _ hf (by omega) (by omega)
      · rw [if_neg h62] at hf
        refine wa_aload_n X 0 dX11_one_115 rfl ?_
        refine wa_getP X dX11_one_116 lfX11_49 rfl h61 rfl ?_
        refine wa_iconst (v := (4 : Int32)) X dX11_one_119 (by decide) ?_
        refine wa_iload_n X 1 dX11_one_120 rfl ?_
        refine wa_imul X dX11_one_121 ?_
        refine wa_iload_n X 3 dX11_one_122 rfl ?_
        refine wa_iadd X dX11_one_123 ?_
        obtain ⟨q68, h69, hf⟩ := jde_some hf
        obtain ⟨h70, hf⟩ := jckT hf
        obtain ⟨h71, hf⟩ := jck_some hf
        refine wa_rlald X dX11_one_124 h69 h70 h71 ?_
        refine wa_goto (tgt := 146) X dX11_one_125 (by decide) ?_
        refine wa_sub (L2 := [(0, va_rf (some a)), (1, .int x1), (2, .int x2), (3, .int x3)]) [0, 1, 2, 3] rfl ?_
        exact gX11_one_b146 X ih a x1 x2 x3 (jJ μ q68 ((((4 : Int32) * x1) + x3)).toNatClampNeg) x3 (jP μ a 28) μ _ _ _ _ hf (by omega) (by omega)
def fX11_one_b99 (a : Nat) (x1 : Int32) (x2 : Int32) (μ : JM) : JO (Int32) := fX11_one_b101  jfuel a x1 x2 (0 : Int32) μ
set_option maxHeartbeats 4000000 in
set_option maxRecDepth 100000 in
theorem gX11_one_b99 {b : Nat} {Θ : JE} {RC RS : Nat} {r : Int32} {ν : JM} (X : jX b Θ RX11 cX11_one 4 (some .boolean) 3 65 RC RS) (a : Nat) (x1 : Int32) (x2 : Int32) (μ : JM) (c m k n : Nat) (hf : fX11_one_b99 a x1 x2 μ = some (r, ν, c, m)) (hk : k + c = RC) (hn : n + m = RS) : WA b Θ 4 (jE b Θ (some (.int r)) ν RC RS) μ k n 99 [(0, va_rf (some a)), (1, .int x1), (2, .int x2)] [] := by
  rw [fX11_one_b99] at hf
  refine wa_iconst (v := (0 : Int32)) X dX11_one_99 (by decide) ?_
  refine wa_istore_n (L2 := [(3, .int (0 : Int32)), (0, va_rf (some a)), (1, .int x1), (2, .int x2)]) X dX11_one_100 (by decide) (by first | rfl | (show (3, _) :: List.filter (fun q : Nat × Value => !(q.1 == 3) && !(q.1 + 1 == 3 && q.2.category == 2)) _ = _; simp [va_rf_cat, cat_i, cat_l])) ?_
  refine wa_sub (L2 := [(0, va_rf (some a)), (1, .int x1), (2, .int x2), (3, .int (0 : Int32))]) [1, 2, 3, 0] rfl ?_
  exact gX11_one_b101 X jfuel a x1 x2 (0 : Int32) μ _ _ _ _ hf (by omega) (by omega)
def fX11_one_b73 (a : Nat) (x1 : Int32) (s0 : Int32) (μ : JM) : JO (Int32) := jck ((jT μ a).1 == 12) <| if (jI μ a 33) = 0 then (fX11_one_b99  a x1 s0 μ) else (if 0 ≤ x1 then (fX11_one_b99  a x1 s0 μ) else (if 0 ≤ s0 then (fX11_one_b99  a x1 s0 μ) else (jcl (fX11_fails a (3 : Int32) (jI μ a 15) μ) fun r50 μ51 => jck (jbl r50) <| some (r50, μ51, 0, 0))))
set_option maxHeartbeats 4000000 in
set_option maxRecDepth 100000 in
theorem gX11_one_b73 {b : Nat} {Θ : JE} {RC RS : Nat} {r : Int32} {ν : JM} (X : jX b Θ RX11 cX11_one 4 (some .boolean) 3 65 RC RS) (a : Nat) (x1 : Int32) (s0 : Int32) (μ : JM) (c m k n : Nat) (hf : fX11_one_b73 a x1 s0 μ = some (r, ν, c, m)) (hk : k + c = RC) (hn : n + m = RS) : WA b Θ 4 (jE b Θ (some (.int r)) ν RC RS) μ k n 73 [(0, va_rf (some a)), (1, .int x1)] [.int s0] := by
  rw [fX11_one_b73] at hf
  refine wa_istore_n (L2 := [(2, .int s0), (0, va_rf (some a)), (1, .int x1)]) X dX11_one_73 (by decide) (by first | rfl | (show (2, _) :: List.filter (fun q : Nat × Value => !(q.1 == 2) && !(q.1 + 1 == 2 && q.2.category == 2)) _ = _; simp [va_rf_cat, cat_i, cat_l])) ?_
  refine wa_aload_n X 1 dX11_one_74 rfl ?_
  obtain ⟨h46, hf⟩ := jckT hf
  refine wa_getI X dX11_one_75 lfX11_280 rfl h46 rfl ?_
  refine wa_ifeq (tgt := 99) X dX11_one_78 (by decide) (fun h47 => ?_) (fun h47 => ?_)
  · rw [if_pos h47] at hf
    refine wa_sub (L2 := [(0, va_rf (some a)), (1, .int x1), (2, .int s0)]) [1, 2, 0] rfl ?_
    exact gX11_one_b99 X a x1 s0 μ _ _ _ _ hf (by omega) (by omega)
  · rw [if_neg h47] at hf
    refine wa_iload_n X 2 dX11_one_81 rfl ?_
    refine wa_ifge (tgt := 99) X dX11_one_82 (by decide) (fun h48 => ?_) (fun h48 => ?_)
    · rw [if_pos h48] at hf
      refine wa_sub (L2 := [(0, va_rf (some a)), (1, .int x1), (2, .int s0)]) [1, 2, 0] rfl ?_
      exact gX11_one_b99 X a x1 s0 μ _ _ _ _ hf (by omega) (by omega)
    · rw [if_neg h48] at hf
      refine wa_iload_n X 0 dX11_one_85 rfl ?_
      refine wa_ifge (tgt := 99) X dX11_one_86 (by decide) (fun h49 => ?_) (fun h49 => ?_)
      · rw [if_pos h49] at hf
        refine wa_sub (L2 := [(0, va_rf (some a)), (1, .int x1), (2, .int s0)]) [1, 2, 0] rfl ?_
        exact gX11_one_b99 X a x1 s0 μ _ _ _ _ hf (by omega) (by omega)
      · rw [if_neg h49] at hf
        refine wa_aload_n X 1 dX11_one_89 rfl ?_
        refine wa_iconst (v := (3 : Int32)) X dX11_one_90 (by decide) ?_
        refine wa_aload_n X 1 dX11_one_91 rfl ?_
        refine wa_getI X dX11_one_92 lfX11_185 rfl h46 rfl ?_
        obtain ⟨r50, μ51, c52, m53, c54, m55, e56, hf, h57, h58⟩ := jcl_some hf
        refine wa_rcallV (st2 := [.int r50]) X dX11_one_95 lmX11_201 lMX11_fails rfl h46 (mX11_fails e56) rfl rfl rfl (va_cats (Nat.le_of_ble_eq_true rfl)) (by decide) (by omega) (by omega) ?_
        obtain ⟨h59, hf⟩ := jck_some hf
        obtain ⟨rfl, rfl, rfl, rfl⟩ := jret hf
        exact wa_iret X dX11_one_98 (jbl_nar h59) (by omega) (by omega)
def fX11_one_b72 (a : Nat) (x1 : Int32) (μ : JM) : JO (Int32) := fX11_one_b73  a x1 (-1 : Int32) μ
set_option maxHeartbeats 4000000 in
set_option maxRecDepth 100000 in
theorem gX11_one_b72 {b : Nat} {Θ : JE} {RC RS : Nat} {r : Int32} {ν : JM} (X : jX b Θ RX11 cX11_one 4 (some .boolean) 3 65 RC RS) (a : Nat) (x1 : Int32) (μ : JM) (c m k n : Nat) (hf : fX11_one_b72 a x1 μ = some (r, ν, c, m)) (hk : k + c = RC) (hn : n + m = RS) : WA b Θ 4 (jE b Θ (some (.int r)) ν RC RS) μ k n 72 [(0, va_rf (some a)), (1, .int x1)] [] := by
  rw [fX11_one_b72] at hf
  refine wa_iconst (v := (-1 : Int32)) X dX11_one_72 (by decide) ?_
  refine wa_sub (L2 := [(0, va_rf (some a)), (1, .int x1)]) [0, 1] rfl ?_
  exact gX11_one_b73 X a x1 (-1 : Int32) μ _ _ _ _ hf (by omega) (by omega)
def fX11_one (a : Nat) (μ : JM) : JO (Int32) := jck ((jT μ a).1 == 12) <| if (jI μ a 14) = (1 : Int32) then (jcl (fX11_isOwn a μ) fun r3 μ4 => if r3 = 0 then (jck ((jT μ4 a).1 == 12) <| jcl (fX11_find a (jP μ4 a 3) (jP μ4 a 4) (jI μ4 a 2) μ4) fun r14 μ15 => if 0 ≤ r14 then (fX11_one_b72  a r14 μ15) else (jck ((jT μ15 a).1 == 12) <| if (jI μ15 a 33) = 0 then (fX11_one_b72  a r14 μ15) else (jcl (fX11_find a (jP μ15 a 30) (jP μ15 a 31) (jI μ15 a 29) μ15) fun r26 μ27 => fX11_one_b73  a r14 r26 μ27))) else (fX11_one_b15  a μ4)) else (fX11_one_b15  a μ)
set_option maxHeartbeats 4000000 in
set_option maxRecDepth 100000 in
theorem mX11_one {b : Nat} {a : Nat} {μ : JM} {r : Int32} {ν : JM} {c m : Nat} (hf : fX11_one a μ = some (r, ν, c, m)) : JMet b yX11_one cX11_one 4 (some .boolean) 3 65 [va_rf (some a)] μ (some (.int r)) ν c m := by
  refine JMet.of (by decide) (lg_sl_le (by simp only [List.map_cons, List.map_nil, List.sum_cons, List.sum_nil, va_rf_cat]; exact Nat.le_of_ble_eq_true rfl)) (fun Θ X hin => ?_)
  refine wa_eq (L2 := [(0, va_rf (some a))]) ?_ rfl (by first | rfl | simp [lv_args, va_rf_cat, cat_i, cat_l]) rfl
  obtain ⟨k, hk0⟩ : ∃ k : Nat, k = 0 := ⟨0, rfl⟩
  obtain ⟨n, hn0⟩ : ∃ n : Nat, n = 0 := ⟨0, rfl⟩
  have hk : k + c = c := by omega
  have hn : n + m = m := by omega
  refine wa_costs hk0.symm hn0.symm ?_
  rw [fX11_one] at hf
  refine wa_aload_n X 0 dX11_one_0 rfl ?_
  obtain ⟨h1, hf⟩ := jckT hf
  refine wa_getI X dX11_one_1 lfX11_194 rfl h1 rfl ?_
  refine wa_iconst (v := (1 : Int32)) X dX11_one_4 (by decide) ?_
  refine wa_icne (tgt := 15) X dX11_one_5 (by decide) (fun h2 => ?_) (fun h2 => ?_)
  · rw [if_neg h2] at hf
    refine wa_sub (L2 := [(0, va_rf (some a))]) [0] rfl ?_
    exact gX11_one_b15 X a μ _ _ _ _ hf (by omega) (by omega)
  · rw [if_pos h2] at hf
    refine wa_aload_n X 0 dX11_one_8 rfl ?_
    obtain ⟨r3, μ4, c5, m6, c7, m8, e9, hf, h10, h11⟩ := jcl_some hf
    refine wa_rcallV (st2 := [.int r3]) X dX11_one_9 lmX11_261 lMX11_isOwn rfl h1 (mX11_isOwn e9) rfl rfl rfl (va_cats (Nat.le_of_ble_eq_true rfl)) (by decide) (by omega) (by omega) ?_
    refine wa_ifeq (tgt := 25) X dX11_one_12 (by decide) (fun h12 => ?_) (fun h12 => ?_)
    · rw [if_pos h12] at hf
      refine wa_aload_n X 0 dX11_one_25 rfl ?_
      refine wa_aload_n X 0 dX11_one_26 rfl ?_
      obtain ⟨h13, hf⟩ := jckT hf
      refine wa_getP X dX11_one_27 lfX11_17 rfl h13 rfl ?_
      refine wa_aload_n X 0 dX11_one_30 rfl ?_
      refine wa_getP X dX11_one_31 lfX11_20 rfl h13 rfl ?_
      refine wa_aload_n X 0 dX11_one_34 rfl ?_
      refine wa_getI X dX11_one_35 lfX11_13 rfl h13 rfl ?_
      obtain ⟨r14, μ15, c16, m17, c18, m19, e20, hf, h21, h22⟩ := jcl_some hf
      refine wa_rcallV (st2 := [.int r14]) X dX11_one_38 lmX11_270 lMX11_find rfl h13 (mX11_find e20) rfl rfl rfl (va_cats (Nat.le_of_ble_eq_true rfl)) (by decide) (by omega) (by omega) ?_
      refine wa_istore_n (L2 := [(1, .int r14), (0, va_rf (some a))]) X dX11_one_41 (by decide) (by first | rfl | (show (1, _) :: List.filter (fun q : Nat × Value => !(q.1 == 1) && !(q.1 + 1 == 1 && q.2.category == 2)) _ = _; simp [va_rf_cat, cat_i, cat_l])) ?_
      refine wa_iload_n X 0 dX11_one_42 rfl ?_
      refine wa_ifge (tgt := 72) X dX11_one_43 (by decide) (fun h23 => ?_) (fun h23 => ?_)
      · rw [if_pos h23] at hf
        refine wa_sub (L2 := [(0, va_rf (some a)), (1, .int r14)]) [1, 0] rfl ?_
        exact gX11_one_b72 X a r14 μ15 _ _ _ _ hf (by omega) (by omega)
      · rw [if_neg h23] at hf
        refine wa_aload_n X 1 dX11_one_46 rfl ?_
        obtain ⟨h24, hf⟩ := jckT hf
        refine wa_getI X dX11_one_47 lfX11_280 rfl h24 rfl ?_
        refine wa_ifeq (tgt := 72) X dX11_one_50 (by decide) (fun h25 => ?_) (fun h25 => ?_)
        · rw [if_pos h25] at hf
          refine wa_sub (L2 := [(0, va_rf (some a)), (1, .int r14)]) [1, 0] rfl ?_
          exact gX11_one_b72 X a r14 μ15 _ _ _ _ hf (by omega) (by omega)
        · rw [if_neg h25] at hf
          refine wa_aload_n X 1 dX11_one_53 rfl ?_
          refine wa_aload_n X 1 dX11_one_54 rfl ?_
          refine wa_getP X dX11_one_55 lfX11_64 rfl h24 rfl ?_
          refine wa_aload_n X 1 dX11_one_58 rfl ?_
          refine wa_getP X dX11_one_59 lfX11_67 rfl h24 rfl ?_
          refine wa_aload_n X 1 dX11_one_62 rfl ?_
          refine wa_getI X dX11_one_63 lfX11_284 rfl h24 rfl ?_
          obtain ⟨r26, μ27, c28, m29, c30, m31, e32, hf, h33, h34⟩ := jcl_some hf
          refine wa_rcallV (st2 := [.int r26]) X dX11_one_66 lmX11_270 lMX11_find rfl h24 (mX11_find e32) rfl rfl rfl (va_cats (Nat.le_of_ble_eq_true rfl)) (by decide) (by omega) (by omega) ?_
          refine wa_goto (tgt := 73) X dX11_one_69 (by decide) ?_
          refine wa_sub (L2 := [(0, va_rf (some a)), (1, .int r14)]) [1, 0] rfl ?_
          exact gX11_one_b73 X a r14 r26 μ27 _ _ _ _ hf (by omega) (by omega)
    · rw [if_neg h12] at hf
      refine wa_sub (L2 := [(0, va_rf (some a))]) [0] rfl ?_
      exact gX11_one_b15 X a μ4 _ _ _ _ hf (by omega) (by omega)
theorem dX11_condition_0 : decode cX11_condition 0 = .ok (.iconst 0, 1) := by decide +kernel
theorem dX11_condition_1 : decode cX11_condition 1 = .ok (.istore_n 1, 1) := by decide +kernel
theorem dX11_condition_2 : decode cX11_condition 2 = .ok (.iconst 0, 1) := by decide +kernel
theorem dX11_condition_3 : decode cX11_condition 3 = .ok (.istore_n 2, 1) := by decide +kernel
theorem dX11_condition_4 : decode cX11_condition 4 = .ok (.iconst 0, 1) := by decide +kernel
theorem dX11_condition_5 : decode cX11_condition 5 = .ok (.istore_n 3, 1) := by decide +kernel
theorem dX11_condition_6 : decode cX11_condition 6 = .ok (.aload_n 0, 1) := by decide +kernel
theorem dX11_condition_7 : decode cX11_condition 7 = .ok (.iconst 0, 1) := by decide +kernel
theorem dX11_condition_8 : decode cX11_condition 8 = .ok (.invokevirtual 287, 3) := by decide +kernel
theorem dX11_condition_11 : decode cX11_condition 11 = .ok (.aload_n 0, 1) := by decide +kernel
theorem dX11_condition_12 : decode cX11_condition 12 = .ok (.getfield 163, 3) := by decide +kernel
theorem dX11_condition_15 : decode cX11_condition 15 = .ok (.ifCond .ne 316, 3) := by decide +kernel
theorem dX11_condition_18 : decode cX11_condition 18 = .ok (.aload_n 0, 1) := by decide +kernel
theorem dX11_condition_19 : decode cX11_condition 19 = .ok (.ldc2_w 247, 3) := by decide +kernel
theorem dX11_condition_22 : decode cX11_condition 22 = .ok (.invokevirtual 217, 3) := by decide +kernel
theorem dX11_condition_25 : decode cX11_condition 25 = .ok (.istore 4, 2) := by decide +kernel
theorem dX11_condition_27 : decode cX11_condition 27 = .ok (.iload 4, 2) := by decide +kernel
theorem dX11_condition_29 : decode cX11_condition 29 = .ok (.ifCond .ne 12, 3) := by decide +kernel
theorem dX11_condition_32 : decode cX11_condition 32 = .ok (.aload_n 0, 1) := by decide +kernel
theorem dX11_condition_33 : decode cX11_condition 33 = .ok (.bipush 40, 2) := by decide +kernel
theorem dX11_condition_35 : decode cX11_condition 35 = .ok (.invokevirtual 258, 3) := by decide +kernel
theorem dX11_condition_38 : decode cX11_condition 38 = .ok (.ifCond .eq 57, 3) := by decide +kernel
theorem dX11_condition_41 : decode cX11_condition 41 = .ok (.iload_n 3, 1) := by decide +kernel
theorem dX11_condition_42 : decode cX11_condition 42 = .ok (.bipush 10, 2) := by decide +kernel
theorem dX11_condition_44 : decode cX11_condition 44 = .ok (.if_icmp .ne 14, 3) := by decide +kernel
theorem dX11_condition_47 : decode cX11_condition 47 = .ok (.aload_n 0, 1) := by decide +kernel
theorem dX11_condition_48 : decode cX11_condition 48 = .ok (.bipush 6, 2) := by decide +kernel
theorem dX11_condition_50 : decode cX11_condition 50 = .ok (.aload_n 0, 1) := by decide +kernel
theorem dX11_condition_51 : decode cX11_condition 51 = .ok (.getfield 185, 3) := by decide +kernel
theorem dX11_condition_54 : decode cX11_condition 54 = .ok (.invokevirtual 201, 3) := by decide +kernel
theorem dX11_condition_57 : decode cX11_condition 57 = .ok (.ireturn, 1) := by decide +kernel
theorem dX11_condition_58 : decode cX11_condition 58 = .ok (.iinc 3 1, 3) := by decide +kernel
theorem dX11_condition_61 : decode cX11_condition 61 = .ok (.iload 4, 2) := by decide +kernel
theorem dX11_condition_63 : decode cX11_condition 63 = .ok (.ifCond .eq 16, 3) := by decide +kernel
theorem dX11_condition_66 : decode cX11_condition 66 = .ok (.aload_n 0, 1) := by decide +kernel
theorem dX11_condition_67 : decode cX11_condition 67 = .ok (.getfield 58, 3) := by decide +kernel
theorem dX11_condition_70 : decode cX11_condition 70 = .ok (.iload_n 1, 1) := by decide +kernel
theorem dX11_condition_71 : decode cX11_condition 71 = .ok (.dup2, 1) := by decide +kernel
theorem dX11_condition_72 : decode cX11_condition 72 = .ok (.iaload, 1) := by decide +kernel
theorem dX11_condition_73 : decode cX11_condition 73 = .ok (.iconst 1, 1) := by decide +kernel
theorem dX11_condition_74 : decode cX11_condition 74 = .ok (.iadd, 1) := by decide +kernel
theorem dX11_condition_75 : decode cX11_condition 75 = .ok (.iastore, 1) := by decide +kernel
theorem dX11_condition_76 : decode cX11_condition 76 = .ok (.goto 11, 3) := by decide +kernel
theorem dX11_condition_79 : decode cX11_condition 79 = .ok (.iinc 1 1, 3) := by decide +kernel
theorem dX11_condition_82 : decode cX11_condition 82 = .ok (.aload_n 0, 1) := by decide +kernel
theorem dX11_condition_83 : decode cX11_condition 83 = .ok (.iload_n 1, 1) := by decide +kernel
theorem dX11_condition_84 : decode cX11_condition 84 = .ok (.invokevirtual 287, 3) := by decide +kernel
theorem dX11_condition_87 : decode cX11_condition 87 = .ok (.aload_n 0, 1) := by decide +kernel
theorem dX11_condition_88 : decode cX11_condition 88 = .ok (.invokevirtual 255, 3) := by decide +kernel
theorem dX11_condition_91 : decode cX11_condition 91 = .ok (.pop, 1) := by decide +kernel
theorem dX11_condition_92 : decode cX11_condition 92 = .ok (.goto (-81), 3) := by decide +kernel
theorem dX11_condition_95 : decode cX11_condition 95 = .ok (.aload_n 0, 1) := by decide +kernel
theorem dX11_condition_96 : decode cX11_condition 96 = .ok (.invokevirtual 290, 3) := by decide +kernel
theorem dX11_condition_99 : decode cX11_condition 99 = .ok (.ifCond .ne 5, 3) := by decide +kernel
theorem dX11_condition_102 : decode cX11_condition 102 = .ok (.iconst 0, 1) := by decide +kernel
theorem dX11_condition_103 : decode cX11_condition 103 = .ok (.ireturn, 1) := by decide +kernel
theorem dX11_condition_104 : decode cX11_condition 104 = .ok (.iload_n 2, 1) := by decide +kernel
theorem dX11_condition_105 : decode cX11_condition 105 = .ok (.bipush 60, 2) := by decide +kernel
theorem dX11_condition_107 : decode cX11_condition 107 = .ok (.if_icmp .ne 14, 3) := by decide +kernel
theorem dX11_condition_110 : decode cX11_condition 110 = .ok (.aload_n 0, 1) := by decide +kernel
theorem dX11_condition_111 : decode cX11_condition 111 = .ok (.bipush 6, 2) := by decide +kernel
theorem dX11_condition_113 : decode cX11_condition 113 = .ok (.aload_n 0, 1) := by decide +kernel
theorem dX11_condition_114 : decode cX11_condition 114 = .ok (.getfield 185, 3) := by decide +kernel
theorem dX11_condition_117 : decode cX11_condition 117 = .ok (.invokevirtual 201, 3) := by decide +kernel
theorem dX11_condition_120 : decode cX11_condition 120 = .ok (.ireturn, 1) := by decide +kernel
theorem dX11_condition_121 : decode cX11_condition 121 = .ok (.iinc 2 1, 3) := by decide +kernel
theorem dX11_condition_124 : decode cX11_condition 124 = .ok (.iload_n 3, 1) := by decide +kernel
theorem dX11_condition_125 : decode cX11_condition 125 = .ok (.aload_n 0, 1) := by decide +kernel
theorem dX11_condition_126 : decode cX11_condition 126 = .ok (.getfield 58, 3) := by decide +kernel
theorem dX11_condition_129 : decode cX11_condition 129 = .ok (.iload_n 1, 1) := by decide +kernel
theorem dX11_condition_130 : decode cX11_condition 130 = .ok (.iaload, 1) := by decide +kernel
theorem dX11_condition_131 : decode cX11_condition 131 = .ok (.isub, 1) := by decide +kernel
theorem dX11_condition_132 : decode cX11_condition 132 = .ok (.istore_n 3, 1) := by decide +kernel
theorem dX11_condition_133 : decode cX11_condition 133 = .ok (.aload_n 0, 1) := by decide +kernel
theorem dX11_condition_134 : decode cX11_condition 134 = .ok (.iload_n 1, 1) := by decide +kernel
theorem dX11_condition_135 : decode cX11_condition 135 = .ok (.invokevirtual 293, 3) := by decide +kernel
theorem dX11_condition_138 : decode cX11_condition 138 = .ok (.aload_n 0, 1) := by decide +kernel
theorem dX11_condition_139 : decode cX11_condition 139 = .ok (.invokevirtual 255, 3) := by decide +kernel
theorem dX11_condition_142 : decode cX11_condition 142 = .ok (.pop, 1) := by decide +kernel
theorem dX11_condition_143 : decode cX11_condition 143 = .ok (.aload_n 0, 1) := by decide +kernel
theorem dX11_condition_144 : decode cX11_condition 144 = .ok (.getfield 163, 3) := by decide +kernel
theorem dX11_condition_147 : decode cX11_condition 147 = .ok (.ifCond .ne 81, 3) := by decide +kernel
theorem dX11_condition_150 : decode cX11_condition 150 = .ok (.aload_n 0, 1) := by decide +kernel
theorem dX11_condition_151 : decode cX11_condition 151 = .ok (.bipush 41, 2) := by decide +kernel
theorem dX11_condition_153 : decode cX11_condition 153 = .ok (.invokevirtual 258, 3) := by decide +kernel
theorem dX11_condition_156 : decode cX11_condition 156 = .ok (.ifCond .eq 72, 3) := by decide +kernel
theorem dX11_condition_159 : decode cX11_condition 159 = .ok (.iload_n 1, 1) := by decide +kernel
theorem dX11_condition_160 : decode cX11_condition 160 = .ok (.ifCond .le 68, 3) := by decide +kernel
theorem dX11_condition_163 : decode cX11_condition 163 = .ok (.aload_n 0, 1) := by decide +kernel
theorem dX11_condition_164 : decode cX11_condition 164 = .ok (.iload_n 1, 1) := by decide +kernel
theorem dX11_condition_165 : decode cX11_condition 165 = .ok (.invokevirtual 296, 3) := by decide +kernel
theorem dX11_condition_168 : decode cX11_condition 168 = .ok (.iconst 0, 1) := by decide +kernel
theorem dX11_condition_169 : decode cX11_condition 169 = .ok (.istore 5, 2) := by decide +kernel
theorem dX11_condition_171 : decode cX11_condition 171 = .ok (.iload 5, 2) := by decide +kernel
theorem dX11_condition_173 : decode cX11_condition 173 = .ok (.iconst 4, 1) := by decide +kernel
theorem dX11_condition_174 : decode cX11_condition 174 = .ok (.if_icmp .ge 27, 3) := by decide +kernel
theorem dX11_condition_177 : decode cX11_condition 177 = .ok (.aload_n 0, 1) := by decide +kernel
theorem dX11_condition_178 : decode cX11_condition 178 = .ok (.getfield 61, 3) := by decide +kernel
theorem dX11_condition_181 : decode cX11_condition 181 = .ok (.iload 5, 2) := by decide +kernel
theorem dX11_condition_183 : decode cX11_condition 183 = .ok (.aload_n 0, 1) := by decide +kernel
theorem dX11_condition_184 : decode cX11_condition 184 = .ok (.getfield 52, 3) := by decide +kernel
theorem dX11_condition_187 : decode cX11_condition 187 = .ok (.iconst 4, 1) := by decide +kernel
theorem dX11_condition_188 : decode cX11_condition 188 = .ok (.iload_n 1, 1) := by decide +kernel
theorem dX11_condition_189 : decode cX11_condition 189 = .ok (.imul, 1) := by decide +kernel
theorem dX11_condition_190 : decode cX11_condition 190 = .ok (.iload 5, 2) := by decide +kernel
theorem dX11_condition_192 : decode cX11_condition 192 = .ok (.iadd, 1) := by decide +kernel
theorem dX11_condition_193 : decode cX11_condition 193 = .ok (.laload, 1) := by decide +kernel
theorem dX11_condition_194 : decode cX11_condition 194 = .ok (.lastore, 1) := by decide +kernel
theorem dX11_condition_195 : decode cX11_condition 195 = .ok (.iinc 5 1, 3) := by decide +kernel
theorem dX11_condition_198 : decode cX11_condition 198 = .ok (.goto (-27), 3) := by decide +kernel
theorem dX11_condition_201 : decode cX11_condition 201 = .ok (.iinc 1 (-1), 3) := by decide +kernel
theorem dX11_condition_204 : decode cX11_condition 204 = .ok (.iload_n 3, 1) := by decide +kernel
theorem dX11_condition_205 : decode cX11_condition 205 = .ok (.iconst 1, 1) := by decide +kernel
theorem dX11_condition_206 : decode cX11_condition 206 = .ok (.aload_n 0, 1) := by decide +kernel
theorem dX11_condition_207 : decode cX11_condition 207 = .ok (.getfield 58, 3) := by decide +kernel
theorem dX11_condition_210 : decode cX11_condition 210 = .ok (.iload_n 1, 1) := by decide +kernel
theorem dX11_condition_211 : decode cX11_condition 211 = .ok (.iaload, 1) := by decide +kernel
theorem dX11_condition_212 : decode cX11_condition 212 = .ok (.iadd, 1) := by decide +kernel
theorem dX11_condition_213 : decode cX11_condition 213 = .ok (.isub, 1) := by decide +kernel
theorem dX11_condition_214 : decode cX11_condition 214 = .ok (.istore_n 3, 1) := by decide +kernel
theorem dX11_condition_215 : decode cX11_condition 215 = .ok (.aload_n 0, 1) := by decide +kernel
theorem dX11_condition_216 : decode cX11_condition 216 = .ok (.iload_n 1, 1) := by decide +kernel
theorem dX11_condition_217 : decode cX11_condition 217 = .ok (.invokevirtual 293, 3) := by decide +kernel
theorem dX11_condition_220 : decode cX11_condition 220 = .ok (.aload_n 0, 1) := by decide +kernel
theorem dX11_condition_221 : decode cX11_condition 221 = .ok (.invokevirtual 255, 3) := by decide +kernel
theorem dX11_condition_224 : decode cX11_condition 224 = .ok (.pop, 1) := by decide +kernel
theorem dX11_condition_225 : decode cX11_condition 225 = .ok (.goto (-82), 3) := by decide +kernel
theorem dX11_condition_228 : decode cX11_condition 228 = .ok (.aload_n 0, 1) := by decide +kernel
theorem dX11_condition_229 : decode cX11_condition 229 = .ok (.getfield 163, 3) := by decide +kernel
theorem dX11_condition_232 : decode cX11_condition 232 = .ok (.ifCond .le 5, 3) := by decide +kernel
theorem dX11_condition_235 : decode cX11_condition 235 = .ok (.iconst 0, 1) := by decide +kernel
theorem dX11_condition_236 : decode cX11_condition 236 = .ok (.ireturn, 1) := by decide +kernel
theorem dX11_condition_237 : decode cX11_condition 237 = .ok (.aload_n 0, 1) := by decide +kernel
theorem dX11_condition_238 : decode cX11_condition 238 = .ok (.ldc2_w 245, 3) := by decide +kernel
theorem dX11_condition_241 : decode cX11_condition 241 = .ok (.invokevirtual 217, 3) := by decide +kernel
theorem dX11_condition_244 : decode cX11_condition 244 = .ok (.ifCond .eq 16, 3) := by decide +kernel
theorem dX11_condition_247 : decode cX11_condition 247 = .ok (.aload_n 0, 1) := by decide +kernel
theorem dX11_condition_248 : decode cX11_condition 248 = .ok (.iload_n 1, 1) := by decide +kernel
theorem dX11_condition_249 : decode cX11_condition 249 = .ok (.invokevirtual 296, 3) := by decide +kernel
theorem dX11_condition_252 : decode cX11_condition 252 = .ok (.aload_n 0, 1) := by decide +kernel
theorem dX11_condition_253 : decode cX11_condition 253 = .ok (.invokevirtual 255, 3) := by decide +kernel
theorem dX11_condition_256 : decode cX11_condition 256 = .ok (.pop, 1) := by decide +kernel
theorem dX11_condition_257 : decode cX11_condition 257 = .ok (.goto 71, 3) := by decide +kernel
theorem dX11_condition_260 : decode cX11_condition 260 = .ok (.aload_n 0, 1) := by decide +kernel
theorem dX11_condition_261 : decode cX11_condition 261 = .ok (.ldc2_w 243, 3) := by decide +kernel
theorem dX11_condition_264 : decode cX11_condition 264 = .ok (.invokevirtual 217, 3) := by decide +kernel
theorem dX11_condition_267 : decode cX11_condition 267 = .ok (.ifCond .eq 11, 3) := by decide +kernel
theorem dX11_condition_270 : decode cX11_condition 270 = .ok (.aload_n 0, 1) := by decide +kernel
theorem dX11_condition_271 : decode cX11_condition 271 = .ok (.invokevirtual 255, 3) := by decide +kernel
theorem dX11_condition_274 : decode cX11_condition 274 = .ok (.pop, 1) := by decide +kernel
theorem dX11_condition_275 : decode cX11_condition 275 = .ok (.goto 53, 3) := by decide +kernel
theorem dX11_condition_278 : decode cX11_condition 278 = .ok (.iload_n 1, 1) := by decide +kernel
theorem dX11_condition_279 : decode cX11_condition 279 = .ok (.ifCond .le 13, 3) := by decide +kernel
theorem dX11_condition_282 : decode cX11_condition 282 = .ok (.aload_n 0, 1) := by decide +kernel
theorem dX11_condition_283 : decode cX11_condition 283 = .ok (.iconst 0, 1) := by decide +kernel
theorem dX11_condition_284 : decode cX11_condition 284 = .ok (.aload_n 0, 1) := by decide +kernel
theorem dX11_condition_285 : decode cX11_condition 285 = .ok (.getfield 185, 3) := by decide +kernel
theorem dX11_condition_288 : decode cX11_condition 288 = .ok (.invokevirtual 201, 3) := by decide +kernel
theorem dX11_condition_291 : decode cX11_condition 291 = .ok (.ireturn, 1) := by decide +kernel
theorem dX11_condition_292 : decode cX11_condition 292 = .ok (.aload_n 0, 1) := by decide +kernel
theorem dX11_condition_293 : decode cX11_condition 293 = .ok (.iconst 0, 1) := by decide +kernel
theorem dX11_condition_294 : decode cX11_condition 294 = .ok (.invokevirtual 296, 3) := by decide +kernel
theorem dX11_condition_297 : decode cX11_condition 297 = .ok (.iconst 0, 1) := by decide +kernel
theorem dX11_condition_298 : decode cX11_condition 298 = .ok (.istore 5, 2) := by decide +kernel
theorem dX11_condition_300 : decode cX11_condition 300 = .ok (.iload 5, 2) := by decide +kernel
theorem dX11_condition_302 : decode cX11_condition 302 = .ok (.iconst 4, 1) := by decide +kernel
theorem dX11_condition_303 : decode cX11_condition 303 = .ok (.if_icmp .ge 23, 3) := by decide +kernel
theorem dX11_condition_306 : decode cX11_condition 306 = .ok (.aload_n 0, 1) := by decide +kernel
theorem dX11_condition_307 : decode cX11_condition 307 = .ok (.getfield 61, 3) := by decide +kernel
theorem dX11_condition_310 : decode cX11_condition 310 = .ok (.iload 5, 2) := by decide +kernel
theorem dX11_condition_312 : decode cX11_condition 312 = .ok (.aload_n 0, 1) := by decide +kernel
theorem dX11_condition_313 : decode cX11_condition 313 = .ok (.getfield 52, 3) := by decide +kernel
theorem dX11_condition_316 : decode cX11_condition 316 = .ok (.iload 5, 2) := by decide +kernel
theorem dX11_condition_318 : decode cX11_condition 318 = .ok (.laload, 1) := by decide +kernel
theorem dX11_condition_319 : decode cX11_condition 319 = .ok (.lastore, 1) := by decide +kernel
theorem dX11_condition_320 : decode cX11_condition 320 = .ok (.iinc 5 1, 3) := by decide +kernel
theorem dX11_condition_323 : decode cX11_condition 323 = .ok (.goto (-23), 3) := by decide +kernel
theorem dX11_condition_326 : decode cX11_condition 326 = .ok (.iconst 1, 1) := by decide +kernel
theorem dX11_condition_327 : decode cX11_condition 327 = .ok (.ireturn, 1) := by decide +kernel
theorem dX11_condition_328 : decode cX11_condition 328 = .ok (.goto (-317), 3) := by decide +kernel
theorem dX11_condition_331 : decode cX11_condition 331 = .ok (.iconst 0, 1) := by decide +kernel
theorem dX11_condition_332 : decode cX11_condition 332 = .ok (.ireturn, 1) := by decide +kernel
def fX11_condition_b87 (rec11 : Nat → Int32 → Int32 → Int32 → JM → JO (Int32)) (a : Nat) (x1 : Int32) (x2 : Int32) (x3 : Int32) (μ : JM) : JO (Int32) := jck ((jT μ a).1 == 12) <| jcl (fX11_takes a μ) fun r113 μ114 => rec11 a x1 x2 x3 μ114
set_option maxHeartbeats 4000000 in
set_option maxRecDepth 100000 in
theorem gX11_condition_b87 {b : Nat} {Θ : JE} {RC RS : Nat} {r : Int32} {ν : JM} (X : jX b Θ RX11 cX11_condition 6 (some .boolean) 4 88 RC RS) {rec11 : Nat → Int32 → Int32 → Int32 → JM → JO (Int32)} (hrec11 : ∀ (a : Nat) (x1 : Int32) (x2 : Int32) (x3 : Int32) (μ : JM) (c m k n : Nat), rec11 a x1 x2 x3 μ = some (r, ν, c, m) → k + c = RC → n + m = RS → WA b Θ 6 (jE b Θ (some (.int r)) ν RC RS) μ k n 11 [(0, va_rf (some a)), (1, .int x1), (2, .int x2), (3, .int x3)] []) (a : Nat) (x1 : Int32) (x2 : Int32) (x3 : Int32) (μ : JM) (c m k n : Nat) (hf : fX11_condition_b87 rec11 a x1 x2 x3 μ = some (r, ν, c, m)) (hk : k + c = RC) (hn : n + m = RS) : WA b Θ 6 (jE b Θ (some (.int r)) ν RC RS) μ k n 87 [(0, va_rf (some a)), (1, .int x1), (2, .int x2), (3, .int x3)] [] := by
  rw [fX11_condition_b87] at hf
  refine wa_aload_n X 0 dX11_condition_87 rfl ?_
  obtain ⟨h112, hf⟩ := jckT hf
  obtain ⟨r113, μ114, c115, m116, c117, m118, e119, hf, h120, h121⟩ := jcl_some hf
  refine wa_rcallV (st2 := [.int r113]) X dX11_condition_88 lmX11_255 lMX11_takes rfl h112 (mX11_takes e119) rfl rfl rfl (va_cats (Nat.le_of_ble_eq_true rfl)) (by decide) (by omega) (by omega) ?_
  refine wa_pop X dX11_condition_91 rfl ?_
  refine wa_goto (tgt := 11) X dX11_condition_92 (by decide) ?_
  refine wa_sub (L2 := [(0, va_rf (some a)), (1, .int x1), (2, .int x2), (3, .int x3)]) [0, 1, 2, 3] rfl ?_
  exact hrec11 a x1 x2 x3 μ114 _ _ _ _ hf (by omega) (by omega)
def fX11_condition_b41 (rec11 : Nat → Int32 → Int32 → Int32 → JM → JO (Int32)) (a : Nat) (x1 : Int32) (x2 : Int32) (x3 : Int32) (x4 : Int32) (μ : JM) : JO (Int32) := if x3 = (10 : Int32) then (jck ((jT μ a).1 == 12) <| jcl (fX11_fails a (6 : Int32) (jI μ a 15) μ) fun r102 μ103 => jck (jbl r102) <| some (r102, μ103, 0, 0)) else (if x4 = 0 then (jck ((jT μ a).1 == 12) <| jcl (fX11_opens a (x1 + (1 : Int32)) μ) fun u84 μ85 => fX11_condition_b87 rec11 a (x1 + (1 : Int32)) x2 (x3 + (1 : Int32)) μ85) else (jck ((jT μ a).1 == 12) <| jde (jP μ a 27) fun q94 => jck ((jT μ q94).1 == 101) <| jck (jin x1 (jT μ q94).2) <| jlt (jsI μ q94 (x1).toNatClampNeg ((jI μ q94 (x1).toNatClampNeg) + (1 : Int32))) fun μ98 => fX11_condition_b87 rec11 a x1 x2 (x3 + (1 : Int32)) μ98))
set_option maxHeartbeats 4000000 in
set_option maxRecDepth 100000 in
theorem gX11_condition_b41 {b : Nat} {Θ : JE} {RC RS : Nat} {r : Int32} {ν : JM} (X : jX b Θ RX11 cX11_condition 6 (some .boolean) 4 88 RC RS) {rec11 : Nat → Int32 → Int32 → Int32 → JM → JO (Int32)} (hrec11 : ∀ (a : Nat) (x1 : Int32) (x2 : Int32) (x3 : Int32) (μ : JM) (c m k n : Nat), rec11 a x1 x2 x3 μ = some (r, ν, c, m) → k + c = RC → n + m = RS → WA b Θ 6 (jE b Θ (some (.int r)) ν RC RS) μ k n 11 [(0, va_rf (some a)), (1, .int x1), (2, .int x2), (3, .int x3)] []) (a : Nat) (x1 : Int32) (x2 : Int32) (x3 : Int32) (x4 : Int32) (μ : JM) (c m k n : Nat) (hf : fX11_condition_b41 rec11 a x1 x2 x3 x4 μ = some (r, ν, c, m)) (hk : k + c = RC) (hn : n + m = RS) : WA b Θ 6 (jE b Θ (some (.int r)) ν RC RS) μ k n 41 [(0, va_rf (some a)), (1, .int x1), (2, .int x2), (3, .int x3), (4, .int x4)] [] := by
  rw [fX11_condition_b41] at hf
  refine wa_iload_n X 3 dX11_condition_41 rfl ?_
  refine wa_bipush (v := (10 : Int32)) X dX11_condition_42 (by decide) ?_
  refine wa_icne (tgt := 58) X dX11_condition_44 (by decide) (fun h81 => ?_) (fun h81 => ?_)
  · rw [if_neg h81] at hf
    refine wa_iinc (v := (x3 + (1 : Int32))) (L2 := [(3, .int (x3 + (1 : Int32))), (0, va_rf (some a)), (1, .int x1), (2, .int x2), (4, .int x4)]) X 3 dX11_condition_58 rfl rfl (by decide) (by first | rfl | simp [va_rf_cat, cat_i, cat_l]) ?_
    refine wa_iload X 4 dX11_condition_61 rfl ?_
    refine wa_ifeq (tgt := 79) X dX11_condition_63 (by decide) (fun h82 => ?_) (fun h82 => ?_)
    · rw [if_pos h82] at hf
      refine wa_iinc (v := (x1 + (1 : Int32))) (L2 := [(1, .int (x1 + (1 : Int32))), (3, .int (x3 + (1 : Int32))), (0, va_rf (some a)), (2, .int x2), (4, .int x4)]) X 2 dX11_condition_79 rfl rfl (by decide) (by first | rfl | simp [va_rf_cat, cat_i, cat_l]) ?_
      refine wa_aload_n X 2 dX11_condition_82 rfl ?_
      refine wa_iload_n X 0 dX11_condition_83 rfl ?_
      obtain ⟨h83, hf⟩ := jckT hf
      obtain ⟨u84, μ85, c86, m87, c88, m89, e90, hf, h91, h92⟩ := jcl_some hf
      refine wa_rcallV (st2 := []) X dX11_condition_84 lmX11_287 lMX11_opens rfl h83 (mX11_opens e90) rfl rfl rfl (va_cats (Nat.le_of_ble_eq_true rfl)) (by decide) (by omega) (by omega) ?_
      refine wa_sub (L2 := [(0, va_rf (some a)), (1, .int (x1 + (1 : Int32))), (2, .int x2), (3, .int (x3 + (1 : Int32)))]) [2, 0, 3, 1] rfl ?_
      exact gX11_condition_b87 X hrec11 a (x1 + (1 : Int32)) x2 (x3 + (1 : Int32)) μ85 _ _ _ _ hf (by omega) (by omega)
    · rw [if_neg h82] at hf
      refine wa_aload_n X 1 dX11_condition_66 rfl ?_
      obtain ⟨h93, hf⟩ := jckT hf
      refine wa_getP X dX11_condition_67 lfX11_58 rfl h93 rfl ?_
      refine wa_iload_n X 2 dX11_condition_70 rfl ?_
      refine wa_dup2 X dX11_condition_71 rfl (va_rf_cat _) ?_
      obtain ⟨q94, h95, hf⟩ := jde_some hf
      obtain ⟨h96, hf⟩ := jckT hf
      obtain ⟨h97, hf⟩ := jck_some hf
      refine wa_riald X dX11_condition_72 h95 h96 h97 ?_
      refine wa_iconst (v := (1 : Int32)) X dX11_condition_73 (by decide) ?_
      refine wa_iadd X dX11_condition_74 ?_
      obtain ⟨μ98, hm99, hf⟩ := jlt_e hf
      have e100 : jT μ98 = jT μ := by rw [hm99]; rfl
      refine wa_riast (ν := μ98) X dX11_condition_75 h95 h96 h97 hm99 ?_
      refine wa_goto (tgt := 87) X dX11_condition_76 (by decide) ?_
      refine wa_sub (L2 := [(0, va_rf (some a)), (1, .int x1), (2, .int x2), (3, .int (x3 + (1 : Int32)))]) [1, 2, 3, 0] rfl ?_
      exact gX11_condition_b87 X hrec11 a x1 x2 (x3 + (1 : Int32)) μ98 _ _ _ _ hf (by omega) (by omega)
  · rw [if_pos h81] at hf
    refine wa_aload_n X 0 dX11_condition_47 rfl ?_
    refine wa_bipush (v := (6 : Int32)) X dX11_condition_48 (by decide) ?_
    refine wa_aload_n X 0 dX11_condition_50 rfl ?_
    obtain ⟨h101, hf⟩ := jckT hf
    refine wa_getI X dX11_condition_51 lfX11_185 rfl h101 rfl ?_
    obtain ⟨r102, μ103, c104, m105, c106, m107, e108, hf, h109, h110⟩ := jcl_some hf
    refine wa_rcallV (st2 := [.int r102]) X dX11_condition_54 lmX11_201 lMX11_fails rfl h101 (mX11_fails e108) rfl rfl rfl (va_cats (Nat.le_of_ble_eq_true rfl)) (by decide) (by omega) (by omega) ?_
    obtain ⟨h111, hf⟩ := jck_some hf
    obtain ⟨rfl, rfl, rfl, rfl⟩ := jret hf
    exact wa_iret X dX11_condition_57 (jbl_nar h111) (by omega) (by omega)
def fX11_condition_b171 (rec11 : Nat → Int32 → Int32 → Int32 → JM → JO (Int32)) (rec143 : Nat → Int32 → Int32 → Int32 → JM → JO (Int32)) : Nat → Nat → Int32 → Int32 → Int32 → Int32 → JM → JO (Int32)
  | 0, _, _, _, _, _, _ => none
  | fu + 1, a, x1, x2, x3, x5, μ => if (4 : Int32) ≤ x5 then (jck ((jT μ a).1 == 12) <| jde (jP μ a 27) fun q147 => jck ((jT μ q147).1 == 101) <| jck (jin (x1 + (-1 : Int32)) (jT μ q147).2) <| jcl (fX11_joins a (x1 + (-1 : Int32)) μ) fun u151 μ152 => jck ((jT μ152 a).1 == 12) <| jcl (fX11_takes a μ152) fun r161 μ162 => rec143 a (x1 + (-1 : Int32)) x2 (x3 - ((1 : Int32) + (jI μ q147 ((x1 + (-1 : Int32))).toNatClampNeg))) μ162) else (jck ((jT μ a).1 == 12) <| jde (jP μ a 25) fun q171 => jck ((jT μ q171).1 == 102) <| jck (jin (((4 : Int32) * x1) + x5) (jT μ q171).2) <| jde (jP μ a 28) fun q175 => jck ((jT μ q175).1 == 102) <| jck (jin x5 (jT μ q175).2) <| jlt (jsJ μ q175 (x5).toNatClampNeg (jJ μ q171 ((((4 : Int32) * x1) + x5)).toNatClampNeg)) fun μ179 => fX11_condition_b171 rec11 rec143 fu a x1 x2 x3 (x5 + (1 : Int32)) μ179)
set_option maxHeartbeats 4000000 in
set_option maxRecDepth 100000 in
theorem gX11_condition_b171 {b : Nat} {Θ : JE} {RC RS : Nat} {r : Int32} {ν : JM} (X : jX b Θ RX11 cX11_condition 6 (some .boolean) 4 88 RC RS) {rec11 : Nat → Int32 → Int32 → Int32 → JM → JO (Int32)} (hrec11 : ∀ (a : Nat) (x1 : Int32) (x2 : Int32) (x3 : Int32) (μ : JM) (c m k n : Nat), rec11 a x1 x2 x3 μ = some (r, ν, c, m) → k + c = RC → n + m = RS → WA b Θ 6 (jE b Θ (some (.int r)) ν RC RS) μ k n 11 [(0, va_rf (some a)), (1, .int x1), (2, .int x2), (3, .int x3)] []) {rec143 : Nat → Int32 → Int32 → Int32 → JM → JO (Int32)} (hrec143 : ∀ (a : Nat) (x1 : Int32) (x2 : Int32) (x3 : Int32) (μ : JM) (c m k n : Nat), rec143 a x1 x2 x3 μ = some (r, ν, c, m) → k + c = RC → n + m = RS → WA b Θ 6 (jE b Θ (some (.int r)) ν RC RS) μ k n 143 [(0, va_rf (some a)), (1, .int x1), (2, .int x2), (3, .int x3)] []) : ∀ (fu : Nat) (a : Nat) (x1 : Int32) (x2 : Int32) (x3 : Int32) (x5 : Int32) (μ : JM) (c m k n : Nat), fX11_condition_b171 rec11 rec143 fu a x1 x2 x3 x5 μ = some (r, ν, c, m) → k + c = RC → n + m = RS → WA b Θ 6 (jE b Θ (some (.int r)) ν RC RS) μ k n 171 [(0, va_rf (some a)), (1, .int x1), (2, .int x2), (3, .int x3), (5, .int x5)] [] := by
  intro fu
  induction fu with
  | zero => intro a x1 x2 x3 x5 μ c m k n hf; cases hf
  | succ fu ih =>
    intro a x1 x2 x3 x5 μ c m k n hf hk hn
    rw [fX11_condition_b171] at hf
    refine wa_iload X 4 dX11_condition_171 rfl ?_
    refine wa_iconst (v := (4 : Int32)) X dX11_condition_173 (by decide) ?_
    refine wa_icge (tgt := 201) X dX11_condition_174 (by decide) (fun h145 => ?_) (fun h145 => ?_)
    · rw [if_pos h145] at hf
      refine wa_iinc (v := (x1 + (-1 : Int32))) (L2 := [(1, .int (x1 + (-1 : Int32))), (0, va_rf (some a)), (2, .int x2), (3, .int x3), (5, .int x5)]) X 1 dX11_condition_201 rfl rfl (by decide) (by first | rfl | simp [va_rf_cat, cat_i, cat_l]) ?_
      refine wa_iload_n X 3 dX11_condition_204 rfl ?_
      refine wa_iconst (v := (1 : Int32)) X dX11_condition_205 (by decide) ?_
      refine wa_aload_n X 1 dX11_condition_206 rfl ?_
      obtain ⟨h146, hf⟩ := jckT hf
      refine wa_getP X dX11_condition_207 lfX11_58 rfl h146 rfl ?_
      refine wa_iload_n X 0 dX11_condition_210 rfl ?_
      obtain ⟨q147, h148, hf⟩ := jde_some hf
      obtain ⟨h149, hf⟩ := jckT hf
      obtain ⟨h150, hf⟩ := jck_some hf
      refine wa_riald X dX11_condition_211 h148 h149 h150 ?_
      refine wa_iadd X dX11_condition_212 ?_
      refine wa_isub X dX11_condition_213 ?_
      refine wa_istore_n (L2 := [(3, .int (x3 - ((1 : Int32) + (jI μ q147 ((x1 + (-1 : Int32))).toNatClampNeg)))), (1, .int (x1 + (-1 : Int32))), (0, va_rf (some a)), (2, .int x2), (5, .int x5)]) X dX11_condition_214 (by decide) (by first | rfl | (show (3, _) :: List.filter (fun q : Nat × Value => !(q.1 == 3) && !(q.1 + 1 == 3 && q.2.category == 2)) _ = _; simp [va_rf_cat, cat_i, cat_l])) ?_
      refine wa_aload_n X 2 dX11_condition_215 rfl ?_
      refine wa_iload_n X 1 dX11_condition_216 rfl ?_
      obtain ⟨u151, μ152, c153, m154, c155, m156, e157, hf, h158, h159⟩ := jcl_some hf
      refine wa_rcallV (st2 := []) X dX11_condition_217 lmX11_293 lMX11_joins rfl h146 (mX11_joins e157) rfl rfl rfl (va_cats (Nat.le_of_ble_eq_true rfl)) (by decide) (by omega) (by omega) ?_
      refine wa_aload_n X 2 dX11_condition_220 rfl ?_
      obtain ⟨h160, hf⟩ := jckT hf
      obtain ⟨r161, μ162, c163, m164, c165, m166, e167, hf, h168, h169⟩ := jcl_some hf
      refine wa_rcallV (st2 := [.int r161]) X dX11_condition_221 lmX11_255 lMX11_takes rfl h160 (mX11_takes e167) rfl rfl rfl (va_cats (Nat.le_of_ble_eq_true rfl)) (by decide) (by omega) (by omega) ?_
      refine wa_pop X dX11_condition_224 rfl ?_
      refine wa_goto (tgt := 143) X dX11_condition_225 (by decide) ?_
      refine wa_sub (L2 := [(0, va_rf (some a)), (1, .int (x1 + (-1 : Int32))), (2, .int x2), (3, .int (x3 - ((1 : Int32) + (jI μ q147 ((x1 + (-1 : Int32))).toNatClampNeg))))]) [2, 1, 3, 0] rfl ?_
      exact hrec143 a (x1 + (-1 : Int32)) x2 (x3 - ((1 : Int32) + (jI μ q147 ((x1 + (-1 : Int32))).toNatClampNeg))) μ162 _ _ _ _ hf (by omega) (by omega)
    · rw [if_neg h145] at hf
      refine wa_aload_n X 0 dX11_condition_177 rfl ?_
      obtain ⟨h170, hf⟩ := jckT hf
      refine wa_getP X dX11_condition_178 lfX11_61 rfl h170 rfl ?_
      refine wa_iload X 4 dX11_condition_181 rfl ?_
      refine wa_aload_n X 0 dX11_condition_183 rfl ?_
      refine wa_getP X dX11_condition_184 lfX11_52 rfl h170 rfl ?_
      refine wa_iconst (v := (4 : Int32)) X dX11_condition_187 (by decide) ?_
      refine wa_iload_n X 1 dX11_condition_188 rfl ?_
      refine wa_imul X dX11_condition_189 ?_
      refine wa_iload X 4 dX11_condition_190 rfl ?_
      refine wa_iadd X dX11_condition_192 ?_
      obtain ⟨q171, h172, hf⟩ := jde_some hf
      obtain ⟨h173, hf⟩ := jckT hf
      obtain ⟨h174, hf⟩ := jck_some hf
      refine wa_rlald X dX11_condition_193 h172 h173 h174 ?_
      obtain ⟨q175, h176, hf⟩ := jde_some hf
      obtain ⟨h177, hf⟩ := jckT hf
      obtain ⟨h178, hf⟩ := jck_some hf
      obtain ⟨μ179, hm180, hf⟩ := jlt_e hf
      have e181 : jT μ179 = jT μ := by rw [hm180]; rfl
      refine wa_rlast (ν := μ179) X dX11_condition_194 h176 h177 h178 hm180 ?_
      refine wa_iinc (v := (x5 + (1 : Int32))) (L2 := [(5, .int (x5 + (1 : Int32))), (0, va_rf (some a)), (1, .int x1), (2, .int x2), (3, .int x3)]) X 4 dX11_condition_195 rfl rfl (by decide) (by first | rfl | simp [va_rf_cat, cat_i, cat_l]) ?_
      refine wa_goto (tgt := 171) X dX11_condition_198 (by decide) ?_
      refine wa_sub (L2 := [(0, va_rf (some a)), (1, .int x1), (2, .int x2), (3, .int x3), (5, .int (x5 + (1 : Int32)))]) [1, 2, 3, 4, 0] rfl ?_
      exact ih a x1 x2 x3 (x5 + (1 : Int32)) μ179 _ _ _ _ hf (by omega) (by omega)
def fX11_condition_b300 : Nat → Nat → Int32 → JM → JO (Int32)
  | 0, _, _, _ => none
  | fu + 1, a, x5, μ => if (4 : Int32) ≤ x5 then (some ((1 : Int32), μ, 0, 0)) else (jck ((jT μ a).1 == 12) <| jde (jP μ a 25) fun q259 => jck ((jT μ q259).1 == 102) <| jck (jin x5 (jT μ q259).2) <| jde (jP μ a 28) fun q263 => jck ((jT μ q263).1 == 102) <| jck (jin x5 (jT μ q263).2) <| jlt (jsJ μ q263 (x5).toNatClampNeg (jJ μ q259 (x5).toNatClampNeg)) fun μ267 => fX11_condition_b300 fu a (x5 + (1 : Int32)) μ267)
set_option maxHeartbeats 4000000 in
set_option maxRecDepth 100000 in
theorem gX11_condition_b300 {b : Nat} {Θ : JE} {RC RS : Nat} {r : Int32} {ν : JM} (X : jX b Θ RX11 cX11_condition 6 (some .boolean) 4 88 RC RS) : ∀ (fu : Nat) (a : Nat) (x5 : Int32) (μ : JM) (c m k n : Nat), fX11_condition_b300 fu a x5 μ = some (r, ν, c, m) → k + c = RC → n + m = RS → WA b Θ 6 (jE b Θ (some (.int r)) ν RC RS) μ k n 300 [(0, va_rf (some a)), (5, .int x5)] [] := by
  intro fu
  induction fu with
  | zero => intro a x5 μ c m k n hf; cases hf
  | succ fu ih =>
    intro a x5 μ c m k n hf hk hn
    rw [fX11_condition_b300] at hf
    refine wa_iload X 1 dX11_condition_300 rfl ?_
    refine wa_iconst (v := (4 : Int32)) X dX11_condition_302 (by decide) ?_
    refine wa_icge (tgt := 326) X dX11_condition_303 (by decide) (fun h257 => ?_) (fun h257 => ?_)
    · rw [if_pos h257] at hf
      refine wa_iconst (v := (1 : Int32)) X dX11_condition_326 (by decide) ?_
      obtain ⟨rfl, rfl, rfl, rfl⟩ := jret hf
      exact wa_iret X dX11_condition_327 rfl (by omega) (by omega)
    · rw [if_neg h257] at hf
      refine wa_aload_n X 0 dX11_condition_306 rfl ?_
      obtain ⟨h258, hf⟩ := jckT hf
      refine wa_getP X dX11_condition_307 lfX11_61 rfl h258 rfl ?_
      refine wa_iload X 1 dX11_condition_310 rfl ?_
      refine wa_aload_n X 0 dX11_condition_312 rfl ?_
      refine wa_getP X dX11_condition_313 lfX11_52 rfl h258 rfl ?_
      refine wa_iload X 1 dX11_condition_316 rfl ?_
      obtain ⟨q259, h260, hf⟩ := jde_some hf
      obtain ⟨h261, hf⟩ := jckT hf
      obtain ⟨h262, hf⟩ := jck_some hf
      refine wa_rlald X dX11_condition_318 h260 h261 h262 ?_
      obtain ⟨q263, h264, hf⟩ := jde_some hf
      obtain ⟨h265, hf⟩ := jckT hf
      obtain ⟨h266, hf⟩ := jck_some hf
      obtain ⟨μ267, hm268, hf⟩ := jlt_e hf
      have e269 : jT μ267 = jT μ := by rw [hm268]; rfl
      refine wa_rlast (ν := μ267) X dX11_condition_319 h264 h265 h266 hm268 ?_
      refine wa_iinc (v := (x5 + (1 : Int32))) (L2 := [(5, .int (x5 + (1 : Int32))), (0, va_rf (some a))]) X 1 dX11_condition_320 rfl rfl (by decide) (by first | rfl | simp [va_rf_cat, cat_i, cat_l]) ?_
      refine wa_goto (tgt := 300) X dX11_condition_323 (by decide) ?_
      refine wa_sub (L2 := [(0, va_rf (some a)), (5, .int (x5 + (1 : Int32)))]) [1, 0] rfl ?_
      exact ih a (x5 + (1 : Int32)) μ267 _ _ _ _ hf (by omega) (by omega)
def fX11_condition_b328 (rec11 : Nat → Int32 → Int32 → Int32 → JM → JO (Int32)) (a : Nat) (x1 : Int32) (x2 : Int32) (x3 : Int32) (μ : JM) : JO (Int32) := rec11 a x1 x2 x3 μ
set_option maxHeartbeats 4000000 in
set_option maxRecDepth 100000 in
theorem gX11_condition_b328 {b : Nat} {Θ : JE} {RC RS : Nat} {r : Int32} {ν : JM} (X : jX b Θ RX11 cX11_condition 6 (some .boolean) 4 88 RC RS) {rec11 : Nat → Int32 → Int32 → Int32 → JM → JO (Int32)} (hrec11 : ∀ (a : Nat) (x1 : Int32) (x2 : Int32) (x3 : Int32) (μ : JM) (c m k n : Nat), rec11 a x1 x2 x3 μ = some (r, ν, c, m) → k + c = RC → n + m = RS → WA b Θ 6 (jE b Θ (some (.int r)) ν RC RS) μ k n 11 [(0, va_rf (some a)), (1, .int x1), (2, .int x2), (3, .int x3)] []) (a : Nat) (x1 : Int32) (x2 : Int32) (x3 : Int32) (μ : JM) (c m k n : Nat) (hf : fX11_condition_b328 rec11 a x1 x2 x3 μ = some (r, ν, c, m)) (hk : k + c = RC) (hn : n + m = RS) : WA b Θ 6 (jE b Θ (some (.int r)) ν RC RS) μ k n 328 [(0, va_rf (some a)), (1, .int x1), (2, .int x2), (3, .int x3)] [] := by
  rw [fX11_condition_b328] at hf
  refine wa_goto (tgt := 11) X dX11_condition_328 (by decide) ?_
  refine wa_sub (L2 := [(0, va_rf (some a)), (1, .int x1), (2, .int x2), (3, .int x3)]) [0, 1, 2, 3] rfl ?_
  exact hrec11 a x1 x2 x3 μ _ _ _ _ hf (by omega) (by omega)
def fX11_condition_b228 (rec11 : Nat → Int32 → Int32 → Int32 → JM → JO (Int32)) (a : Nat) (x1 : Int32) (x2 : Int32) (x3 : Int32) (μ : JM) : JO (Int32) := jck ((jT μ a).1 == 12) <| if (jI μ a 18) ≤ 0 then (jcl (fX11_isWord a (498 : Int64) μ) fun r184 μ185 => if r184 = 0 then (jck ((jT μ185 a).1 == 12) <| jcl (fX11_isWord a (1476 : Int64) μ185) fun r195 μ196 => if r195 = 0 then (if x1 ≤ 0 then (jck ((jT μ196 a).1 == 12) <| jcl (fX11_ors a (0 : Int32) μ196) fun u207 μ208 => fX11_condition_b300  jfuel a (0 : Int32) μ208) else (jck ((jT μ196 a).1 == 12) <| jcl (fX11_fails a (0 : Int32) (jI μ196 a 15) μ196) fun r217 μ218 => jck (jbl r217) <| some (r217, μ218, 0, 0))) else (jck ((jT μ196 a).1 == 12) <| jcl (fX11_takes a μ196) fun r228 μ229 => fX11_condition_b328 rec11 a x1 x2 x3 μ229)) else (jck ((jT μ185 a).1 == 12) <| jcl (fX11_ors a x1 μ185) fun u238 μ239 => jck ((jT μ239 a).1 == 12) <| jcl (fX11_takes a μ239) fun r248 μ249 => fX11_condition_b328 rec11 a x1 x2 x3 μ249)) else (some ((0 : Int32), μ, 0, 0))
set_option maxHeartbeats 4000000 in
set_option maxRecDepth 100000 in
theorem gX11_condition_b228 {b : Nat} {Θ : JE} {RC RS : Nat} {r : Int32} {ν : JM} (X : jX b Θ RX11 cX11_condition 6 (some .boolean) 4 88 RC RS) {rec11 : Nat → Int32 → Int32 → Int32 → JM → JO (Int32)} (hrec11 : ∀ (a : Nat) (x1 : Int32) (x2 : Int32) (x3 : Int32) (μ : JM) (c m k n : Nat), rec11 a x1 x2 x3 μ = some (r, ν, c, m) → k + c = RC → n + m = RS → WA b Θ 6 (jE b Θ (some (.int r)) ν RC RS) μ k n 11 [(0, va_rf (some a)), (1, .int x1), (2, .int x2), (3, .int x3)] []) (a : Nat) (x1 : Int32) (x2 : Int32) (x3 : Int32) (μ : JM) (c m k n : Nat) (hf : fX11_condition_b228 rec11 a x1 x2 x3 μ = some (r, ν, c, m)) (hk : k + c = RC) (hn : n + m = RS) : WA b Θ 6 (jE b Θ (some (.int r)) ν RC RS) μ k n 228 [(0, va_rf (some a)), (1, .int x1), (2, .int x2), (3, .int x3)] [] := by
  rw [fX11_condition_b228] at hf
  refine wa_aload_n X 0 dX11_condition_228 rfl ?_
  obtain ⟨h182, hf⟩ := jckT hf
  refine wa_getI X dX11_condition_229 lfX11_163 rfl h182 rfl ?_
  refine wa_ifle (tgt := 237) X dX11_condition_232 (by decide) (fun h183 => ?_) (fun h183 => ?_)
  · rw [if_pos h183] at hf
    refine wa_aload_n X 0 dX11_condition_237 rfl ?_
    refine wa_ldc2 (v := (498 : Int64)) X dX11_condition_238 lkX11_245 ?_
    obtain ⟨r184, μ185, c186, m187, c188, m189, e190, hf, h191, h192⟩ := jcl_some hf
    refine wa_rcallV (st2 := [.int r184]) X dX11_condition_241 lmX11_217 lMX11_isWord rfl h182 (mX11_isWord e190) rfl rfl rfl (va_cats (Nat.le_of_ble_eq_true rfl)) (by decide) (by omega) (by omega) ?_
    refine wa_ifeq (tgt := 260) X dX11_condition_244 (by decide) (fun h193 => ?_) (fun h193 => ?_)
    · rw [if_pos h193] at hf
      refine wa_aload_n X 0 dX11_condition_260 rfl ?_
      refine wa_ldc2 (v := (1476 : Int64)) X dX11_condition_261 lkX11_243 ?_
      obtain ⟨h194, hf⟩ := jckT hf
      obtain ⟨r195, μ196, c197, m198, c199, m200, e201, hf, h202, h203⟩ := jcl_some hf
      refine wa_rcallV (st2 := [.int r195]) X dX11_condition_264 lmX11_217 lMX11_isWord rfl h194 (mX11_isWord e201) rfl rfl rfl (va_cats (Nat.le_of_ble_eq_true rfl)) (by decide) (by omega) (by omega) ?_
      refine wa_ifeq (tgt := 278) X dX11_condition_267 (by decide) (fun h204 => ?_) (fun h204 => ?_)
      · rw [if_pos h204] at hf
        refine wa_iload_n X 1 dX11_condition_278 rfl ?_
        refine wa_ifle (tgt := 292) X dX11_condition_279 (by decide) (fun h205 => ?_) (fun h205 => ?_)
        · rw [if_pos h205] at hf
          refine wa_aload_n X 0 dX11_condition_292 rfl ?_
          refine wa_iconst (v := (0 : Int32)) X dX11_condition_293 (by decide) ?_
          obtain ⟨h206, hf⟩ := jckT hf
          obtain ⟨u207, μ208, c209, m210, c211, m212, e213, hf, h214, h215⟩ := jcl_some hf
          refine wa_rcallV (st2 := []) X dX11_condition_294 lmX11_296 lMX11_ors rfl h206 (mX11_ors e213) rfl rfl rfl (va_cats (Nat.le_of_ble_eq_true rfl)) (by decide) (by omega) (by omega) ?_
          refine wa_iconst (v := (0 : Int32)) X dX11_condition_297 (by decide) ?_
          refine wa_istore (L2 := [(5, .int (0 : Int32)), (0, va_rf (some a)), (1, .int x1), (2, .int x2), (3, .int x3)]) X dX11_condition_298 (by decide) (by first | rfl | (show (5, _) :: List.filter (fun q : Nat × Value => !(q.1 == 5) && !(q.1 + 1 == 5 && q.2.category == 2)) _ = _; simp [va_rf_cat, cat_i, cat_l])) ?_
          refine wa_sub (L2 := [(0, va_rf (some a)), (5, .int (0 : Int32))]) [1, 0] rfl ?_
          exact gX11_condition_b300 X jfuel a (0 : Int32) μ208 _ _ _ _ hf (by omega) (by omega)
        · rw [if_neg h205] at hf
          refine wa_aload_n X 0 dX11_condition_282 rfl ?_
          refine wa_iconst (v := (0 : Int32)) X dX11_condition_283 (by decide) ?_
          refine wa_aload_n X 0 dX11_condition_284 rfl ?_
          obtain ⟨h216, hf⟩ := jckT hf
          refine wa_getI X dX11_condition_285 lfX11_185 rfl h216 rfl ?_
          obtain ⟨r217, μ218, c219, m220, c221, m222, e223, hf, h224, h225⟩ := jcl_some hf
          refine wa_rcallV (st2 := [.int r217]) X dX11_condition_288 lmX11_201 lMX11_fails rfl h216 (mX11_fails e223) rfl rfl rfl (va_cats (Nat.le_of_ble_eq_true rfl)) (by decide) (by omega) (by omega) ?_
          obtain ⟨h226, hf⟩ := jck_some hf
          obtain ⟨rfl, rfl, rfl, rfl⟩ := jret hf
          exact wa_iret X dX11_condition_291 (jbl_nar h226) (by omega) (by omega)
      · rw [if_neg h204] at hf
        refine wa_aload_n X 0 dX11_condition_270 rfl ?_
        obtain ⟨h227, hf⟩ := jckT hf
        obtain ⟨r228, μ229, c230, m231, c232, m233, e234, hf, h235, h236⟩ := jcl_some hf
        refine wa_rcallV (st2 := [.int r228]) X dX11_condition_271 lmX11_255 lMX11_takes rfl h227 (mX11_takes e234) rfl rfl rfl (va_cats (Nat.le_of_ble_eq_true rfl)) (by decide) (by omega) (by omega) ?_
        refine wa_pop X dX11_condition_274 rfl ?_
        refine wa_goto (tgt := 328) X dX11_condition_275 (by decide) ?_
        refine wa_sub (L2 := [(0, va_rf (some a)), (1, .int x1), (2, .int x2), (3, .int x3)]) [0, 1, 2, 3] rfl ?_
        exact gX11_condition_b328 X hrec11 a x1 x2 x3 μ229 _ _ _ _ hf (by omega) (by omega)
    · rw [if_neg h193] at hf
      refine wa_aload_n X 0 dX11_condition_247 rfl ?_
      refine wa_iload_n X 1 dX11_condition_248 rfl ?_
      obtain ⟨h237, hf⟩ := jckT hf
      obtain ⟨u238, μ239, c240, m241, c242, m243, e244, hf, h245, h246⟩ := jcl_some hf
      refine wa_rcallV (st2 := []) X dX11_condition_249 lmX11_296 lMX11_ors rfl h237 (mX11_ors e244) rfl rfl rfl (va_cats (Nat.le_of_ble_eq_true rfl)) (by decide) (by omega) (by omega) ?_
      refine wa_aload_n X 0 dX11_condition_252 rfl ?_
      obtain ⟨h247, hf⟩ := jckT hf
      obtain ⟨r248, μ249, c250, m251, c252, m253, e254, hf, h255, h256⟩ := jcl_some hf
      refine wa_rcallV (st2 := [.int r248]) X dX11_condition_253 lmX11_255 lMX11_takes rfl h247 (mX11_takes e254) rfl rfl rfl (va_cats (Nat.le_of_ble_eq_true rfl)) (by decide) (by omega) (by omega) ?_
      refine wa_pop X dX11_condition_256 rfl ?_
      refine wa_goto (tgt := 328) X dX11_condition_257 (by decide) ?_
      refine wa_sub (L2 := [(0, va_rf (some a)), (1, .int x1), (2, .int x2), (3, .int x3)]) [0, 1, 2, 3] rfl ?_
      exact gX11_condition_b328 X hrec11 a x1 x2 x3 μ249 _ _ _ _ hf (by omega) (by omega)
  · rw [if_neg h183] at hf
    refine wa_iconst (v := (0 : Int32)) X dX11_condition_235 (by decide) ?_
    obtain ⟨rfl, rfl, rfl, rfl⟩ := jret hf
    exact wa_iret X dX11_condition_236 rfl (by omega) (by omega)
def fX11_condition_b143 (rec11 : Nat → Int32 → Int32 → Int32 → JM → JO (Int32)) : Nat → Nat → Int32 → Int32 → Int32 → JM → JO (Int32)
  | 0, _, _, _, _, _ => none
  | fu + 1, a, x1, x2, x3, μ => jck ((jT μ a).1 == 12) <| if (jI μ a 18) = 0 then (jcl (fX11_isSign a (41 : Int32) μ) fun r124 μ125 => if r124 = 0 then (fX11_condition_b228 rec11 a x1 x2 x3 μ125) else (if x1 ≤ 0 then (fX11_condition_b228 rec11 a x1 x2 x3 μ125) else (jck ((jT μ125 a).1 == 12) <| jcl (fX11_ors a x1 μ125) fun u136 μ137 => fX11_condition_b171 rec11 (fX11_condition_b143 rec11 fu) jfuel a x1 x2 x3 (0 : Int32) μ137))) else (fX11_condition_b228 rec11 a x1 x2 x3 μ)
set_option maxHeartbeats 4000000 in
set_option maxRecDepth 100000 in
theorem gX11_condition_b143 {b : Nat} {Θ : JE} {RC RS : Nat} {r : Int32} {ν : JM} (X : jX b Θ RX11 cX11_condition 6 (some .boolean) 4 88 RC RS) {rec11 : Nat → Int32 → Int32 → Int32 → JM → JO (Int32)} (hrec11 : ∀ (a : Nat) (x1 : Int32) (x2 : Int32) (x3 : Int32) (μ : JM) (c m k n : Nat), rec11 a x1 x2 x3 μ = some (r, ν, c, m) → k + c = RC → n + m = RS → WA b Θ 6 (jE b Θ (some (.int r)) ν RC RS) μ k n 11 [(0, va_rf (some a)), (1, .int x1), (2, .int x2), (3, .int x3)] []) : ∀ (fu : Nat) (a : Nat) (x1 : Int32) (x2 : Int32) (x3 : Int32) (μ : JM) (c m k n : Nat), fX11_condition_b143 rec11 fu a x1 x2 x3 μ = some (r, ν, c, m) → k + c = RC → n + m = RS → WA b Θ 6 (jE b Θ (some (.int r)) ν RC RS) μ k n 143 [(0, va_rf (some a)), (1, .int x1), (2, .int x2), (3, .int x3)] [] := by
  intro fu
  induction fu with
  | zero => intro a x1 x2 x3 μ c m k n hf; cases hf
  | succ fu ih =>
    intro a x1 x2 x3 μ c m k n hf hk hn
    rw [fX11_condition_b143] at hf
    refine wa_aload_n X 0 dX11_condition_143 rfl ?_
    obtain ⟨h122, hf⟩ := jckT hf
    refine wa_getI X dX11_condition_144 lfX11_163 rfl h122 rfl ?_
    refine wa_ifne (tgt := 228) X dX11_condition_147 (by decide) (fun h123 => ?_) (fun h123 => ?_)
    · rw [if_neg h123] at hf
      refine wa_sub (L2 := [(0, va_rf (some a)), (1, .int x1), (2, .int x2), (3, .int x3)]) [0, 1, 2, 3] rfl ?_
      exact gX11_condition_b228 X hrec11 a x1 x2 x3 μ _ _ _ _ hf (by omega) (by omega)
    · rw [if_pos h123] at hf
      refine wa_aload_n X 0 dX11_condition_150 rfl ?_
      refine wa_bipush (v := (41 : Int32)) X dX11_condition_151 (by decide) ?_
      obtain ⟨r124, μ125, c126, m127, c128, m129, e130, hf, h131, h132⟩ := jcl_some hf
      refine wa_rcallV (st2 := [.int r124]) X dX11_condition_153 lmX11_258 lMX11_isSign rfl h122 (mX11_isSign e130) rfl rfl rfl (va_cats (Nat.le_of_ble_eq_true rfl)) (by decide) (by omega) (by omega) ?_
      refine wa_ifeq (tgt := 228) X dX11_condition_156 (by decide) (fun h133 => ?_) (fun h133 => ?_)
      · rw [if_pos h133] at hf
        refine wa_sub (L2 := [(0, va_rf (some a)), (1, .int x1), (2, .int x2), (3, .int x3)]) [0, 1, 2, 3] rfl ?_
        exact gX11_condition_b228 X hrec11 a x1 x2 x3 μ125 _ _ _ _ hf (by omega) (by omega)
      · rw [if_neg h133] at hf
        refine wa_iload_n X 1 dX11_condition_159 rfl ?_
        refine wa_ifle (tgt := 228) X dX11_condition_160 (by decide) (fun h134 => ?_) (fun h134 => ?_)
        · rw [if_pos h134] at hf
          refine wa_sub (L2 := [(0, va_rf (some a)), (1, .int x1), (2, .int x2), (3, .int x3)]) [0, 1, 2, 3] rfl ?_
          exact gX11_condition_b228 X hrec11 a x1 x2 x3 μ125 _ _ _ _ hf (by omega) (by omega)
        · rw [if_neg h134] at hf
          refine wa_aload_n X 0 dX11_condition_163 rfl ?_
          refine wa_iload_n X 1 dX11_condition_164 rfl ?_
          obtain ⟨h135, hf⟩ := jckT hf
          obtain ⟨u136, μ137, c138, m139, c140, m141, e142, hf, h143, h144⟩ := jcl_some hf
          refine wa_rcallV (st2 := []) X dX11_condition_165 lmX11_296 lMX11_ors rfl h135 (mX11_ors e142) rfl rfl rfl (va_cats (Nat.le_of_ble_eq_true rfl)) (by decide) (by omega) (by omega) ?_
          refine wa_iconst (v := (0 : Int32)) X dX11_condition_168 (by decide) ?_
          refine wa_istore (L2 := [(5, .int (0 : Int32)), (0, va_rf (some a)), (1, .int x1), (2, .int x2), (3, .int x3)]) X dX11_condition_169 (by decide) (by first | rfl | (show (5, _) :: List.filter (fun q : Nat × Value => !(q.1 == 5) && !(q.1 + 1 == 5 && q.2.category == 2)) _ = _; simp [va_rf_cat, cat_i, cat_l])) ?_
          refine wa_sub (L2 := [(0, va_rf (some a)), (1, .int x1), (2, .int x2), (3, .int x3), (5, .int (0 : Int32))]) [1, 2, 3, 4, 0] rfl ?_
          exact gX11_condition_b171 X hrec11 ih jfuel a x1 x2 x3 (0 : Int32) μ137 _ _ _ _ hf (by omega) (by omega)
def fX11_condition_b11 : Nat → Nat → Int32 → Int32 → Int32 → JM → JO (Int32)
  | 0, _, _, _, _, _ => none
  | fu + 1, a, x1, x2, x3, μ => jck ((jT μ a).1 == 12) <| if (jI μ a 18) = 0 then (jcl (fX11_isWord a (14836 : Int64) μ) fun r13 μ14 => if r13 = 0 then (jck ((jT μ14 a).1 == 12) <| jcl (fX11_isSign a (40 : Int32) μ14) fun r24 μ25 => if r24 = 0 then (jck ((jT μ25 a).1 == 12) <| jcl (fX11_one a μ25) fun r35 μ36 => if r35 = 0 then (some ((0 : Int32), μ36, 0, 0)) else (if x2 = (60 : Int32) then (jck ((jT μ36 a).1 == 12) <| jcl (fX11_fails a (6 : Int32) (jI μ36 a 15) μ36) fun r71 μ72 => jck (jbl r71) <| some (r71, μ72, 0, 0)) else (jck ((jT μ36 a).1 == 12) <| jde (jP μ36 a 27) fun q47 => jck ((jT μ36 q47).1 == 101) <| jck (jin x1 (jT μ36 q47).2) <| jcl (fX11_joins a x1 μ36) fun u51 μ52 => jck ((jT μ52 a).1 == 12) <| jcl (fX11_takes a μ52) fun r61 μ62 => fX11_condition_b143 (fX11_condition_b11 fu) jfuel a x1 (x2 + (1 : Int32)) (x3 - (jI μ36 q47 (x1).toNatClampNeg)) μ62))) else (fX11_condition_b41 (fX11_condition_b11 fu) a x1 x2 x3 r13 μ25)) else (fX11_condition_b41 (fX11_condition_b11 fu) a x1 x2 x3 r13 μ14)) else (some ((0 : Int32), μ, 0, 0))
set_option maxHeartbeats 4000000 in
set_option maxRecDepth 100000 in
theorem gX11_condition_b11 {b : Nat} {Θ : JE} {RC RS : Nat} {r : Int32} {ν : JM} (X : jX b Θ RX11 cX11_condition 6 (some .boolean) 4 88 RC RS) : ∀ (fu : Nat) (a : Nat) (x1 : Int32) (x2 : Int32) (x3 : Int32) (μ : JM) (c m k n : Nat), fX11_condition_b11 fu a x1 x2 x3 μ = some (r, ν, c, m) → k + c = RC → n + m = RS → WA b Θ 6 (jE b Θ (some (.int r)) ν RC RS) μ k n 11 [(0, va_rf (some a)), (1, .int x1), (2, .int x2), (3, .int x3)] [] := by
  intro fu
  induction fu with
  | zero => intro a x1 x2 x3 μ c m k n hf; cases hf
  | succ fu ih =>
    intro a x1 x2 x3 μ c m k n hf hk hn
    rw [fX11_condition_b11] at hf
    refine wa_aload_n X 0 dX11_condition_11 rfl ?_
    obtain ⟨h11, hf⟩ := jckT hf
    refine wa_getI X dX11_condition_12 lfX11_163 rfl h11 rfl ?_
    refine wa_ifne (tgt := 331) X dX11_condition_15 (by decide) (fun h12 => ?_) (fun h12 => ?_)
    · rw [if_neg h12] at hf
      refine wa_iconst (v := (0 : Int32)) X dX11_condition_331 (by decide) ?_
      obtain ⟨rfl, rfl, rfl, rfl⟩ := jret hf
      exact wa_iret X dX11_condition_332 rfl (by omega) (by omega)
    · rw [if_pos h12] at hf
      refine wa_aload_n X 0 dX11_condition_18 rfl ?_
      refine wa_ldc2 (v := (14836 : Int64)) X dX11_condition_19 lkX11_247 ?_
      obtain ⟨r13, μ14, c15, m16, c17, m18, e19, hf, h20, h21⟩ := jcl_some hf
      refine wa_rcallV (st2 := [.int r13]) X dX11_condition_22 lmX11_217 lMX11_isWord rfl h11 (mX11_isWord e19) rfl rfl rfl (va_cats (Nat.le_of_ble_eq_true rfl)) (by decide) (by omega) (by omega) ?_
      refine wa_istore (L2 := [(4, .int r13), (0, va_rf (some a)), (1, .int x1), (2, .int x2), (3, .int x3)]) X dX11_condition_25 (by decide) (by first | rfl | (show (4, _) :: List.filter (fun q : Nat × Value => !(q.1 == 4) && !(q.1 + 1 == 4 && q.2.category == 2)) _ = _; simp [va_rf_cat, cat_i, cat_l])) ?_
      refine wa_iload X 0 dX11_condition_27 rfl ?_
      refine wa_ifne (tgt := 41) X dX11_condition_29 (by decide) (fun h22 => ?_) (fun h22 => ?_)
      · rw [if_neg h22] at hf
        refine wa_sub (L2 := [(0, va_rf (some a)), (1, .int x1), (2, .int x2), (3, .int x3), (4, .int r13)]) [1, 2, 3, 4, 0] rfl ?_
        exact gX11_condition_b41 X ih a x1 x2 x3 r13 μ14 _ _ _ _ hf (by omega) (by omega)
      · rw [if_pos h22] at hf
        refine wa_aload_n X 1 dX11_condition_32 rfl ?_
        refine wa_bipush (v := (40 : Int32)) X dX11_condition_33 (by decide) ?_
        obtain ⟨h23, hf⟩ := jckT hf
        obtain ⟨r24, μ25, c26, m27, c28, m29, e30, hf, h31, h32⟩ := jcl_some hf
        refine wa_rcallV (st2 := [.int r24]) X dX11_condition_35 lmX11_258 lMX11_isSign rfl h23 (mX11_isSign e30) rfl rfl rfl (va_cats (Nat.le_of_ble_eq_true rfl)) (by decide) (by omega) (by omega) ?_
        refine wa_ifeq (tgt := 95) X dX11_condition_38 (by decide) (fun h33 => ?_) (fun h33 => ?_)
        · rw [if_pos h33] at hf
          refine wa_aload_n X 1 dX11_condition_95 rfl ?_
          obtain ⟨h34, hf⟩ := jckT hf
          obtain ⟨r35, μ36, c37, m38, c39, m40, e41, hf, h42, h43⟩ := jcl_some hf
          refine wa_rcallV (st2 := [.int r35]) X dX11_condition_96 lmX11_290 lMX11_one rfl h34 (mX11_one e41) rfl rfl rfl (va_cats (Nat.le_of_ble_eq_true rfl)) (by decide) (by omega) (by omega) ?_
          refine wa_ifne (tgt := 104) X dX11_condition_99 (by decide) (fun h44 => ?_) (fun h44 => ?_)
          · rw [if_neg h44] at hf
            refine wa_iload_n X 3 dX11_condition_104 rfl ?_
            refine wa_bipush (v := (60 : Int32)) X dX11_condition_105 (by decide) ?_
            refine wa_icne (tgt := 121) X dX11_condition_107 (by decide) (fun h45 => ?_) (fun h45 => ?_)
            · rw [if_neg h45] at hf
              refine wa_iinc (v := (x2 + (1 : Int32))) (L2 := [(2, .int (x2 + (1 : Int32))), (4, .int r13), (0, va_rf (some a)), (1, .int x1), (3, .int x3)]) X 3 dX11_condition_121 rfl rfl (by decide) (by first | rfl | simp [va_rf_cat, cat_i, cat_l]) ?_
              refine wa_iload_n X 4 dX11_condition_124 rfl ?_
              refine wa_aload_n X 2 dX11_condition_125 rfl ?_
              obtain ⟨h46, hf⟩ := jckT hf
              refine wa_getP X dX11_condition_126 lfX11_58 rfl h46 rfl ?_
              refine wa_iload_n X 3 dX11_condition_129 rfl ?_
              obtain ⟨q47, h48, hf⟩ := jde_some hf
              obtain ⟨h49, hf⟩ := jckT hf
              obtain ⟨h50, hf⟩ := jck_some hf
              refine wa_riald X dX11_condition_130 h48 h49 h50 ?_
              refine wa_isub X dX11_condition_131 ?_
              refine wa_istore_n (L2 := [(3, .int (x3 - (jI μ36 q47 (x1).toNatClampNeg))), (2, .int (x2 + (1 : Int32))), (4, .int r13), (0, va_rf (some a)), (1, .int x1)]) X dX11_condition_132 (by decide) (by first | rfl | (show (3, _) :: List.filter (fun q : Nat × Value => !(q.1 == 3) && !(q.1 + 1 == 3 && q.2.category == 2)) _ = _; simp [va_rf_cat, cat_i, cat_l])) ?_
              refine wa_aload_n X 3 dX11_condition_133 rfl ?_
              refine wa_iload_n X 4 dX11_condition_134 rfl ?_
              obtain ⟨u51, μ52, c53, m54, c55, m56, e57, hf, h58, h59⟩ := jcl_some hf
              refine wa_rcallV (st2 := []) X dX11_condition_135 lmX11_293 lMX11_joins rfl h46 (mX11_joins e57) rfl rfl rfl (va_cats (Nat.le_of_ble_eq_true rfl)) (by decide) (by omega) (by omega) ?_
              refine wa_aload_n X 3 dX11_condition_138 rfl ?_
              obtain ⟨h60, hf⟩ := jckT hf
              obtain ⟨r61, μ62, c63, m64, c65, m66, e67, hf, h68, h69⟩ := jcl_some hf
              refine wa_rcallV (st2 := [.int r61]) X dX11_condition_139 lmX11_255 lMX11_takes rfl h60 (mX11_takes e67) rfl rfl rfl (va_cats (Nat.le_of_ble_eq_true rfl)) (by decide) (by omega) (by omega) ?_
              refine wa_pop X dX11_condition_142 rfl ?_
              refine wa_sub (L2 := [(0, va_rf (some a)), (1, .int x1), (2, .int (x2 + (1 : Int32))), (3, .int (x3 - (jI μ36 q47 (x1).toNatClampNeg)))]) [3, 4, 1, 0] rfl ?_
              exact gX11_condition_b143 X ih jfuel a x1 (x2 + (1 : Int32)) (x3 - (jI μ36 q47 (x1).toNatClampNeg)) μ62 _ _ _ _ hf (by omega) (by omega)
            · rw [if_pos h45] at hf
              refine wa_aload_n X 1 dX11_condition_110 rfl ?_
              refine wa_bipush (v := (6 : Int32)) X dX11_condition_111 (by decide) ?_
              refine wa_aload_n X 1 dX11_condition_113 rfl ?_
              obtain ⟨h70, hf⟩ := jckT hf
              refine wa_getI X dX11_condition_114 lfX11_185 rfl h70 rfl ?_
              obtain ⟨r71, μ72, c73, m74, c75, m76, e77, hf, h78, h79⟩ := jcl_some hf
              refine wa_rcallV (st2 := [.int r71]) X dX11_condition_117 lmX11_201 lMX11_fails rfl h70 (mX11_fails e77) rfl rfl rfl (va_cats (Nat.le_of_ble_eq_true rfl)) (by decide) (by omega) (by omega) ?_
              obtain ⟨h80, hf⟩ := jck_some hf
              obtain ⟨rfl, rfl, rfl, rfl⟩ := jret hf
              exact wa_iret X dX11_condition_120 (jbl_nar h80) (by omega) (by omega)
          · rw [if_pos h44] at hf
            refine wa_iconst (v := (0 : Int32)) X dX11_condition_102 (by decide) ?_
            obtain ⟨rfl, rfl, rfl, rfl⟩ := jret hf
            exact wa_iret X dX11_condition_103 rfl (by omega) (by omega)
        · rw [if_neg h33] at hf
          refine wa_sub (L2 := [(0, va_rf (some a)), (1, .int x1), (2, .int x2), (3, .int x3), (4, .int r13)]) [1, 2, 3, 4, 0] rfl ?_
          exact gX11_condition_b41 X ih a x1 x2 x3 r13 μ25 _ _ _ _ hf (by omega) (by omega)
def fX11_condition (a : Nat) (μ : JM) : JO (Int32) := jck ((jT μ a).1 == 12) <| jcl (fX11_opens a (0 : Int32) μ) fun u2 μ3 => fX11_condition_b11  jfuel a (0 : Int32) (0 : Int32) (0 : Int32) μ3
set_option maxHeartbeats 4000000 in
set_option maxRecDepth 100000 in
theorem mX11_condition {b : Nat} {a : Nat} {μ : JM} {r : Int32} {ν : JM} {c m : Nat} (hf : fX11_condition a μ = some (r, ν, c, m)) : JMet b yX11_condition cX11_condition 6 (some .boolean) 4 88 [va_rf (some a)] μ (some (.int r)) ν c m := by
  refine JMet.of (by decide) (lg_sl_le (by simp only [List.map_cons, List.map_nil, List.sum_cons, List.sum_nil, va_rf_cat]; exact Nat.le_of_ble_eq_true rfl)) (fun Θ X hin => ?_)
  refine wa_eq (L2 := [(0, va_rf (some a))]) ?_ rfl (by first | rfl | simp [lv_args, va_rf_cat, cat_i, cat_l]) rfl
  obtain ⟨k, hk0⟩ : ∃ k : Nat, k = 0 := ⟨0, rfl⟩
  obtain ⟨n, hn0⟩ : ∃ n : Nat, n = 0 := ⟨0, rfl⟩
  have hk : k + c = c := by omega
  have hn : n + m = m := by omega
  refine wa_costs hk0.symm hn0.symm ?_
  rw [fX11_condition] at hf
  refine wa_iconst (v := (0 : Int32)) X dX11_condition_0 (by decide) ?_
  refine wa_istore_n (L2 := [(1, .int (0 : Int32)), (0, va_rf (some a))]) X dX11_condition_1 (by decide) (by first | rfl | (show (1, _) :: List.filter (fun q : Nat × Value => !(q.1 == 1) && !(q.1 + 1 == 1 && q.2.category == 2)) _ = _; simp [va_rf_cat, cat_i, cat_l])) ?_
  refine wa_iconst (v := (0 : Int32)) X dX11_condition_2 (by decide) ?_
  refine wa_istore_n (L2 := [(2, .int (0 : Int32)), (1, .int (0 : Int32)), (0, va_rf (some a))]) X dX11_condition_3 (by decide) (by first | rfl | (show (2, _) :: List.filter (fun q : Nat × Value => !(q.1 == 2) && !(q.1 + 1 == 2 && q.2.category == 2)) _ = _; simp [va_rf_cat, cat_i, cat_l])) ?_
  refine wa_iconst (v := (0 : Int32)) X dX11_condition_4 (by decide) ?_
  refine wa_istore_n (L2 := [(3, .int (0 : Int32)), (2, .int (0 : Int32)), (1, .int (0 : Int32)), (0, va_rf (some a))]) X dX11_condition_5 (by decide) (by first | rfl | (show (3, _) :: List.filter (fun q : Nat × Value => !(q.1 == 3) && !(q.1 + 1 == 3 && q.2.category == 2)) _ = _; simp [va_rf_cat, cat_i, cat_l])) ?_
  refine wa_aload_n X 3 dX11_condition_6 rfl ?_
  refine wa_iconst (v := (0 : Int32)) X dX11_condition_7 (by decide) ?_
  obtain ⟨h1, hf⟩ := jckT hf
  obtain ⟨u2, μ3, c4, m5, c6, m7, e8, hf, h9, h10⟩ := jcl_some hf
  refine wa_rcallV (st2 := []) X dX11_condition_8 lmX11_287 lMX11_opens rfl h1 (mX11_opens e8) rfl rfl rfl (va_cats (Nat.le_of_ble_eq_true rfl)) (by decide) (by omega) (by omega) ?_
  refine wa_sub (L2 := [(0, va_rf (some a)), (1, .int (0 : Int32)), (2, .int (0 : Int32)), (3, .int (0 : Int32))]) [3, 2, 1, 0] rfl ?_
  exact gX11_condition_b11 X jfuel a (0 : Int32) (0 : Int32) (0 : Int32) μ3 _ _ _ _ hf (by omega) (by omega)
theorem dX11_labelled_0 : decode cX11_labelled 0 = .ok (.iconst 0, 1) := by decide +kernel
theorem dX11_labelled_1 : decode cX11_labelled 1 = .ok (.istore_n 3, 1) := by decide +kernel
theorem dX11_labelled_2 : decode cX11_labelled 2 = .ok (.iload_n 3, 1) := by decide +kernel
theorem dX11_labelled_3 : decode cX11_labelled 3 = .ok (.iload_n 2, 1) := by decide +kernel
theorem dX11_labelled_4 : decode cX11_labelled 4 = .ok (.if_icmp .ge 113, 3) := by decide +kernel
theorem dX11_labelled_7 : decode cX11_labelled 7 = .ok (.bipush 24, 2) := by decide +kernel
theorem dX11_labelled_9 : decode cX11_labelled 9 = .ok (.iload_n 1, 1) := by decide +kernel
theorem dX11_labelled_10 : decode cX11_labelled 10 = .ok (.imul, 1) := by decide +kernel
theorem dX11_labelled_11 : decode cX11_labelled 11 = .ok (.iload_n 3, 1) := by decide +kernel
theorem dX11_labelled_12 : decode cX11_labelled 12 = .ok (.iadd, 1) := by decide +kernel
theorem dX11_labelled_13 : decode cX11_labelled 13 = .ok (.istore 4, 2) := by decide +kernel
theorem dX11_labelled_15 : decode cX11_labelled 15 = .ok (.aload_n 0, 1) := by decide +kernel
theorem dX11_labelled_16 : decode cX11_labelled 16 = .ok (.getfield 76, 3) := by decide +kernel
theorem dX11_labelled_19 : decode cX11_labelled 19 = .ok (.iload 4, 2) := by decide +kernel
theorem dX11_labelled_21 : decode cX11_labelled 21 = .ok (.iaload, 1) := by decide +kernel
theorem dX11_labelled_22 : decode cX11_labelled 22 = .ok (.ifCond .eq 21, 3) := by decide +kernel
theorem dX11_labelled_25 : decode cX11_labelled 25 = .ok (.aload_n 0, 1) := by decide +kernel
theorem dX11_labelled_26 : decode cX11_labelled 26 = .ok (.getfield 100, 3) := by decide +kernel
theorem dX11_labelled_29 : decode cX11_labelled 29 = .ok (.iload 4, 2) := by decide +kernel
theorem dX11_labelled_31 : decode cX11_labelled 31 = .ok (.iaload, 1) := by decide +kernel
theorem dX11_labelled_32 : decode cX11_labelled 32 = .ok (.aload_n 0, 1) := by decide +kernel
theorem dX11_labelled_33 : decode cX11_labelled 33 = .ok (.getfield 188, 3) := by decide +kernel
theorem dX11_labelled_36 : decode cX11_labelled 36 = .ok (.if_icmp .ne 7, 3) := by decide +kernel
theorem dX11_labelled_39 : decode cX11_labelled 39 = .ok (.iconst 1, 1) := by decide +kernel
theorem dX11_labelled_40 : decode cX11_labelled 40 = .ok (.goto 4, 3) := by decide +kernel
theorem dX11_labelled_43 : decode cX11_labelled 43 = .ok (.iconst 0, 1) := by decide +kernel
theorem dX11_labelled_44 : decode cX11_labelled 44 = .ok (.istore 5, 2) := by decide +kernel
theorem dX11_labelled_46 : decode cX11_labelled 46 = .ok (.iconst 0, 1) := by decide +kernel
theorem dX11_labelled_47 : decode cX11_labelled 47 = .ok (.istore 6, 2) := by decide +kernel
theorem dX11_labelled_49 : decode cX11_labelled 49 = .ok (.iload 5, 2) := by decide +kernel
theorem dX11_labelled_51 : decode cX11_labelled 51 = .ok (.ifCond .eq 53, 3) := by decide +kernel
theorem dX11_labelled_54 : decode cX11_labelled 54 = .ok (.iload 6, 2) := by decide +kernel
theorem dX11_labelled_56 : decode cX11_labelled 56 = .ok (.aload_n 0, 1) := by decide +kernel
theorem dX11_labelled_57 : decode cX11_labelled 57 = .ok (.getfield 188, 3) := by decide +kernel
theorem dX11_labelled_60 : decode cX11_labelled 60 = .ok (.if_icmp .ge 44, 3) := by decide +kernel
theorem dX11_labelled_63 : decode cX11_labelled 63 = .ok (.aload_n 0, 1) := by decide +kernel
theorem dX11_labelled_64 : decode cX11_labelled 64 = .ok (.getfield 97, 3) := by decide +kernel
theorem dX11_labelled_67 : decode cX11_labelled 67 = .ok (.bipush 12, 2) := by decide +kernel
theorem dX11_labelled_69 : decode cX11_labelled 69 = .ok (.iload 4, 2) := by decide +kernel
theorem dX11_labelled_71 : decode cX11_labelled 71 = .ok (.imul, 1) := by decide +kernel
theorem dX11_labelled_72 : decode cX11_labelled 72 = .ok (.iload 6, 2) := by decide +kernel
theorem dX11_labelled_74 : decode cX11_labelled 74 = .ok (.iadd, 1) := by decide +kernel
theorem dX11_labelled_75 : decode cX11_labelled 75 = .ok (.baload, 1) := by decide +kernel
theorem dX11_labelled_76 : decode cX11_labelled 76 = .ok (.aload_n 0, 1) := by decide +kernel
theorem dX11_labelled_77 : decode cX11_labelled 77 = .ok (.getfield 36, 3) := by decide +kernel
theorem dX11_labelled_80 : decode cX11_labelled 80 = .ok (.aload_n 0, 1) := by decide +kernel
theorem dX11_labelled_81 : decode cX11_labelled 81 = .ok (.getfield 185, 3) := by decide +kernel
theorem dX11_labelled_84 : decode cX11_labelled 84 = .ok (.iload 6, 2) := by decide +kernel
theorem dX11_labelled_86 : decode cX11_labelled 86 = .ok (.iadd, 1) := by decide +kernel
theorem dX11_labelled_87 : decode cX11_labelled 87 = .ok (.baload, 1) := by decide +kernel
theorem dX11_labelled_88 : decode cX11_labelled 88 = .ok (.if_icmp .ne 7, 3) := by decide +kernel
theorem dX11_labelled_91 : decode cX11_labelled 91 = .ok (.iconst 1, 1) := by decide +kernel
theorem dX11_labelled_92 : decode cX11_labelled 92 = .ok (.goto 4, 3) := by decide +kernel
theorem dX11_labelled_95 : decode cX11_labelled 95 = .ok (.iconst 0, 1) := by decide +kernel
theorem dX11_labelled_96 : decode cX11_labelled 96 = .ok (.istore 5, 2) := by decide +kernel
theorem dX11_labelled_98 : decode cX11_labelled 98 = .ok (.iinc 6 1, 3) := by decide +kernel
theorem dX11_labelled_101 : decode cX11_labelled 101 = .ok (.goto (-52), 3) := by decide +kernel
theorem dX11_labelled_104 : decode cX11_labelled 104 = .ok (.iload 5, 2) := by decide +kernel
theorem dX11_labelled_106 : decode cX11_labelled 106 = .ok (.ifCond .eq 5, 3) := by decide +kernel
theorem dX11_labelled_109 : decode cX11_labelled 109 = .ok (.iload_n 3, 1) := by decide +kernel
theorem dX11_labelled_110 : decode cX11_labelled 110 = .ok (.ireturn, 1) := by decide +kernel
theorem dX11_labelled_111 : decode cX11_labelled 111 = .ok (.iinc 3 1, 3) := by decide +kernel
theorem dX11_labelled_114 : decode cX11_labelled 114 = .ok (.goto (-112), 3) := by decide +kernel
theorem dX11_labelled_117 : decode cX11_labelled 117 = .ok (.iconst (-1), 1) := by decide +kernel
theorem dX11_labelled_118 : decode cX11_labelled 118 = .ok (.ireturn, 1) := by decide +kernel
def fX11_labelled_b96 (rec2 : Nat → Int32 → Int32 → Int32 → JM → JO (Int32)) (rec49 : Nat → Int32 → Int32 → Int32 → Int32 → Int32 → Int32 → JM → JO (Int32)) (a : Nat) (x1 : Int32) (x2 : Int32) (x3 : Int32) (x4 : Int32) (x6 : Int32) (s0 : Int32) (μ : JM) : JO (Int32) := rec49 a x1 x2 x3 x4 s0 (x6 + (1 : Int32)) μ
set_option maxHeartbeats 4000000 in
set_option maxRecDepth 100000 in
theorem gX11_labelled_b96 {b : Nat} {Θ : JE} {RC RS : Nat} {r : Int32} {ν : JM} (X : jX b Θ RX11 cX11_labelled 7 (some .int) 0 0 RC RS) {rec2 : Nat → Int32 → Int32 → Int32 → JM → JO (Int32)} (hrec2 : ∀ (a : Nat) (x1 : Int32) (x2 : Int32) (x3 : Int32) (μ : JM) (c m k n : Nat), rec2 a x1 x2 x3 μ = some (r, ν, c, m) → k + c = RC → n + m = RS → WA b Θ 7 (jE b Θ (some (.int r)) ν RC RS) μ k n 2 [(0, va_rf (some a)), (1, .int x1), (2, .int x2), (3, .int x3)] []) {rec49 : Nat → Int32 → Int32 → Int32 → Int32 → Int32 → Int32 → JM → JO (Int32)} (hrec49 : ∀ (a : Nat) (x1 : Int32) (x2 : Int32) (x3 : Int32) (x4 : Int32) (x5 : Int32) (x6 : Int32) (μ : JM) (c m k n : Nat), rec49 a x1 x2 x3 x4 x5 x6 μ = some (r, ν, c, m) → k + c = RC → n + m = RS → WA b Θ 7 (jE b Θ (some (.int r)) ν RC RS) μ k n 49 [(0, va_rf (some a)), (1, .int x1), (2, .int x2), (3, .int x3), (4, .int x4), (5, .int x5), (6, .int x6)] []) (a : Nat) (x1 : Int32) (x2 : Int32) (x3 : Int32) (x4 : Int32) (x6 : Int32) (s0 : Int32) (μ : JM) (c m k n : Nat) (hf : fX11_labelled_b96 rec2 rec49 a x1 x2 x3 x4 x6 s0 μ = some (r, ν, c, m)) (hk : k + c = RC) (hn : n + m = RS) : WA b Θ 7 (jE b Θ (some (.int r)) ν RC RS) μ k n 96 [(0, va_rf (some a)), (1, .int x1), (2, .int x2), (3, .int x3), (4, .int x4), (6, .int x6)] [.int s0] := by
  rw [fX11_labelled_b96] at hf
  refine wa_istore (L2 := [(5, .int s0), (0, va_rf (some a)), (1, .int x1), (2, .int x2), (3, .int x3), (4, .int x4), (6, .int x6)]) X dX11_labelled_96 (by decide) (by first | rfl | (show (5, _) :: List.filter (fun q : Nat × Value => !(q.1 == 5) && !(q.1 + 1 == 5 && q.2.category == 2)) _ = _; simp [va_rf_cat, cat_i, cat_l])) ?_
  refine wa_iinc (v := (x6 + (1 : Int32))) (L2 := [(6, .int (x6 + (1 : Int32))), (5, .int s0), (0, va_rf (some a)), (1, .int x1), (2, .int x2), (3, .int x3), (4, .int x4)]) X 6 dX11_labelled_98 rfl rfl (by decide) (by first | rfl | simp [va_rf_cat, cat_i, cat_l]) ?_
  refine wa_goto (tgt := 49) X dX11_labelled_101 (by decide) ?_
  refine wa_sub (L2 := [(0, va_rf (some a)), (1, .int x1), (2, .int x2), (3, .int x3), (4, .int x4), (5, .int s0), (6, .int (x6 + (1 : Int32)))]) [2, 3, 4, 5, 6, 1, 0] rfl ?_
  exact hrec49 a x1 x2 x3 x4 s0 (x6 + (1 : Int32)) μ _ _ _ _ hf (by omega) (by omega)
def fX11_labelled_b104 (rec2 : Nat → Int32 → Int32 → Int32 → JM → JO (Int32)) (a : Nat) (x1 : Int32) (x2 : Int32) (x3 : Int32) (x5 : Int32) (μ : JM) : JO (Int32) := if x5 = 0 then (rec2 a x1 x2 (x3 + (1 : Int32)) μ) else (some (x3, μ, 0, 0))
set_option maxHeartbeats 4000000 in
set_option maxRecDepth 100000 in
theorem gX11_labelled_b104 {b : Nat} {Θ : JE} {RC RS : Nat} {r : Int32} {ν : JM} (X : jX b Θ RX11 cX11_labelled 7 (some .int) 0 0 RC RS) {rec2 : Nat → Int32 → Int32 → Int32 → JM → JO (Int32)} (hrec2 : ∀ (a : Nat) (x1 : Int32) (x2 : Int32) (x3 : Int32) (μ : JM) (c m k n : Nat), rec2 a x1 x2 x3 μ = some (r, ν, c, m) → k + c = RC → n + m = RS → WA b Θ 7 (jE b Θ (some (.int r)) ν RC RS) μ k n 2 [(0, va_rf (some a)), (1, .int x1), (2, .int x2), (3, .int x3)] []) (a : Nat) (x1 : Int32) (x2 : Int32) (x3 : Int32) (x5 : Int32) (μ : JM) (c m k n : Nat) (hf : fX11_labelled_b104 rec2 a x1 x2 x3 x5 μ = some (r, ν, c, m)) (hk : k + c = RC) (hn : n + m = RS) : WA b Θ 7 (jE b Θ (some (.int r)) ν RC RS) μ k n 104 [(0, va_rf (some a)), (1, .int x1), (2, .int x2), (3, .int x3), (5, .int x5)] [] := by
  rw [fX11_labelled_b104] at hf
  refine wa_iload X 4 dX11_labelled_104 rfl ?_
  refine wa_ifeq (tgt := 111) X dX11_labelled_106 (by decide) (fun h25 => ?_) (fun h25 => ?_)
  · rw [if_pos h25] at hf
    refine wa_iinc (v := (x3 + (1 : Int32))) (L2 := [(3, .int (x3 + (1 : Int32))), (0, va_rf (some a)), (1, .int x1), (2, .int x2), (5, .int x5)]) X 3 dX11_labelled_111 rfl rfl (by decide) (by first | rfl | simp [va_rf_cat, cat_i, cat_l]) ?_
    refine wa_goto (tgt := 2) X dX11_labelled_114 (by decide) ?_
    refine wa_sub (L2 := [(0, va_rf (some a)), (1, .int x1), (2, .int x2), (3, .int (x3 + (1 : Int32)))]) [1, 2, 3, 0] rfl ?_
    exact hrec2 a x1 x2 (x3 + (1 : Int32)) μ _ _ _ _ hf (by omega) (by omega)
  · rw [if_neg h25] at hf
    refine wa_iload_n X 3 dX11_labelled_109 rfl ?_
    obtain ⟨rfl, rfl, rfl, rfl⟩ := jret hf
    exact wa_iret X dX11_labelled_110 rfl (by omega) (by omega)
def fX11_labelled_b49 (rec2 : Nat → Int32 → Int32 → Int32 → JM → JO (Int32)) : Nat → Nat → Int32 → Int32 → Int32 → Int32 → Int32 → Int32 → JM → JO (Int32)
  | 0, _, _, _, _, _, _, _, _ => none
  | fu + 1, a, x1, x2, x3, x4, x5, x6, μ => if x5 = 0 then (fX11_labelled_b104 rec2 a x1 x2 x3 x5 μ) else (jck ((jT μ a).1 == 12) <| if (jI μ a 16) ≤ x6 then (fX11_labelled_b104 rec2 a x1 x2 x3 x5 μ) else (jde (jP μ a 42) fun q16 => jck ((jT μ q16).1 == 100) <| jck (jin (((12 : Int32) * x4) + x6) (jT μ q16).2) <| jde (jP μ a 11) fun q20 => jck ((jT μ q20).1 == 100) <| jck (jin ((jI μ a 15) + x6) (jT μ q20).2) <| if (jI μ q16 ((((12 : Int32) * x4) + x6)).toNatClampNeg) = (jI μ q20 (((jI μ a 15) + x6)).toNatClampNeg) then (fX11_labelled_b96 rec2 (fX11_labelled_b49 rec2 fu) a x1 x2 x3 x4 x6 (1 : Int32) μ) else (fX11_labelled_b96 rec2 (fX11_labelled_b49 rec2 fu) a x1 x2 x3 x4 x6 (0 : Int32) μ)))
set_option maxHeartbeats 4000000 in
set_option maxRecDepth 100000 in
theorem gX11_labelled_b49 {b : Nat} {Θ : JE} {RC RS : Nat} {r : Int32} {ν : JM} (X : jX b Θ RX11 cX11_labelled 7 (some .int) 0 0 RC RS) {rec2 : Nat → Int32 → Int32 → Int32 → JM → JO (Int32)} (hrec2 : ∀ (a : Nat) (x1 : Int32) (x2 : Int32) (x3 : Int32) (μ : JM) (c m k n : Nat), rec2 a x1 x2 x3 μ = some (r, ν, c, m) → k + c = RC → n + m = RS → WA b Θ 7 (jE b Θ (some (.int r)) ν RC RS) μ k n 2 [(0, va_rf (some a)), (1, .int x1), (2, .int x2), (3, .int x3)] []) : ∀ (fu : Nat) (a : Nat) (x1 : Int32) (x2 : Int32) (x3 : Int32) (x4 : Int32) (x5 : Int32) (x6 : Int32) (μ : JM) (c m k n : Nat), fX11_labelled_b49 rec2 fu a x1 x2 x3 x4 x5 x6 μ = some (r, ν, c, m) → k + c = RC → n + m = RS → WA b Θ 7 (jE b Θ (some (.int r)) ν RC RS) μ k n 49 [(0, va_rf (some a)), (1, .int x1), (2, .int x2), (3, .int x3), (4, .int x4), (5, .int x5), (6, .int x6)] [] := by
  intro fu
  induction fu with
  | zero => intro a x1 x2 x3 x4 x5 x6 μ c m k n hf; cases hf
  | succ fu ih =>
    intro a x1 x2 x3 x4 x5 x6 μ c m k n hf hk hn
    rw [fX11_labelled_b49] at hf
    refine wa_iload X 5 dX11_labelled_49 rfl ?_
    refine wa_ifeq (tgt := 104) X dX11_labelled_51 (by decide) (fun h13 => ?_) (fun h13 => ?_)
    · rw [if_pos h13] at hf
      refine wa_sub (L2 := [(0, va_rf (some a)), (1, .int x1), (2, .int x2), (3, .int x3), (5, .int x5)]) [0, 1, 2, 3, 5] rfl ?_
      exact gX11_labelled_b104 X hrec2 a x1 x2 x3 x5 μ _ _ _ _ hf (by omega) (by omega)
    · rw [if_neg h13] at hf
      refine wa_iload X 6 dX11_labelled_54 rfl ?_
      refine wa_aload_n X 0 dX11_labelled_56 rfl ?_
      obtain ⟨h14, hf⟩ := jckT hf
      refine wa_getI X dX11_labelled_57 lfX11_188 rfl h14 rfl ?_
      refine wa_icge (tgt := 104) X dX11_labelled_60 (by decide) (fun h15 => ?_) (fun h15 => ?_)
      · rw [if_pos h15] at hf
        refine wa_sub (L2 := [(0, va_rf (some a)), (1, .int x1), (2, .int x2), (3, .int x3), (5, .int x5)]) [0, 1, 2, 3, 5] rfl ?_
        exact gX11_labelled_b104 X hrec2 a x1 x2 x3 x5 μ _ _ _ _ hf (by omega) (by omega)
      · rw [if_neg h15] at hf
        refine wa_aload_n X 0 dX11_labelled_63 rfl ?_
        refine wa_getP X dX11_labelled_64 lfX11_97 rfl h14 rfl ?_
        refine wa_bipush (v := (12 : Int32)) X dX11_labelled_67 (by decide) ?_
        refine wa_iload X 4 dX11_labelled_69 rfl ?_
        refine wa_imul X dX11_labelled_71 ?_
        refine wa_iload X 6 dX11_labelled_72 rfl ?_
        refine wa_iadd X dX11_labelled_74 ?_
        obtain ⟨q16, h17, hf⟩ := jde_some hf
        obtain ⟨h18, hf⟩ := jckT hf
        obtain ⟨h19, hf⟩ := jck_some hf
        refine wa_rbald X dX11_labelled_75 h17 h18 h19 ?_
        refine wa_aload_n X 0 dX11_labelled_76 rfl ?_
        refine wa_getP X dX11_labelled_77 lfX11_36 rfl h14 rfl ?_
        refine wa_aload_n X 0 dX11_labelled_80 rfl ?_
        refine wa_getI X dX11_labelled_81 lfX11_185 rfl h14 rfl ?_
        refine wa_iload X 6 dX11_labelled_84 rfl ?_
        refine wa_iadd X dX11_labelled_86 ?_
        obtain ⟨q20, h21, hf⟩ := jde_some hf
        obtain ⟨h22, hf⟩ := jckT hf
        obtain ⟨h23, hf⟩ := jck_some hf
        refine wa_rbald X dX11_labelled_87 h21 h22 h23 ?_
        refine wa_icne (tgt := 95) X dX11_labelled_88 (by decide) (fun h24 => ?_) (fun h24 => ?_)
        · rw [if_neg h24] at hf
          refine wa_iconst (v := (0 : Int32)) X dX11_labelled_95 (by decide) ?_
          refine wa_sub (L2 := [(0, va_rf (some a)), (1, .int x1), (2, .int x2), (3, .int x3), (4, .int x4), (6, .int x6)]) [0, 1, 2, 3, 4, 6] rfl ?_
          exact gX11_labelled_b96 X hrec2 ih a x1 x2 x3 x4 x6 (0 : Int32) μ _ _ _ _ hf (by omega) (by omega)
        · rw [if_pos h24] at hf
          refine wa_iconst (v := (1 : Int32)) X dX11_labelled_91 (by decide) ?_
          refine wa_goto (tgt := 96) X dX11_labelled_92 (by decide) ?_
          refine wa_sub (L2 := [(0, va_rf (some a)), (1, .int x1), (2, .int x2), (3, .int x3), (4, .int x4), (6, .int x6)]) [0, 1, 2, 3, 4, 6] rfl ?_
          exact gX11_labelled_b96 X hrec2 ih a x1 x2 x3 x4 x6 (1 : Int32) μ _ _ _ _ hf (by omega) (by omega)
def fX11_labelled_b44 (rec2 : Nat → Int32 → Int32 → Int32 → JM → JO (Int32)) (a : Nat) (x1 : Int32) (x2 : Int32) (x3 : Int32) (x4 : Int32) (s0 : Int32) (μ : JM) : JO (Int32) := fX11_labelled_b49 rec2 jfuel a x1 x2 x3 x4 s0 (0 : Int32) μ
set_option maxHeartbeats 4000000 in
set_option maxRecDepth 100000 in
theorem gX11_labelled_b44 {b : Nat} {Θ : JE} {RC RS : Nat} {r : Int32} {ν : JM} (X : jX b Θ RX11 cX11_labelled 7 (some .int) 0 0 RC RS) {rec2 : Nat → Int32 → Int32 → Int32 → JM → JO (Int32)} (hrec2 : ∀ (a : Nat) (x1 : Int32) (x2 : Int32) (x3 : Int32) (μ : JM) (c m k n : Nat), rec2 a x1 x2 x3 μ = some (r, ν, c, m) → k + c = RC → n + m = RS → WA b Θ 7 (jE b Θ (some (.int r)) ν RC RS) μ k n 2 [(0, va_rf (some a)), (1, .int x1), (2, .int x2), (3, .int x3)] []) (a : Nat) (x1 : Int32) (x2 : Int32) (x3 : Int32) (x4 : Int32) (s0 : Int32) (μ : JM) (c m k n : Nat) (hf : fX11_labelled_b44 rec2 a x1 x2 x3 x4 s0 μ = some (r, ν, c, m)) (hk : k + c = RC) (hn : n + m = RS) : WA b Θ 7 (jE b Θ (some (.int r)) ν RC RS) μ k n 44 [(0, va_rf (some a)), (1, .int x1), (2, .int x2), (3, .int x3), (4, .int x4)] [.int s0] := by
  rw [fX11_labelled_b44] at hf
  refine wa_istore (L2 := [(5, .int s0), (0, va_rf (some a)), (1, .int x1), (2, .int x2), (3, .int x3), (4, .int x4)]) X dX11_labelled_44 (by decide) (by first | rfl | (show (5, _) :: List.filter (fun q : Nat × Value => !(q.1 == 5) && !(q.1 + 1 == 5 && q.2.category == 2)) _ = _; simp [va_rf_cat, cat_i, cat_l])) ?_
  refine wa_iconst (v := (0 : Int32)) X dX11_labelled_46 (by decide) ?_
  refine wa_istore (L2 := [(6, .int (0 : Int32)), (5, .int s0), (0, va_rf (some a)), (1, .int x1), (2, .int x2), (3, .int x3), (4, .int x4)]) X dX11_labelled_47 (by decide) (by first | rfl | (show (6, _) :: List.filter (fun q : Nat × Value => !(q.1 == 6) && !(q.1 + 1 == 6 && q.2.category == 2)) _ = _; simp [va_rf_cat, cat_i, cat_l])) ?_
  refine wa_sub (L2 := [(0, va_rf (some a)), (1, .int x1), (2, .int x2), (3, .int x3), (4, .int x4), (5, .int s0), (6, .int (0 : Int32))]) [2, 3, 4, 5, 6, 1, 0] rfl ?_
  exact gX11_labelled_b49 X hrec2 jfuel a x1 x2 x3 x4 s0 (0 : Int32) μ _ _ _ _ hf (by omega) (by omega)
def fX11_labelled_b43 (rec2 : Nat → Int32 → Int32 → Int32 → JM → JO (Int32)) (a : Nat) (x1 : Int32) (x2 : Int32) (x3 : Int32) (x4 : Int32) (μ : JM) : JO (Int32) := fX11_labelled_b44 rec2 a x1 x2 x3 x4 (0 : Int32) μ
set_option maxHeartbeats 4000000 in
set_option maxRecDepth 100000 in
theorem gX11_labelled_b43 {b : Nat} {Θ : JE} {RC RS : Nat} {r : Int32} {ν : JM} (X : jX b Θ RX11 cX11_labelled 7 (some .int) 0 0 RC RS) {rec2 : Nat → Int32 → Int32 → Int32 → JM → JO (Int32)} (hrec2 : ∀ (a : Nat) (x1 : Int32) (x2 : Int32) (x3 : Int32) (μ : JM) (c m k n : Nat), rec2 a x1 x2 x3 μ = some (r, ν, c, m) → k + c = RC → n + m = RS → WA b Θ 7 (jE b Θ (some (.int r)) ν RC RS) μ k n 2 [(0, va_rf (some a)), (1, .int x1), (2, .int x2), (3, .int x3)] []) (a : Nat) (x1 : Int32) (x2 : Int32) (x3 : Int32) (x4 : Int32) (μ : JM) (c m k n : Nat) (hf : fX11_labelled_b43 rec2 a x1 x2 x3 x4 μ = some (r, ν, c, m)) (hk : k + c = RC) (hn : n + m = RS) : WA b Θ 7 (jE b Θ (some (.int r)) ν RC RS) μ k n 43 [(0, va_rf (some a)), (1, .int x1), (2, .int x2), (3, .int x3), (4, .int x4)] [] := by
  rw [fX11_labelled_b43] at hf
  refine wa_iconst (v := (0 : Int32)) X dX11_labelled_43 (by decide) ?_
  refine wa_sub (L2 := [(0, va_rf (some a)), (1, .int x1), (2, .int x2), (3, .int x3), (4, .int x4)]) [0, 1, 2, 3, 4] rfl ?_
  exact gX11_labelled_b44 X hrec2 a x1 x2 x3 x4 (0 : Int32) μ _ _ _ _ hf (by omega) (by omega)
def fX11_labelled_b2 : Nat → Nat → Int32 → Int32 → Int32 → JM → JO (Int32)
  | 0, _, _, _, _, _ => none
  | fu + 1, a, x1, x2, x3, μ => if x2 ≤ x3 then (some ((-1 : Int32), μ, 0, 0)) else (jck ((jT μ a).1 == 12) <| jde (jP μ a 35) fun q3 => jck ((jT μ q3).1 == 101) <| jck (jin (((24 : Int32) * x1) + x3) (jT μ q3).2) <| if (jI μ q3 ((((24 : Int32) * x1) + x3)).toNatClampNeg) = 0 then (fX11_labelled_b43 (fX11_labelled_b2 fu) a x1 x2 x3 (((24 : Int32) * x1) + x3) μ) else (jde (jP μ a 43) fun q8 => jck ((jT μ q8).1 == 101) <| jck (jin (((24 : Int32) * x1) + x3) (jT μ q8).2) <| if (jI μ q8 ((((24 : Int32) * x1) + x3)).toNatClampNeg) = (jI μ a 16) then (fX11_labelled_b44 (fX11_labelled_b2 fu) a x1 x2 x3 (((24 : Int32) * x1) + x3) (1 : Int32) μ) else (fX11_labelled_b43 (fX11_labelled_b2 fu) a x1 x2 x3 (((24 : Int32) * x1) + x3) μ)))
set_option maxHeartbeats 4000000 in
set_option maxRecDepth 100000 in
theorem gX11_labelled_b2 {b : Nat} {Θ : JE} {RC RS : Nat} {r : Int32} {ν : JM} (X : jX b Θ RX11 cX11_labelled 7 (some .int) 0 0 RC RS) : ∀ (fu : Nat) (a : Nat) (x1 : Int32) (x2 : Int32) (x3 : Int32) (μ : JM) (c m k n : Nat), fX11_labelled_b2 fu a x1 x2 x3 μ = some (r, ν, c, m) → k + c = RC → n + m = RS → WA b Θ 7 (jE b Θ (some (.int r)) ν RC RS) μ k n 2 [(0, va_rf (some a)), (1, .int x1), (2, .int x2), (3, .int x3)] [] := by
  intro fu
  induction fu with
  | zero => intro a x1 x2 x3 μ c m k n hf; cases hf
  | succ fu ih =>
    intro a x1 x2 x3 μ c m k n hf hk hn
    rw [fX11_labelled_b2] at hf
    refine wa_iload_n X 3 dX11_labelled_2 rfl ?_
    refine wa_iload_n X 2 dX11_labelled_3 rfl ?_
    refine wa_icge (tgt := 117) X dX11_labelled_4 (by decide) (fun h1 => ?_) (fun h1 => ?_)
    · rw [if_pos h1] at hf
      refine wa_iconst (v := (-1 : Int32)) X dX11_labelled_117 (by decide) ?_
      obtain ⟨rfl, rfl, rfl, rfl⟩ := jret hf
      exact wa_iret X dX11_labelled_118 rfl (by omega) (by omega)
    · rw [if_neg h1] at hf
      refine wa_bipush (v := (24 : Int32)) X dX11_labelled_7 (by decide) ?_
      refine wa_iload_n X 1 dX11_labelled_9 rfl ?_
      refine wa_imul X dX11_labelled_10 ?_
      refine wa_iload_n X 3 dX11_labelled_11 rfl ?_
      refine wa_iadd X dX11_labelled_12 ?_
      refine wa_istore (L2 := [(4, .int (((24 : Int32) * x1) + x3)), (0, va_rf (some a)), (1, .int x1), (2, .int x2), (3, .int x3)]) X dX11_labelled_13 (by decide) (by first | rfl | (show (4, _) :: List.filter (fun q : Nat × Value => !(q.1 == 4) && !(q.1 + 1 == 4 && q.2.category == 2)) _ = _; simp [va_rf_cat, cat_i, cat_l])) ?_
      refine wa_aload_n X 1 dX11_labelled_15 rfl ?_
      obtain ⟨h2, hf⟩ := jckT hf
      refine wa_getP X dX11_labelled_16 lfX11_76 rfl h2 rfl ?_
      refine wa_iload X 0 dX11_labelled_19 rfl ?_
      obtain ⟨q3, h4, hf⟩ := jde_some hf
      obtain ⟨h5, hf⟩ := jckT hf
      obtain ⟨h6, hf⟩ := jck_some hf
      refine wa_riald X dX11_labelled_21 h4 h5 h6 ?_
      refine wa_ifeq (tgt := 43) X dX11_labelled_22 (by decide) (fun h7 => ?_) (fun h7 => ?_)
      · rw [if_pos h7] at hf
        refine wa_sub (L2 := [(0, va_rf (some a)), (1, .int x1), (2, .int x2), (3, .int x3), (4, .int (((24 : Int32) * x1) + x3))]) [1, 2, 3, 4, 0] rfl ?_
        exact gX11_labelled_b43 X ih a x1 x2 x3 (((24 : Int32) * x1) + x3) μ _ _ _ _ hf (by omega) (by omega)
      · rw [if_neg h7] at hf
        refine wa_aload_n X 1 dX11_labelled_25 rfl ?_
        refine wa_getP X dX11_labelled_26 lfX11_100 rfl h2 rfl ?_
        refine wa_iload X 0 dX11_labelled_29 rfl ?_
        obtain ⟨q8, h9, hf⟩ := jde_some hf
        obtain ⟨h10, hf⟩ := jckT hf
        obtain ⟨h11, hf⟩ := jck_some hf
        refine wa_riald X dX11_labelled_31 h9 h10 h11 ?_
        refine wa_aload_n X 1 dX11_labelled_32 rfl ?_
        refine wa_getI X dX11_labelled_33 lfX11_188 rfl h2 rfl ?_
        refine wa_icne (tgt := 43) X dX11_labelled_36 (by decide) (fun h12 => ?_) (fun h12 => ?_)
        · rw [if_neg h12] at hf
          refine wa_sub (L2 := [(0, va_rf (some a)), (1, .int x1), (2, .int x2), (3, .int x3), (4, .int (((24 : Int32) * x1) + x3))]) [1, 2, 3, 4, 0] rfl ?_
          exact gX11_labelled_b43 X ih a x1 x2 x3 (((24 : Int32) * x1) + x3) μ _ _ _ _ hf (by omega) (by omega)
        · rw [if_pos h12] at hf
          refine wa_iconst (v := (1 : Int32)) X dX11_labelled_39 (by decide) ?_
          refine wa_goto (tgt := 44) X dX11_labelled_40 (by decide) ?_
          refine wa_sub (L2 := [(0, va_rf (some a)), (1, .int x1), (2, .int x2), (3, .int x3), (4, .int (((24 : Int32) * x1) + x3))]) [1, 2, 3, 4, 0] rfl ?_
          exact gX11_labelled_b44 X ih a x1 x2 x3 (((24 : Int32) * x1) + x3) (1 : Int32) μ _ _ _ _ hf (by omega) (by omega)
def fX11_labelled (a : Nat) (x1 : Int32) (x2 : Int32) (μ : JM) : JO (Int32) := fX11_labelled_b2  jfuel a x1 x2 (0 : Int32) μ
set_option maxHeartbeats 4000000 in
set_option maxRecDepth 100000 in
theorem mX11_labelled {b : Nat} {a : Nat} {x1 : Int32} {x2 : Int32} {μ : JM} {r : Int32} {ν : JM} {c m : Nat} (hf : fX11_labelled a x1 x2 μ = some (r, ν, c, m)) : JMet b yX11_labelled cX11_labelled 7 (some .int) 0 0 [va_rf (some a), .int x1, .int x2] μ (some (.int r)) ν c m := by
  refine JMet.of (by decide) (lg_sl_le (by simp only [List.map_cons, List.map_nil, List.sum_cons, List.sum_nil, va_rf_cat]; exact Nat.le_of_ble_eq_true rfl)) (fun Θ X hin => ?_)
  refine wa_eq (L2 := [(0, va_rf (some a)), (1, .int x1), (2, .int x2)]) ?_ rfl (by first | rfl | simp [lv_args, va_rf_cat, cat_i, cat_l]) rfl
  obtain ⟨k, hk0⟩ : ∃ k : Nat, k = 0 := ⟨0, rfl⟩
  obtain ⟨n, hn0⟩ : ∃ n : Nat, n = 0 := ⟨0, rfl⟩
  have hk : k + c = c := by omega
  have hn : n + m = m := by omega
  refine wa_costs hk0.symm hn0.symm ?_
  rw [fX11_labelled] at hf
  refine wa_iconst (v := (0 : Int32)) X dX11_labelled_0 (by decide) ?_
  refine wa_istore_n (L2 := [(3, .int (0 : Int32)), (0, va_rf (some a)), (1, .int x1), (2, .int x2)]) X dX11_labelled_1 (by decide) (by first | rfl | (show (3, _) :: List.filter (fun q : Nat × Value => !(q.1 == 3) && !(q.1 + 1 == 3 && q.2.category == 2)) _ = _; simp [va_rf_cat, cat_i, cat_l])) ?_
  refine wa_sub (L2 := [(0, va_rf (some a)), (1, .int x1), (2, .int x2), (3, .int (0 : Int32))]) [1, 2, 3, 0] rfl ?_
  exact gX11_labelled_b2 X jfuel a x1 x2 (0 : Int32) μ _ _ _ _ hf (by omega) (by omega)
theorem dX11_partyOf_0 : decode cX11_partyOf 0 = .ok (.aload_n 0, 1) := by decide +kernel
theorem dX11_partyOf_1 : decode cX11_partyOf 1 = .ok (.invokevirtual 267, 3) := by decide +kernel
theorem dX11_partyOf_4 : decode cX11_partyOf 4 = .ok (.ifCond .ne 5, 3) := by decide +kernel
theorem dX11_partyOf_7 : decode cX11_partyOf 7 = .ok (.iconst (-1), 1) := by decide +kernel
theorem dX11_partyOf_8 : decode cX11_partyOf 8 = .ok (.ireturn, 1) := by decide +kernel
theorem dX11_partyOf_9 : decode cX11_partyOf 9 = .ok (.aload_n 0, 1) := by decide +kernel
theorem dX11_partyOf_10 : decode cX11_partyOf 10 = .ok (.getfield 280, 3) := by decide +kernel
theorem dX11_partyOf_13 : decode cX11_partyOf 13 = .ok (.ifCond .ne 16, 3) := by decide +kernel
theorem dX11_partyOf_16 : decode cX11_partyOf 16 = .ok (.aload_n 0, 1) := by decide +kernel
theorem dX11_partyOf_17 : decode cX11_partyOf 17 = .ok (.invokevirtual 255, 3) := by decide +kernel
theorem dX11_partyOf_20 : decode cX11_partyOf 20 = .ok (.ifCond .eq 7, 3) := by decide +kernel
theorem dX11_partyOf_23 : decode cX11_partyOf 23 = .ok (.iconst 0, 1) := by decide +kernel
theorem dX11_partyOf_24 : decode cX11_partyOf 24 = .ok (.goto 4, 3) := by decide +kernel
theorem dX11_partyOf_27 : decode cX11_partyOf 27 = .ok (.iconst (-1), 1) := by decide +kernel
theorem dX11_partyOf_28 : decode cX11_partyOf 28 = .ok (.ireturn, 1) := by decide +kernel
theorem dX11_partyOf_29 : decode cX11_partyOf 29 = .ok (.aload_n 0, 1) := by decide +kernel
theorem dX11_partyOf_30 : decode cX11_partyOf 30 = .ok (.aload_n 0, 1) := by decide +kernel
theorem dX11_partyOf_31 : decode cX11_partyOf 31 = .ok (.getfield 24, 3) := by decide +kernel
theorem dX11_partyOf_34 : decode cX11_partyOf 34 = .ok (.aload_n 0, 1) := by decide +kernel
theorem dX11_partyOf_35 : decode cX11_partyOf 35 = .ok (.getfield 27, 3) := by decide +kernel
theorem dX11_partyOf_38 : decode cX11_partyOf 38 = .ok (.aload_n 0, 1) := by decide +kernel
theorem dX11_partyOf_39 : decode cX11_partyOf 39 = .ok (.getfield 299, 3) := by decide +kernel
theorem dX11_partyOf_42 : decode cX11_partyOf 42 = .ok (.invokevirtual 270, 3) := by decide +kernel
theorem dX11_partyOf_45 : decode cX11_partyOf 45 = .ok (.istore_n 1, 1) := by decide +kernel
theorem dX11_partyOf_46 : decode cX11_partyOf 46 = .ok (.iload_n 1, 1) := by decide +kernel
theorem dX11_partyOf_47 : decode cX11_partyOf 47 = .ok (.ifCond .ge 24, 3) := by decide +kernel
theorem dX11_partyOf_50 : decode cX11_partyOf 50 = .ok (.aload_n 0, 1) := by decide +kernel
theorem dX11_partyOf_51 : decode cX11_partyOf 51 = .ok (.getfield 299, 3) := by decide +kernel
theorem dX11_partyOf_54 : decode cX11_partyOf 54 = .ok (.bipush 6, 2) := by decide +kernel
theorem dX11_partyOf_56 : decode cX11_partyOf 56 = .ok (.if_icmp .ne 15, 3) := by decide +kernel
theorem dX11_partyOf_59 : decode cX11_partyOf 59 = .ok (.aload_n 0, 1) := by decide +kernel
theorem dX11_partyOf_60 : decode cX11_partyOf 60 = .ok (.iconst 5, 1) := by decide +kernel
theorem dX11_partyOf_61 : decode cX11_partyOf 61 = .ok (.aload_n 0, 1) := by decide +kernel
theorem dX11_partyOf_62 : decode cX11_partyOf 62 = .ok (.getfield 185, 3) := by decide +kernel
theorem dX11_partyOf_65 : decode cX11_partyOf 65 = .ok (.invokevirtual 201, 3) := by decide +kernel
theorem dX11_partyOf_68 : decode cX11_partyOf 68 = .ok (.istore_n 2, 1) := by decide +kernel
theorem dX11_partyOf_69 : decode cX11_partyOf 69 = .ok (.iconst (-1), 1) := by decide +kernel
theorem dX11_partyOf_70 : decode cX11_partyOf 70 = .ok (.ireturn, 1) := by decide +kernel
theorem dX11_partyOf_71 : decode cX11_partyOf 71 = .ok (.iload_n 1, 1) := by decide +kernel
theorem dX11_partyOf_72 : decode cX11_partyOf 72 = .ok (.ifCond .ge 31, 3) := by decide +kernel
theorem dX11_partyOf_75 : decode cX11_partyOf 75 = .ok (.aload_n 0, 1) := by decide +kernel
theorem dX11_partyOf_76 : decode cX11_partyOf 76 = .ok (.getfield 299, 3) := by decide +kernel
theorem dX11_partyOf_79 : decode cX11_partyOf 79 = .ok (.istore_n 1, 1) := by decide +kernel
theorem dX11_partyOf_80 : decode cX11_partyOf 80 = .ok (.aload_n 0, 1) := by decide +kernel
theorem dX11_partyOf_81 : decode cX11_partyOf 81 = .ok (.aload_n 0, 1) := by decide +kernel
theorem dX11_partyOf_82 : decode cX11_partyOf 82 = .ok (.getfield 24, 3) := by decide +kernel
theorem dX11_partyOf_85 : decode cX11_partyOf 85 = .ok (.aload_n 0, 1) := by decide +kernel
theorem dX11_partyOf_86 : decode cX11_partyOf 86 = .ok (.getfield 27, 3) := by decide +kernel
theorem dX11_partyOf_89 : decode cX11_partyOf 89 = .ok (.iload_n 1, 1) := by decide +kernel
theorem dX11_partyOf_90 : decode cX11_partyOf 90 = .ok (.invokevirtual 274, 3) := by decide +kernel
theorem dX11_partyOf_93 : decode cX11_partyOf 93 = .ok (.aload_n 0, 1) := by decide +kernel
theorem dX11_partyOf_94 : decode cX11_partyOf 94 = .ok (.dup, 1) := by decide +kernel
theorem dX11_partyOf_95 : decode cX11_partyOf 95 = .ok (.getfield 299, 3) := by decide +kernel
theorem dX11_partyOf_98 : decode cX11_partyOf 98 = .ok (.iconst 1, 1) := by decide +kernel
theorem dX11_partyOf_99 : decode cX11_partyOf 99 = .ok (.iadd, 1) := by decide +kernel
theorem dX11_partyOf_100 : decode cX11_partyOf 100 = .ok (.putfield 299, 3) := by decide +kernel
theorem dX11_partyOf_103 : decode cX11_partyOf 103 = .ok (.aload_n 0, 1) := by decide +kernel
theorem dX11_partyOf_104 : decode cX11_partyOf 104 = .ok (.invokevirtual 255, 3) := by decide +kernel
theorem dX11_partyOf_107 : decode cX11_partyOf 107 = .ok (.ifCond .eq 7, 3) := by decide +kernel
theorem dX11_partyOf_110 : decode cX11_partyOf 110 = .ok (.iload_n 1, 1) := by decide +kernel
theorem dX11_partyOf_111 : decode cX11_partyOf 111 = .ok (.goto 4, 3) := by decide +kernel
theorem dX11_partyOf_114 : decode cX11_partyOf 114 = .ok (.iconst (-1), 1) := by decide +kernel
theorem dX11_partyOf_115 : decode cX11_partyOf 115 = .ok (.ireturn, 1) := by decide +kernel
def fX11_partyOf_b103 (a : Nat) (x1 : Int32) (μ : JM) : JO (Int32) := jck ((jT μ a).1 == 12) <| jcl (fX11_takes a μ) fun r61 μ62 => if r61 = 0 then (some ((-1 : Int32), μ62, 0, 0)) else (some (x1, μ62, 0, 0))
set_option maxHeartbeats 4000000 in
set_option maxRecDepth 100000 in
theorem gX11_partyOf_b103 {b : Nat} {Θ : JE} {RC RS : Nat} {r : Int32} {ν : JM} (X : jX b Θ RX11 cX11_partyOf 3 (some .int) 4 85 RC RS) (a : Nat) (x1 : Int32) (μ : JM) (c m k n : Nat) (hf : fX11_partyOf_b103 a x1 μ = some (r, ν, c, m)) (hk : k + c = RC) (hn : n + m = RS) : WA b Θ 3 (jE b Θ (some (.int r)) ν RC RS) μ k n 103 [(0, va_rf (some a)), (1, .int x1)] [] := by
  rw [fX11_partyOf_b103] at hf
  refine wa_aload_n X 0 dX11_partyOf_103 rfl ?_
  obtain ⟨h60, hf⟩ := jckT hf
  obtain ⟨r61, μ62, c63, m64, c65, m66, e67, hf, h68, h69⟩ := jcl_some hf
  refine wa_rcallV (st2 := [.int r61]) X dX11_partyOf_104 lmX11_255 lMX11_takes rfl h60 (mX11_takes e67) rfl rfl rfl (va_cats (Nat.le_of_ble_eq_true rfl)) (by decide) (by omega) (by omega) ?_
  refine wa_ifeq (tgt := 114) X dX11_partyOf_107 (by decide) (fun h70 => ?_) (fun h70 => ?_)
  · rw [if_pos h70] at hf
    refine wa_iconst (v := (-1 : Int32)) X dX11_partyOf_114 (by decide) ?_
    obtain ⟨rfl, rfl, rfl, rfl⟩ := jret hf
    exact wa_iret X dX11_partyOf_115 rfl (by omega) (by omega)
  · rw [if_neg h70] at hf
    refine wa_iload_n X 1 dX11_partyOf_110 rfl ?_
    refine wa_goto (tgt := 115) X dX11_partyOf_111 (by decide) ?_
    obtain ⟨rfl, rfl, rfl, rfl⟩ := jret hf
    exact wa_iret X dX11_partyOf_115 rfl (by omega) (by omega)
def fX11_partyOf_b71 (a : Nat) (x1 : Int32) (μ : JM) : JO (Int32) := if 0 ≤ x1 then (fX11_partyOf_b103  a x1 μ) else (jck ((jT μ a).1 == 12) <| jcl (fX11_name a (jP μ a 6) (jP μ a 7) (jI μ a 5) μ) fun u47 μ48 => jck ((jT μ48 a).1 == 12) <| jlt (jsI μ48 a 5 ((jI μ48 a 5) + (1 : Int32))) fun μ57 => fX11_partyOf_b103  a (jI μ a 5) μ57)
set_option maxHeartbeats 4000000 in
set_option maxRecDepth 100000 in
theorem gX11_partyOf_b71 {b : Nat} {Θ : JE} {RC RS : Nat} {r : Int32} {ν : JM} (X : jX b Θ RX11 cX11_partyOf 3 (some .int) 4 85 RC RS) (a : Nat) (x1 : Int32) (μ : JM) (c m k n : Nat) (hf : fX11_partyOf_b71 a x1 μ = some (r, ν, c, m)) (hk : k + c = RC) (hn : n + m = RS) : WA b Θ 3 (jE b Θ (some (.int r)) ν RC RS) μ k n 71 [(0, va_rf (some a)), (1, .int x1)] [] := by
  rw [fX11_partyOf_b71] at hf
  refine wa_iload_n X 1 dX11_partyOf_71 rfl ?_
  refine wa_ifge (tgt := 103) X dX11_partyOf_72 (by decide) (fun h45 => ?_) (fun h45 => ?_)
  · rw [if_pos h45] at hf
    refine wa_sub (L2 := [(0, va_rf (some a)), (1, .int x1)]) [0, 1] rfl ?_
    exact gX11_partyOf_b103 X a x1 μ _ _ _ _ hf (by omega) (by omega)
  · rw [if_neg h45] at hf
    refine wa_aload_n X 0 dX11_partyOf_75 rfl ?_
    obtain ⟨h46, hf⟩ := jckT hf
    refine wa_getI X dX11_partyOf_76 lfX11_299 rfl h46 rfl ?_
    refine wa_istore_n (L2 := [(1, .int (jI μ a 5)), (0, va_rf (some a))]) X dX11_partyOf_79 (by decide) (by first | rfl | (show (1, _) :: List.filter (fun q : Nat × Value => !(q.1 == 1) && !(q.1 + 1 == 1 && q.2.category == 2)) _ = _; simp [va_rf_cat, cat_i, cat_l])) ?_
    refine wa_aload_n X 1 dX11_partyOf_80 rfl ?_
    refine wa_aload_n X 1 dX11_partyOf_81 rfl ?_
    refine wa_getP X dX11_partyOf_82 lfX11_24 rfl h46 rfl ?_
    refine wa_aload_n X 1 dX11_partyOf_85 rfl ?_
    refine wa_getP X dX11_partyOf_86 lfX11_27 rfl h46 rfl ?_
    refine wa_iload_n X 0 dX11_partyOf_89 rfl ?_
    obtain ⟨u47, μ48, c49, m50, c51, m52, e53, hf, h54, h55⟩ := jcl_some hf
    refine wa_rcallV (st2 := []) X dX11_partyOf_90 lmX11_274 lMX11_name rfl h46 (mX11_name e53) rfl rfl rfl (va_cats (Nat.le_of_ble_eq_true rfl)) (by decide) (by omega) (by omega) ?_
    refine wa_aload_n X 1 dX11_partyOf_93 rfl ?_
    refine wa_dup X dX11_partyOf_94 (va_rf_cat _) ?_
    obtain ⟨h56, hf⟩ := jckT hf
    refine wa_getI X dX11_partyOf_95 lfX11_299 rfl h56 rfl ?_
    refine wa_iconst (v := (1 : Int32)) X dX11_partyOf_98 (by decide) ?_
    refine wa_iadd X dX11_partyOf_99 ?_
    obtain ⟨μ57, hm58, hf⟩ := jlt_e hf
    have e59 : jT μ57 = jT μ48 := by rw [hm58]; rfl
    refine wa_rputI (ν := μ57) X dX11_partyOf_100 lfX11_299 rfl h56 rfl rfl hm58 ?_
    refine wa_sub (L2 := [(0, va_rf (some a)), (1, .int (jI μ a 5))]) [1, 0] rfl ?_
    exact gX11_partyOf_b103 X a (jI μ a 5) μ57 _ _ _ _ hf (by omega) (by omega)
def fX11_partyOf (a : Nat) (μ : JM) : JO (Int32) := jck ((jT μ a).1 == 12) <| jcl (fX11_isName a μ) fun r2 μ3 => if r2 = 0 then (some ((-1 : Int32), μ3, 0, 0)) else (jck ((jT μ3 a).1 == 12) <| if (jI μ3 a 33) = 0 then (jcl (fX11_takes a μ3) fun r35 μ36 => if r35 = 0 then (some ((-1 : Int32), μ36, 0, 0)) else (some ((0 : Int32), μ36, 0, 0))) else (jcl (fX11_find a (jP μ3 a 6) (jP μ3 a 7) (jI μ3 a 5) μ3) fun r14 μ15 => if 0 ≤ r14 then (fX11_partyOf_b71  a r14 μ15) else (jck ((jT μ15 a).1 == 12) <| if (jI μ15 a 5) = (6 : Int32) then (jcl (fX11_fails a (5 : Int32) (jI μ15 a 15) μ15) fun r26 μ27 => some ((-1 : Int32), μ27, 0, 0)) else (fX11_partyOf_b71  a r14 μ15))))
set_option maxHeartbeats 4000000 in
set_option maxRecDepth 100000 in
theorem mX11_partyOf {b : Nat} {a : Nat} {μ : JM} {r : Int32} {ν : JM} {c m : Nat} (hf : fX11_partyOf a μ = some (r, ν, c, m)) : JMet b yX11_partyOf cX11_partyOf 3 (some .int) 4 85 [va_rf (some a)] μ (some (.int r)) ν c m := by
  refine JMet.of (by decide) (lg_sl_le (by simp only [List.map_cons, List.map_nil, List.sum_cons, List.sum_nil, va_rf_cat]; exact Nat.le_of_ble_eq_true rfl)) (fun Θ X hin => ?_)
  refine wa_eq (L2 := [(0, va_rf (some a))]) ?_ rfl (by first | rfl | simp [lv_args, va_rf_cat, cat_i, cat_l]) rfl
  obtain ⟨k, hk0⟩ : ∃ k : Nat, k = 0 := ⟨0, rfl⟩
  obtain ⟨n, hn0⟩ : ∃ n : Nat, n = 0 := ⟨0, rfl⟩
  have hk : k + c = c := by omega
  have hn : n + m = m := by omega
  refine wa_costs hk0.symm hn0.symm ?_
  rw [fX11_partyOf] at hf
  refine wa_aload_n X 0 dX11_partyOf_0 rfl ?_
  obtain ⟨h1, hf⟩ := jckT hf
  obtain ⟨r2, μ3, c4, m5, c6, m7, e8, hf, h9, h10⟩ := jcl_some hf
  refine wa_rcallV (st2 := [.int r2]) X dX11_partyOf_1 lmX11_267 lMX11_isName rfl h1 (mX11_isName e8) rfl rfl rfl (va_cats (Nat.le_of_ble_eq_true rfl)) (by decide) (by omega) (by omega) ?_
  refine wa_ifne (tgt := 9) X dX11_partyOf_4 (by decide) (fun h11 => ?_) (fun h11 => ?_)
  · rw [if_neg h11] at hf
    refine wa_aload_n X 0 dX11_partyOf_9 rfl ?_
    obtain ⟨h12, hf⟩ := jckT hf
    refine wa_getI X dX11_partyOf_10 lfX11_280 rfl h12 rfl ?_
    refine wa_ifne (tgt := 29) X dX11_partyOf_13 (by decide) (fun h13 => ?_) (fun h13 => ?_)
    · rw [if_neg h13] at hf
      refine wa_aload_n X 0 dX11_partyOf_29 rfl ?_
      refine wa_aload_n X 0 dX11_partyOf_30 rfl ?_
      refine wa_getP X dX11_partyOf_31 lfX11_24 rfl h12 rfl ?_
      refine wa_aload_n X 0 dX11_partyOf_34 rfl ?_
      refine wa_getP X dX11_partyOf_35 lfX11_27 rfl h12 rfl ?_
      refine wa_aload_n X 0 dX11_partyOf_38 rfl ?_
      refine wa_getI X dX11_partyOf_39 lfX11_299 rfl h12 rfl ?_
      obtain ⟨r14, μ15, c16, m17, c18, m19, e20, hf, h21, h22⟩ := jcl_some hf
      refine wa_rcallV (st2 := [.int r14]) X dX11_partyOf_42 lmX11_270 lMX11_find rfl h12 (mX11_find e20) rfl rfl rfl (va_cats (Nat.le_of_ble_eq_true rfl)) (by decide) (by omega) (by omega) ?_
      refine wa_istore_n (L2 := [(1, .int r14), (0, va_rf (some a))]) X dX11_partyOf_45 (by decide) (by first | rfl | (show (1, _) :: List.filter (fun q : Nat × Value => !(q.1 == 1) && !(q.1 + 1 == 1 && q.2.category == 2)) _ = _; simp [va_rf_cat, cat_i, cat_l])) ?_
      refine wa_iload_n X 0 dX11_partyOf_46 rfl ?_
      refine wa_ifge (tgt := 71) X dX11_partyOf_47 (by decide) (fun h23 => ?_) (fun h23 => ?_)
      · rw [if_pos h23] at hf
        refine wa_sub (L2 := [(0, va_rf (some a)), (1, .int r14)]) [1, 0] rfl ?_
        exact gX11_partyOf_b71 X a r14 μ15 _ _ _ _ hf (by omega) (by omega)
      · rw [if_neg h23] at hf
        refine wa_aload_n X 1 dX11_partyOf_50 rfl ?_
        obtain ⟨h24, hf⟩ := jckT hf
        refine wa_getI X dX11_partyOf_51 lfX11_299 rfl h24 rfl ?_
        refine wa_bipush (v := (6 : Int32)) X dX11_partyOf_54 (by decide) ?_
        refine wa_icne (tgt := 71) X dX11_partyOf_56 (by decide) (fun h25 => ?_) (fun h25 => ?_)
        · rw [if_neg h25] at hf
          refine wa_sub (L2 := [(0, va_rf (some a)), (1, .int r14)]) [1, 0] rfl ?_
          exact gX11_partyOf_b71 X a r14 μ15 _ _ _ _ hf (by omega) (by omega)
        · rw [if_pos h25] at hf
          refine wa_aload_n X 1 dX11_partyOf_59 rfl ?_
          refine wa_iconst (v := (5 : Int32)) X dX11_partyOf_60 (by decide) ?_
          refine wa_aload_n X 1 dX11_partyOf_61 rfl ?_
          refine wa_getI X dX11_partyOf_62 lfX11_185 rfl h24 rfl ?_
          obtain ⟨r26, μ27, c28, m29, c30, m31, e32, hf, h33, h34⟩ := jcl_some hf
          refine wa_rcallV (st2 := [.int r26]) X dX11_partyOf_65 lmX11_201 lMX11_fails rfl h24 (mX11_fails e32) rfl rfl rfl (va_cats (Nat.le_of_ble_eq_true rfl)) (by decide) (by omega) (by omega) ?_
          refine wa_istore_n (L2 := [(2, .int r26), (1, .int r14), (0, va_rf (some a))]) X dX11_partyOf_68 (by decide) (by first | rfl | (show (2, _) :: List.filter (fun q : Nat × Value => !(q.1 == 2) && !(q.1 + 1 == 2 && q.2.category == 2)) _ = _; simp [va_rf_cat, cat_i, cat_l])) ?_
          refine wa_iconst (v := (-1 : Int32)) X dX11_partyOf_69 (by decide) ?_
          obtain ⟨rfl, rfl, rfl, rfl⟩ := jret hf
          exact wa_iret X dX11_partyOf_70 rfl (by omega) (by omega)
    · rw [if_pos h13] at hf
      refine wa_aload_n X 0 dX11_partyOf_16 rfl ?_
      obtain ⟨r35, μ36, c37, m38, c39, m40, e41, hf, h42, h43⟩ := jcl_some hf
      refine wa_rcallV (st2 := [.int r35]) X dX11_partyOf_17 lmX11_255 lMX11_takes rfl h12 (mX11_takes e41) rfl rfl rfl (va_cats (Nat.le_of_ble_eq_true rfl)) (by decide) (by omega) (by omega) ?_
      refine wa_ifeq (tgt := 27) X dX11_partyOf_20 (by decide) (fun h44 => ?_) (fun h44 => ?_)
      · rw [if_pos h44] at hf
        refine wa_iconst (v := (-1 : Int32)) X dX11_partyOf_27 (by decide) ?_
        obtain ⟨rfl, rfl, rfl, rfl⟩ := jret hf
        exact wa_iret X dX11_partyOf_28 rfl (by omega) (by omega)
      · rw [if_neg h44] at hf
        refine wa_iconst (v := (0 : Int32)) X dX11_partyOf_23 (by decide) ?_
        refine wa_goto (tgt := 28) X dX11_partyOf_24 (by decide) ?_
        obtain ⟨rfl, rfl, rfl, rfl⟩ := jret hf
        exact wa_iret X dX11_partyOf_28 rfl (by omega) (by omega)
  · rw [if_pos h11] at hf
    refine wa_iconst (v := (-1 : Int32)) X dX11_partyOf_7 (by decide) ?_
    obtain ⟨rfl, rfl, rfl, rfl⟩ := jret hf
    exact wa_iret X dX11_partyOf_8 rfl (by omega) (by omega)
theorem dX11_actOf_0 : decode cX11_actOf 0 = .ok (.aload_n 0, 1) := by decide +kernel
theorem dX11_actOf_1 : decode cX11_actOf 1 = .ok (.invokevirtual 267, 3) := by decide +kernel
theorem dX11_actOf_4 : decode cX11_actOf 4 = .ok (.ifCond .ne 5, 3) := by decide +kernel
theorem dX11_actOf_7 : decode cX11_actOf 7 = .ok (.iconst (-1), 1) := by decide +kernel
theorem dX11_actOf_8 : decode cX11_actOf 8 = .ok (.ireturn, 1) := by decide +kernel
theorem dX11_actOf_9 : decode cX11_actOf 9 = .ok (.aload_n 0, 1) := by decide +kernel
theorem dX11_actOf_10 : decode cX11_actOf 10 = .ok (.getfield 280, 3) := by decide +kernel
theorem dX11_actOf_13 : decode cX11_actOf 13 = .ok (.ifCond .ne 16, 3) := by decide +kernel
theorem dX11_actOf_16 : decode cX11_actOf 16 = .ok (.aload_n 0, 1) := by decide +kernel
theorem dX11_actOf_17 : decode cX11_actOf 17 = .ok (.invokevirtual 255, 3) := by decide +kernel
theorem dX11_actOf_20 : decode cX11_actOf 20 = .ok (.ifCond .eq 7, 3) := by decide +kernel
theorem dX11_actOf_23 : decode cX11_actOf 23 = .ok (.iconst 0, 1) := by decide +kernel
theorem dX11_actOf_24 : decode cX11_actOf 24 = .ok (.goto 4, 3) := by decide +kernel
theorem dX11_actOf_27 : decode cX11_actOf 27 = .ok (.iconst (-1), 1) := by decide +kernel
theorem dX11_actOf_28 : decode cX11_actOf 28 = .ok (.ireturn, 1) := by decide +kernel
theorem dX11_actOf_29 : decode cX11_actOf 29 = .ok (.aload_n 0, 1) := by decide +kernel
theorem dX11_actOf_30 : decode cX11_actOf 30 = .ok (.aload_n 0, 1) := by decide +kernel
theorem dX11_actOf_31 : decode cX11_actOf 31 = .ok (.getfield 30, 3) := by decide +kernel
theorem dX11_actOf_34 : decode cX11_actOf 34 = .ok (.aload_n 0, 1) := by decide +kernel
theorem dX11_actOf_35 : decode cX11_actOf 35 = .ok (.getfield 33, 3) := by decide +kernel
theorem dX11_actOf_38 : decode cX11_actOf 38 = .ok (.aload_n 0, 1) := by decide +kernel
theorem dX11_actOf_39 : decode cX11_actOf 39 = .ok (.getfield 302, 3) := by decide +kernel
theorem dX11_actOf_42 : decode cX11_actOf 42 = .ok (.invokevirtual 270, 3) := by decide +kernel
theorem dX11_actOf_45 : decode cX11_actOf 45 = .ok (.istore_n 1, 1) := by decide +kernel
theorem dX11_actOf_46 : decode cX11_actOf 46 = .ok (.iload_n 1, 1) := by decide +kernel
theorem dX11_actOf_47 : decode cX11_actOf 47 = .ok (.ifCond .ge 24, 3) := by decide +kernel
theorem dX11_actOf_50 : decode cX11_actOf 50 = .ok (.aload_n 0, 1) := by decide +kernel
theorem dX11_actOf_51 : decode cX11_actOf 51 = .ok (.getfield 302, 3) := by decide +kernel
theorem dX11_actOf_54 : decode cX11_actOf 54 = .ok (.bipush 12, 2) := by decide +kernel
theorem dX11_actOf_56 : decode cX11_actOf 56 = .ok (.if_icmp .ne 15, 3) := by decide +kernel
theorem dX11_actOf_59 : decode cX11_actOf 59 = .ok (.aload_n 0, 1) := by decide +kernel
theorem dX11_actOf_60 : decode cX11_actOf 60 = .ok (.iconst 5, 1) := by decide +kernel
theorem dX11_actOf_61 : decode cX11_actOf 61 = .ok (.aload_n 0, 1) := by decide +kernel
theorem dX11_actOf_62 : decode cX11_actOf 62 = .ok (.getfield 185, 3) := by decide +kernel
theorem dX11_actOf_65 : decode cX11_actOf 65 = .ok (.invokevirtual 201, 3) := by decide +kernel
theorem dX11_actOf_68 : decode cX11_actOf 68 = .ok (.istore_n 2, 1) := by decide +kernel
theorem dX11_actOf_69 : decode cX11_actOf 69 = .ok (.iconst (-1), 1) := by decide +kernel
theorem dX11_actOf_70 : decode cX11_actOf 70 = .ok (.ireturn, 1) := by decide +kernel
theorem dX11_actOf_71 : decode cX11_actOf 71 = .ok (.iload_n 1, 1) := by decide +kernel
theorem dX11_actOf_72 : decode cX11_actOf 72 = .ok (.ifCond .ge 31, 3) := by decide +kernel
theorem dX11_actOf_75 : decode cX11_actOf 75 = .ok (.aload_n 0, 1) := by decide +kernel
theorem dX11_actOf_76 : decode cX11_actOf 76 = .ok (.getfield 302, 3) := by decide +kernel
theorem dX11_actOf_79 : decode cX11_actOf 79 = .ok (.istore_n 1, 1) := by decide +kernel
theorem dX11_actOf_80 : decode cX11_actOf 80 = .ok (.aload_n 0, 1) := by decide +kernel
theorem dX11_actOf_81 : decode cX11_actOf 81 = .ok (.aload_n 0, 1) := by decide +kernel
theorem dX11_actOf_82 : decode cX11_actOf 82 = .ok (.getfield 30, 3) := by decide +kernel
theorem dX11_actOf_85 : decode cX11_actOf 85 = .ok (.aload_n 0, 1) := by decide +kernel
theorem dX11_actOf_86 : decode cX11_actOf 86 = .ok (.getfield 33, 3) := by decide +kernel
theorem dX11_actOf_89 : decode cX11_actOf 89 = .ok (.iload_n 1, 1) := by decide +kernel
theorem dX11_actOf_90 : decode cX11_actOf 90 = .ok (.invokevirtual 274, 3) := by decide +kernel
theorem dX11_actOf_93 : decode cX11_actOf 93 = .ok (.aload_n 0, 1) := by decide +kernel
theorem dX11_actOf_94 : decode cX11_actOf 94 = .ok (.dup, 1) := by decide +kernel
theorem dX11_actOf_95 : decode cX11_actOf 95 = .ok (.getfield 302, 3) := by decide +kernel
theorem dX11_actOf_98 : decode cX11_actOf 98 = .ok (.iconst 1, 1) := by decide +kernel
theorem dX11_actOf_99 : decode cX11_actOf 99 = .ok (.iadd, 1) := by decide +kernel
theorem dX11_actOf_100 : decode cX11_actOf 100 = .ok (.putfield 302, 3) := by decide +kernel
theorem dX11_actOf_103 : decode cX11_actOf 103 = .ok (.aload_n 0, 1) := by decide +kernel
theorem dX11_actOf_104 : decode cX11_actOf 104 = .ok (.invokevirtual 255, 3) := by decide +kernel
theorem dX11_actOf_107 : decode cX11_actOf 107 = .ok (.ifCond .eq 7, 3) := by decide +kernel
theorem dX11_actOf_110 : decode cX11_actOf 110 = .ok (.iload_n 1, 1) := by decide +kernel
theorem dX11_actOf_111 : decode cX11_actOf 111 = .ok (.goto 4, 3) := by decide +kernel
theorem dX11_actOf_114 : decode cX11_actOf 114 = .ok (.iconst (-1), 1) := by decide +kernel
theorem dX11_actOf_115 : decode cX11_actOf 115 = .ok (.ireturn, 1) := by decide +kernel
def fX11_actOf_b103 (a : Nat) (x1 : Int32) (μ : JM) : JO (Int32) := jck ((jT μ a).1 == 12) <| jcl (fX11_takes a μ) fun r61 μ62 => if r61 = 0 then (some ((-1 : Int32), μ62, 0, 0)) else (some (x1, μ62, 0, 0))
set_option maxHeartbeats 4000000 in
set_option maxRecDepth 100000 in
theorem gX11_actOf_b103 {b : Nat} {Θ : JE} {RC RS : Nat} {r : Int32} {ν : JM} (X : jX b Θ RX11 cX11_actOf 3 (some .int) 4 85 RC RS) (a : Nat) (x1 : Int32) (μ : JM) (c m k n : Nat) (hf : fX11_actOf_b103 a x1 μ = some (r, ν, c, m)) (hk : k + c = RC) (hn : n + m = RS) : WA b Θ 3 (jE b Θ (some (.int r)) ν RC RS) μ k n 103 [(0, va_rf (some a)), (1, .int x1)] [] := by
  rw [fX11_actOf_b103] at hf
  refine wa_aload_n X 0 dX11_actOf_103 rfl ?_
  obtain ⟨h60, hf⟩ := jckT hf
  obtain ⟨r61, μ62, c63, m64, c65, m66, e67, hf, h68, h69⟩ := jcl_some hf
  refine wa_rcallV (st2 := [.int r61]) X dX11_actOf_104 lmX11_255 lMX11_takes rfl h60 (mX11_takes e67) rfl rfl rfl (va_cats (Nat.le_of_ble_eq_true rfl)) (by decide) (by omega) (by omega) ?_
  refine wa_ifeq (tgt := 114) X dX11_actOf_107 (by decide) (fun h70 => ?_) (fun h70 => ?_)
  · rw [if_pos h70] at hf
    refine wa_iconst (v := (-1 : Int32)) X dX11_actOf_114 (by decide) ?_
    obtain ⟨rfl, rfl, rfl, rfl⟩ := jret hf
    exact wa_iret X dX11_actOf_115 rfl (by omega) (by omega)
  · rw [if_neg h70] at hf
    refine wa_iload_n X 1 dX11_actOf_110 rfl ?_
    refine wa_goto (tgt := 115) X dX11_actOf_111 (by decide) ?_
    obtain ⟨rfl, rfl, rfl, rfl⟩ := jret hf
    exact wa_iret X dX11_actOf_115 rfl (by omega) (by omega)
def fX11_actOf_b71 (a : Nat) (x1 : Int32) (μ : JM) : JO (Int32) := if 0 ≤ x1 then (fX11_actOf_b103  a x1 μ) else (jck ((jT μ a).1 == 12) <| jcl (fX11_name a (jP μ a 9) (jP μ a 10) (jI μ a 8) μ) fun u47 μ48 => jck ((jT μ48 a).1 == 12) <| jlt (jsI μ48 a 8 ((jI μ48 a 8) + (1 : Int32))) fun μ57 => fX11_actOf_b103  a (jI μ a 8) μ57)
set_option maxHeartbeats 4000000 in
set_option maxRecDepth 100000 in
theorem gX11_actOf_b71 {b : Nat} {Θ : JE} {RC RS : Nat} {r : Int32} {ν : JM} (X : jX b Θ RX11 cX11_actOf 3 (some .int) 4 85 RC RS) (a : Nat) (x1 : Int32) (μ : JM) (c m k n : Nat) (hf : fX11_actOf_b71 a x1 μ = some (r, ν, c, m)) (hk : k + c = RC) (hn : n + m = RS) : WA b Θ 3 (jE b Θ (some (.int r)) ν RC RS) μ k n 71 [(0, va_rf (some a)), (1, .int x1)] [] := by
  rw [fX11_actOf_b71] at hf
  refine wa_iload_n X 1 dX11_actOf_71 rfl ?_
  refine wa_ifge (tgt := 103) X dX11_actOf_72 (by decide) (fun h45 => ?_) (fun h45 => ?_)
  · rw [if_pos h45] at hf
    refine wa_sub (L2 := [(0, va_rf (some a)), (1, .int x1)]) [0, 1] rfl ?_
    exact gX11_actOf_b103 X a x1 μ _ _ _ _ hf (by omega) (by omega)
  · rw [if_neg h45] at hf
    refine wa_aload_n X 0 dX11_actOf_75 rfl ?_
    obtain ⟨h46, hf⟩ := jckT hf
    refine wa_getI X dX11_actOf_76 lfX11_302 rfl h46 rfl ?_
    refine wa_istore_n (L2 := [(1, .int (jI μ a 8)), (0, va_rf (some a))]) X dX11_actOf_79 (by decide) (by first | rfl | (show (1, _) :: List.filter (fun q : Nat × Value => !(q.1 == 1) && !(q.1 + 1 == 1 && q.2.category == 2)) _ = _; simp [va_rf_cat, cat_i, cat_l])) ?_
    refine wa_aload_n X 1 dX11_actOf_80 rfl ?_
    refine wa_aload_n X 1 dX11_actOf_81 rfl ?_
    refine wa_getP X dX11_actOf_82 lfX11_30 rfl h46 rfl ?_
    refine wa_aload_n X 1 dX11_actOf_85 rfl ?_
    refine wa_getP X dX11_actOf_86 lfX11_33 rfl h46 rfl ?_
    refine wa_iload_n X 0 dX11_actOf_89 rfl ?_
    obtain ⟨u47, μ48, c49, m50, c51, m52, e53, hf, h54, h55⟩ := jcl_some hf
    refine wa_rcallV (st2 := []) X dX11_actOf_90 lmX11_274 lMX11_name rfl h46 (mX11_name e53) rfl rfl rfl (va_cats (Nat.le_of_ble_eq_true rfl)) (by decide) (by omega) (by omega) ?_
    refine wa_aload_n X 1 dX11_actOf_93 rfl ?_
    refine wa_dup X dX11_actOf_94 (va_rf_cat _) ?_
    obtain ⟨h56, hf⟩ := jckT hf
    refine wa_getI X dX11_actOf_95 lfX11_302 rfl h56 rfl ?_
    refine wa_iconst (v := (1 : Int32)) X dX11_actOf_98 (by decide) ?_
    refine wa_iadd X dX11_actOf_99 ?_
    obtain ⟨μ57, hm58, hf⟩ := jlt_e hf
    have e59 : jT μ57 = jT μ48 := by rw [hm58]; rfl
    refine wa_rputI (ν := μ57) X dX11_actOf_100 lfX11_302 rfl h56 rfl rfl hm58 ?_
    refine wa_sub (L2 := [(0, va_rf (some a)), (1, .int (jI μ a 8))]) [1, 0] rfl ?_
    exact gX11_actOf_b103 X a (jI μ a 8) μ57 _ _ _ _ hf (by omega) (by omega)
def fX11_actOf (a : Nat) (μ : JM) : JO (Int32) := jck ((jT μ a).1 == 12) <| jcl (fX11_isName a μ) fun r2 μ3 => if r2 = 0 then (some ((-1 : Int32), μ3, 0, 0)) else (jck ((jT μ3 a).1 == 12) <| if (jI μ3 a 33) = 0 then (jcl (fX11_takes a μ3) fun r35 μ36 => if r35 = 0 then (some ((-1 : Int32), μ36, 0, 0)) else (some ((0 : Int32), μ36, 0, 0))) else (jcl (fX11_find a (jP μ3 a 9) (jP μ3 a 10) (jI μ3 a 8) μ3) fun r14 μ15 => if 0 ≤ r14 then (fX11_actOf_b71  a r14 μ15) else (jck ((jT μ15 a).1 == 12) <| if (jI μ15 a 8) = (12 : Int32) then (jcl (fX11_fails a (5 : Int32) (jI μ15 a 15) μ15) fun r26 μ27 => some ((-1 : Int32), μ27, 0, 0)) else (fX11_actOf_b71  a r14 μ15))))
set_option maxHeartbeats 4000000 in
set_option maxRecDepth 100000 in
theorem mX11_actOf {b : Nat} {a : Nat} {μ : JM} {r : Int32} {ν : JM} {c m : Nat} (hf : fX11_actOf a μ = some (r, ν, c, m)) : JMet b yX11_actOf cX11_actOf 3 (some .int) 4 85 [va_rf (some a)] μ (some (.int r)) ν c m := by
  refine JMet.of (by decide) (lg_sl_le (by simp only [List.map_cons, List.map_nil, List.sum_cons, List.sum_nil, va_rf_cat]; exact Nat.le_of_ble_eq_true rfl)) (fun Θ X hin => ?_)
  refine wa_eq (L2 := [(0, va_rf (some a))]) ?_ rfl (by first | rfl | simp [lv_args, va_rf_cat, cat_i, cat_l]) rfl
  obtain ⟨k, hk0⟩ : ∃ k : Nat, k = 0 := ⟨0, rfl⟩
  obtain ⟨n, hn0⟩ : ∃ n : Nat, n = 0 := ⟨0, rfl⟩
  have hk : k + c = c := by omega
  have hn : n + m = m := by omega
  refine wa_costs hk0.symm hn0.symm ?_
  rw [fX11_actOf] at hf
  refine wa_aload_n X 0 dX11_actOf_0 rfl ?_
  obtain ⟨h1, hf⟩ := jckT hf
  obtain ⟨r2, μ3, c4, m5, c6, m7, e8, hf, h9, h10⟩ := jcl_some hf
  refine wa_rcallV (st2 := [.int r2]) X dX11_actOf_1 lmX11_267 lMX11_isName rfl h1 (mX11_isName e8) rfl rfl rfl (va_cats (Nat.le_of_ble_eq_true rfl)) (by decide) (by omega) (by omega) ?_
  refine wa_ifne (tgt := 9) X dX11_actOf_4 (by decide) (fun h11 => ?_) (fun h11 => ?_)
  · rw [if_neg h11] at hf
    refine wa_aload_n X 0 dX11_actOf_9 rfl ?_
    obtain ⟨h12, hf⟩ := jckT hf
    refine wa_getI X dX11_actOf_10 lfX11_280 rfl h12 rfl ?_
    refine wa_ifne (tgt := 29) X dX11_actOf_13 (by decide) (fun h13 => ?_) (fun h13 => ?_)
    · rw [if_neg h13] at hf
      refine wa_aload_n X 0 dX11_actOf_29 rfl ?_
      refine wa_aload_n X 0 dX11_actOf_30 rfl ?_
      refine wa_getP X dX11_actOf_31 lfX11_30 rfl h12 rfl ?_
      refine wa_aload_n X 0 dX11_actOf_34 rfl ?_
      refine wa_getP X dX11_actOf_35 lfX11_33 rfl h12 rfl ?_
      refine wa_aload_n X 0 dX11_actOf_38 rfl ?_
      refine wa_getI X dX11_actOf_39 lfX11_302 rfl h12 rfl ?_
      obtain ⟨r14, μ15, c16, m17, c18, m19, e20, hf, h21, h22⟩ := jcl_some hf
      refine wa_rcallV (st2 := [.int r14]) X dX11_actOf_42 lmX11_270 lMX11_find rfl h12 (mX11_find e20) rfl rfl rfl (va_cats (Nat.le_of_ble_eq_true rfl)) (by decide) (by omega) (by omega) ?_
      refine wa_istore_n (L2 := [(1, .int r14), (0, va_rf (some a))]) X dX11_actOf_45 (by decide) (by first | rfl | (show (1, _) :: List.filter (fun q : Nat × Value => !(q.1 == 1) && !(q.1 + 1 == 1 && q.2.category == 2)) _ = _; simp [va_rf_cat, cat_i, cat_l])) ?_
      refine wa_iload_n X 0 dX11_actOf_46 rfl ?_
      refine wa_ifge (tgt := 71) X dX11_actOf_47 (by decide) (fun h23 => ?_) (fun h23 => ?_)
      · rw [if_pos h23] at hf
        refine wa_sub (L2 := [(0, va_rf (some a)), (1, .int r14)]) [1, 0] rfl ?_
        exact gX11_actOf_b71 X a r14 μ15 _ _ _ _ hf (by omega) (by omega)
      · rw [if_neg h23] at hf
        refine wa_aload_n X 1 dX11_actOf_50 rfl ?_
        obtain ⟨h24, hf⟩ := jckT hf
        refine wa_getI X dX11_actOf_51 lfX11_302 rfl h24 rfl ?_
        refine wa_bipush (v := (12 : Int32)) X dX11_actOf_54 (by decide) ?_
        refine wa_icne (tgt := 71) X dX11_actOf_56 (by decide) (fun h25 => ?_) (fun h25 => ?_)
        · rw [if_neg h25] at hf
          refine wa_sub (L2 := [(0, va_rf (some a)), (1, .int r14)]) [1, 0] rfl ?_
          exact gX11_actOf_b71 X a r14 μ15 _ _ _ _ hf (by omega) (by omega)
        · rw [if_pos h25] at hf
          refine wa_aload_n X 1 dX11_actOf_59 rfl ?_
          refine wa_iconst (v := (5 : Int32)) X dX11_actOf_60 (by decide) ?_
          refine wa_aload_n X 1 dX11_actOf_61 rfl ?_
          refine wa_getI X dX11_actOf_62 lfX11_185 rfl h24 rfl ?_
          obtain ⟨r26, μ27, c28, m29, c30, m31, e32, hf, h33, h34⟩ := jcl_some hf
          refine wa_rcallV (st2 := [.int r26]) X dX11_actOf_65 lmX11_201 lMX11_fails rfl h24 (mX11_fails e32) rfl rfl rfl (va_cats (Nat.le_of_ble_eq_true rfl)) (by decide) (by omega) (by omega) ?_
          refine wa_istore_n (L2 := [(2, .int r26), (1, .int r14), (0, va_rf (some a))]) X dX11_actOf_68 (by decide) (by first | rfl | (show (2, _) :: List.filter (fun q : Nat × Value => !(q.1 == 2) && !(q.1 + 1 == 2 && q.2.category == 2)) _ = _; simp [va_rf_cat, cat_i, cat_l])) ?_
          refine wa_iconst (v := (-1 : Int32)) X dX11_actOf_69 (by decide) ?_
          obtain ⟨rfl, rfl, rfl, rfl⟩ := jret hf
          exact wa_iret X dX11_actOf_70 rfl (by omega) (by omega)
    · rw [if_pos h13] at hf
      refine wa_aload_n X 0 dX11_actOf_16 rfl ?_
      obtain ⟨r35, μ36, c37, m38, c39, m40, e41, hf, h42, h43⟩ := jcl_some hf
      refine wa_rcallV (st2 := [.int r35]) X dX11_actOf_17 lmX11_255 lMX11_takes rfl h12 (mX11_takes e41) rfl rfl rfl (va_cats (Nat.le_of_ble_eq_true rfl)) (by decide) (by omega) (by omega) ?_
      refine wa_ifeq (tgt := 27) X dX11_actOf_20 (by decide) (fun h44 => ?_) (fun h44 => ?_)
      · rw [if_pos h44] at hf
        refine wa_iconst (v := (-1 : Int32)) X dX11_actOf_27 (by decide) ?_
        obtain ⟨rfl, rfl, rfl, rfl⟩ := jret hf
        exact wa_iret X dX11_actOf_28 rfl (by omega) (by omega)
      · rw [if_neg h44] at hf
        refine wa_iconst (v := (0 : Int32)) X dX11_actOf_23 (by decide) ?_
        refine wa_goto (tgt := 28) X dX11_actOf_24 (by decide) ?_
        obtain ⟨rfl, rfl, rfl, rfl⟩ := jret hf
        exact wa_iret X dX11_actOf_28 rfl (by omega) (by omega)
  · rw [if_pos h11] at hf
    refine wa_iconst (v := (-1 : Int32)) X dX11_actOf_7 (by decide) ?_
    obtain ⟨rfl, rfl, rfl, rfl⟩ := jret hf
    exact wa_iret X dX11_actOf_8 rfl (by omega) (by omega)
theorem dX11_placed_0 : decode cX11_placed 0 = .ok (.iconst 0, 1) := by decide +kernel
theorem dX11_placed_1 : decode cX11_placed 1 = .ok (.istore_n 2, 1) := by decide +kernel
theorem dX11_placed_2 : decode cX11_placed 2 = .ok (.iload_n 2, 1) := by decide +kernel
theorem dX11_placed_3 : decode cX11_placed 3 = .ok (.aload_n 0, 1) := by decide +kernel
theorem dX11_placed_4 : decode cX11_placed 4 = .ok (.getfield 373, 3) := by decide +kernel
theorem dX11_placed_7 : decode cX11_placed 7 = .ok (.if_icmp .ge 269, 3) := by decide +kernel
theorem dX11_placed_10 : decode cX11_placed 10 = .ok (.aload_n 0, 1) := by decide +kernel
theorem dX11_placed_11 : decode cX11_placed 11 = .ok (.getfield 119, 3) := by decide +kernel
theorem dX11_placed_14 : decode cX11_placed 14 = .ok (.iload_n 2, 1) := by decide +kernel
theorem dX11_placed_15 : decode cX11_placed 15 = .ok (.iaload, 1) := by decide +kernel
theorem dX11_placed_16 : decode cX11_placed 16 = .ok (.istore_n 3, 1) := by decide +kernel
theorem dX11_placed_17 : decode cX11_placed 17 = .ok (.iload_n 1, 1) := by decide +kernel
theorem dX11_placed_18 : decode cX11_placed 18 = .ok (.ifCond .eq 8, 3) := by decide +kernel
theorem dX11_placed_21 : decode cX11_placed 21 = .ok (.bipush 7, 2) := by decide +kernel
theorem dX11_placed_23 : decode cX11_placed 23 = .ok (.goto 4, 3) := by decide +kernel
theorem dX11_placed_26 : decode cX11_placed 26 = .ok (.iconst 0, 1) := by decide +kernel
theorem dX11_placed_27 : decode cX11_placed 27 = .ok (.istore 4, 2) := by decide +kernel
theorem dX11_placed_29 : decode cX11_placed 29 = .ok (.aload_n 0, 1) := by decide +kernel
theorem dX11_placed_30 : decode cX11_placed 30 = .ok (.getfield 122, 3) := by decide +kernel
theorem dX11_placed_33 : decode cX11_placed 33 = .ok (.iload_n 2, 1) := by decide +kernel
theorem dX11_placed_34 : decode cX11_placed 34 = .ok (.iaload, 1) := by decide +kernel
theorem dX11_placed_35 : decode cX11_placed 35 = .ok (.iload 4, 2) := by decide +kernel
theorem dX11_placed_37 : decode cX11_placed 37 = .ok (.aload_n 0, 1) := by decide +kernel
theorem dX11_placed_38 : decode cX11_placed 38 = .ok (.getfield 188, 3) := by decide +kernel
theorem dX11_placed_41 : decode cX11_placed 41 = .ok (.iadd, 1) := by decide +kernel
theorem dX11_placed_42 : decode cX11_placed 42 = .ok (.if_icmp .le 7, 3) := by decide +kernel
theorem dX11_placed_45 : decode cX11_placed 45 = .ok (.iconst 1, 1) := by decide +kernel
theorem dX11_placed_46 : decode cX11_placed 46 = .ok (.goto 4, 3) := by decide +kernel
theorem dX11_placed_49 : decode cX11_placed 49 = .ok (.iconst 0, 1) := by decide +kernel
theorem dX11_placed_50 : decode cX11_placed 50 = .ok (.istore 5, 2) := by decide +kernel
theorem dX11_placed_52 : decode cX11_placed 52 = .ok (.aload_n 0, 1) := by decide +kernel
theorem dX11_placed_53 : decode cX11_placed 53 = .ok (.getfield 122, 3) := by decide +kernel
theorem dX11_placed_56 : decode cX11_placed 56 = .ok (.iload_n 2, 1) := by decide +kernel
theorem dX11_placed_57 : decode cX11_placed 57 = .ok (.iaload, 1) := by decide +kernel
theorem dX11_placed_58 : decode cX11_placed 58 = .ok (.bipush 7, 2) := by decide +kernel
theorem dX11_placed_60 : decode cX11_placed 60 = .ok (.if_icmp .le 97, 3) := by decide +kernel
theorem dX11_placed_63 : decode cX11_placed 63 = .ok (.aload_n 0, 1) := by decide +kernel
theorem dX11_placed_64 : decode cX11_placed 64 = .ok (.getfield 125, 3) := by decide +kernel
theorem dX11_placed_67 : decode cX11_placed 67 = .ok (.iload_n 3, 1) := by decide +kernel
theorem dX11_placed_68 : decode cX11_placed 68 = .ok (.baload, 1) := by decide +kernel
theorem dX11_placed_69 : decode cX11_placed 69 = .ok (.bipush 100, 2) := by decide +kernel
theorem dX11_placed_71 : decode cX11_placed 71 = .ok (.if_icmp .ne 86, 3) := by decide +kernel
theorem dX11_placed_74 : decode cX11_placed 74 = .ok (.aload_n 0, 1) := by decide +kernel
theorem dX11_placed_75 : decode cX11_placed 75 = .ok (.getfield 125, 3) := by decide +kernel
theorem dX11_placed_78 : decode cX11_placed 78 = .ok (.iload_n 3, 1) := by decide +kernel
theorem dX11_placed_79 : decode cX11_placed 79 = .ok (.iconst 1, 1) := by decide +kernel
theorem dX11_placed_80 : decode cX11_placed 80 = .ok (.iadd, 1) := by decide +kernel
theorem dX11_placed_81 : decode cX11_placed 81 = .ok (.baload, 1) := by decide +kernel
theorem dX11_placed_82 : decode cX11_placed 82 = .ok (.bipush 101, 2) := by decide +kernel
theorem dX11_placed_84 : decode cX11_placed 84 = .ok (.if_icmp .ne 73, 3) := by decide +kernel
theorem dX11_placed_87 : decode cX11_placed 87 = .ok (.aload_n 0, 1) := by decide +kernel
theorem dX11_placed_88 : decode cX11_placed 88 = .ok (.getfield 125, 3) := by decide +kernel
theorem dX11_placed_91 : decode cX11_placed 91 = .ok (.iload_n 3, 1) := by decide +kernel
theorem dX11_placed_92 : decode cX11_placed 92 = .ok (.iconst 2, 1) := by decide +kernel
theorem dX11_placed_93 : decode cX11_placed 93 = .ok (.iadd, 1) := by decide +kernel
theorem dX11_placed_94 : decode cX11_placed 94 = .ok (.baload, 1) := by decide +kernel
theorem dX11_placed_95 : decode cX11_placed 95 = .ok (.bipush 102, 2) := by decide +kernel
theorem dX11_placed_97 : decode cX11_placed 97 = .ok (.if_icmp .ne 60, 3) := by decide +kernel
theorem dX11_placed_100 : decode cX11_placed 100 = .ok (.aload_n 0, 1) := by decide +kernel
theorem dX11_placed_101 : decode cX11_placed 101 = .ok (.getfield 125, 3) := by decide +kernel
theorem dX11_placed_104 : decode cX11_placed 104 = .ok (.iload_n 3, 1) := by decide +kernel
theorem dX11_placed_105 : decode cX11_placed 105 = .ok (.iconst 3, 1) := by decide +kernel
theorem dX11_placed_106 : decode cX11_placed 106 = .ok (.iadd, 1) := by decide +kernel
theorem dX11_placed_107 : decode cX11_placed 107 = .ok (.baload, 1) := by decide +kernel
theorem dX11_placed_108 : decode cX11_placed 108 = .ok (.bipush 105, 2) := by decide +kernel
theorem dX11_placed_110 : decode cX11_placed 110 = .ok (.if_icmp .ne 47, 3) := by decide +kernel
theorem dX11_placed_113 : decode cX11_placed 113 = .ok (.aload_n 0, 1) := by decide +kernel
theorem dX11_placed_114 : decode cX11_placed 114 = .ok (.getfield 125, 3) := by decide +kernel
theorem dX11_placed_117 : decode cX11_placed 117 = .ok (.iload_n 3, 1) := by decide +kernel
theorem dX11_placed_118 : decode cX11_placed 118 = .ok (.iconst 4, 1) := by decide +kernel
theorem dX11_placed_119 : decode cX11_placed 119 = .ok (.iadd, 1) := by decide +kernel
theorem dX11_placed_120 : decode cX11_placed 120 = .ok (.baload, 1) := by decide +kernel
theorem dX11_placed_121 : decode cX11_placed 121 = .ok (.bipush 110, 2) := by decide +kernel
theorem dX11_placed_123 : decode cX11_placed 123 = .ok (.if_icmp .ne 34, 3) := by decide +kernel
theorem dX11_placed_126 : decode cX11_placed 126 = .ok (.aload_n 0, 1) := by decide +kernel
theorem dX11_placed_127 : decode cX11_placed 127 = .ok (.getfield 125, 3) := by decide +kernel
theorem dX11_placed_130 : decode cX11_placed 130 = .ok (.iload_n 3, 1) := by decide +kernel
theorem dX11_placed_131 : decode cX11_placed 131 = .ok (.iconst 5, 1) := by decide +kernel
theorem dX11_placed_132 : decode cX11_placed 132 = .ok (.iadd, 1) := by decide +kernel
theorem dX11_placed_133 : decode cX11_placed 133 = .ok (.baload, 1) := by decide +kernel
theorem dX11_placed_134 : decode cX11_placed 134 = .ok (.bipush 101, 2) := by decide +kernel
theorem dX11_placed_136 : decode cX11_placed 136 = .ok (.if_icmp .ne 21, 3) := by decide +kernel
theorem dX11_placed_139 : decode cX11_placed 139 = .ok (.aload_n 0, 1) := by decide +kernel
theorem dX11_placed_140 : decode cX11_placed 140 = .ok (.getfield 125, 3) := by decide +kernel
theorem dX11_placed_143 : decode cX11_placed 143 = .ok (.iload_n 3, 1) := by decide +kernel
theorem dX11_placed_144 : decode cX11_placed 144 = .ok (.bipush 6, 2) := by decide +kernel
theorem dX11_placed_146 : decode cX11_placed 146 = .ok (.iadd, 1) := by decide +kernel
theorem dX11_placed_147 : decode cX11_placed 147 = .ok (.baload, 1) := by decide +kernel
theorem dX11_placed_148 : decode cX11_placed 148 = .ok (.bipush 32, 2) := by decide +kernel
theorem dX11_placed_150 : decode cX11_placed 150 = .ok (.if_icmp .ne 7, 3) := by decide +kernel
theorem dX11_placed_153 : decode cX11_placed 153 = .ok (.iconst 1, 1) := by decide +kernel
theorem dX11_placed_154 : decode cX11_placed 154 = .ok (.goto 4, 3) := by decide +kernel
theorem dX11_placed_157 : decode cX11_placed 157 = .ok (.iconst 0, 1) := by decide +kernel
theorem dX11_placed_158 : decode cX11_placed 158 = .ok (.istore 6, 2) := by decide +kernel
theorem dX11_placed_160 : decode cX11_placed 160 = .ok (.iload 5, 2) := by decide +kernel
theorem dX11_placed_162 : decode cX11_placed 162 = .ok (.ifCond .eq 13, 3) := by decide +kernel
theorem dX11_placed_165 : decode cX11_placed 165 = .ok (.iload 6, 2) := by decide +kernel
theorem dX11_placed_167 : decode cX11_placed 167 = .ok (.iload_n 1, 1) := by decide +kernel
theorem dX11_placed_168 : decode cX11_placed 168 = .ok (.if_icmp .ne 7, 3) := by decide +kernel
theorem dX11_placed_171 : decode cX11_placed 171 = .ok (.iconst 1, 1) := by decide +kernel
theorem dX11_placed_172 : decode cX11_placed 172 = .ok (.goto 4, 3) := by decide +kernel
theorem dX11_placed_175 : decode cX11_placed 175 = .ok (.iconst 0, 1) := by decide +kernel
theorem dX11_placed_176 : decode cX11_placed 176 = .ok (.istore 5, 2) := by decide +kernel
theorem dX11_placed_178 : decode cX11_placed 178 = .ok (.iconst 0, 1) := by decide +kernel
theorem dX11_placed_179 : decode cX11_placed 179 = .ok (.istore 7, 2) := by decide +kernel
theorem dX11_placed_181 : decode cX11_placed 181 = .ok (.iload 5, 2) := by decide +kernel
theorem dX11_placed_183 : decode cX11_placed 183 = .ok (.ifCond .eq 52, 3) := by decide +kernel
theorem dX11_placed_186 : decode cX11_placed 186 = .ok (.iload 7, 2) := by decide +kernel
theorem dX11_placed_188 : decode cX11_placed 188 = .ok (.aload_n 0, 1) := by decide +kernel
theorem dX11_placed_189 : decode cX11_placed 189 = .ok (.getfield 188, 3) := by decide +kernel
theorem dX11_placed_192 : decode cX11_placed 192 = .ok (.if_icmp .ge 43, 3) := by decide +kernel
theorem dX11_placed_195 : decode cX11_placed 195 = .ok (.aload_n 0, 1) := by decide +kernel
theorem dX11_placed_196 : decode cX11_placed 196 = .ok (.getfield 125, 3) := by decide +kernel
theorem dX11_placed_199 : decode cX11_placed 199 = .ok (.iload_n 3, 1) := by decide +kernel
theorem dX11_placed_200 : decode cX11_placed 200 = .ok (.iload 4, 2) := by decide +kernel
theorem dX11_placed_202 : decode cX11_placed 202 = .ok (.iadd, 1) := by decide +kernel
theorem dX11_placed_203 : decode cX11_placed 203 = .ok (.iload 7, 2) := by decide +kernel
theorem dX11_placed_205 : decode cX11_placed 205 = .ok (.iadd, 1) := by decide +kernel
theorem dX11_placed_206 : decode cX11_placed 206 = .ok (.baload, 1) := by decide +kernel
theorem dX11_placed_207 : decode cX11_placed 207 = .ok (.aload_n 0, 1) := by decide +kernel
theorem dX11_placed_208 : decode cX11_placed 208 = .ok (.getfield 36, 3) := by decide +kernel
theorem dX11_placed_211 : decode cX11_placed 211 = .ok (.aload_n 0, 1) := by decide +kernel
theorem dX11_placed_212 : decode cX11_placed 212 = .ok (.getfield 185, 3) := by decide +kernel
theorem dX11_placed_215 : decode cX11_placed 215 = .ok (.iload 7, 2) := by decide +kernel
theorem dX11_placed_217 : decode cX11_placed 217 = .ok (.iadd, 1) := by decide +kernel
theorem dX11_placed_218 : decode cX11_placed 218 = .ok (.baload, 1) := by decide +kernel
theorem dX11_placed_219 : decode cX11_placed 219 = .ok (.if_icmp .ne 7, 3) := by decide +kernel
theorem dX11_placed_222 : decode cX11_placed 222 = .ok (.iconst 1, 1) := by decide +kernel
theorem dX11_placed_223 : decode cX11_placed 223 = .ok (.goto 4, 3) := by decide +kernel
theorem dX11_placed_226 : decode cX11_placed 226 = .ok (.iconst 0, 1) := by decide +kernel
theorem dX11_placed_227 : decode cX11_placed 227 = .ok (.istore 5, 2) := by decide +kernel
theorem dX11_placed_229 : decode cX11_placed 229 = .ok (.iinc 7 1, 3) := by decide +kernel
theorem dX11_placed_232 : decode cX11_placed 232 = .ok (.goto (-51), 3) := by decide +kernel
theorem dX11_placed_235 : decode cX11_placed 235 = .ok (.iload 5, 2) := by decide +kernel
theorem dX11_placed_237 : decode cX11_placed 237 = .ok (.ifCond .eq 33, 3) := by decide +kernel
theorem dX11_placed_240 : decode cX11_placed 240 = .ok (.aload_n 0, 1) := by decide +kernel
theorem dX11_placed_241 : decode cX11_placed 241 = .ok (.getfield 125, 3) := by decide +kernel
theorem dX11_placed_244 : decode cX11_placed 244 = .ok (.iload_n 3, 1) := by decide +kernel
theorem dX11_placed_245 : decode cX11_placed 245 = .ok (.iload 4, 2) := by decide +kernel
theorem dX11_placed_247 : decode cX11_placed 247 = .ok (.iadd, 1) := by decide +kernel
theorem dX11_placed_248 : decode cX11_placed 248 = .ok (.aload_n 0, 1) := by decide +kernel
theorem dX11_placed_249 : decode cX11_placed 249 = .ok (.getfield 188, 3) := by decide +kernel
theorem dX11_placed_252 : decode cX11_placed 252 = .ok (.iadd, 1) := by decide +kernel
theorem dX11_placed_253 : decode cX11_placed 253 = .ok (.baload, 1) := by decide +kernel
theorem dX11_placed_254 : decode cX11_placed 254 = .ok (.iload_n 1, 1) := by decide +kernel
theorem dX11_placed_255 : decode cX11_placed 255 = .ok (.ifCond .eq 8, 3) := by decide +kernel
theorem dX11_placed_258 : decode cX11_placed 258 = .ok (.bipush 32, 2) := by decide +kernel
theorem dX11_placed_260 : decode cX11_placed 260 = .ok (.goto 5, 3) := by decide +kernel
theorem dX11_placed_263 : decode cX11_placed 263 = .ok (.bipush 58, 2) := by decide +kernel
theorem dX11_placed_265 : decode cX11_placed 265 = .ok (.if_icmp .ne 5, 3) := by decide +kernel
theorem dX11_placed_268 : decode cX11_placed 268 = .ok (.iload_n 2, 1) := by decide +kernel
theorem dX11_placed_269 : decode cX11_placed 269 = .ok (.ireturn, 1) := by decide +kernel
theorem dX11_placed_270 : decode cX11_placed 270 = .ok (.iinc 2 1, 3) := by decide +kernel
theorem dX11_placed_273 : decode cX11_placed 273 = .ok (.goto (-271), 3) := by decide +kernel
theorem dX11_placed_276 : decode cX11_placed 276 = .ok (.iconst (-1), 1) := by decide +kernel
theorem dX11_placed_277 : decode cX11_placed 277 = .ok (.ireturn, 1) := by decide +kernel
def fX11_placed_b227 (rec2 : Nat → Int32 → Int32 → JM → JO (Int32)) (rec181 : Nat → Int32 → Int32 → Int32 → Int32 → Int32 → Int32 → JM → JO (Int32)) (a : Nat) (x1 : Int32) (x2 : Int32) (x3 : Int32) (x4 : Int32) (x7 : Int32) (s0 : Int32) (μ : JM) : JO (Int32) := rec181 a x1 x2 x3 x4 s0 (x7 + (1 : Int32)) μ
set_option maxHeartbeats 4000000 in
set_option maxRecDepth 100000 in
theorem gX11_placed_b227 {b : Nat} {Θ : JE} {RC RS : Nat} {r : Int32} {ν : JM} (X : jX b Θ RX11 cX11_placed 8 (some .int) 0 0 RC RS) {rec2 : Nat → Int32 → Int32 → JM → JO (Int32)} (hrec2 : ∀ (a : Nat) (x1 : Int32) (x2 : Int32) (μ : JM) (c m k n : Nat), rec2 a x1 x2 μ = some (r, ν, c, m) → k + c = RC → n + m = RS → WA b Θ 8 (jE b Θ (some (.int r)) ν RC RS) μ k n 2 [(0, va_rf (some a)), (1, .int x1), (2, .int x2)] []) {rec181 : Nat → Int32 → Int32 → Int32 → Int32 → Int32 → Int32 → JM → JO (Int32)} (hrec181 : ∀ (a : Nat) (x1 : Int32) (x2 : Int32) (x3 : Int32) (x4 : Int32) (x5 : Int32) (x7 : Int32) (μ : JM) (c m k n : Nat), rec181 a x1 x2 x3 x4 x5 x7 μ = some (r, ν, c, m) → k + c = RC → n + m = RS → WA b Θ 8 (jE b Θ (some (.int r)) ν RC RS) μ k n 181 [(0, va_rf (some a)), (1, .int x1), (2, .int x2), (3, .int x3), (4, .int x4), (5, .int x5), (7, .int x7)] []) (a : Nat) (x1 : Int32) (x2 : Int32) (x3 : Int32) (x4 : Int32) (x7 : Int32) (s0 : Int32) (μ : JM) (c m k n : Nat) (hf : fX11_placed_b227 rec2 rec181 a x1 x2 x3 x4 x7 s0 μ = some (r, ν, c, m)) (hk : k + c = RC) (hn : n + m = RS) : WA b Θ 8 (jE b Θ (some (.int r)) ν RC RS) μ k n 227 [(0, va_rf (some a)), (1, .int x1), (2, .int x2), (3, .int x3), (4, .int x4), (7, .int x7)] [.int s0] := by
  rw [fX11_placed_b227] at hf
  refine wa_istore (L2 := [(5, .int s0), (0, va_rf (some a)), (1, .int x1), (2, .int x2), (3, .int x3), (4, .int x4), (7, .int x7)]) X dX11_placed_227 (by decide) (by first | rfl | (show (5, _) :: List.filter (fun q : Nat × Value => !(q.1 == 5) && !(q.1 + 1 == 5 && q.2.category == 2)) _ = _; simp [va_rf_cat, cat_i, cat_l])) ?_
  refine wa_iinc (v := (x7 + (1 : Int32))) (L2 := [(7, .int (x7 + (1 : Int32))), (5, .int s0), (0, va_rf (some a)), (1, .int x1), (2, .int x2), (3, .int x3), (4, .int x4)]) X 6 dX11_placed_229 rfl rfl (by decide) (by first | rfl | simp [va_rf_cat, cat_i, cat_l]) ?_
  refine wa_goto (tgt := 181) X dX11_placed_232 (by decide) ?_
  refine wa_sub (L2 := [(0, va_rf (some a)), (1, .int x1), (2, .int x2), (3, .int x3), (4, .int x4), (5, .int s0), (7, .int (x7 + (1 : Int32)))]) [2, 3, 4, 5, 6, 1, 0] rfl ?_
  exact hrec181 a x1 x2 x3 x4 s0 (x7 + (1 : Int32)) μ _ _ _ _ hf (by omega) (by omega)
def fX11_placed_b270 (rec2 : Nat → Int32 → Int32 → JM → JO (Int32)) (a : Nat) (x1 : Int32) (x2 : Int32) (μ : JM) : JO (Int32) := rec2 a x1 (x2 + (1 : Int32)) μ
set_option maxHeartbeats 4000000 in
set_option maxRecDepth 100000 in
theorem gX11_placed_b270 {b : Nat} {Θ : JE} {RC RS : Nat} {r : Int32} {ν : JM} (X : jX b Θ RX11 cX11_placed 8 (some .int) 0 0 RC RS) {rec2 : Nat → Int32 → Int32 → JM → JO (Int32)} (hrec2 : ∀ (a : Nat) (x1 : Int32) (x2 : Int32) (μ : JM) (c m k n : Nat), rec2 a x1 x2 μ = some (r, ν, c, m) → k + c = RC → n + m = RS → WA b Θ 8 (jE b Θ (some (.int r)) ν RC RS) μ k n 2 [(0, va_rf (some a)), (1, .int x1), (2, .int x2)] []) (a : Nat) (x1 : Int32) (x2 : Int32) (μ : JM) (c m k n : Nat) (hf : fX11_placed_b270 rec2 a x1 x2 μ = some (r, ν, c, m)) (hk : k + c = RC) (hn : n + m = RS) : WA b Θ 8 (jE b Θ (some (.int r)) ν RC RS) μ k n 270 [(0, va_rf (some a)), (1, .int x1), (2, .int x2)] [] := by
  rw [fX11_placed_b270] at hf
  refine wa_iinc (v := (x2 + (1 : Int32))) (L2 := [(2, .int (x2 + (1 : Int32))), (0, va_rf (some a)), (1, .int x1)]) X 2 dX11_placed_270 rfl rfl (by decide) (by first | rfl | simp [va_rf_cat, cat_i, cat_l]) ?_
  refine wa_goto (tgt := 2) X dX11_placed_273 (by decide) ?_
  refine wa_sub (L2 := [(0, va_rf (some a)), (1, .int x1), (2, .int (x2 + (1 : Int32)))]) [1, 2, 0] rfl ?_
  exact hrec2 a x1 (x2 + (1 : Int32)) μ _ _ _ _ hf (by omega) (by omega)
def fX11_placed_b265 (rec2 : Nat → Int32 → Int32 → JM → JO (Int32)) (a : Nat) (x1 : Int32) (x2 : Int32) (s0 : Int32) (s1 : Int32) (μ : JM) : JO (Int32) := if s1 = s0 then (some (x2, μ, 0, 0)) else (fX11_placed_b270 rec2 a x1 x2 μ)
set_option maxHeartbeats 4000000 in
set_option maxRecDepth 100000 in
theorem gX11_placed_b265 {b : Nat} {Θ : JE} {RC RS : Nat} {r : Int32} {ν : JM} (X : jX b Θ RX11 cX11_placed 8 (some .int) 0 0 RC RS) {rec2 : Nat → Int32 → Int32 → JM → JO (Int32)} (hrec2 : ∀ (a : Nat) (x1 : Int32) (x2 : Int32) (μ : JM) (c m k n : Nat), rec2 a x1 x2 μ = some (r, ν, c, m) → k + c = RC → n + m = RS → WA b Θ 8 (jE b Θ (some (.int r)) ν RC RS) μ k n 2 [(0, va_rf (some a)), (1, .int x1), (2, .int x2)] []) (a : Nat) (x1 : Int32) (x2 : Int32) (s0 : Int32) (s1 : Int32) (μ : JM) (c m k n : Nat) (hf : fX11_placed_b265 rec2 a x1 x2 s0 s1 μ = some (r, ν, c, m)) (hk : k + c = RC) (hn : n + m = RS) : WA b Θ 8 (jE b Θ (some (.int r)) ν RC RS) μ k n 265 [(0, va_rf (some a)), (1, .int x1), (2, .int x2)] [.int s0, .int s1] := by
  rw [fX11_placed_b265] at hf
  refine wa_icne (tgt := 270) X dX11_placed_265 (by decide) (fun h58 => ?_) (fun h58 => ?_)
  · rw [if_neg h58] at hf
    refine wa_sub (L2 := [(0, va_rf (some a)), (1, .int x1), (2, .int x2)]) [0, 1, 2] rfl ?_
    exact gX11_placed_b270 X hrec2 a x1 x2 μ _ _ _ _ hf (by omega) (by omega)
  · rw [if_pos h58] at hf
    refine wa_iload_n X 2 dX11_placed_268 rfl ?_
    obtain ⟨rfl, rfl, rfl, rfl⟩ := jret hf
    exact wa_iret X dX11_placed_269 rfl (by omega) (by omega)
def fX11_placed_b235 (rec2 : Nat → Int32 → Int32 → JM → JO (Int32)) (a : Nat) (x1 : Int32) (x2 : Int32) (x3 : Int32) (x4 : Int32) (x5 : Int32) (μ : JM) : JO (Int32) := if x5 = 0 then (fX11_placed_b270 rec2 a x1 x2 μ) else (jck ((jT μ a).1 == 12) <| jde (jP μ a 54) fun q53 => jck ((jT μ q53).1 == 100) <| jck (jin ((x3 + x4) + (jI μ a 16)) (jT μ q53).2) <| if x1 = 0 then (fX11_placed_b265 rec2 a x1 x2 (58 : Int32) (jI μ q53 (((x3 + x4) + (jI μ a 16))).toNatClampNeg) μ) else (fX11_placed_b265 rec2 a x1 x2 (32 : Int32) (jI μ q53 (((x3 + x4) + (jI μ a 16))).toNatClampNeg) μ))
set_option maxHeartbeats 4000000 in
set_option maxRecDepth 100000 in
theorem gX11_placed_b235 {b : Nat} {Θ : JE} {RC RS : Nat} {r : Int32} {ν : JM} (X : jX b Θ RX11 cX11_placed 8 (some .int) 0 0 RC RS) {rec2 : Nat → Int32 → Int32 → JM → JO (Int32)} (hrec2 : ∀ (a : Nat) (x1 : Int32) (x2 : Int32) (μ : JM) (c m k n : Nat), rec2 a x1 x2 μ = some (r, ν, c, m) → k + c = RC → n + m = RS → WA b Θ 8 (jE b Θ (some (.int r)) ν RC RS) μ k n 2 [(0, va_rf (some a)), (1, .int x1), (2, .int x2)] []) (a : Nat) (x1 : Int32) (x2 : Int32) (x3 : Int32) (x4 : Int32) (x5 : Int32) (μ : JM) (c m k n : Nat) (hf : fX11_placed_b235 rec2 a x1 x2 x3 x4 x5 μ = some (r, ν, c, m)) (hk : k + c = RC) (hn : n + m = RS) : WA b Θ 8 (jE b Θ (some (.int r)) ν RC RS) μ k n 235 [(0, va_rf (some a)), (1, .int x1), (2, .int x2), (3, .int x3), (4, .int x4), (5, .int x5)] [] := by
  rw [fX11_placed_b235] at hf
  refine wa_iload X 5 dX11_placed_235 rfl ?_
  refine wa_ifeq (tgt := 270) X dX11_placed_237 (by decide) (fun h51 => ?_) (fun h51 => ?_)
  · rw [if_pos h51] at hf
    refine wa_sub (L2 := [(0, va_rf (some a)), (1, .int x1), (2, .int x2)]) [0, 1, 2] rfl ?_
    exact gX11_placed_b270 X hrec2 a x1 x2 μ _ _ _ _ hf (by omega) (by omega)
  · rw [if_neg h51] at hf
    refine wa_aload_n X 0 dX11_placed_240 rfl ?_
    obtain ⟨h52, hf⟩ := jckT hf
    refine wa_getP X dX11_placed_241 lfX11_125 rfl h52 rfl ?_
    refine wa_iload_n X 3 dX11_placed_244 rfl ?_
    refine wa_iload X 4 dX11_placed_245 rfl ?_
    refine wa_iadd X dX11_placed_247 ?_
    refine wa_aload_n X 0 dX11_placed_248 rfl ?_
    refine wa_getI X dX11_placed_249 lfX11_188 rfl h52 rfl ?_
    refine wa_iadd X dX11_placed_252 ?_
    obtain ⟨q53, h54, hf⟩ := jde_some hf
    obtain ⟨h55, hf⟩ := jckT hf
    obtain ⟨h56, hf⟩ := jck_some hf
    refine wa_rbald X dX11_placed_253 h54 h55 h56 ?_
    refine wa_iload_n X 1 dX11_placed_254 rfl ?_
    refine wa_ifeq (tgt := 263) X dX11_placed_255 (by decide) (fun h57 => ?_) (fun h57 => ?_)
    · rw [if_pos h57] at hf
      refine wa_bipush (v := (58 : Int32)) X dX11_placed_263 (by decide) ?_
      refine wa_sub (L2 := [(0, va_rf (some a)), (1, .int x1), (2, .int x2)]) [0, 1, 2] rfl ?_
      exact gX11_placed_b265 X hrec2 a x1 x2 (58 : Int32) (jI μ q53 (((x3 + x4) + (jI μ a 16))).toNatClampNeg) μ _ _ _ _ hf (by omega) (by omega)
    · rw [if_neg h57] at hf
      refine wa_bipush (v := (32 : Int32)) X dX11_placed_258 (by decide) ?_
      refine wa_goto (tgt := 265) X dX11_placed_260 (by decide) ?_
      refine wa_sub (L2 := [(0, va_rf (some a)), (1, .int x1), (2, .int x2)]) [0, 1, 2] rfl ?_
      exact gX11_placed_b265 X hrec2 a x1 x2 (32 : Int32) (jI μ q53 (((x3 + x4) + (jI μ a 16))).toNatClampNeg) μ _ _ _ _ hf (by omega) (by omega)
def fX11_placed_b181 (rec2 : Nat → Int32 → Int32 → JM → JO (Int32)) : Nat → Nat → Int32 → Int32 → Int32 → Int32 → Int32 → Int32 → JM → JO (Int32)
  | 0, _, _, _, _, _, _, _, _ => none
  | fu + 1, a, x1, x2, x3, x4, x5, x7, μ => if x5 = 0 then (fX11_placed_b235 rec2 a x1 x2 x3 x4 x5 μ) else (jck ((jT μ a).1 == 12) <| if (jI μ a 16) ≤ x7 then (fX11_placed_b235 rec2 a x1 x2 x3 x4 x5 μ) else (jde (jP μ a 54) fun q42 => jck ((jT μ q42).1 == 100) <| jck (jin ((x3 + x4) + x7) (jT μ q42).2) <| jde (jP μ a 11) fun q46 => jck ((jT μ q46).1 == 100) <| jck (jin ((jI μ a 15) + x7) (jT μ q46).2) <| if (jI μ q42 (((x3 + x4) + x7)).toNatClampNeg) = (jI μ q46 (((jI μ a 15) + x7)).toNatClampNeg) then (fX11_placed_b227 rec2 (fX11_placed_b181 rec2 fu) a x1 x2 x3 x4 x7 (1 : Int32) μ) else (fX11_placed_b227 rec2 (fX11_placed_b181 rec2 fu) a x1 x2 x3 x4 x7 (0 : Int32) μ)))
set_option maxHeartbeats 4000000 in
set_option maxRecDepth 100000 in
theorem gX11_placed_b181 {b : Nat} {Θ : JE} {RC RS : Nat} {r : Int32} {ν : JM} (X : jX b Θ RX11 cX11_placed 8 (some .int) 0 0 RC RS) {rec2 : Nat → Int32 → Int32 → JM → JO (Int32)} (hrec2 : ∀ (a : Nat) (x1 : Int32) (x2 : Int32) (μ : JM) (c m k n : Nat), rec2 a x1 x2 μ = some (r, ν, c, m) → k + c = RC → n + m = RS → WA b Θ 8 (jE b Θ (some (.int r)) ν RC RS) μ k n 2 [(0, va_rf (some a)), (1, .int x1), (2, .int x2)] []) : ∀ (fu : Nat) (a : Nat) (x1 : Int32) (x2 : Int32) (x3 : Int32) (x4 : Int32) (x5 : Int32) (x7 : Int32) (μ : JM) (c m k n : Nat), fX11_placed_b181 rec2 fu a x1 x2 x3 x4 x5 x7 μ = some (r, ν, c, m) → k + c = RC → n + m = RS → WA b Θ 8 (jE b Θ (some (.int r)) ν RC RS) μ k n 181 [(0, va_rf (some a)), (1, .int x1), (2, .int x2), (3, .int x3), (4, .int x4), (5, .int x5), (7, .int x7)] [] := by
  intro fu
  induction fu with
  | zero => intro a x1 x2 x3 x4 x5 x7 μ c m k n hf; cases hf
  | succ fu ih =>
    intro a x1 x2 x3 x4 x5 x7 μ c m k n hf hk hn
    rw [fX11_placed_b181] at hf
    refine wa_iload X 5 dX11_placed_181 rfl ?_
    refine wa_ifeq (tgt := 235) X dX11_placed_183 (by decide) (fun h39 => ?_) (fun h39 => ?_)
    · rw [if_pos h39] at hf
      refine wa_sub (L2 := [(0, va_rf (some a)), (1, .int x1), (2, .int x2), (3, .int x3), (4, .int x4), (5, .int x5)]) [0, 1, 2, 3, 4, 5] rfl ?_
      exact gX11_placed_b235 X hrec2 a x1 x2 x3 x4 x5 μ _ _ _ _ hf (by omega) (by omega)
    · rw [if_neg h39] at hf
      refine wa_iload X 6 dX11_placed_186 rfl ?_
      refine wa_aload_n X 0 dX11_placed_188 rfl ?_
      obtain ⟨h40, hf⟩ := jckT hf
      refine wa_getI X dX11_placed_189 lfX11_188 rfl h40 rfl ?_
      refine wa_icge (tgt := 235) X dX11_placed_192 (by decide) (fun h41 => ?_) (fun h41 => ?_)
      · rw [if_pos h41] at hf
        refine wa_sub (L2 := [(0, va_rf (some a)), (1, .int x1), (2, .int x2), (3, .int x3), (4, .int x4), (5, .int x5)]) [0, 1, 2, 3, 4, 5] rfl ?_
        exact gX11_placed_b235 X hrec2 a x1 x2 x3 x4 x5 μ _ _ _ _ hf (by omega) (by omega)
      · rw [if_neg h41] at hf
        refine wa_aload_n X 0 dX11_placed_195 rfl ?_
        refine wa_getP X dX11_placed_196 lfX11_125 rfl h40 rfl ?_
        refine wa_iload_n X 3 dX11_placed_199 rfl ?_
        refine wa_iload X 4 dX11_placed_200 rfl ?_
        refine wa_iadd X dX11_placed_202 ?_
        refine wa_iload X 6 dX11_placed_203 rfl ?_
        refine wa_iadd X dX11_placed_205 ?_
        obtain ⟨q42, h43, hf⟩ := jde_some hf
        obtain ⟨h44, hf⟩ := jckT hf
        obtain ⟨h45, hf⟩ := jck_some hf
        refine wa_rbald X dX11_placed_206 h43 h44 h45 ?_
        refine wa_aload_n X 0 dX11_placed_207 rfl ?_
        refine wa_getP X dX11_placed_208 lfX11_36 rfl h40 rfl ?_
        refine wa_aload_n X 0 dX11_placed_211 rfl ?_
        refine wa_getI X dX11_placed_212 lfX11_185 rfl h40 rfl ?_
        refine wa_iload X 6 dX11_placed_215 rfl ?_
        refine wa_iadd X dX11_placed_217 ?_
        obtain ⟨q46, h47, hf⟩ := jde_some hf
        obtain ⟨h48, hf⟩ := jckT hf
        obtain ⟨h49, hf⟩ := jck_some hf
        refine wa_rbald X dX11_placed_218 h47 h48 h49 ?_
        refine wa_icne (tgt := 226) X dX11_placed_219 (by decide) (fun h50 => ?_) (fun h50 => ?_)
        · rw [if_neg h50] at hf
          refine wa_iconst (v := (0 : Int32)) X dX11_placed_226 (by decide) ?_
          refine wa_sub (L2 := [(0, va_rf (some a)), (1, .int x1), (2, .int x2), (3, .int x3), (4, .int x4), (7, .int x7)]) [0, 1, 2, 3, 4, 6] rfl ?_
          exact gX11_placed_b227 X hrec2 ih a x1 x2 x3 x4 x7 (0 : Int32) μ _ _ _ _ hf (by omega) (by omega)
        · rw [if_pos h50] at hf
          refine wa_iconst (v := (1 : Int32)) X dX11_placed_222 (by decide) ?_
          refine wa_goto (tgt := 227) X dX11_placed_223 (by decide) ?_
          refine wa_sub (L2 := [(0, va_rf (some a)), (1, .int x1), (2, .int x2), (3, .int x3), (4, .int x4), (7, .int x7)]) [0, 1, 2, 3, 4, 6] rfl ?_
          exact gX11_placed_b227 X hrec2 ih a x1 x2 x3 x4 x7 (1 : Int32) μ _ _ _ _ hf (by omega) (by omega)
def fX11_placed_b176 (rec2 : Nat → Int32 → Int32 → JM → JO (Int32)) (a : Nat) (x1 : Int32) (x2 : Int32) (x3 : Int32) (x4 : Int32) (s0 : Int32) (μ : JM) : JO (Int32) := fX11_placed_b181 rec2 jfuel a x1 x2 x3 x4 s0 (0 : Int32) μ
set_option maxHeartbeats 4000000 in
set_option maxRecDepth 100000 in
theorem gX11_placed_b176 {b : Nat} {Θ : JE} {RC RS : Nat} {r : Int32} {ν : JM} (X : jX b Θ RX11 cX11_placed 8 (some .int) 0 0 RC RS) {rec2 : Nat → Int32 → Int32 → JM → JO (Int32)} (hrec2 : ∀ (a : Nat) (x1 : Int32) (x2 : Int32) (μ : JM) (c m k n : Nat), rec2 a x1 x2 μ = some (r, ν, c, m) → k + c = RC → n + m = RS → WA b Θ 8 (jE b Θ (some (.int r)) ν RC RS) μ k n 2 [(0, va_rf (some a)), (1, .int x1), (2, .int x2)] []) (a : Nat) (x1 : Int32) (x2 : Int32) (x3 : Int32) (x4 : Int32) (s0 : Int32) (μ : JM) (c m k n : Nat) (hf : fX11_placed_b176 rec2 a x1 x2 x3 x4 s0 μ = some (r, ν, c, m)) (hk : k + c = RC) (hn : n + m = RS) : WA b Θ 8 (jE b Θ (some (.int r)) ν RC RS) μ k n 176 [(0, va_rf (some a)), (1, .int x1), (2, .int x2), (3, .int x3), (4, .int x4)] [.int s0] := by
  rw [fX11_placed_b176] at hf
  refine wa_istore (L2 := [(5, .int s0), (0, va_rf (some a)), (1, .int x1), (2, .int x2), (3, .int x3), (4, .int x4)]) X dX11_placed_176 (by decide) (by first | rfl | (show (5, _) :: List.filter (fun q : Nat × Value => !(q.1 == 5) && !(q.1 + 1 == 5 && q.2.category == 2)) _ = _; simp [va_rf_cat, cat_i, cat_l])) ?_
  refine wa_iconst (v := (0 : Int32)) X dX11_placed_178 (by decide) ?_
  refine wa_istore (L2 := [(7, .int (0 : Int32)), (5, .int s0), (0, va_rf (some a)), (1, .int x1), (2, .int x2), (3, .int x3), (4, .int x4)]) X dX11_placed_179 (by decide) (by first | rfl | (show (7, _) :: List.filter (fun q : Nat × Value => !(q.1 == 7) && !(q.1 + 1 == 7 && q.2.category == 2)) _ = _; simp [va_rf_cat, cat_i, cat_l])) ?_
  refine wa_sub (L2 := [(0, va_rf (some a)), (1, .int x1), (2, .int x2), (3, .int x3), (4, .int x4), (5, .int s0), (7, .int (0 : Int32))]) [2, 3, 4, 5, 6, 1, 0] rfl ?_
  exact gX11_placed_b181 X hrec2 jfuel a x1 x2 x3 x4 s0 (0 : Int32) μ _ _ _ _ hf (by omega) (by omega)
def fX11_placed_b175 (rec2 : Nat → Int32 → Int32 → JM → JO (Int32)) (a : Nat) (x1 : Int32) (x2 : Int32) (x3 : Int32) (x4 : Int32) (μ : JM) : JO (Int32) := fX11_placed_b176 rec2 a x1 x2 x3 x4 (0 : Int32) μ
set_option maxHeartbeats 4000000 in
set_option maxRecDepth 100000 in
theorem gX11_placed_b175 {b : Nat} {Θ : JE} {RC RS : Nat} {r : Int32} {ν : JM} (X : jX b Θ RX11 cX11_placed 8 (some .int) 0 0 RC RS) {rec2 : Nat → Int32 → Int32 → JM → JO (Int32)} (hrec2 : ∀ (a : Nat) (x1 : Int32) (x2 : Int32) (μ : JM) (c m k n : Nat), rec2 a x1 x2 μ = some (r, ν, c, m) → k + c = RC → n + m = RS → WA b Θ 8 (jE b Θ (some (.int r)) ν RC RS) μ k n 2 [(0, va_rf (some a)), (1, .int x1), (2, .int x2)] []) (a : Nat) (x1 : Int32) (x2 : Int32) (x3 : Int32) (x4 : Int32) (μ : JM) (c m k n : Nat) (hf : fX11_placed_b175 rec2 a x1 x2 x3 x4 μ = some (r, ν, c, m)) (hk : k + c = RC) (hn : n + m = RS) : WA b Θ 8 (jE b Θ (some (.int r)) ν RC RS) μ k n 175 [(0, va_rf (some a)), (1, .int x1), (2, .int x2), (3, .int x3), (4, .int x4)] [] := by
  rw [fX11_placed_b175] at hf
  refine wa_iconst (v := (0 : Int32)) X dX11_placed_175 (by decide) ?_
  refine wa_sub (L2 := [(0, va_rf (some a)), (1, .int x1), (2, .int x2), (3, .int x3), (4, .int x4)]) [0, 1, 2, 3, 4] rfl ?_
  exact gX11_placed_b176 X hrec2 a x1 x2 x3 x4 (0 : Int32) μ _ _ _ _ hf (by omega) (by omega)
def fX11_placed_b158 (rec2 : Nat → Int32 → Int32 → JM → JO (Int32)) (a : Nat) (x1 : Int32) (x2 : Int32) (x3 : Int32) (x4 : Int32) (x5 : Int32) (s0 : Int32) (μ : JM) : JO (Int32) := if x5 = 0 then (fX11_placed_b175 rec2 a x1 x2 x3 x4 μ) else (if s0 = x1 then (fX11_placed_b176 rec2 a x1 x2 x3 x4 (1 : Int32) μ) else (fX11_placed_b175 rec2 a x1 x2 x3 x4 μ))
set_option maxHeartbeats 4000000 in
set_option maxRecDepth 100000 in
theorem gX11_placed_b158 {b : Nat} {Θ : JE} {RC RS : Nat} {r : Int32} {ν : JM} (X : jX b Θ RX11 cX11_placed 8 (some .int) 0 0 RC RS) {rec2 : Nat → Int32 → Int32 → JM → JO (Int32)} (hrec2 : ∀ (a : Nat) (x1 : Int32) (x2 : Int32) (μ : JM) (c m k n : Nat), rec2 a x1 x2 μ = some (r, ν, c, m) → k + c = RC → n + m = RS → WA b Θ 8 (jE b Θ (some (.int r)) ν RC RS) μ k n 2 [(0, va_rf (some a)), (1, .int x1), (2, .int x2)] []) (a : Nat) (x1 : Int32) (x2 : Int32) (x3 : Int32) (x4 : Int32) (x5 : Int32) (s0 : Int32) (μ : JM) (c m k n : Nat) (hf : fX11_placed_b158 rec2 a x1 x2 x3 x4 x5 s0 μ = some (r, ν, c, m)) (hk : k + c = RC) (hn : n + m = RS) : WA b Θ 8 (jE b Θ (some (.int r)) ν RC RS) μ k n 158 [(0, va_rf (some a)), (1, .int x1), (2, .int x2), (3, .int x3), (4, .int x4), (5, .int x5)] [.int s0] := by
  rw [fX11_placed_b158] at hf
  refine wa_istore (L2 := [(6, .int s0), (0, va_rf (some a)), (1, .int x1), (2, .int x2), (3, .int x3), (4, .int x4), (5, .int x5)]) X dX11_placed_158 (by decide) (by first | rfl | (show (6, _) :: List.filter (fun q : Nat × Value => !(q.1 == 6) && !(q.1 + 1 == 6 && q.2.category == 2)) _ = _; simp [va_rf_cat, cat_i, cat_l])) ?_
  refine wa_iload X 6 dX11_placed_160 rfl ?_
  refine wa_ifeq (tgt := 175) X dX11_placed_162 (by decide) (fun h37 => ?_) (fun h37 => ?_)
  · rw [if_pos h37] at hf
    refine wa_sub (L2 := [(0, va_rf (some a)), (1, .int x1), (2, .int x2), (3, .int x3), (4, .int x4)]) [1, 2, 3, 4, 5] rfl ?_
    exact gX11_placed_b175 X hrec2 a x1 x2 x3 x4 μ _ _ _ _ hf (by omega) (by omega)
  · rw [if_neg h37] at hf
    refine wa_iload X 0 dX11_placed_165 rfl ?_
    refine wa_iload_n X 2 dX11_placed_167 rfl ?_
    refine wa_icne (tgt := 175) X dX11_placed_168 (by decide) (fun h38 => ?_) (fun h38 => ?_)
    · rw [if_neg h38] at hf
      refine wa_sub (L2 := [(0, va_rf (some a)), (1, .int x1), (2, .int x2), (3, .int x3), (4, .int x4)]) [1, 2, 3, 4, 5] rfl ?_
      exact gX11_placed_b175 X hrec2 a x1 x2 x3 x4 μ _ _ _ _ hf (by omega) (by omega)
    · rw [if_pos h38] at hf
      refine wa_iconst (v := (1 : Int32)) X dX11_placed_171 (by decide) ?_
      refine wa_goto (tgt := 176) X dX11_placed_172 (by decide) ?_
      refine wa_sub (L2 := [(0, va_rf (some a)), (1, .int x1), (2, .int x2), (3, .int x3), (4, .int x4)]) [1, 2, 3, 4, 5] rfl ?_
      exact gX11_placed_b176 X hrec2 a x1 x2 x3 x4 (1 : Int32) μ _ _ _ _ hf (by omega) (by omega)
def fX11_placed_b157 (rec2 : Nat → Int32 → Int32 → JM → JO (Int32)) (a : Nat) (x1 : Int32) (x2 : Int32) (x3 : Int32) (x4 : Int32) (x5 : Int32) (μ : JM) : JO (Int32) := fX11_placed_b158 rec2 a x1 x2 x3 x4 x5 (0 : Int32) μ
set_option maxHeartbeats 4000000 in
set_option maxRecDepth 100000 in
theorem gX11_placed_b157 {b : Nat} {Θ : JE} {RC RS : Nat} {r : Int32} {ν : JM} (X : jX b Θ RX11 cX11_placed 8 (some .int) 0 0 RC RS) {rec2 : Nat → Int32 → Int32 → JM → JO (Int32)} (hrec2 : ∀ (a : Nat) (x1 : Int32) (x2 : Int32) (μ : JM) (c m k n : Nat), rec2 a x1 x2 μ = some (r, ν, c, m) → k + c = RC → n + m = RS → WA b Θ 8 (jE b Θ (some (.int r)) ν RC RS) μ k n 2 [(0, va_rf (some a)), (1, .int x1), (2, .int x2)] []) (a : Nat) (x1 : Int32) (x2 : Int32) (x3 : Int32) (x4 : Int32) (x5 : Int32) (μ : JM) (c m k n : Nat) (hf : fX11_placed_b157 rec2 a x1 x2 x3 x4 x5 μ = some (r, ν, c, m)) (hk : k + c = RC) (hn : n + m = RS) : WA b Θ 8 (jE b Θ (some (.int r)) ν RC RS) μ k n 157 [(0, va_rf (some a)), (1, .int x1), (2, .int x2), (3, .int x3), (4, .int x4), (5, .int x5)] [] := by
  rw [fX11_placed_b157] at hf
  refine wa_iconst (v := (0 : Int32)) X dX11_placed_157 (by decide) ?_
  refine wa_sub (L2 := [(0, va_rf (some a)), (1, .int x1), (2, .int x2), (3, .int x3), (4, .int x4), (5, .int x5)]) [0, 1, 2, 3, 4, 5] rfl ?_
  exact gX11_placed_b158 X hrec2 a x1 x2 x3 x4 x5 (0 : Int32) μ _ _ _ _ hf (by omega) (by omega)
def fX11_placed_b50 (rec2 : Nat → Int32 → Int32 → JM → JO (Int32)) (a : Nat) (x1 : Int32) (x2 : Int32) (x3 : Int32) (x4 : Int32) (s0 : Int32) (μ : JM) : JO (Int32) := jck ((jT μ a).1 == 12) <| jde (jP μ a 53) fun q15 => jck ((jT μ q15).1 == 101) <| jck (jin x2 (jT μ q15).2) <| if (jI μ q15 (x2).toNatClampNeg) ≤ (7 : Int32) then (fX11_placed_b157 rec2 a x1 x2 x3 x4 s0 μ) else (jde (jP μ a 54) fun q20 => jck ((jT μ q20).1 == 100) <| jck (jin x3 (jT μ q20).2) <| if (jI μ q20 (x3).toNatClampNeg) = (100 : Int32) then (jck (jin (x3 + (1 : Int32)) (jT μ q20).2) <| if (jI μ q20 ((x3 + (1 : Int32))).toNatClampNeg) = (101 : Int32) then (jck (jin (x3 + (2 : Int32)) (jT μ q20).2) <| if (jI μ q20 ((x3 + (2 : Int32))).toNatClampNeg) = (102 : Int32) then (jck (jin (x3 + (3 : Int32)) (jT μ q20).2) <| if (jI μ q20 ((x3 + (3 : Int32))).toNatClampNeg) = (105 : Int32) then (jck (jin (x3 + (4 : Int32)) (jT μ q20).2) <| if (jI μ q20 ((x3 + (4 : Int32))).toNatClampNeg) = (110 : Int32) then (jck (jin (x3 + (5 : Int32)) (jT μ q20).2) <| if (jI μ q20 ((x3 + (5 : Int32))).toNatClampNeg) = (101 : Int32) then (jck (jin (x3 + (6 : Int32)) (jT μ q20).2) <| if (jI μ q20 ((x3 + (6 : Int32))).toNatClampNeg) = (32 : Int32) then (fX11_placed_b158 rec2 a x1 x2 x3 x4 s0 (1 : Int32) μ) else (fX11_placed_b157 rec2 a x1 x2 x3 x4 s0 μ)) else (fX11_placed_b157 rec2 a x1 x2 x3 x4 s0 μ)) else (fX11_placed_b157 rec2 a x1 x2 x3 x4 s0 μ)) else (fX11_placed_b157 rec2 a x1 x2 x3 x4 s0 μ)) else (fX11_placed_b157 rec2 a x1 x2 x3 x4 s0 μ)) else (fX11_placed_b157 rec2 a x1 x2 x3 x4 s0 μ)) else (fX11_placed_b157 rec2 a x1 x2 x3 x4 s0 μ))
set_option maxHeartbeats 4000000 in
set_option maxRecDepth 100000 in
theorem gX11_placed_b50 {b : Nat} {Θ : JE} {RC RS : Nat} {r : Int32} {ν : JM} (X : jX b Θ RX11 cX11_placed 8 (some .int) 0 0 RC RS) {rec2 : Nat → Int32 → Int32 → JM → JO (Int32)} (hrec2 : ∀ (a : Nat) (x1 : Int32) (x2 : Int32) (μ : JM) (c m k n : Nat), rec2 a x1 x2 μ = some (r, ν, c, m) → k + c = RC → n + m = RS → WA b Θ 8 (jE b Θ (some (.int r)) ν RC RS) μ k n 2 [(0, va_rf (some a)), (1, .int x1), (2, .int x2)] []) (a : Nat) (x1 : Int32) (x2 : Int32) (x3 : Int32) (x4 : Int32) (s0 : Int32) (μ : JM) (c m k n : Nat) (hf : fX11_placed_b50 rec2 a x1 x2 x3 x4 s0 μ = some (r, ν, c, m)) (hk : k + c = RC) (hn : n + m = RS) : WA b Θ 8 (jE b Θ (some (.int r)) ν RC RS) μ k n 50 [(0, va_rf (some a)), (1, .int x1), (2, .int x2), (3, .int x3), (4, .int x4)] [.int s0] := by
  rw [fX11_placed_b50] at hf
  refine wa_istore (L2 := [(5, .int s0), (0, va_rf (some a)), (1, .int x1), (2, .int x2), (3, .int x3), (4, .int x4)]) X dX11_placed_50 (by decide) (by first | rfl | (show (5, _) :: List.filter (fun q : Nat × Value => !(q.1 == 5) && !(q.1 + 1 == 5 && q.2.category == 2)) _ = _; simp [va_rf_cat, cat_i, cat_l])) ?_
  refine wa_aload_n X 1 dX11_placed_52 rfl ?_
  obtain ⟨h14, hf⟩ := jckT hf
  refine wa_getP X dX11_placed_53 lfX11_122 rfl h14 rfl ?_
  refine wa_iload_n X 3 dX11_placed_56 rfl ?_
  obtain ⟨q15, h16, hf⟩ := jde_some hf
  obtain ⟨h17, hf⟩ := jckT hf
  obtain ⟨h18, hf⟩ := jck_some hf
  refine wa_riald X dX11_placed_57 h16 h17 h18 ?_
  refine wa_bipush (v := (7 : Int32)) X dX11_placed_58 (by decide) ?_
  refine wa_icle (tgt := 157) X dX11_placed_60 (by decide) (fun h19 => ?_) (fun h19 => ?_)
  · rw [if_pos h19] at hf
    refine wa_sub (L2 := [(0, va_rf (some a)), (1, .int x1), (2, .int x2), (3, .int x3), (4, .int x4), (5, .int s0)]) [1, 2, 3, 4, 5, 0] rfl ?_
    exact gX11_placed_b157 X hrec2 a x1 x2 x3 x4 s0 μ _ _ _ _ hf (by omega) (by omega)
  · rw [if_neg h19] at hf
    refine wa_aload_n X 1 dX11_placed_63 rfl ?_
    refine wa_getP X dX11_placed_64 lfX11_125 rfl h14 rfl ?_
    refine wa_iload_n X 4 dX11_placed_67 rfl ?_
    obtain ⟨q20, h21, hf⟩ := jde_some hf
    obtain ⟨h22, hf⟩ := jckT hf
    obtain ⟨h23, hf⟩ := jck_some hf
    refine wa_rbald X dX11_placed_68 h21 h22 h23 ?_
    refine wa_bipush (v := (100 : Int32)) X dX11_placed_69 (by decide) ?_
    refine wa_icne (tgt := 157) X dX11_placed_71 (by decide) (fun h24 => ?_) (fun h24 => ?_)
    · rw [if_neg h24] at hf
      refine wa_sub (L2 := [(0, va_rf (some a)), (1, .int x1), (2, .int x2), (3, .int x3), (4, .int x4), (5, .int s0)]) [1, 2, 3, 4, 5, 0] rfl ?_
      exact gX11_placed_b157 X hrec2 a x1 x2 x3 x4 s0 μ _ _ _ _ hf (by omega) (by omega)
    · rw [if_pos h24] at hf
      refine wa_aload_n X 1 dX11_placed_74 rfl ?_
      refine wa_getP X dX11_placed_75 lfX11_125 rfl h14 rfl ?_
      refine wa_iload_n X 4 dX11_placed_78 rfl ?_
      refine wa_iconst (v := (1 : Int32)) X dX11_placed_79 (by decide) ?_
      refine wa_iadd X dX11_placed_80 ?_
      obtain ⟨h25, hf⟩ := jck_some hf
      refine wa_rbald X dX11_placed_81 h21 h22 h25 ?_
      refine wa_bipush (v := (101 : Int32)) X dX11_placed_82 (by decide) ?_
      refine wa_icne (tgt := 157) X dX11_placed_84 (by decide) (fun h26 => ?_) (fun h26 => ?_)
      · rw [if_neg h26] at hf
        refine wa_sub (L2 := [(0, va_rf (some a)), (1, .int x1), (2, .int x2), (3, .int x3), (4, .int x4), (5, .int s0)]) [1, 2, 3, 4, 5, 0] rfl ?_
        exact gX11_placed_b157 X hrec2 a x1 x2 x3 x4 s0 μ _ _ _ _ hf (by omega) (by omega)
      · rw [if_pos h26] at hf
        refine wa_aload_n X 1 dX11_placed_87 rfl ?_
        refine wa_getP X dX11_placed_88 lfX11_125 rfl h14 rfl ?_
        refine wa_iload_n X 4 dX11_placed_91 rfl ?_
        refine wa_iconst (v := (2 : Int32)) X dX11_placed_92 (by decide) ?_
        refine wa_iadd X dX11_placed_93 ?_
        obtain ⟨h27, hf⟩ := jck_some hf
        refine wa_rbald X dX11_placed_94 h21 h22 h27 ?_
        refine wa_bipush (v := (102 : Int32)) X dX11_placed_95 (by decide) ?_
        refine wa_icne (tgt := 157) X dX11_placed_97 (by decide) (fun h28 => ?_) (fun h28 => ?_)
        · rw [if_neg h28] at hf
          refine wa_sub (L2 := [(0, va_rf (some a)), (1, .int x1), (2, .int x2), (3, .int x3), (4, .int x4), (5, .int s0)]) [1, 2, 3, 4, 5, 0] rfl ?_
          exact gX11_placed_b157 X hrec2 a x1 x2 x3 x4 s0 μ _ _ _ _ hf (by omega) (by omega)
        · rw [if_pos h28] at hf
          refine wa_aload_n X 1 dX11_placed_100 rfl ?_
          refine wa_getP X dX11_placed_101 lfX11_125 rfl h14 rfl ?_
          refine wa_iload_n X 4 dX11_placed_104 rfl ?_
          refine wa_iconst (v := (3 : Int32)) X dX11_placed_105 (by decide) ?_
          refine wa_iadd X dX11_placed_106 ?_
          obtain ⟨h29, hf⟩ := jck_some hf
          refine wa_rbald X dX11_placed_107 h21 h22 h29 ?_
          refine wa_bipush (v := (105 : Int32)) X dX11_placed_108 (by decide) ?_
          refine wa_icne (tgt := 157) X dX11_placed_110 (by decide) (fun h30 => ?_) (fun h30 => ?_)
          · rw [if_neg h30] at hf
            refine wa_sub (L2 := [(0, va_rf (some a)), (1, .int x1), (2, .int x2), (3, .int x3), (4, .int x4), (5, .int s0)]) [1, 2, 3, 4, 5, 0] rfl ?_
            exact gX11_placed_b157 X hrec2 a x1 x2 x3 x4 s0 μ _ _ _ _ hf (by omega) (by omega)
          · rw [if_pos h30] at hf
            refine wa_aload_n X 1 dX11_placed_113 rfl ?_
            refine wa_getP X dX11_placed_114 lfX11_125 rfl h14 rfl ?_
            refine wa_iload_n X 4 dX11_placed_117 rfl ?_
            refine wa_iconst (v := (4 : Int32)) X dX11_placed_118 (by decide) ?_
            refine wa_iadd X dX11_placed_119 ?_
            obtain ⟨h31, hf⟩ := jck_some hf
            refine wa_rbald X dX11_placed_120 h21 h22 h31 ?_
            refine wa_bipush (v := (110 : Int32)) X dX11_placed_121 (by decide) ?_
            refine wa_icne (tgt := 157) X dX11_placed_123 (by decide) (fun h32 => ?_) (fun h32 => ?_)
            · rw [if_neg h32] at hf
              refine wa_sub (L2 := [(0, va_rf (some a)), (1, .int x1), (2, .int x2), (3, .int x3), (4, .int x4), (5, .int s0)]) [1, 2, 3, 4, 5, 0] rfl ?_
              exact gX11_placed_b157 X hrec2 a x1 x2 x3 x4 s0 μ _ _ _ _ hf (by omega) (by omega)
            · rw [if_pos h32] at hf
              refine wa_aload_n X 1 dX11_placed_126 rfl ?_
              refine wa_getP X dX11_placed_127 lfX11_125 rfl h14 rfl ?_
              refine wa_iload_n X 4 dX11_placed_130 rfl ?_
              refine wa_iconst (v := (5 : Int32)) X dX11_placed_131 (by decide) ?_
              refine wa_iadd X dX11_placed_132 ?_
              obtain ⟨h33, hf⟩ := jck_some hf
              refine wa_rbald X dX11_placed_133 h21 h22 h33 ?_
              refine wa_bipush (v := (101 : Int32)) X dX11_placed_134 (by decide) ?_
              refine wa_icne (tgt := 157) X dX11_placed_136 (by decide) (fun h34 => ?_) (fun h34 => ?_)
              · rw [if_neg h34] at hf
                refine wa_sub (L2 := [(0, va_rf (some a)), (1, .int x1), (2, .int x2), (3, .int x3), (4, .int x4), (5, .int s0)]) [1, 2, 3, 4, 5, 0] rfl ?_
                exact gX11_placed_b157 X hrec2 a x1 x2 x3 x4 s0 μ _ _ _ _ hf (by omega) (by omega)
              · rw [if_pos h34] at hf
                refine wa_aload_n X 1 dX11_placed_139 rfl ?_
                refine wa_getP X dX11_placed_140 lfX11_125 rfl h14 rfl ?_
                refine wa_iload_n X 4 dX11_placed_143 rfl ?_
                refine wa_bipush (v := (6 : Int32)) X dX11_placed_144 (by decide) ?_
                refine wa_iadd X dX11_placed_146 ?_
                obtain ⟨h35, hf⟩ := jck_some hf
                refine wa_rbald X dX11_placed_147 h21 h22 h35 ?_
                refine wa_bipush (v := (32 : Int32)) X dX11_placed_148 (by decide) ?_
                refine wa_icne (tgt := 157) X dX11_placed_150 (by decide) (fun h36 => ?_) (fun h36 => ?_)
                · rw [if_neg h36] at hf
                  refine wa_sub (L2 := [(0, va_rf (some a)), (1, .int x1), (2, .int x2), (3, .int x3), (4, .int x4), (5, .int s0)]) [1, 2, 3, 4, 5, 0] rfl ?_
                  exact gX11_placed_b157 X hrec2 a x1 x2 x3 x4 s0 μ _ _ _ _ hf (by omega) (by omega)
                · rw [if_pos h36] at hf
                  refine wa_iconst (v := (1 : Int32)) X dX11_placed_153 (by decide) ?_
                  refine wa_goto (tgt := 158) X dX11_placed_154 (by decide) ?_
                  refine wa_sub (L2 := [(0, va_rf (some a)), (1, .int x1), (2, .int x2), (3, .int x3), (4, .int x4), (5, .int s0)]) [1, 2, 3, 4, 5, 0] rfl ?_
                  exact gX11_placed_b158 X hrec2 a x1 x2 x3 x4 s0 (1 : Int32) μ _ _ _ _ hf (by omega) (by omega)
def fX11_placed_b27 (rec2 : Nat → Int32 → Int32 → JM → JO (Int32)) (a : Nat) (x1 : Int32) (x2 : Int32) (x3 : Int32) (s0 : Int32) (μ : JM) : JO (Int32) := jck ((jT μ a).1 == 12) <| jde (jP μ a 53) fun q9 => jck ((jT μ q9).1 == 101) <| jck (jin x2 (jT μ q9).2) <| if (jI μ q9 (x2).toNatClampNeg) ≤ (s0 + (jI μ a 16)) then (fX11_placed_b50 rec2 a x1 x2 x3 s0 (0 : Int32) μ) else (fX11_placed_b50 rec2 a x1 x2 x3 s0 (1 : Int32) μ)
set_option maxHeartbeats 4000000 in
set_option maxRecDepth 100000 in
theorem gX11_placed_b27 {b : Nat} {Θ : JE} {RC RS : Nat} {r : Int32} {ν : JM} (X : jX b Θ RX11 cX11_placed 8 (some .int) 0 0 RC RS) {rec2 : Nat → Int32 → Int32 → JM → JO (Int32)} (hrec2 : ∀ (a : Nat) (x1 : Int32) (x2 : Int32) (μ : JM) (c m k n : Nat), rec2 a x1 x2 μ = some (r, ν, c, m) → k + c = RC → n + m = RS → WA b Θ 8 (jE b Θ (some (.int r)) ν RC RS) μ k n 2 [(0, va_rf (some a)), (1, .int x1), (2, .int x2)] []) (a : Nat) (x1 : Int32) (x2 : Int32) (x3 : Int32) (s0 : Int32) (μ : JM) (c m k n : Nat) (hf : fX11_placed_b27 rec2 a x1 x2 x3 s0 μ = some (r, ν, c, m)) (hk : k + c = RC) (hn : n + m = RS) : WA b Θ 8 (jE b Θ (some (.int r)) ν RC RS) μ k n 27 [(0, va_rf (some a)), (1, .int x1), (2, .int x2), (3, .int x3)] [.int s0] := by
  rw [fX11_placed_b27] at hf
  refine wa_istore (L2 := [(4, .int s0), (0, va_rf (some a)), (1, .int x1), (2, .int x2), (3, .int x3)]) X dX11_placed_27 (by decide) (by first | rfl | (show (4, _) :: List.filter (fun q : Nat × Value => !(q.1 == 4) && !(q.1 + 1 == 4 && q.2.category == 2)) _ = _; simp [va_rf_cat, cat_i, cat_l])) ?_
  refine wa_aload_n X 1 dX11_placed_29 rfl ?_
  obtain ⟨h8, hf⟩ := jckT hf
  refine wa_getP X dX11_placed_30 lfX11_122 rfl h8 rfl ?_
  refine wa_iload_n X 3 dX11_placed_33 rfl ?_
  obtain ⟨q9, h10, hf⟩ := jde_some hf
  obtain ⟨h11, hf⟩ := jckT hf
  obtain ⟨h12, hf⟩ := jck_some hf
  refine wa_riald X dX11_placed_34 h10 h11 h12 ?_
  refine wa_iload X 0 dX11_placed_35 rfl ?_
  refine wa_aload_n X 1 dX11_placed_37 rfl ?_
  refine wa_getI X dX11_placed_38 lfX11_188 rfl h8 rfl ?_
  refine wa_iadd X dX11_placed_41 ?_
  refine wa_icle (tgt := 49) X dX11_placed_42 (by decide) (fun h13 => ?_) (fun h13 => ?_)
  · rw [if_pos h13] at hf
    refine wa_iconst (v := (0 : Int32)) X dX11_placed_49 (by decide) ?_
    refine wa_sub (L2 := [(0, va_rf (some a)), (1, .int x1), (2, .int x2), (3, .int x3), (4, .int s0)]) [1, 2, 3, 4, 0] rfl ?_
    exact gX11_placed_b50 X hrec2 a x1 x2 x3 s0 (0 : Int32) μ _ _ _ _ hf (by omega) (by omega)
  · rw [if_neg h13] at hf
    refine wa_iconst (v := (1 : Int32)) X dX11_placed_45 (by decide) ?_
    refine wa_goto (tgt := 50) X dX11_placed_46 (by decide) ?_
    refine wa_sub (L2 := [(0, va_rf (some a)), (1, .int x1), (2, .int x2), (3, .int x3), (4, .int s0)]) [1, 2, 3, 4, 0] rfl ?_
    exact gX11_placed_b50 X hrec2 a x1 x2 x3 s0 (1 : Int32) μ _ _ _ _ hf (by omega) (by omega)
def fX11_placed_b2 : Nat → Nat → Int32 → Int32 → JM → JO (Int32)
  | 0, _, _, _, _ => none
  | fu + 1, a, x1, x2, μ => jck ((jT μ a).1 == 12) <| if (jI μ a 51) ≤ x2 then (some ((-1 : Int32), μ, 0, 0)) else (jde (jP μ a 52) fun q3 => jck ((jT μ q3).1 == 101) <| jck (jin x2 (jT μ q3).2) <| if x1 = 0 then (fX11_placed_b27 (fX11_placed_b2 fu) a x1 x2 (jI μ q3 (x2).toNatClampNeg) (0 : Int32) μ) else (fX11_placed_b27 (fX11_placed_b2 fu) a x1 x2 (jI μ q3 (x2).toNatClampNeg) (7 : Int32) μ))
set_option maxHeartbeats 4000000 in
set_option maxRecDepth 100000 in
theorem gX11_placed_b2 {b : Nat} {Θ : JE} {RC RS : Nat} {r : Int32} {ν : JM} (X : jX b Θ RX11 cX11_placed 8 (some .int) 0 0 RC RS) : ∀ (fu : Nat) (a : Nat) (x1 : Int32) (x2 : Int32) (μ : JM) (c m k n : Nat), fX11_placed_b2 fu a x1 x2 μ = some (r, ν, c, m) → k + c = RC → n + m = RS → WA b Θ 8 (jE b Θ (some (.int r)) ν RC RS) μ k n 2 [(0, va_rf (some a)), (1, .int x1), (2, .int x2)] [] := by
  intro fu
  induction fu with
  | zero => intro a x1 x2 μ c m k n hf; cases hf
  | succ fu ih =>
    intro a x1 x2 μ c m k n hf hk hn
    rw [fX11_placed_b2] at hf
    refine wa_iload_n X 2 dX11_placed_2 rfl ?_
    refine wa_aload_n X 0 dX11_placed_3 rfl ?_
    obtain ⟨h1, hf⟩ := jckT hf
    refine wa_getI X dX11_placed_4 lfX11_373 rfl h1 rfl ?_
    refine wa_icge (tgt := 276) X dX11_placed_7 (by decide) (fun h2 => ?_) (fun h2 => ?_)
    · rw [if_pos h2] at hf
      refine wa_iconst (v := (-1 : Int32)) X dX11_placed_276 (by decide) ?_
      obtain ⟨rfl, rfl, rfl, rfl⟩ := jret hf
      exact wa_iret X dX11_placed_277 rfl (by omega) (by omega)
    · rw [if_neg h2] at hf
      refine wa_aload_n X 0 dX11_placed_10 rfl ?_
      refine wa_getP X dX11_placed_11 lfX11_119 rfl h1 rfl ?_
      refine wa_iload_n X 2 dX11_placed_14 rfl ?_
      obtain ⟨q3, h4, hf⟩ := jde_some hf
      obtain ⟨h5, hf⟩ := jckT hf
      obtain ⟨h6, hf⟩ := jck_some hf
      refine wa_riald X dX11_placed_15 h4 h5 h6 ?_
      refine wa_istore_n (L2 := [(3, .int (jI μ q3 (x2).toNatClampNeg)), (0, va_rf (some a)), (1, .int x1), (2, .int x2)]) X dX11_placed_16 (by decide) (by first | rfl | (show (3, _) :: List.filter (fun q : Nat × Value => !(q.1 == 3) && !(q.1 + 1 == 3 && q.2.category == 2)) _ = _; simp [va_rf_cat, cat_i, cat_l])) ?_
      refine wa_iload_n X 2 dX11_placed_17 rfl ?_
      refine wa_ifeq (tgt := 26) X dX11_placed_18 (by decide) (fun h7 => ?_) (fun h7 => ?_)
      · rw [if_pos h7] at hf
        refine wa_iconst (v := (0 : Int32)) X dX11_placed_26 (by decide) ?_
        refine wa_sub (L2 := [(0, va_rf (some a)), (1, .int x1), (2, .int x2), (3, .int (jI μ q3 (x2).toNatClampNeg))]) [1, 2, 3, 0] rfl ?_
        exact gX11_placed_b27 X ih a x1 x2 (jI μ q3 (x2).toNatClampNeg) (0 : Int32) μ _ _ _ _ hf (by omega) (by omega)
      · rw [if_neg h7] at hf
        refine wa_bipush (v := (7 : Int32)) X dX11_placed_21 (by decide) ?_
        refine wa_goto (tgt := 27) X dX11_placed_23 (by decide) ?_
        refine wa_sub (L2 := [(0, va_rf (some a)), (1, .int x1), (2, .int x2), (3, .int (jI μ q3 (x2).toNatClampNeg))]) [1, 2, 3, 0] rfl ?_
        exact gX11_placed_b27 X ih a x1 x2 (jI μ q3 (x2).toNatClampNeg) (7 : Int32) μ _ _ _ _ hf (by omega) (by omega)
def fX11_placed (a : Nat) (x1 : Int32) (μ : JM) : JO (Int32) := fX11_placed_b2  jfuel a x1 (0 : Int32) μ
set_option maxHeartbeats 4000000 in
set_option maxRecDepth 100000 in
theorem mX11_placed {b : Nat} {a : Nat} {x1 : Int32} {μ : JM} {r : Int32} {ν : JM} {c m : Nat} (hf : fX11_placed a x1 μ = some (r, ν, c, m)) : JMet b yX11_placed cX11_placed 8 (some .int) 0 0 [va_rf (some a), .int x1] μ (some (.int r)) ν c m := by
  refine JMet.of (by decide) (lg_sl_le (by simp only [List.map_cons, List.map_nil, List.sum_cons, List.sum_nil, va_rf_cat]; exact Nat.le_of_ble_eq_true rfl)) (fun Θ X hin => ?_)
  refine wa_eq (L2 := [(0, va_rf (some a)), (1, .int x1)]) ?_ rfl (by first | rfl | simp [lv_args, va_rf_cat, cat_i, cat_l]) rfl
  obtain ⟨k, hk0⟩ : ∃ k : Nat, k = 0 := ⟨0, rfl⟩
  obtain ⟨n, hn0⟩ : ∃ n : Nat, n = 0 := ⟨0, rfl⟩
  have hk : k + c = c := by omega
  have hn : n + m = m := by omega
  refine wa_costs hk0.symm hn0.symm ?_
  rw [fX11_placed] at hf
  refine wa_iconst (v := (0 : Int32)) X dX11_placed_0 (by decide) ?_
  refine wa_istore_n (L2 := [(2, .int (0 : Int32)), (0, va_rf (some a)), (1, .int x1)]) X dX11_placed_1 (by decide) (by first | rfl | (show (2, _) :: List.filter (fun q : Nat × Value => !(q.1 == 2) && !(q.1 + 1 == 2 && q.2.category == 2)) _ = _; simp [va_rf_cat, cat_i, cat_l])) ?_
  refine wa_sub (L2 := [(0, va_rf (some a)), (1, .int x1), (2, .int (0 : Int32))]) [1, 2, 0] rfl ?_
  exact gX11_placed_b2 X jfuel a x1 (0 : Int32) μ _ _ _ _ hf (by omega) (by omega)
theorem dX11_isThere_0 : decode cX11_isThere 0 = .ok (.aload_n 0, 1) := by decide +kernel
theorem dX11_isThere_1 : decode cX11_isThere 1 = .ok (.getfield 376, 3) := by decide +kernel
theorem dX11_isThere_4 : decode cX11_isThere 4 = .ok (.ifCond .ne 5, 3) := by decide +kernel
theorem dX11_isThere_7 : decode cX11_isThere 7 = .ok (.iconst 1, 1) := by decide +kernel
theorem dX11_isThere_8 : decode cX11_isThere 8 = .ok (.ireturn, 1) := by decide +kernel
theorem dX11_isThere_9 : decode cX11_isThere 9 = .ok (.aload_n 0, 1) := by decide +kernel
theorem dX11_isThere_10 : decode cX11_isThere 10 = .ok (.aload_n 0, 1) := by decide +kernel
theorem dX11_isThere_11 : decode cX11_isThere 11 = .ok (.iload_n 1, 1) := by decide +kernel
theorem dX11_isThere_12 : decode cX11_isThere 12 = .ok (.invokevirtual 379, 3) := by decide +kernel
theorem dX11_isThere_15 : decode cX11_isThere 15 = .ok (.putfield 383, 3) := by decide +kernel
theorem dX11_isThere_18 : decode cX11_isThere 18 = .ok (.aload_n 0, 1) := by decide +kernel
theorem dX11_isThere_19 : decode cX11_isThere 19 = .ok (.getfield 383, 3) := by decide +kernel
theorem dX11_isThere_22 : decode cX11_isThere 22 = .ok (.ifCond .lt 7, 3) := by decide +kernel
theorem dX11_isThere_25 : decode cX11_isThere 25 = .ok (.iconst 1, 1) := by decide +kernel
theorem dX11_isThere_26 : decode cX11_isThere 26 = .ok (.goto 4, 3) := by decide +kernel
theorem dX11_isThere_29 : decode cX11_isThere 29 = .ok (.iconst 0, 1) := by decide +kernel
theorem dX11_isThere_30 : decode cX11_isThere 30 = .ok (.ireturn, 1) := by decide +kernel
def fX11_isThere (a : Nat) (x1 : Int32) (μ : JM) : JO (Int32) := jck ((jT μ a).1 == 12) <| if (jI μ a 56) = 0 then (some ((1 : Int32), μ, 0, 0)) else (jcl (fX11_placed a x1 μ) fun r3 μ4 => jck ((jT μ4 a).1 == 12) <| jlt (jsI μ4 a 57 r3) fun μ13 => if (jI μ13 a 57) < 0 then (some ((0 : Int32), μ13, 0, 0)) else (some ((1 : Int32), μ13, 0, 0)))
set_option maxHeartbeats 4000000 in
set_option maxRecDepth 100000 in
theorem mX11_isThere {b : Nat} {a : Nat} {x1 : Int32} {μ : JM} {r : Int32} {ν : JM} {c m : Nat} (hf : fX11_isThere a x1 μ = some (r, ν, c, m)) : JMet b yX11_isThere cX11_isThere 2 (some .boolean) 1 27 [va_rf (some a), .int x1] μ (some (.int r)) ν c m := by
  refine JMet.of (by decide) (lg_sl_le (by simp only [List.map_cons, List.map_nil, List.sum_cons, List.sum_nil, va_rf_cat]; exact Nat.le_of_ble_eq_true rfl)) (fun Θ X hin => ?_)
  refine wa_eq (L2 := [(0, va_rf (some a)), (1, .int x1)]) ?_ rfl (by first | rfl | simp [lv_args, va_rf_cat, cat_i, cat_l]) rfl
  obtain ⟨k, hk0⟩ : ∃ k : Nat, k = 0 := ⟨0, rfl⟩
  obtain ⟨n, hn0⟩ : ∃ n : Nat, n = 0 := ⟨0, rfl⟩
  have hk : k + c = c := by omega
  have hn : n + m = m := by omega
  refine wa_costs hk0.symm hn0.symm ?_
  rw [fX11_isThere] at hf
  refine wa_aload_n X 0 dX11_isThere_0 rfl ?_
  obtain ⟨h1, hf⟩ := jckT hf
  refine wa_getI X dX11_isThere_1 lfX11_376 rfl h1 rfl ?_
  refine wa_ifne (tgt := 9) X dX11_isThere_4 (by decide) (fun h2 => ?_) (fun h2 => ?_)
  · rw [if_neg h2] at hf
    refine wa_aload_n X 0 dX11_isThere_9 rfl ?_
    refine wa_aload_n X 0 dX11_isThere_10 rfl ?_
    refine wa_iload_n X 1 dX11_isThere_11 rfl ?_
    obtain ⟨r3, μ4, c5, m6, c7, m8, e9, hf, h10, h11⟩ := jcl_some hf
    refine wa_rcallV (st2 := [.int r3, va_rf (some a)]) X dX11_isThere_12 lmX11_379 lMX11_placed rfl h1 (mX11_placed e9) rfl rfl rfl (va_cats (Nat.le_of_ble_eq_true rfl)) (by decide) (by omega) (by omega) ?_
    obtain ⟨h12, hf⟩ := jckT hf
    obtain ⟨μ13, hm14, hf⟩ := jlt_e hf
    have e15 : jT μ13 = jT μ4 := by rw [hm14]; rfl
    refine wa_rputI (ν := μ13) X dX11_isThere_15 lfX11_383 rfl h12 rfl rfl hm14 ?_
    refine wa_aload_n X 0 dX11_isThere_18 rfl ?_
    refine wa_getI X dX11_isThere_19 lfX11_383 rfl (by rw [e15]; exact h12) rfl ?_
    refine wa_iflt (tgt := 29) X dX11_isThere_22 (by decide) (fun h16 => ?_) (fun h16 => ?_)
    · rw [if_pos h16] at hf
      refine wa_iconst (v := (0 : Int32)) X dX11_isThere_29 (by decide) ?_
      obtain ⟨rfl, rfl, rfl, rfl⟩ := jret hf
      exact wa_iret X dX11_isThere_30 rfl (by omega) (by omega)
    · rw [if_neg h16] at hf
      refine wa_iconst (v := (1 : Int32)) X dX11_isThere_25 (by decide) ?_
      refine wa_goto (tgt := 30) X dX11_isThere_26 (by decide) ?_
      obtain ⟨rfl, rfl, rfl, rfl⟩ := jret hf
      exact wa_iret X dX11_isThere_30 rfl (by omega) (by omega)
  · rw [if_pos h2] at hf
    refine wa_iconst (v := (1 : Int32)) X dX11_isThere_7 (by decide) ?_
    obtain ⟨rfl, rfl, rfl, rfl⟩ := jret hf
    exact wa_iret X dX11_isThere_8 rfl (by omega) (by omega)
theorem dX11_keepsLabel_0 : decode cX11_keepsLabel 0 = .ok (.aload_n 0, 1) := by decide +kernel
theorem dX11_keepsLabel_1 : decode cX11_keepsLabel 1 = .ok (.getfield 100, 3) := by decide +kernel
theorem dX11_keepsLabel_4 : decode cX11_keepsLabel 4 = .ok (.iload_n 1, 1) := by decide +kernel
theorem dX11_keepsLabel_5 : decode cX11_keepsLabel 5 = .ok (.aload_n 0, 1) := by decide +kernel
theorem dX11_keepsLabel_6 : decode cX11_keepsLabel 6 = .ok (.getfield 188, 3) := by decide +kernel
theorem dX11_keepsLabel_9 : decode cX11_keepsLabel 9 = .ok (.iastore, 1) := by decide +kernel
theorem dX11_keepsLabel_10 : decode cX11_keepsLabel 10 = .ok (.iconst 0, 1) := by decide +kernel
theorem dX11_keepsLabel_11 : decode cX11_keepsLabel 11 = .ok (.istore_n 2, 1) := by decide +kernel
theorem dX11_keepsLabel_12 : decode cX11_keepsLabel 12 = .ok (.iload_n 2, 1) := by decide +kernel
theorem dX11_keepsLabel_13 : decode cX11_keepsLabel 13 = .ok (.aload_n 0, 1) := by decide +kernel
theorem dX11_keepsLabel_14 : decode cX11_keepsLabel 14 = .ok (.getfield 188, 3) := by decide +kernel
theorem dX11_keepsLabel_17 : decode cX11_keepsLabel 17 = .ok (.if_icmp .ge 31, 3) := by decide +kernel
theorem dX11_keepsLabel_20 : decode cX11_keepsLabel 20 = .ok (.aload_n 0, 1) := by decide +kernel
theorem dX11_keepsLabel_21 : decode cX11_keepsLabel 21 = .ok (.getfield 97, 3) := by decide +kernel
theorem dX11_keepsLabel_24 : decode cX11_keepsLabel 24 = .ok (.bipush 12, 2) := by decide +kernel
theorem dX11_keepsLabel_26 : decode cX11_keepsLabel 26 = .ok (.iload_n 1, 1) := by decide +kernel
theorem dX11_keepsLabel_27 : decode cX11_keepsLabel 27 = .ok (.imul, 1) := by decide +kernel
theorem dX11_keepsLabel_28 : decode cX11_keepsLabel 28 = .ok (.iload_n 2, 1) := by decide +kernel
theorem dX11_keepsLabel_29 : decode cX11_keepsLabel 29 = .ok (.iadd, 1) := by decide +kernel
theorem dX11_keepsLabel_30 : decode cX11_keepsLabel 30 = .ok (.aload_n 0, 1) := by decide +kernel
theorem dX11_keepsLabel_31 : decode cX11_keepsLabel 31 = .ok (.getfield 36, 3) := by decide +kernel
theorem dX11_keepsLabel_34 : decode cX11_keepsLabel 34 = .ok (.aload_n 0, 1) := by decide +kernel
theorem dX11_keepsLabel_35 : decode cX11_keepsLabel 35 = .ok (.getfield 185, 3) := by decide +kernel
theorem dX11_keepsLabel_38 : decode cX11_keepsLabel 38 = .ok (.iload_n 2, 1) := by decide +kernel
theorem dX11_keepsLabel_39 : decode cX11_keepsLabel 39 = .ok (.iadd, 1) := by decide +kernel
theorem dX11_keepsLabel_40 : decode cX11_keepsLabel 40 = .ok (.baload, 1) := by decide +kernel
theorem dX11_keepsLabel_41 : decode cX11_keepsLabel 41 = .ok (.bastore, 1) := by decide +kernel
theorem dX11_keepsLabel_42 : decode cX11_keepsLabel 42 = .ok (.iinc 2 1, 3) := by decide +kernel
theorem dX11_keepsLabel_45 : decode cX11_keepsLabel 45 = .ok (.goto (-33), 3) := by decide +kernel
theorem dX11_keepsLabel_48 : decode cX11_keepsLabel 48 = .ok (.return_, 1) := by decide +kernel
def fX11_keepsLabel_b12 : Nat → Nat → Int32 → Int32 → JM → JO (Unit)
  | 0, _, _, _, _ => none
  | fu + 1, a, x1, x2, μ => jck ((jT μ a).1 == 12) <| if (jI μ a 16) ≤ x2 then (some ((), μ, 0, 0)) else (jde (jP μ a 11) fun q11 => jck ((jT μ q11).1 == 100) <| jck (jin ((jI μ a 15) + x2) (jT μ q11).2) <| jde (jP μ a 42) fun q15 => jck ((jT μ q15).1 == 100) <| jck (jin (((12 : Int32) * x1) + x2) (jT μ q15).2) <| jlt (jsI μ q15 ((((12 : Int32) * x1) + x2)).toNatClampNeg (vp_nar .byte (jI μ q11 (((jI μ a 15) + x2)).toNatClampNeg))) fun μ19 => fX11_keepsLabel_b12 fu a x1 (x2 + (1 : Int32)) μ19)
set_option maxHeartbeats 4000000 in
set_option maxRecDepth 100000 in
theorem gX11_keepsLabel_b12 {b : Nat} {Θ : JE} {RC RS : Nat} {r : Unit} {ν : JM} (X : jX b Θ RX11 cX11_keepsLabel 3 none 0 0 RC RS) : ∀ (fu : Nat) (a : Nat) (x1 : Int32) (x2 : Int32) (μ : JM) (c m k n : Nat), fX11_keepsLabel_b12 fu a x1 x2 μ = some (r, ν, c, m) → k + c = RC → n + m = RS → WA b Θ 3 (jE b Θ (none) ν RC RS) μ k n 12 [(0, va_rf (some a)), (1, .int x1), (2, .int x2)] [] := by
  intro fu
  induction fu with
  | zero => intro a x1 x2 μ c m k n hf; cases hf
  | succ fu ih =>
    intro a x1 x2 μ c m k n hf hk hn
    rw [fX11_keepsLabel_b12] at hf
    refine wa_iload_n X 2 dX11_keepsLabel_12 rfl ?_
    refine wa_aload_n X 0 dX11_keepsLabel_13 rfl ?_
    obtain ⟨h9, hf⟩ := jckT hf
    refine wa_getI X dX11_keepsLabel_14 lfX11_188 rfl h9 rfl ?_
    refine wa_icge (tgt := 48) X dX11_keepsLabel_17 (by decide) (fun h10 => ?_) (fun h10 => ?_)
    · rw [if_pos h10] at hf
      obtain ⟨rfl, rfl, rfl, rfl⟩ := jret hf
      exact wa_vret X dX11_keepsLabel_48 (by omega) (by omega)
    · rw [if_neg h10] at hf
      refine wa_aload_n X 0 dX11_keepsLabel_20 rfl ?_
      refine wa_getP X dX11_keepsLabel_21 lfX11_97 rfl h9 rfl ?_
      refine wa_bipush (v := (12 : Int32)) X dX11_keepsLabel_24 (by decide) ?_
      refine wa_iload_n X 1 dX11_keepsLabel_26 rfl ?_
      refine wa_imul X dX11_keepsLabel_27 ?_
      refine wa_iload_n X 2 dX11_keepsLabel_28 rfl ?_
      refine wa_iadd X dX11_keepsLabel_29 ?_
      refine wa_aload_n X 0 dX11_keepsLabel_30 rfl ?_
      refine wa_getP X dX11_keepsLabel_31 lfX11_36 rfl h9 rfl ?_
      refine wa_aload_n X 0 dX11_keepsLabel_34 rfl ?_
      refine wa_getI X dX11_keepsLabel_35 lfX11_185 rfl h9 rfl ?_
      refine wa_iload_n X 2 dX11_keepsLabel_38 rfl ?_
      refine wa_iadd X dX11_keepsLabel_39 ?_
      obtain ⟨q11, h12, hf⟩ := jde_some hf
      obtain ⟨h13, hf⟩ := jckT hf
      obtain ⟨h14, hf⟩ := jck_some hf
      refine wa_rbald X dX11_keepsLabel_40 h12 h13 h14 ?_
      obtain ⟨q15, h16, hf⟩ := jde_some hf
      obtain ⟨h17, hf⟩ := jckT hf
      obtain ⟨h18, hf⟩ := jck_some hf
      obtain ⟨μ19, hm20, hf⟩ := jlt_e hf
      have e21 : jT μ19 = jT μ := by rw [hm20]; rfl
      refine wa_rbast (ν := μ19) X dX11_keepsLabel_41 h16 h17 h18 hm20 ?_
      refine wa_iinc (v := (x2 + (1 : Int32))) (L2 := [(2, .int (x2 + (1 : Int32))), (0, va_rf (some a)), (1, .int x1)]) X 2 dX11_keepsLabel_42 rfl rfl (by decide) (by first | rfl | simp [va_rf_cat, cat_i, cat_l]) ?_
      refine wa_goto (tgt := 12) X dX11_keepsLabel_45 (by decide) ?_
      refine wa_sub (L2 := [(0, va_rf (some a)), (1, .int x1), (2, .int (x2 + (1 : Int32)))]) [1, 2, 0] rfl ?_
      exact ih a x1 (x2 + (1 : Int32)) μ19 _ _ _ _ hf (by omega) (by omega)
def fX11_keepsLabel (a : Nat) (x1 : Int32) (μ : JM) : JO (Unit) := jck ((jT μ a).1 == 12) <| jde (jP μ a 43) fun q2 => jck ((jT μ q2).1 == 101) <| jck (jin x1 (jT μ q2).2) <| jlt (jsI μ q2 (x1).toNatClampNeg (jI μ a 16)) fun μ6 => fX11_keepsLabel_b12  jfuel a x1 (0 : Int32) μ6
set_option maxHeartbeats 4000000 in
set_option maxRecDepth 100000 in
theorem mX11_keepsLabel {b : Nat} {a : Nat} {x1 : Int32} {μ : JM} {r : Unit} {ν : JM} {c m : Nat} (hf : fX11_keepsLabel a x1 μ = some (r, ν, c, m)) : JMet b yX11_keepsLabel cX11_keepsLabel 3 none 0 0 [va_rf (some a), .int x1] μ (none) ν c m := by
  refine JMet.of (by decide) (lg_sl_le (by simp only [List.map_cons, List.map_nil, List.sum_cons, List.sum_nil, va_rf_cat]; exact Nat.le_of_ble_eq_true rfl)) (fun Θ X hin => ?_)
  refine wa_eq (L2 := [(0, va_rf (some a)), (1, .int x1)]) ?_ rfl (by first | rfl | simp [lv_args, va_rf_cat, cat_i, cat_l]) rfl
  obtain ⟨k, hk0⟩ : ∃ k : Nat, k = 0 := ⟨0, rfl⟩
  obtain ⟨n, hn0⟩ : ∃ n : Nat, n = 0 := ⟨0, rfl⟩
  have hk : k + c = c := by omega
  have hn : n + m = m := by omega
  refine wa_costs hk0.symm hn0.symm ?_
  rw [fX11_keepsLabel] at hf
  refine wa_aload_n X 0 dX11_keepsLabel_0 rfl ?_
  obtain ⟨h1, hf⟩ := jckT hf
  refine wa_getP X dX11_keepsLabel_1 lfX11_100 rfl h1 rfl ?_
  refine wa_iload_n X 1 dX11_keepsLabel_4 rfl ?_
  refine wa_aload_n X 0 dX11_keepsLabel_5 rfl ?_
  refine wa_getI X dX11_keepsLabel_6 lfX11_188 rfl h1 rfl ?_
  obtain ⟨q2, h3, hf⟩ := jde_some hf
  obtain ⟨h4, hf⟩ := jckT hf
  obtain ⟨h5, hf⟩ := jck_some hf
  obtain ⟨μ6, hm7, hf⟩ := jlt_e hf
  have e8 : jT μ6 = jT μ := by rw [hm7]; rfl
  refine wa_riast (ν := μ6) X dX11_keepsLabel_9 h3 h4 h5 hm7 ?_
  refine wa_iconst (v := (0 : Int32)) X dX11_keepsLabel_10 (by decide) ?_
  refine wa_istore_n (L2 := [(2, .int (0 : Int32)), (0, va_rf (some a)), (1, .int x1)]) X dX11_keepsLabel_11 (by decide) (by first | rfl | (show (2, _) :: List.filter (fun q : Nat × Value => !(q.1 == 2) && !(q.1 + 1 == 2 && q.2.category == 2)) _ = _; simp [va_rf_cat, cat_i, cat_l])) ?_
  refine wa_sub (L2 := [(0, va_rf (some a)), (1, .int x1), (2, .int (0 : Int32))]) [1, 2, 0] rfl ?_
  exact gX11_keepsLabel_b12 X jfuel a x1 (0 : Int32) μ6 _ _ _ _ hf (by omega) (by omega)
theorem dX11_defines_0 : decode cX11_defines 0 = .ok (.aload_n 0, 1) := by decide +kernel
theorem dX11_defines_1 : decode cX11_defines 1 = .ok (.invokevirtual 255, 3) := by decide +kernel
theorem dX11_defines_4 : decode cX11_defines 4 = .ok (.ifCond .eq 10, 3) := by decide +kernel
theorem dX11_defines_7 : decode cX11_defines 7 = .ok (.aload_n 0, 1) := by decide +kernel
theorem dX11_defines_8 : decode cX11_defines 8 = .ok (.invokevirtual 267, 3) := by decide +kernel
theorem dX11_defines_11 : decode cX11_defines 11 = .ok (.ifCond .ne 5, 3) := by decide +kernel
theorem dX11_defines_14 : decode cX11_defines 14 = .ok (.iconst 0, 1) := by decide +kernel
theorem dX11_defines_15 : decode cX11_defines 15 = .ok (.ireturn, 1) := by decide +kernel
theorem dX11_defines_16 : decode cX11_defines 16 = .ok (.aload_n 0, 1) := by decide +kernel
theorem dX11_defines_17 : decode cX11_defines 17 = .ok (.getfield 280, 3) := by decide +kernel
theorem dX11_defines_20 : decode cX11_defines 20 = .ok (.ifCond .eq 51, 3) := by decide +kernel
theorem dX11_defines_23 : decode cX11_defines 23 = .ok (.aload_n 0, 1) := by decide +kernel
theorem dX11_defines_24 : decode cX11_defines 24 = .ok (.aload_n 0, 1) := by decide +kernel
theorem dX11_defines_25 : decode cX11_defines 25 = .ok (.getfield 17, 3) := by decide +kernel
theorem dX11_defines_28 : decode cX11_defines 28 = .ok (.aload_n 0, 1) := by decide +kernel
theorem dX11_defines_29 : decode cX11_defines 29 = .ok (.getfield 20, 3) := by decide +kernel
theorem dX11_defines_32 : decode cX11_defines 32 = .ok (.aload_n 0, 1) := by decide +kernel
theorem dX11_defines_33 : decode cX11_defines 33 = .ok (.getfield 13, 3) := by decide +kernel
theorem dX11_defines_36 : decode cX11_defines 36 = .ok (.invokevirtual 270, 3) := by decide +kernel
theorem dX11_defines_39 : decode cX11_defines 39 = .ok (.ifCond .ge 22, 3) := by decide +kernel
theorem dX11_defines_42 : decode cX11_defines 42 = .ok (.aload_n 0, 1) := by decide +kernel
theorem dX11_defines_43 : decode cX11_defines 43 = .ok (.aload_n 0, 1) := by decide +kernel
theorem dX11_defines_44 : decode cX11_defines 44 = .ok (.getfield 64, 3) := by decide +kernel
theorem dX11_defines_47 : decode cX11_defines 47 = .ok (.aload_n 0, 1) := by decide +kernel
theorem dX11_defines_48 : decode cX11_defines 48 = .ok (.getfield 67, 3) := by decide +kernel
theorem dX11_defines_51 : decode cX11_defines 51 = .ok (.aload_n 0, 1) := by decide +kernel
theorem dX11_defines_52 : decode cX11_defines 52 = .ok (.getfield 284, 3) := by decide +kernel
theorem dX11_defines_55 : decode cX11_defines 55 = .ok (.invokevirtual 270, 3) := by decide +kernel
theorem dX11_defines_58 : decode cX11_defines 58 = .ok (.ifCond .lt 13, 3) := by decide +kernel
theorem dX11_defines_61 : decode cX11_defines 61 = .ok (.aload_n 0, 1) := by decide +kernel
theorem dX11_defines_62 : decode cX11_defines 62 = .ok (.iconst 2, 1) := by decide +kernel
theorem dX11_defines_63 : decode cX11_defines 63 = .ok (.aload_n 0, 1) := by decide +kernel
theorem dX11_defines_64 : decode cX11_defines 64 = .ok (.getfield 185, 3) := by decide +kernel
theorem dX11_defines_67 : decode cX11_defines 67 = .ok (.invokevirtual 201, 3) := by decide +kernel
theorem dX11_defines_70 : decode cX11_defines 70 = .ok (.ireturn, 1) := by decide +kernel
theorem dX11_defines_71 : decode cX11_defines 71 = .ok (.aload_n 0, 1) := by decide +kernel
theorem dX11_defines_72 : decode cX11_defines 72 = .ok (.iconst 1, 1) := by decide +kernel
theorem dX11_defines_73 : decode cX11_defines 73 = .ok (.invokevirtual 305, 3) := by decide +kernel
theorem dX11_defines_76 : decode cX11_defines 76 = .ok (.ifCond .ne 13, 3) := by decide +kernel
theorem dX11_defines_79 : decode cX11_defines 79 = .ok (.aload_n 0, 1) := by decide +kernel
theorem dX11_defines_80 : decode cX11_defines 80 = .ok (.iconst 3, 1) := by decide +kernel
theorem dX11_defines_81 : decode cX11_defines 81 = .ok (.aload_n 0, 1) := by decide +kernel
theorem dX11_defines_82 : decode cX11_defines 82 = .ok (.getfield 185, 3) := by decide +kernel
theorem dX11_defines_85 : decode cX11_defines 85 = .ok (.invokevirtual 201, 3) := by decide +kernel
theorem dX11_defines_88 : decode cX11_defines 88 = .ok (.ireturn, 1) := by decide +kernel
theorem dX11_defines_89 : decode cX11_defines 89 = .ok (.aload_n 0, 1) := by decide +kernel
theorem dX11_defines_90 : decode cX11_defines 90 = .ok (.getfield 76, 3) := by decide +kernel
theorem dX11_defines_93 : decode cX11_defines 93 = .ok (.iload_n 1, 1) := by decide +kernel
theorem dX11_defines_94 : decode cX11_defines 94 = .ok (.iconst 0, 1) := by decide +kernel
theorem dX11_defines_95 : decode cX11_defines 95 = .ok (.iastore, 1) := by decide +kernel
theorem dX11_defines_96 : decode cX11_defines 96 = .ok (.aload_n 0, 1) := by decide +kernel
theorem dX11_defines_97 : decode cX11_defines 97 = .ok (.iload_n 1, 1) := by decide +kernel
theorem dX11_defines_98 : decode cX11_defines 98 = .ok (.invokevirtual 309, 3) := by decide +kernel
theorem dX11_defines_101 : decode cX11_defines 101 = .ok (.aload_n 0, 1) := by decide +kernel
theorem dX11_defines_102 : decode cX11_defines 102 = .ok (.aload_n 0, 1) := by decide +kernel
theorem dX11_defines_103 : decode cX11_defines 103 = .ok (.getfield 64, 3) := by decide +kernel
theorem dX11_defines_106 : decode cX11_defines 106 = .ok (.aload_n 0, 1) := by decide +kernel
theorem dX11_defines_107 : decode cX11_defines 107 = .ok (.getfield 67, 3) := by decide +kernel
theorem dX11_defines_110 : decode cX11_defines 110 = .ok (.aload_n 0, 1) := by decide +kernel
theorem dX11_defines_111 : decode cX11_defines 111 = .ok (.getfield 284, 3) := by decide +kernel
theorem dX11_defines_114 : decode cX11_defines 114 = .ok (.invokevirtual 274, 3) := by decide +kernel
theorem dX11_defines_117 : decode cX11_defines 117 = .ok (.aload_n 0, 1) := by decide +kernel
theorem dX11_defines_118 : decode cX11_defines 118 = .ok (.invokevirtual 255, 3) := by decide +kernel
theorem dX11_defines_121 : decode cX11_defines 121 = .ok (.ifCond .eq 20, 3) := by decide +kernel
theorem dX11_defines_124 : decode cX11_defines 124 = .ok (.aload_n 0, 1) := by decide +kernel
theorem dX11_defines_125 : decode cX11_defines 125 = .ok (.ldc2_w 221, 3) := by decide +kernel
theorem dX11_defines_128 : decode cX11_defines 128 = .ok (.invokevirtual 312, 3) := by decide +kernel
theorem dX11_defines_131 : decode cX11_defines 131 = .ok (.ifCond .eq 10, 3) := by decide +kernel
theorem dX11_defines_134 : decode cX11_defines 134 = .ok (.aload_n 0, 1) := by decide +kernel
theorem dX11_defines_135 : decode cX11_defines 135 = .ok (.invokevirtual 315, 3) := by decide +kernel
theorem dX11_defines_138 : decode cX11_defines 138 = .ok (.ifCond .ne 5, 3) := by decide +kernel
theorem dX11_defines_141 : decode cX11_defines 141 = .ok (.iconst 0, 1) := by decide +kernel
theorem dX11_defines_142 : decode cX11_defines 142 = .ok (.ireturn, 1) := by decide +kernel
theorem dX11_defines_143 : decode cX11_defines 143 = .ok (.iconst 0, 1) := by decide +kernel
theorem dX11_defines_144 : decode cX11_defines 144 = .ok (.istore_n 2, 1) := by decide +kernel
theorem dX11_defines_145 : decode cX11_defines 145 = .ok (.iload_n 2, 1) := by decide +kernel
theorem dX11_defines_146 : decode cX11_defines 146 = .ok (.iconst 4, 1) := by decide +kernel
theorem dX11_defines_147 : decode cX11_defines 147 = .ok (.if_icmp .ge 44, 3) := by decide +kernel
theorem dX11_defines_150 : decode cX11_defines 150 = .ok (.aload_n 0, 1) := by decide +kernel
theorem dX11_defines_151 : decode cX11_defines 151 = .ok (.getfield 70, 3) := by decide +kernel
theorem dX11_defines_154 : decode cX11_defines 154 = .ok (.iconst 4, 1) := by decide +kernel
theorem dX11_defines_155 : decode cX11_defines 155 = .ok (.aload_n 0, 1) := by decide +kernel
theorem dX11_defines_156 : decode cX11_defines 156 = .ok (.getfield 284, 3) := by decide +kernel
theorem dX11_defines_159 : decode cX11_defines 159 = .ok (.imul, 1) := by decide +kernel
theorem dX11_defines_160 : decode cX11_defines 160 = .ok (.iload_n 2, 1) := by decide +kernel
theorem dX11_defines_161 : decode cX11_defines 161 = .ok (.iadd, 1) := by decide +kernel
theorem dX11_defines_162 : decode cX11_defines 162 = .ok (.aload_n 0, 1) := by decide +kernel
theorem dX11_defines_163 : decode cX11_defines 163 = .ok (.getfield 61, 3) := by decide +kernel
theorem dX11_defines_166 : decode cX11_defines 166 = .ok (.iload_n 2, 1) := by decide +kernel
theorem dX11_defines_167 : decode cX11_defines 167 = .ok (.laload, 1) := by decide +kernel
theorem dX11_defines_168 : decode cX11_defines 168 = .ok (.lastore, 1) := by decide +kernel
theorem dX11_defines_169 : decode cX11_defines 169 = .ok (.aload_n 0, 1) := by decide +kernel
theorem dX11_defines_170 : decode cX11_defines 170 = .ok (.getfield 103, 3) := by decide +kernel
theorem dX11_defines_173 : decode cX11_defines 173 = .ok (.iconst 4, 1) := by decide +kernel
theorem dX11_defines_174 : decode cX11_defines 174 = .ok (.iload_n 1, 1) := by decide +kernel
theorem dX11_defines_175 : decode cX11_defines 175 = .ok (.imul, 1) := by decide +kernel
theorem dX11_defines_176 : decode cX11_defines 176 = .ok (.iload_n 2, 1) := by decide +kernel
theorem dX11_defines_177 : decode cX11_defines 177 = .ok (.iadd, 1) := by decide +kernel
theorem dX11_defines_178 : decode cX11_defines 178 = .ok (.aload_n 0, 1) := by decide +kernel
theorem dX11_defines_179 : decode cX11_defines 179 = .ok (.getfield 61, 3) := by decide +kernel
theorem dX11_defines_182 : decode cX11_defines 182 = .ok (.iload_n 2, 1) := by decide +kernel
theorem dX11_defines_183 : decode cX11_defines 183 = .ok (.laload, 1) := by decide +kernel
theorem dX11_defines_184 : decode cX11_defines 184 = .ok (.lastore, 1) := by decide +kernel
theorem dX11_defines_185 : decode cX11_defines 185 = .ok (.iinc 2 1, 3) := by decide +kernel
theorem dX11_defines_188 : decode cX11_defines 188 = .ok (.goto (-43), 3) := by decide +kernel
theorem dX11_defines_191 : decode cX11_defines 191 = .ok (.aload_n 0, 1) := by decide +kernel
theorem dX11_defines_192 : decode cX11_defines 192 = .ok (.dup, 1) := by decide +kernel
theorem dX11_defines_193 : decode cX11_defines 193 = .ok (.getfield 284, 3) := by decide +kernel
theorem dX11_defines_196 : decode cX11_defines 196 = .ok (.aload_n 0, 1) := by decide +kernel
theorem dX11_defines_197 : decode cX11_defines 197 = .ok (.getfield 280, 3) := by decide +kernel
theorem dX11_defines_200 : decode cX11_defines 200 = .ok (.ifCond .eq 7, 3) := by decide +kernel
theorem dX11_defines_203 : decode cX11_defines 203 = .ok (.iconst 1, 1) := by decide +kernel
theorem dX11_defines_204 : decode cX11_defines 204 = .ok (.goto 4, 3) := by decide +kernel
theorem dX11_defines_207 : decode cX11_defines 207 = .ok (.iconst 0, 1) := by decide +kernel
theorem dX11_defines_208 : decode cX11_defines 208 = .ok (.iadd, 1) := by decide +kernel
theorem dX11_defines_209 : decode cX11_defines 209 = .ok (.putfield 284, 3) := by decide +kernel
theorem dX11_defines_212 : decode cX11_defines 212 = .ok (.iconst 1, 1) := by decide +kernel
theorem dX11_defines_213 : decode cX11_defines 213 = .ok (.ireturn, 1) := by decide +kernel
def fX11_defines_b61 (a : Nat) (μ : JM) : JO (Int32) := jck ((jT μ a).1 == 12) <| jcl (fX11_fails a (2 : Int32) (jI μ a 15) μ) fun r47 μ48 => jck (jbl r47) <| some (r47, μ48, 0, 0)
set_option maxHeartbeats 4000000 in
set_option maxRecDepth 100000 in
theorem gX11_defines_b61 {b : Nat} {Θ : JE} {RC RS : Nat} {r : Int32} {ν : JM} (X : jX b Θ RX11 cX11_defines 3 (some .boolean) 5 113 RC RS) (a : Nat) (μ : JM) (c m k n : Nat) (hf : fX11_defines_b61 a μ = some (r, ν, c, m)) (hk : k + c = RC) (hn : n + m = RS) : WA b Θ 3 (jE b Θ (some (.int r)) ν RC RS) μ k n 61 [(0, va_rf (some a))] [] := by
  rw [fX11_defines_b61] at hf
  refine wa_aload_n X 0 dX11_defines_61 rfl ?_
  refine wa_iconst (v := (2 : Int32)) X dX11_defines_62 (by decide) ?_
  refine wa_aload_n X 0 dX11_defines_63 rfl ?_
  obtain ⟨h46, hf⟩ := jckT hf
  refine wa_getI X dX11_defines_64 lfX11_185 rfl h46 rfl ?_
  obtain ⟨r47, μ48, c49, m50, c51, m52, e53, hf, h54, h55⟩ := jcl_some hf
  refine wa_rcallV (st2 := [.int r47]) X dX11_defines_67 lmX11_201 lMX11_fails rfl h46 (mX11_fails e53) rfl rfl rfl (va_cats (Nat.le_of_ble_eq_true rfl)) (by decide) (by omega) (by omega) ?_
  obtain ⟨h56, hf⟩ := jck_some hf
  obtain ⟨rfl, rfl, rfl, rfl⟩ := jret hf
  exact wa_iret X dX11_defines_70 (jbl_nar h56) (by omega) (by omega)
def fX11_defines_b145 : Nat → Nat → Int32 → Int32 → JM → JO (Int32)
  | 0, _, _, _, _ => none
  | fu + 1, a, x1, x2, μ => if (4 : Int32) ≤ x2 then (jck ((jT μ a).1 == 12) <| if (jI μ a 33) = 0 then (jlt (jsI μ a 29 ((jI μ a 29) + (0 : Int32))) fun μ142 => some ((1 : Int32), μ142, 0, 0)) else (jlt (jsI μ a 29 ((jI μ a 29) + (1 : Int32))) fun μ145 => some ((1 : Int32), μ145, 0, 0))) else (jck ((jT μ a).1 == 12) <| jde (jP μ a 28) fun q149 => jck ((jT μ q149).1 == 102) <| jck (jin x2 (jT μ q149).2) <| jde (jP μ a 32) fun q153 => jck ((jT μ q153).1 == 102) <| jck (jin (((4 : Int32) * (jI μ a 29)) + x2) (jT μ q153).2) <| jlt (jsJ μ q153 ((((4 : Int32) * (jI μ a 29)) + x2)).toNatClampNeg (jJ μ q149 (x2).toNatClampNeg)) fun μ157 => jde (jP μ157 a 28) fun q160 => jck ((jT μ q160).1 == 102) <| jck (jin x2 (jT μ q160).2) <| jde (jP μ157 a 44) fun q164 => jck ((jT μ q164).1 == 102) <| jck (jin (((4 : Int32) * x1) + x2) (jT μ q164).2) <| jlt (jsJ μ157 q164 ((((4 : Int32) * x1) + x2)).toNatClampNeg (jJ μ157 q160 (x2).toNatClampNeg)) fun μ168 => fX11_defines_b145 fu a x1 (x2 + (1 : Int32)) μ168)
set_option maxHeartbeats 4000000 in
set_option maxRecDepth 100000 in
theorem gX11_defines_b145 {b : Nat} {Θ : JE} {RC RS : Nat} {r : Int32} {ν : JM} (X : jX b Θ RX11 cX11_defines 3 (some .boolean) 5 113 RC RS) : ∀ (fu : Nat) (a : Nat) (x1 : Int32) (x2 : Int32) (μ : JM) (c m k n : Nat), fX11_defines_b145 fu a x1 x2 μ = some (r, ν, c, m) → k + c = RC → n + m = RS → WA b Θ 3 (jE b Θ (some (.int r)) ν RC RS) μ k n 145 [(0, va_rf (some a)), (1, .int x1), (2, .int x2)] [] := by
  intro fu
  induction fu with
  | zero => intro a x1 x2 μ c m k n hf; cases hf
  | succ fu ih =>
    intro a x1 x2 μ c m k n hf hk hn
    rw [fX11_defines_b145] at hf
    refine wa_iload_n X 2 dX11_defines_145 rfl ?_
    refine wa_iconst (v := (4 : Int32)) X dX11_defines_146 (by decide) ?_
    refine wa_icge (tgt := 191) X dX11_defines_147 (by decide) (fun h139 => ?_) (fun h139 => ?_)
    · rw [if_pos h139] at hf
      refine wa_aload_n X 0 dX11_defines_191 rfl ?_
      refine wa_dup X dX11_defines_192 (va_rf_cat _) ?_
      obtain ⟨h140, hf⟩ := jckT hf
      refine wa_getI X dX11_defines_193 lfX11_284 rfl h140 rfl ?_
      refine wa_aload_n X 0 dX11_defines_196 rfl ?_
      refine wa_getI X dX11_defines_197 lfX11_280 rfl h140 rfl ?_
      refine wa_ifeq (tgt := 207) X dX11_defines_200 (by decide) (fun h141 => ?_) (fun h141 => ?_)
      · rw [if_pos h141] at hf
        refine wa_iconst (v := (0 : Int32)) X dX11_defines_207 (by decide) ?_
        refine wa_iadd X dX11_defines_208 ?_
        obtain ⟨μ142, hm143, hf⟩ := jlt_e hf
        have e144 : jT μ142 = jT μ := by rw [hm143]; rfl
        refine wa_rputI (ν := μ142) X dX11_defines_209 lfX11_284 rfl h140 rfl rfl hm143 ?_
        refine wa_iconst (v := (1 : Int32)) X dX11_defines_212 (by decide) ?_
        obtain ⟨rfl, rfl, rfl, rfl⟩ := jret hf
        exact wa_iret X dX11_defines_213 rfl (by omega) (by omega)
      · rw [if_neg h141] at hf
        refine wa_iconst (v := (1 : Int32)) X dX11_defines_203 (by decide) ?_
        refine wa_goto (tgt := 208) X dX11_defines_204 (by decide) ?_
        refine wa_iadd X dX11_defines_208 ?_
        obtain ⟨μ145, hm146, hf⟩ := jlt_e hf
        have e147 : jT μ145 = jT μ := by rw [hm146]; rfl
        refine wa_rputI (ν := μ145) X dX11_defines_209 lfX11_284 rfl h140 rfl rfl hm146 ?_
        refine wa_iconst (v := (1 : Int32)) X dX11_defines_212 (by decide) ?_
        obtain ⟨rfl, rfl, rfl, rfl⟩ := jret hf
        exact wa_iret X dX11_defines_213 rfl (by omega) (by omega)
    · rw [if_neg h139] at hf
      refine wa_aload_n X 0 dX11_defines_150 rfl ?_
      obtain ⟨h148, hf⟩ := jckT hf
      refine wa_getP X dX11_defines_151 lfX11_70 rfl h148 rfl ?_
      refine wa_iconst (v := (4 : Int32)) X dX11_defines_154 (by decide) ?_
      refine wa_aload_n X 0 dX11_defines_155 rfl ?_
      refine wa_getI X dX11_defines_156 lfX11_284 rfl h148 rfl ?_
      refine wa_imul X dX11_defines_159 ?_
      refine wa_iload_n X 2 dX11_defines_160 rfl ?_
      refine wa_iadd X dX11_defines_161 ?_
      refine wa_aload_n X 0 dX11_defines_162 rfl ?_
      refine wa_getP X dX11_defines_163 lfX11_61 rfl h148 rfl ?_
      refine wa_iload_n X 2 dX11_defines_166 rfl ?_
      obtain ⟨q149, h150, hf⟩ := jde_some hf
      obtain ⟨h151, hf⟩ := jckT hf
      obtain ⟨h152, hf⟩ := jck_some hf
      refine wa_rlald X dX11_defines_167 h150 h151 h152 ?_
      obtain ⟨q153, h154, hf⟩ := jde_some hf
      obtain ⟨h155, hf⟩ := jckT hf
      obtain ⟨h156, hf⟩ := jck_some hf
      obtain ⟨μ157, hm158, hf⟩ := jlt_e hf
      have e159 : jT μ157 = jT μ := by rw [hm158]; rfl
      refine wa_rlast (ν := μ157) X dX11_defines_168 h154 h155 h156 hm158 ?_
      refine wa_aload_n X 0 dX11_defines_169 rfl ?_
      refine wa_getP X dX11_defines_170 lfX11_103 rfl (by rw [e159]; exact h148) rfl ?_
      refine wa_iconst (v := (4 : Int32)) X dX11_defines_173 (by decide) ?_
      refine wa_iload_n X 1 dX11_defines_174 rfl ?_
      refine wa_imul X dX11_defines_175 ?_
      refine wa_iload_n X 2 dX11_defines_176 rfl ?_
      refine wa_iadd X dX11_defines_177 ?_
      refine wa_aload_n X 0 dX11_defines_178 rfl ?_
      refine wa_getP X dX11_defines_179 lfX11_61 rfl (by rw [e159]; exact h148) rfl ?_
      refine wa_iload_n X 2 dX11_defines_182 rfl ?_
      obtain ⟨q160, h161, hf⟩ := jde_some hf
      obtain ⟨h162, hf⟩ := jckT hf
      obtain ⟨h163, hf⟩ := jck_some hf
      refine wa_rlald X dX11_defines_183 h161 (by rw [e159]; exact h162) (by rw [e159]; exact h163) ?_
      obtain ⟨q164, h165, hf⟩ := jde_some hf
      obtain ⟨h166, hf⟩ := jckT hf
      obtain ⟨h167, hf⟩ := jck_some hf
      obtain ⟨μ168, hm169, hf⟩ := jlt_e hf
      have e170 : jT μ168 = jT μ := by rw [hm169]; exact e159
      refine wa_rlast (ν := μ168) X dX11_defines_184 h165 (by rw [e159]; exact h166) (by rw [e159]; exact h167) hm169 ?_
      refine wa_iinc (v := (x2 + (1 : Int32))) (L2 := [(2, .int (x2 + (1 : Int32))), (0, va_rf (some a)), (1, .int x1)]) X 2 dX11_defines_185 rfl rfl (by decide) (by first | rfl | simp [va_rf_cat, cat_i, cat_l]) ?_
      refine wa_goto (tgt := 145) X dX11_defines_188 (by decide) ?_
      refine wa_sub (L2 := [(0, va_rf (some a)), (1, .int x1), (2, .int (x2 + (1 : Int32)))]) [1, 2, 0] rfl ?_
      exact ih a x1 (x2 + (1 : Int32)) μ168 _ _ _ _ hf (by omega) (by omega)
def fX11_defines_b71 (a : Nat) (x1 : Int32) (μ : JM) : JO (Int32) := jck ((jT μ a).1 == 12) <| jcl (fX11_isThere a (1 : Int32) μ) fun r58 μ59 => if r58 = 0 then (jck ((jT μ59 a).1 == 12) <| jcl (fX11_fails a (3 : Int32) (jI μ59 a 15) μ59) fun r129 μ130 => jck (jbl r129) <| some (r129, μ130, 0, 0)) else (jck ((jT μ59 a).1 == 12) <| jde (jP μ59 a 35) fun q69 => jck ((jT μ59 q69).1 == 101) <| jck (jin x1 (jT μ59 q69).2) <| jlt (jsI μ59 q69 (x1).toNatClampNeg (0 : Int32)) fun μ73 => jcl (fX11_keepsLabel a x1 μ73) fun u76 μ77 => jck ((jT μ77 a).1 == 12) <| jcl (fX11_name a (jP μ77 a 30) (jP μ77 a 31) (jI μ77 a 29) μ77) fun u86 μ87 => jck ((jT μ87 a).1 == 12) <| jcl (fX11_takes a μ87) fun r96 μ97 => if r96 = 0 then (some ((0 : Int32), μ97, 0, 0)) else (jck ((jT μ97 a).1 == 12) <| jcl (fX11_expects a (51 : Int64) μ97) fun r107 μ108 => if r107 = 0 then (some ((0 : Int32), μ108, 0, 0)) else (jck ((jT μ108 a).1 == 12) <| jcl (fX11_condition a μ108) fun r118 μ119 => if r118 = 0 then (some ((0 : Int32), μ119, 0, 0)) else (fX11_defines_b145  jfuel a x1 (0 : Int32) μ119))))
set_option maxHeartbeats 4000000 in
set_option maxRecDepth 100000 in
theorem gX11_defines_b71 {b : Nat} {Θ : JE} {RC RS : Nat} {r : Int32} {ν : JM} (X : jX b Θ RX11 cX11_defines 3 (some .boolean) 5 113 RC RS) (a : Nat) (x1 : Int32) (μ : JM) (c m k n : Nat) (hf : fX11_defines_b71 a x1 μ = some (r, ν, c, m)) (hk : k + c = RC) (hn : n + m = RS) : WA b Θ 3 (jE b Θ (some (.int r)) ν RC RS) μ k n 71 [(0, va_rf (some a)), (1, .int x1)] [] := by
  rw [fX11_defines_b71] at hf
  refine wa_aload_n X 0 dX11_defines_71 rfl ?_
  refine wa_iconst (v := (1 : Int32)) X dX11_defines_72 (by decide) ?_
  obtain ⟨h57, hf⟩ := jckT hf
  obtain ⟨r58, μ59, c60, m61, c62, m63, e64, hf, h65, h66⟩ := jcl_some hf
  refine wa_rcallV (st2 := [.int r58]) X dX11_defines_73 lmX11_305 lMX11_isThere rfl h57 (mX11_isThere e64) rfl rfl rfl (va_cats (Nat.le_of_ble_eq_true rfl)) (by decide) (by omega) (by omega) ?_
  refine wa_ifne (tgt := 89) X dX11_defines_76 (by decide) (fun h67 => ?_) (fun h67 => ?_)
  · rw [if_neg h67] at hf
    refine wa_aload_n X 0 dX11_defines_89 rfl ?_
    obtain ⟨h68, hf⟩ := jckT hf
    refine wa_getP X dX11_defines_90 lfX11_76 rfl h68 rfl ?_
    refine wa_iload_n X 1 dX11_defines_93 rfl ?_
    refine wa_iconst (v := (0 : Int32)) X dX11_defines_94 (by decide) ?_
    obtain ⟨q69, h70, hf⟩ := jde_some hf
    obtain ⟨h71, hf⟩ := jckT hf
    obtain ⟨h72, hf⟩ := jck_some hf
    obtain ⟨μ73, hm74, hf⟩ := jlt_e hf
    have e75 : jT μ73 = jT μ59 := by rw [hm74]; rfl
    refine wa_riast (ν := μ73) X dX11_defines_95 h70 h71 h72 hm74 ?_
    refine wa_aload_n X 0 dX11_defines_96 rfl ?_
    refine wa_iload_n X 1 dX11_defines_97 rfl ?_
    obtain ⟨u76, μ77, c78, m79, c80, m81, e82, hf, h83, h84⟩ := jcl_some hf
    refine wa_rcallV (st2 := []) X dX11_defines_98 lmX11_309 lMX11_keepsLabel rfl (by rw [e75]; exact h68) (mX11_keepsLabel e82) rfl rfl rfl (va_cats (Nat.le_of_ble_eq_true rfl)) (by decide) (by omega) (by omega) ?_
    refine wa_aload_n X 0 dX11_defines_101 rfl ?_
    refine wa_aload_n X 0 dX11_defines_102 rfl ?_
    obtain ⟨h85, hf⟩ := jckT hf
    refine wa_getP X dX11_defines_103 lfX11_64 rfl h85 rfl ?_
    refine wa_aload_n X 0 dX11_defines_106 rfl ?_
    refine wa_getP X dX11_defines_107 lfX11_67 rfl h85 rfl ?_
    refine wa_aload_n X 0 dX11_defines_110 rfl ?_
    refine wa_getI X dX11_defines_111 lfX11_284 rfl h85 rfl ?_
    obtain ⟨u86, μ87, c88, m89, c90, m91, e92, hf, h93, h94⟩ := jcl_some hf
    refine wa_rcallV (st2 := []) X dX11_defines_114 lmX11_274 lMX11_name rfl h85 (mX11_name e92) rfl rfl rfl (va_cats (Nat.le_of_ble_eq_true rfl)) (by decide) (by omega) (by omega) ?_
    refine wa_aload_n X 0 dX11_defines_117 rfl ?_
    obtain ⟨h95, hf⟩ := jckT hf
    obtain ⟨r96, μ97, c98, m99, c100, m101, e102, hf, h103, h104⟩ := jcl_some hf
    refine wa_rcallV (st2 := [.int r96]) X dX11_defines_118 lmX11_255 lMX11_takes rfl h95 (mX11_takes e102) rfl rfl rfl (va_cats (Nat.le_of_ble_eq_true rfl)) (by decide) (by omega) (by omega) ?_
    refine wa_ifeq (tgt := 141) X dX11_defines_121 (by decide) (fun h105 => ?_) (fun h105 => ?_)
    · rw [if_pos h105] at hf
      refine wa_iconst (v := (0 : Int32)) X dX11_defines_141 (by decide) ?_
      obtain ⟨rfl, rfl, rfl, rfl⟩ := jret hf
      exact wa_iret X dX11_defines_142 rfl (by omega) (by omega)
    · rw [if_neg h105] at hf
      refine wa_aload_n X 0 dX11_defines_124 rfl ?_
      refine wa_ldc2 (v := (51 : Int64)) X dX11_defines_125 lkX11_221 ?_
      obtain ⟨h106, hf⟩ := jckT hf
      obtain ⟨r107, μ108, c109, m110, c111, m112, e113, hf, h114, h115⟩ := jcl_some hf
      refine wa_rcallV (st2 := [.int r107]) X dX11_defines_128 lmX11_312 lMX11_expects rfl h106 (mX11_expects e113) rfl rfl rfl (va_cats (Nat.le_of_ble_eq_true rfl)) (by decide) (by omega) (by omega) ?_
      refine wa_ifeq (tgt := 141) X dX11_defines_131 (by decide) (fun h116 => ?_) (fun h116 => ?_)
      · rw [if_pos h116] at hf
        refine wa_iconst (v := (0 : Int32)) X dX11_defines_141 (by decide) ?_
        obtain ⟨rfl, rfl, rfl, rfl⟩ := jret hf
        exact wa_iret X dX11_defines_142 rfl (by omega) (by omega)
      · rw [if_neg h116] at hf
        refine wa_aload_n X 0 dX11_defines_134 rfl ?_
        obtain ⟨h117, hf⟩ := jckT hf
        obtain ⟨r118, μ119, c120, m121, c122, m123, e124, hf, h125, h126⟩ := jcl_some hf
        refine wa_rcallV (st2 := [.int r118]) X dX11_defines_135 lmX11_315 lMX11_condition rfl h117 (mX11_condition e124) rfl rfl rfl (va_cats (Nat.le_of_ble_eq_true rfl)) (by decide) (by omega) (by omega) ?_
        refine wa_ifne (tgt := 143) X dX11_defines_138 (by decide) (fun h127 => ?_) (fun h127 => ?_)
        · rw [if_neg h127] at hf
          refine wa_iconst (v := (0 : Int32)) X dX11_defines_143 (by decide) ?_
          refine wa_istore_n (L2 := [(2, .int (0 : Int32)), (0, va_rf (some a)), (1, .int x1)]) X dX11_defines_144 (by decide) (by first | rfl | (show (2, _) :: List.filter (fun q : Nat × Value => !(q.1 == 2) && !(q.1 + 1 == 2 && q.2.category == 2)) _ = _; simp [va_rf_cat, cat_i, cat_l])) ?_
          refine wa_sub (L2 := [(0, va_rf (some a)), (1, .int x1), (2, .int (0 : Int32))]) [1, 2, 0] rfl ?_
          exact gX11_defines_b145 X jfuel a x1 (0 : Int32) μ119 _ _ _ _ hf (by omega) (by omega)
        · rw [if_pos h127] at hf
          refine wa_iconst (v := (0 : Int32)) X dX11_defines_141 (by decide) ?_
          obtain ⟨rfl, rfl, rfl, rfl⟩ := jret hf
          exact wa_iret X dX11_defines_142 rfl (by omega) (by omega)
  · rw [if_pos h67] at hf
    refine wa_aload_n X 0 dX11_defines_79 rfl ?_
    refine wa_iconst (v := (3 : Int32)) X dX11_defines_80 (by decide) ?_
    refine wa_aload_n X 0 dX11_defines_81 rfl ?_
    obtain ⟨h128, hf⟩ := jckT hf
    refine wa_getI X dX11_defines_82 lfX11_185 rfl h128 rfl ?_
    obtain ⟨r129, μ130, c131, m132, c133, m134, e135, hf, h136, h137⟩ := jcl_some hf
    refine wa_rcallV (st2 := [.int r129]) X dX11_defines_85 lmX11_201 lMX11_fails rfl h128 (mX11_fails e135) rfl rfl rfl (va_cats (Nat.le_of_ble_eq_true rfl)) (by decide) (by omega) (by omega) ?_
    obtain ⟨h138, hf⟩ := jck_some hf
    obtain ⟨rfl, rfl, rfl, rfl⟩ := jret hf
    exact wa_iret X dX11_defines_88 (jbl_nar h138) (by omega) (by omega)
def fX11_defines (a : Nat) (x1 : Int32) (μ : JM) : JO (Int32) := jck ((jT μ a).1 == 12) <| jcl (fX11_takes a μ) fun r2 μ3 => if r2 = 0 then (some ((0 : Int32), μ3, 0, 0)) else (jck ((jT μ3 a).1 == 12) <| jcl (fX11_isName a μ3) fun r13 μ14 => if r13 = 0 then (some ((0 : Int32), μ14, 0, 0)) else (jck ((jT μ14 a).1 == 12) <| if (jI μ14 a 33) = 0 then (fX11_defines_b71  a x1 μ14) else (jcl (fX11_find a (jP μ14 a 3) (jP μ14 a 4) (jI μ14 a 2) μ14) fun r25 μ26 => if 0 ≤ r25 then (fX11_defines_b61  a μ26) else (jck ((jT μ26 a).1 == 12) <| jcl (fX11_find a (jP μ26 a 30) (jP μ26 a 31) (jI μ26 a 29) μ26) fun r36 μ37 => if r36 < 0 then (fX11_defines_b71  a x1 μ37) else (fX11_defines_b61  a μ37)))))
set_option maxHeartbeats 4000000 in
set_option maxRecDepth 100000 in
theorem mX11_defines {b : Nat} {a : Nat} {x1 : Int32} {μ : JM} {r : Int32} {ν : JM} {c m : Nat} (hf : fX11_defines a x1 μ = some (r, ν, c, m)) : JMet b yX11_defines cX11_defines 3 (some .boolean) 5 113 [va_rf (some a), .int x1] μ (some (.int r)) ν c m := by
  refine JMet.of (by decide) (lg_sl_le (by simp only [List.map_cons, List.map_nil, List.sum_cons, List.sum_nil, va_rf_cat]; exact Nat.le_of_ble_eq_true rfl)) (fun Θ X hin => ?_)
  refine wa_eq (L2 := [(0, va_rf (some a)), (1, .int x1)]) ?_ rfl (by first | rfl | simp [lv_args, va_rf_cat, cat_i, cat_l]) rfl
  obtain ⟨k, hk0⟩ : ∃ k : Nat, k = 0 := ⟨0, rfl⟩
  obtain ⟨n, hn0⟩ : ∃ n : Nat, n = 0 := ⟨0, rfl⟩
  have hk : k + c = c := by omega
  have hn : n + m = m := by omega
  refine wa_costs hk0.symm hn0.symm ?_
  rw [fX11_defines] at hf
  refine wa_aload_n X 0 dX11_defines_0 rfl ?_
  obtain ⟨h1, hf⟩ := jckT hf
  obtain ⟨r2, μ3, c4, m5, c6, m7, e8, hf, h9, h10⟩ := jcl_some hf
  refine wa_rcallV (st2 := [.int r2]) X dX11_defines_1 lmX11_255 lMX11_takes rfl h1 (mX11_takes e8) rfl rfl rfl (va_cats (Nat.le_of_ble_eq_true rfl)) (by decide) (by omega) (by omega) ?_
  refine wa_ifeq (tgt := 14) X dX11_defines_4 (by decide) (fun h11 => ?_) (fun h11 => ?_)
  · rw [if_pos h11] at hf
    refine wa_iconst (v := (0 : Int32)) X dX11_defines_14 (by decide) ?_
    obtain ⟨rfl, rfl, rfl, rfl⟩ := jret hf
    exact wa_iret X dX11_defines_15 rfl (by omega) (by omega)
  · rw [if_neg h11] at hf
    refine wa_aload_n X 0 dX11_defines_7 rfl ?_
    obtain ⟨h12, hf⟩ := jckT hf
    obtain ⟨r13, μ14, c15, m16, c17, m18, e19, hf, h20, h21⟩ := jcl_some hf
    refine wa_rcallV (st2 := [.int r13]) X dX11_defines_8 lmX11_267 lMX11_isName rfl h12 (mX11_isName e19) rfl rfl rfl (va_cats (Nat.le_of_ble_eq_true rfl)) (by decide) (by omega) (by omega) ?_
    refine wa_ifne (tgt := 16) X dX11_defines_11 (by decide) (fun h22 => ?_) (fun h22 => ?_)
    · rw [if_neg h22] at hf
      refine wa_aload_n X 0 dX11_defines_16 rfl ?_
      obtain ⟨h23, hf⟩ := jckT hf
      refine wa_getI X dX11_defines_17 lfX11_280 rfl h23 rfl ?_
      refine wa_ifeq (tgt := 71) X dX11_defines_20 (by decide) (fun h24 => ?_) (fun h24 => ?_)
      · rw [if_pos h24] at hf
        refine wa_sub (L2 := [(0, va_rf (some a)), (1, .int x1)]) [0, 1] rfl ?_
        exact gX11_defines_b71 X a x1 μ14 _ _ _ _ hf (by omega) (by omega)
      · rw [if_neg h24] at hf
        refine wa_aload_n X 0 dX11_defines_23 rfl ?_
        refine wa_aload_n X 0 dX11_defines_24 rfl ?_
        refine wa_getP X dX11_defines_25 lfX11_17 rfl h23 rfl ?_
        refine wa_aload_n X 0 dX11_defines_28 rfl ?_
        refine wa_getP X dX11_defines_29 lfX11_20 rfl h23 rfl ?_
        refine wa_aload_n X 0 dX11_defines_32 rfl ?_
        refine wa_getI X dX11_defines_33 lfX11_13 rfl h23 rfl ?_
        obtain ⟨r25, μ26, c27, m28, c29, m30, e31, hf, h32, h33⟩ := jcl_some hf
        refine wa_rcallV (st2 := [.int r25]) X dX11_defines_36 lmX11_270 lMX11_find rfl h23 (mX11_find e31) rfl rfl rfl (va_cats (Nat.le_of_ble_eq_true rfl)) (by decide) (by omega) (by omega) ?_
        refine wa_ifge (tgt := 61) X dX11_defines_39 (by decide) (fun h34 => ?_) (fun h34 => ?_)
        · rw [if_pos h34] at hf
          refine wa_sub (L2 := [(0, va_rf (some a))]) [0] rfl ?_
          exact gX11_defines_b61 X a μ26 _ _ _ _ hf (by omega) (by omega)
        · rw [if_neg h34] at hf
          refine wa_aload_n X 0 dX11_defines_42 rfl ?_
          refine wa_aload_n X 0 dX11_defines_43 rfl ?_
          obtain ⟨h35, hf⟩ := jckT hf
          refine wa_getP X dX11_defines_44 lfX11_64 rfl h35 rfl ?_
          refine wa_aload_n X 0 dX11_defines_47 rfl ?_
          refine wa_getP X dX11_defines_48 lfX11_67 rfl h35 rfl ?_
          refine wa_aload_n X 0 dX11_defines_51 rfl ?_
          refine wa_getI X dX11_defines_52 lfX11_284 rfl h35 rfl ?_
          obtain ⟨r36, μ37, c38, m39, c40, m41, e42, hf, h43, h44⟩ := jcl_some hf
          refine wa_rcallV (st2 := [.int r36]) X dX11_defines_55 lmX11_270 lMX11_find rfl h35 (mX11_find e42) rfl rfl rfl (va_cats (Nat.le_of_ble_eq_true rfl)) (by decide) (by omega) (by omega) ?_
          refine wa_iflt (tgt := 71) X dX11_defines_58 (by decide) (fun h45 => ?_) (fun h45 => ?_)
          · rw [if_pos h45] at hf
            refine wa_sub (L2 := [(0, va_rf (some a)), (1, .int x1)]) [0, 1] rfl ?_
            exact gX11_defines_b71 X a x1 μ37 _ _ _ _ hf (by omega) (by omega)
          · rw [if_neg h45] at hf
            refine wa_sub (L2 := [(0, va_rf (some a))]) [0] rfl ?_
            exact gX11_defines_b61 X a μ37 _ _ _ _ hf (by omega) (by omega)
    · rw [if_pos h22] at hf
      refine wa_iconst (v := (0 : Int32)) X dX11_defines_14 (by decide) ?_
      obtain ⟨rfl, rfl, rfl, rfl⟩ := jret hf
      exact wa_iret X dX11_defines_15 rfl (by omega) (by omega)
theorem dX11_byDays_0 : decode cX11_byDays 0 = .ok (.aload_n 0, 1) := by decide +kernel
theorem dX11_byDays_1 : decode cX11_byDays 1 = .ok (.ldc2_w 231, 3) := by decide +kernel
theorem dX11_byDays_4 : decode cX11_byDays 4 = .ok (.invokevirtual 312, 3) := by decide +kernel
theorem dX11_byDays_7 : decode cX11_byDays 7 = .ok (.ifCond .ne 5, 3) := by decide +kernel
theorem dX11_byDays_10 : decode cX11_byDays 10 = .ok (.iconst 0, 1) := by decide +kernel
theorem dX11_byDays_11 : decode cX11_byDays 11 = .ok (.ireturn, 1) := by decide +kernel
theorem dX11_byDays_12 : decode cX11_byDays 12 = .ok (.aload_n 0, 1) := by decide +kernel
theorem dX11_byDays_13 : decode cX11_byDays 13 = .ok (.getfield 194, 3) := by decide +kernel
theorem dX11_byDays_16 : decode cX11_byDays 16 = .ok (.iconst 2, 1) := by decide +kernel
theorem dX11_byDays_17 : decode cX11_byDays 17 = .ok (.if_icmp .eq 13, 3) := by decide +kernel
theorem dX11_byDays_20 : decode cX11_byDays 20 = .ok (.aload_n 0, 1) := by decide +kernel
theorem dX11_byDays_21 : decode cX11_byDays 21 = .ok (.iconst 0, 1) := by decide +kernel
theorem dX11_byDays_22 : decode cX11_byDays 22 = .ok (.aload_n 0, 1) := by decide +kernel
theorem dX11_byDays_23 : decode cX11_byDays 23 = .ok (.getfield 185, 3) := by decide +kernel
theorem dX11_byDays_26 : decode cX11_byDays 26 = .ok (.invokevirtual 201, 3) := by decide +kernel
theorem dX11_byDays_29 : decode cX11_byDays 29 = .ok (.ireturn, 1) := by decide +kernel
theorem dX11_byDays_30 : decode cX11_byDays 30 = .ok (.aload_n 0, 1) := by decide +kernel
theorem dX11_byDays_31 : decode cX11_byDays 31 = .ok (.getfield 191, 3) := by decide +kernel
theorem dX11_byDays_34 : decode cX11_byDays 34 = .ok (.sipush 365, 3) := by decide +kernel
theorem dX11_byDays_37 : decode cX11_byDays 37 = .ok (.if_icmp .le 13, 3) := by decide +kernel
theorem dX11_byDays_40 : decode cX11_byDays 40 = .ok (.aload_n 0, 1) := by decide +kernel
theorem dX11_byDays_41 : decode cX11_byDays 41 = .ok (.iconst 1, 1) := by decide +kernel
theorem dX11_byDays_42 : decode cX11_byDays 42 = .ok (.aload_n 0, 1) := by decide +kernel
theorem dX11_byDays_43 : decode cX11_byDays 43 = .ok (.getfield 185, 3) := by decide +kernel
theorem dX11_byDays_46 : decode cX11_byDays 46 = .ok (.invokevirtual 201, 3) := by decide +kernel
theorem dX11_byDays_49 : decode cX11_byDays 49 = .ok (.ireturn, 1) := by decide +kernel
theorem dX11_byDays_50 : decode cX11_byDays 50 = .ok (.aload_n 0, 1) := by decide +kernel
theorem dX11_byDays_51 : decode cX11_byDays 51 = .ok (.getfield 85, 3) := by decide +kernel
theorem dX11_byDays_54 : decode cX11_byDays 54 = .ok (.iload_n 1, 1) := by decide +kernel
theorem dX11_byDays_55 : decode cX11_byDays 55 = .ok (.aload_n 0, 1) := by decide +kernel
theorem dX11_byDays_56 : decode cX11_byDays 56 = .ok (.getfield 191, 3) := by decide +kernel
theorem dX11_byDays_59 : decode cX11_byDays 59 = .ok (.iastore, 1) := by decide +kernel
theorem dX11_byDays_60 : decode cX11_byDays 60 = .ok (.aload_n 0, 1) := by decide +kernel
theorem dX11_byDays_61 : decode cX11_byDays 61 = .ok (.invokevirtual 255, 3) := by decide +kernel
theorem dX11_byDays_64 : decode cX11_byDays 64 = .ok (.ifCond .ne 5, 3) := by decide +kernel
theorem dX11_byDays_67 : decode cX11_byDays 67 = .ok (.iconst 0, 1) := by decide +kernel
theorem dX11_byDays_68 : decode cX11_byDays 68 = .ok (.ireturn, 1) := by decide +kernel
theorem dX11_byDays_69 : decode cX11_byDays 69 = .ok (.aload_n 0, 1) := by decide +kernel
theorem dX11_byDays_70 : decode cX11_byDays 70 = .ok (.getfield 88, 3) := by decide +kernel
theorem dX11_byDays_73 : decode cX11_byDays 73 = .ok (.iload_n 1, 1) := by decide +kernel
theorem dX11_byDays_74 : decode cX11_byDays 74 = .ok (.aload_n 0, 1) := by decide +kernel
theorem dX11_byDays_75 : decode cX11_byDays 75 = .ok (.ldc2_w 235, 3) := by decide +kernel
theorem dX11_byDays_78 : decode cX11_byDays 78 = .ok (.invokevirtual 217, 3) := by decide +kernel
theorem dX11_byDays_81 : decode cX11_byDays 81 = .ok (.ifCond .eq 7, 3) := by decide +kernel
theorem dX11_byDays_84 : decode cX11_byDays 84 = .ok (.iconst 1, 1) := by decide +kernel
theorem dX11_byDays_85 : decode cX11_byDays 85 = .ok (.goto 4, 3) := by decide +kernel
theorem dX11_byDays_88 : decode cX11_byDays 88 = .ok (.iconst 0, 1) := by decide +kernel
theorem dX11_byDays_89 : decode cX11_byDays 89 = .ok (.iastore, 1) := by decide +kernel
theorem dX11_byDays_90 : decode cX11_byDays 90 = .ok (.aload_n 0, 1) := by decide +kernel
theorem dX11_byDays_91 : decode cX11_byDays 91 = .ok (.ldc2_w 235, 3) := by decide +kernel
theorem dX11_byDays_94 : decode cX11_byDays 94 = .ok (.invokevirtual 217, 3) := by decide +kernel
theorem dX11_byDays_97 : decode cX11_byDays 97 = .ok (.ifCond .eq 10, 3) := by decide +kernel
theorem dX11_byDays_100 : decode cX11_byDays 100 = .ok (.aload_n 0, 1) := by decide +kernel
theorem dX11_byDays_101 : decode cX11_byDays 101 = .ok (.invokevirtual 255, 3) := by decide +kernel
theorem dX11_byDays_104 : decode cX11_byDays 104 = .ok (.goto 10, 3) := by decide +kernel
theorem dX11_byDays_107 : decode cX11_byDays 107 = .ok (.aload_n 0, 1) := by decide +kernel
theorem dX11_byDays_108 : decode cX11_byDays 108 = .ok (.ldc2_w 233, 3) := by decide +kernel
theorem dX11_byDays_111 : decode cX11_byDays 111 = .ok (.invokevirtual 312, 3) := by decide +kernel
theorem dX11_byDays_114 : decode cX11_byDays 114 = .ok (.ireturn, 1) := by decide +kernel
def fX11_byDays_b89 (a : Nat) (s0 : Int32) (s1 : Int32) (s2 : Option Nat) (μ : JM) : JO (Int32) := jde s2 fun q63 => jck ((jT μ q63).1 == 101) <| jck (jin s1 (jT μ q63).2) <| jlt (jsI μ q63 (s1).toNatClampNeg s0) fun μ67 => jck ((jT μ a).1 == 12) <| jcl (fX11_isWord a (806995756851 : Int64) μ67) fun r71 μ72 => if r71 = 0 then (jck ((jT μ72 a).1 == 12) <| jcl (fX11_expects a (132915 : Int64) μ72) fun r82 μ83 => jck (jbl r82) <| some (r82, μ83, 0, 0)) else (jck ((jT μ72 a).1 == 12) <| jcl (fX11_takes a μ72) fun r93 μ94 => jck (jbl r93) <| some (r93, μ94, 0, 0))
set_option maxHeartbeats 4000000 in
set_option maxRecDepth 100000 in
theorem gX11_byDays_b89 {b : Nat} {Θ : JE} {RC RS : Nat} {r : Int32} {ν : JM} (X : jX b Θ RX11 cX11_byDays 2 (some .boolean) 4 87 RC RS) (a : Nat) (s0 : Int32) (s1 : Int32) (s2 : Option Nat) (μ : JM) (c m k n : Nat) (hf : fX11_byDays_b89 a s0 s1 s2 μ = some (r, ν, c, m)) (hk : k + c = RC) (hn : n + m = RS) : WA b Θ 2 (jE b Θ (some (.int r)) ν RC RS) μ k n 89 [(0, va_rf (some a))] [.int s0, .int s1, va_rf s2] := by
  rw [fX11_byDays_b89] at hf
  obtain ⟨q63, h64, hf⟩ := jde_some hf
  obtain ⟨h65, hf⟩ := jckT hf
  obtain ⟨h66, hf⟩ := jck_some hf
  obtain ⟨μ67, hm68, hf⟩ := jlt_e hf
  have e69 : jT μ67 = jT μ := by rw [hm68]; rfl
  refine wa_riast (ν := μ67) X dX11_byDays_89 h64 h65 h66 hm68 ?_
  refine wa_aload_n X 0 dX11_byDays_90 rfl ?_
  refine wa_ldc2 (v := (806995756851 : Int64)) X dX11_byDays_91 lkX11_235 ?_
  obtain ⟨h70, hf⟩ := jckT hf
  obtain ⟨r71, μ72, c73, m74, c75, m76, e77, hf, h78, h79⟩ := jcl_some hf
  refine wa_rcallV (st2 := [.int r71]) X dX11_byDays_94 lmX11_217 lMX11_isWord rfl (by rw [e69]; exact h70) (mX11_isWord e77) rfl rfl rfl (va_cats (Nat.le_of_ble_eq_true rfl)) (by decide) (by omega) (by omega) ?_
  refine wa_ifeq (tgt := 107) X dX11_byDays_97 (by decide) (fun h80 => ?_) (fun h80 => ?_)
  · rw [if_pos h80] at hf
    refine wa_aload_n X 0 dX11_byDays_107 rfl ?_
    refine wa_ldc2 (v := (132915 : Int64)) X dX11_byDays_108 lkX11_233 ?_
    obtain ⟨h81, hf⟩ := jckT hf
    obtain ⟨r82, μ83, c84, m85, c86, m87, e88, hf, h89, h90⟩ := jcl_some hf
    refine wa_rcallV (st2 := [.int r82]) X dX11_byDays_111 lmX11_312 lMX11_expects rfl h81 (mX11_expects e88) rfl rfl rfl (va_cats (Nat.le_of_ble_eq_true rfl)) (by decide) (by omega) (by omega) ?_
    obtain ⟨h91, hf⟩ := jck_some hf
    obtain ⟨rfl, rfl, rfl, rfl⟩ := jret hf
    exact wa_iret X dX11_byDays_114 (jbl_nar h91) (by omega) (by omega)
  · rw [if_neg h80] at hf
    refine wa_aload_n X 0 dX11_byDays_100 rfl ?_
    obtain ⟨h92, hf⟩ := jckT hf
    obtain ⟨r93, μ94, c95, m96, c97, m98, e99, hf, h100, h101⟩ := jcl_some hf
    refine wa_rcallV (st2 := [.int r93]) X dX11_byDays_101 lmX11_255 lMX11_takes rfl h92 (mX11_takes e99) rfl rfl rfl (va_cats (Nat.le_of_ble_eq_true rfl)) (by decide) (by omega) (by omega) ?_
    refine wa_goto (tgt := 114) X dX11_byDays_104 (by decide) ?_
    obtain ⟨h102, hf⟩ := jck_some hf
    obtain ⟨rfl, rfl, rfl, rfl⟩ := jret hf
    exact wa_iret X dX11_byDays_114 (jbl_nar h102) (by omega) (by omega)
def fX11_byDays (a : Nat) (x1 : Int32) (μ : JM) : JO (Int32) := jck ((jT μ a).1 == 12) <| jcl (fX11_expects a (89 : Int64) μ) fun r2 μ3 => if r2 = 0 then (some ((0 : Int32), μ3, 0, 0)) else (jck ((jT μ3 a).1 == 12) <| if (jI μ3 a 14) = (2 : Int32) then (if (jI μ3 a 17) ≤ (365 : Int32) then (jde (jP μ3 a 38) fun q15 => jck ((jT μ3 q15).1 == 101) <| jck (jin x1 (jT μ3 q15).2) <| jlt (jsI μ3 q15 (x1).toNatClampNeg (jI μ3 a 17)) fun μ19 => jcl (fX11_takes a μ19) fun r22 μ23 => if r22 = 0 then (some ((0 : Int32), μ23, 0, 0)) else (jck ((jT μ23 a).1 == 12) <| jcl (fX11_isWord a (806995756851 : Int64) μ23) fun r33 μ34 => if r33 = 0 then (fX11_byDays_b89  a (0 : Int32) x1 (jP μ23 a 39) μ34) else (fX11_byDays_b89  a (1 : Int32) x1 (jP μ23 a 39) μ34))) else (jcl (fX11_fails a (1 : Int32) (jI μ3 a 15) μ3) fun r43 μ44 => jck (jbl r43) <| some (r43, μ44, 0, 0))) else (jcl (fX11_fails a (0 : Int32) (jI μ3 a 15) μ3) fun r53 μ54 => jck (jbl r53) <| some (r53, μ54, 0, 0)))
set_option maxHeartbeats 4000000 in
set_option maxRecDepth 100000 in
theorem mX11_byDays {b : Nat} {a : Nat} {x1 : Int32} {μ : JM} {r : Int32} {ν : JM} {c m : Nat} (hf : fX11_byDays a x1 μ = some (r, ν, c, m)) : JMet b yX11_byDays cX11_byDays 2 (some .boolean) 4 87 [va_rf (some a), .int x1] μ (some (.int r)) ν c m := by
  refine JMet.of (by decide) (lg_sl_le (by simp only [List.map_cons, List.map_nil, List.sum_cons, List.sum_nil, va_rf_cat]; exact Nat.le_of_ble_eq_true rfl)) (fun Θ X hin => ?_)
  refine wa_eq (L2 := [(0, va_rf (some a)), (1, .int x1)]) ?_ rfl (by first | rfl | simp [lv_args, va_rf_cat, cat_i, cat_l]) rfl
  obtain ⟨k, hk0⟩ : ∃ k : Nat, k = 0 := ⟨0, rfl⟩
  obtain ⟨n, hn0⟩ : ∃ n : Nat, n = 0 := ⟨0, rfl⟩
  have hk : k + c = c := by omega
  have hn : n + m = m := by omega
  refine wa_costs hk0.symm hn0.symm ?_
  rw [fX11_byDays] at hf
  refine wa_aload_n X 0 dX11_byDays_0 rfl ?_
  refine wa_ldc2 (v := (89 : Int64)) X dX11_byDays_1 lkX11_231 ?_
  obtain ⟨h1, hf⟩ := jckT hf
  obtain ⟨r2, μ3, c4, m5, c6, m7, e8, hf, h9, h10⟩ := jcl_some hf
  refine wa_rcallV (st2 := [.int r2]) X dX11_byDays_4 lmX11_312 lMX11_expects rfl h1 (mX11_expects e8) rfl rfl rfl (va_cats (Nat.le_of_ble_eq_true rfl)) (by decide) (by omega) (by omega) ?_
  refine wa_ifne (tgt := 12) X dX11_byDays_7 (by decide) (fun h11 => ?_) (fun h11 => ?_)
  · rw [if_neg h11] at hf
    refine wa_aload_n X 0 dX11_byDays_12 rfl ?_
    obtain ⟨h12, hf⟩ := jckT hf
    refine wa_getI X dX11_byDays_13 lfX11_194 rfl h12 rfl ?_
    refine wa_iconst (v := (2 : Int32)) X dX11_byDays_16 (by decide) ?_
    refine wa_iceq (tgt := 30) X dX11_byDays_17 (by decide) (fun h13 => ?_) (fun h13 => ?_)
    · rw [if_pos h13] at hf
      refine wa_aload_n X 0 dX11_byDays_30 rfl ?_
      refine wa_getI X dX11_byDays_31 lfX11_191 rfl h12 rfl ?_
      refine wa_sipush (v := (365 : Int32)) X dX11_byDays_34 (by decide) ?_
      refine wa_icle (tgt := 50) X dX11_byDays_37 (by decide) (fun h14 => ?_) (fun h14 => ?_)
      · rw [if_pos h14] at hf
        refine wa_aload_n X 0 dX11_byDays_50 rfl ?_
        refine wa_getP X dX11_byDays_51 lfX11_85 rfl h12 rfl ?_
        refine wa_iload_n X 1 dX11_byDays_54 rfl ?_
        refine wa_aload_n X 0 dX11_byDays_55 rfl ?_
        refine wa_getI X dX11_byDays_56 lfX11_191 rfl h12 rfl ?_
        obtain ⟨q15, h16, hf⟩ := jde_some hf
        obtain ⟨h17, hf⟩ := jckT hf
        obtain ⟨h18, hf⟩ := jck_some hf
        obtain ⟨μ19, hm20, hf⟩ := jlt_e hf
        have e21 : jT μ19 = jT μ3 := by rw [hm20]; rfl
        refine wa_riast (ν := μ19) X dX11_byDays_59 h16 h17 h18 hm20 ?_
        refine wa_aload_n X 0 dX11_byDays_60 rfl ?_
        obtain ⟨r22, μ23, c24, m25, c26, m27, e28, hf, h29, h30⟩ := jcl_some hf
        refine wa_rcallV (st2 := [.int r22]) X dX11_byDays_61 lmX11_255 lMX11_takes rfl (by rw [e21]; exact h12) (mX11_takes e28) rfl rfl rfl (va_cats (Nat.le_of_ble_eq_true rfl)) (by decide) (by omega) (by omega) ?_
        refine wa_ifne (tgt := 69) X dX11_byDays_64 (by decide) (fun h31 => ?_) (fun h31 => ?_)
        · rw [if_neg h31] at hf
          refine wa_aload_n X 0 dX11_byDays_69 rfl ?_
          obtain ⟨h32, hf⟩ := jckT hf
          refine wa_getP X dX11_byDays_70 lfX11_88 rfl h32 rfl ?_
          refine wa_iload_n X 1 dX11_byDays_73 rfl ?_
          refine wa_aload_n X 0 dX11_byDays_74 rfl ?_
          refine wa_ldc2 (v := (806995756851 : Int64)) X dX11_byDays_75 lkX11_235 ?_
          obtain ⟨r33, μ34, c35, m36, c37, m38, e39, hf, h40, h41⟩ := jcl_some hf
          refine wa_rcallV (st2 := [.int r33, .int x1, va_rf (jP μ23 a 39)]) X dX11_byDays_78 lmX11_217 lMX11_isWord rfl h32 (mX11_isWord e39) rfl rfl rfl (va_cats (Nat.le_of_ble_eq_true rfl)) (by decide) (by omega) (by omega) ?_
          refine wa_ifeq (tgt := 88) X dX11_byDays_81 (by decide) (fun h42 => ?_) (fun h42 => ?_)
          · rw [if_pos h42] at hf
            refine wa_iconst (v := (0 : Int32)) X dX11_byDays_88 (by decide) ?_
            refine wa_sub (L2 := [(0, va_rf (some a))]) [0] rfl ?_
            exact gX11_byDays_b89 X a (0 : Int32) x1 (jP μ23 a 39) μ34 _ _ _ _ hf (by omega) (by omega)
          · rw [if_neg h42] at hf
            refine wa_iconst (v := (1 : Int32)) X dX11_byDays_84 (by decide) ?_
            refine wa_goto (tgt := 89) X dX11_byDays_85 (by decide) ?_
            refine wa_sub (L2 := [(0, va_rf (some a))]) [0] rfl ?_
            exact gX11_byDays_b89 X a (1 : Int32) x1 (jP μ23 a 39) μ34 _ _ _ _ hf (by omega) (by omega)
        · rw [if_pos h31] at hf
          refine wa_iconst (v := (0 : Int32)) X dX11_byDays_67 (by decide) ?_
          obtain ⟨rfl, rfl, rfl, rfl⟩ := jret hf
          exact wa_iret X dX11_byDays_68 rfl (by omega) (by omega)
      · rw [if_neg h14] at hf
        refine wa_aload_n X 0 dX11_byDays_40 rfl ?_
        refine wa_iconst (v := (1 : Int32)) X dX11_byDays_41 (by decide) ?_
        refine wa_aload_n X 0 dX11_byDays_42 rfl ?_
        refine wa_getI X dX11_byDays_43 lfX11_185 rfl h12 rfl ?_
        obtain ⟨r43, μ44, c45, m46, c47, m48, e49, hf, h50, h51⟩ := jcl_some hf
        refine wa_rcallV (st2 := [.int r43]) X dX11_byDays_46 lmX11_201 lMX11_fails rfl h12 (mX11_fails e49) rfl rfl rfl (va_cats (Nat.le_of_ble_eq_true rfl)) (by decide) (by omega) (by omega) ?_
        obtain ⟨h52, hf⟩ := jck_some hf
        obtain ⟨rfl, rfl, rfl, rfl⟩ := jret hf
        exact wa_iret X dX11_byDays_49 (jbl_nar h52) (by omega) (by omega)
    · rw [if_neg h13] at hf
      refine wa_aload_n X 0 dX11_byDays_20 rfl ?_
      refine wa_iconst (v := (0 : Int32)) X dX11_byDays_21 (by decide) ?_
      refine wa_aload_n X 0 dX11_byDays_22 rfl ?_
      refine wa_getI X dX11_byDays_23 lfX11_185 rfl h12 rfl ?_
      obtain ⟨r53, μ54, c55, m56, c57, m58, e59, hf, h60, h61⟩ := jcl_some hf
      refine wa_rcallV (st2 := [.int r53]) X dX11_byDays_26 lmX11_201 lMX11_fails rfl h12 (mX11_fails e59) rfl rfl rfl (va_cats (Nat.le_of_ble_eq_true rfl)) (by decide) (by omega) (by omega) ?_
      obtain ⟨h62, hf⟩ := jck_some hf
      obtain ⟨rfl, rfl, rfl, rfl⟩ := jret hf
      exact wa_iret X dX11_byDays_29 (jbl_nar h62) (by omega) (by omega)
  · rw [if_pos h11] at hf
    refine wa_iconst (v := (0 : Int32)) X dX11_byDays_10 (by decide) ?_
    obtain ⟨rfl, rfl, rfl, rfl⟩ := jret hf
    exact wa_iret X dX11_byDays_11 rfl (by omega) (by omega)
theorem dX11_over_0 : decode cX11_over 0 = .ok (.iconst 1, 1) := by decide +kernel
theorem dX11_over_1 : decode cX11_over 1 = .ok (.istore_n 3, 1) := by decide +kernel
theorem dX11_over_2 : decode cX11_over 2 = .ok (.iload_n 3, 1) := by decide +kernel
theorem dX11_over_3 : decode cX11_over 3 = .ok (.ifCond .eq 114, 3) := by decide +kernel
theorem dX11_over_6 : decode cX11_over 6 = .ok (.aload_n 0, 1) := by decide +kernel
theorem dX11_over_7 : decode cX11_over 7 = .ok (.invokevirtual 255, 3) := by decide +kernel
theorem dX11_over_10 : decode cX11_over 10 = .ok (.ifCond .eq 10, 3) := by decide +kernel
theorem dX11_over_13 : decode cX11_over 13 = .ok (.aload_n 0, 1) := by decide +kernel
theorem dX11_over_14 : decode cX11_over 14 = .ok (.invokevirtual 267, 3) := by decide +kernel
theorem dX11_over_17 : decode cX11_over 17 = .ok (.ifCond .ne 5, 3) := by decide +kernel
theorem dX11_over_20 : decode cX11_over 20 = .ok (.iconst 0, 1) := by decide +kernel
theorem dX11_over_21 : decode cX11_over 21 = .ok (.ireturn, 1) := by decide +kernel
theorem dX11_over_22 : decode cX11_over 22 = .ok (.aload_n 0, 1) := by decide +kernel
theorem dX11_over_23 : decode cX11_over 23 = .ok (.getfield 280, 3) := by decide +kernel
theorem dX11_over_26 : decode cX11_over 26 = .ok (.ifCond .eq 12, 3) := by decide +kernel
theorem dX11_over_29 : decode cX11_over 29 = .ok (.aload_n 0, 1) := by decide +kernel
theorem dX11_over_30 : decode cX11_over 30 = .ok (.iconst 4, 1) := by decide +kernel
theorem dX11_over_31 : decode cX11_over 31 = .ok (.iload_n 2, 1) := by decide +kernel
theorem dX11_over_32 : decode cX11_over 32 = .ok (.invokevirtual 321, 3) := by decide +kernel
theorem dX11_over_35 : decode cX11_over 35 = .ok (.goto 4, 3) := by decide +kernel
theorem dX11_over_38 : decode cX11_over 38 = .ok (.iconst 0, 1) := by decide +kernel
theorem dX11_over_39 : decode cX11_over 39 = .ok (.istore 4, 2) := by decide +kernel
theorem dX11_over_41 : decode cX11_over 41 = .ok (.iload 4, 2) := by decide +kernel
theorem dX11_over_43 : decode cX11_over 43 = .ok (.ifCond .ge 13, 3) := by decide +kernel
theorem dX11_over_46 : decode cX11_over 46 = .ok (.aload_n 0, 1) := by decide +kernel
theorem dX11_over_47 : decode cX11_over 47 = .ok (.iconst 3, 1) := by decide +kernel
theorem dX11_over_48 : decode cX11_over 48 = .ok (.aload_n 0, 1) := by decide +kernel
theorem dX11_over_49 : decode cX11_over 49 = .ok (.getfield 185, 3) := by decide +kernel
theorem dX11_over_52 : decode cX11_over 52 = .ok (.invokevirtual 201, 3) := by decide +kernel
theorem dX11_over_55 : decode cX11_over 55 = .ok (.ireturn, 1) := by decide +kernel
theorem dX11_over_56 : decode cX11_over 56 = .ok (.aload_n 0, 1) := by decide +kernel
theorem dX11_over_57 : decode cX11_over 57 = .ok (.getfield 91, 3) := by decide +kernel
theorem dX11_over_60 : decode cX11_over 60 = .ok (.iload_n 1, 1) := by decide +kernel
theorem dX11_over_61 : decode cX11_over 61 = .ok (.dup2, 1) := by decide +kernel
theorem dX11_over_62 : decode cX11_over 62 = .ok (.iaload, 1) := by decide +kernel
theorem dX11_over_63 : decode cX11_over 63 = .ok (.aload_n 0, 1) := by decide +kernel
theorem dX11_over_64 : decode cX11_over 64 = .ok (.getfield 94, 3) := by decide +kernel
theorem dX11_over_67 : decode cX11_over 67 = .ok (.iload_n 1, 1) := by decide +kernel
theorem dX11_over_68 : decode cX11_over 68 = .ok (.iaload, 1) := by decide +kernel
theorem dX11_over_69 : decode cX11_over 69 = .ok (.iload 4, 2) := by decide +kernel
theorem dX11_over_71 : decode cX11_over 71 = .ok (.ishr, 1) := by decide +kernel
theorem dX11_over_72 : decode cX11_over 72 = .ok (.iconst 1, 1) := by decide +kernel
theorem dX11_over_73 : decode cX11_over 73 = .ok (.iand, 1) := by decide +kernel
theorem dX11_over_74 : decode cX11_over 74 = .ok (.ifCond .ne 7, 3) := by decide +kernel
theorem dX11_over_77 : decode cX11_over 77 = .ok (.iconst 1, 1) := by decide +kernel
theorem dX11_over_78 : decode cX11_over 78 = .ok (.goto 4, 3) := by decide +kernel
theorem dX11_over_81 : decode cX11_over 81 = .ok (.iconst 0, 1) := by decide +kernel
theorem dX11_over_82 : decode cX11_over 82 = .ok (.iadd, 1) := by decide +kernel
theorem dX11_over_83 : decode cX11_over 83 = .ok (.iastore, 1) := by decide +kernel
theorem dX11_over_84 : decode cX11_over 84 = .ok (.aload_n 0, 1) := by decide +kernel
theorem dX11_over_85 : decode cX11_over 85 = .ok (.getfield 94, 3) := by decide +kernel
theorem dX11_over_88 : decode cX11_over 88 = .ok (.iload_n 1, 1) := by decide +kernel
theorem dX11_over_89 : decode cX11_over 89 = .ok (.dup2, 1) := by decide +kernel
theorem dX11_over_90 : decode cX11_over 90 = .ok (.iaload, 1) := by decide +kernel
theorem dX11_over_91 : decode cX11_over 91 = .ok (.iconst 1, 1) := by decide +kernel
theorem dX11_over_92 : decode cX11_over 92 = .ok (.iload 4, 2) := by decide +kernel
theorem dX11_over_94 : decode cX11_over 94 = .ok (.ishl, 1) := by decide +kernel
theorem dX11_over_95 : decode cX11_over 95 = .ok (.ior, 1) := by decide +kernel
theorem dX11_over_96 : decode cX11_over 96 = .ok (.iastore, 1) := by decide +kernel
theorem dX11_over_97 : decode cX11_over 97 = .ok (.aload_n 0, 1) := by decide +kernel
theorem dX11_over_98 : decode cX11_over 98 = .ok (.invokevirtual 255, 3) := by decide +kernel
theorem dX11_over_101 : decode cX11_over 101 = .ok (.ifCond .ne 5, 3) := by decide +kernel
theorem dX11_over_104 : decode cX11_over 104 = .ok (.iconst 0, 1) := by decide +kernel
theorem dX11_over_105 : decode cX11_over 105 = .ok (.ireturn, 1) := by decide +kernel
theorem dX11_over_106 : decode cX11_over 106 = .ok (.aload_n 0, 1) := by decide +kernel
theorem dX11_over_107 : decode cX11_over 107 = .ok (.ldc2_w 243, 3) := by decide +kernel
theorem dX11_over_110 : decode cX11_over 110 = .ok (.invokevirtual 217, 3) := by decide +kernel
theorem dX11_over_113 : decode cX11_over 113 = .ok (.istore_n 3, 1) := by decide +kernel
theorem dX11_over_114 : decode cX11_over 114 = .ok (.goto (-112), 3) := by decide +kernel
theorem dX11_over_117 : decode cX11_over 117 = .ok (.iconst 1, 1) := by decide +kernel
theorem dX11_over_118 : decode cX11_over 118 = .ok (.ireturn, 1) := by decide +kernel
def fX11_over_b82 (rec2 : Nat → Int32 → Int32 → Int32 → JM → JO (Int32)) (a : Nat) (x1 : Int32) (x2 : Int32) (x4 : Int32) (s0 : Int32) (s1 : Int32) (s2 : Int32) (s3 : Option Nat) (μ : JM) : JO (Int32) := jde s3 fun q57 => jck ((jT μ q57).1 == 101) <| jck (jin s2 (jT μ q57).2) <| jlt (jsI μ q57 (s2).toNatClampNeg (s1 + s0)) fun μ61 => jck ((jT μ a).1 == 12) <| jde (jP μ61 a 41) fun q65 => jck ((jT μ q65).1 == 101) <| jck (jin x1 (jT μ q65).2) <| jlt (jsI μ61 q65 (x1).toNatClampNeg ((jI μ61 q65 (x1).toNatClampNeg) ||| (jshl (1 : Int32) x4))) fun μ69 => jcl (fX11_takes a μ69) fun r72 μ73 => if r72 = 0 then (some ((0 : Int32), μ73, 0, 0)) else (jck ((jT μ73 a).1 == 12) <| jcl (fX11_isWord a (1476 : Int64) μ73) fun r83 μ84 => rec2 a x1 x2 r83 μ84)
set_option maxHeartbeats 4000000 in
set_option maxRecDepth 100000 in
theorem gX11_over_b82 {b : Nat} {Θ : JE} {RC RS : Nat} {r : Int32} {ν : JM} (X : jX b Θ RX11 cX11_over 5 (some .boolean) 4 85 RC RS) {rec2 : Nat → Int32 → Int32 → Int32 → JM → JO (Int32)} (hrec2 : ∀ (a : Nat) (x1 : Int32) (x2 : Int32) (x3 : Int32) (μ : JM) (c m k n : Nat), rec2 a x1 x2 x3 μ = some (r, ν, c, m) → k + c = RC → n + m = RS → WA b Θ 5 (jE b Θ (some (.int r)) ν RC RS) μ k n 2 [(0, va_rf (some a)), (1, .int x1), (2, .int x2), (3, .int x3)] []) (a : Nat) (x1 : Int32) (x2 : Int32) (x4 : Int32) (s0 : Int32) (s1 : Int32) (s2 : Int32) (s3 : Option Nat) (μ : JM) (c m k n : Nat) (hf : fX11_over_b82 rec2 a x1 x2 x4 s0 s1 s2 s3 μ = some (r, ν, c, m)) (hk : k + c = RC) (hn : n + m = RS) : WA b Θ 5 (jE b Θ (some (.int r)) ν RC RS) μ k n 82 [(0, va_rf (some a)), (1, .int x1), (2, .int x2), (4, .int x4)] [.int s0, .int s1, .int s2, va_rf s3] := by
  rw [fX11_over_b82] at hf
  refine wa_iadd X dX11_over_82 ?_
  obtain ⟨q57, h58, hf⟩ := jde_some hf
  obtain ⟨h59, hf⟩ := jckT hf
  obtain ⟨h60, hf⟩ := jck_some hf
  obtain ⟨μ61, hm62, hf⟩ := jlt_e hf
  have e63 : jT μ61 = jT μ := by rw [hm62]; rfl
  refine wa_riast (ν := μ61) X dX11_over_83 h58 h59 h60 hm62 ?_
  refine wa_aload_n X 0 dX11_over_84 rfl ?_
  obtain ⟨h64, hf⟩ := jckT hf
  refine wa_getP X dX11_over_85 lfX11_94 rfl (by rw [e63]; exact h64) rfl ?_
  refine wa_iload_n X 1 dX11_over_88 rfl ?_
  refine wa_dup2 X dX11_over_89 rfl (va_rf_cat _) ?_
  obtain ⟨q65, h66, hf⟩ := jde_some hf
  obtain ⟨h67, hf⟩ := jckT hf
  obtain ⟨h68, hf⟩ := jck_some hf
  refine wa_riald X dX11_over_90 h66 (by rw [e63]; exact h67) (by rw [e63]; exact h68) ?_
  refine wa_iconst (v := (1 : Int32)) X dX11_over_91 (by decide) ?_
  refine wa_iload X 3 dX11_over_92 rfl ?_
  refine wa_ishl X dX11_over_94 ?_
  refine wa_ior X dX11_over_95 ?_
  obtain ⟨μ69, hm70, hf⟩ := jlt_e hf
  have e71 : jT μ69 = jT μ := by rw [hm70]; exact e63
  refine wa_riast (ν := μ69) X dX11_over_96 h66 (by rw [e63]; exact h67) (by rw [e63]; exact h68) hm70 ?_
  refine wa_aload_n X 0 dX11_over_97 rfl ?_
  obtain ⟨r72, μ73, c74, m75, c76, m77, e78, hf, h79, h80⟩ := jcl_some hf
  refine wa_rcallV (st2 := [.int r72]) X dX11_over_98 lmX11_255 lMX11_takes rfl (by rw [e71]; exact h64) (mX11_takes e78) rfl rfl rfl (va_cats (Nat.le_of_ble_eq_true rfl)) (by decide) (by omega) (by omega) ?_
  refine wa_ifne (tgt := 106) X dX11_over_101 (by decide) (fun h81 => ?_) (fun h81 => ?_)
  · rw [if_neg h81] at hf
    refine wa_aload_n X 0 dX11_over_106 rfl ?_
    refine wa_ldc2 (v := (1476 : Int64)) X dX11_over_107 lkX11_243 ?_
    obtain ⟨h82, hf⟩ := jckT hf
    obtain ⟨r83, μ84, c85, m86, c87, m88, e89, hf, h90, h91⟩ := jcl_some hf
    refine wa_rcallV (st2 := [.int r83]) X dX11_over_110 lmX11_217 lMX11_isWord rfl h82 (mX11_isWord e89) rfl rfl rfl (va_cats (Nat.le_of_ble_eq_true rfl)) (by decide) (by omega) (by omega) ?_
    refine wa_istore_n (L2 := [(3, .int r83), (0, va_rf (some a)), (1, .int x1), (2, .int x2), (4, .int x4)]) X dX11_over_113 (by decide) (by first | rfl | (show (3, _) :: List.filter (fun q : Nat × Value => !(q.1 == 3) && !(q.1 + 1 == 3 && q.2.category == 2)) _ = _; simp [va_rf_cat, cat_i, cat_l])) ?_
    refine wa_goto (tgt := 2) X dX11_over_114 (by decide) ?_
    refine wa_sub (L2 := [(0, va_rf (some a)), (1, .int x1), (2, .int x2), (3, .int r83)]) [1, 2, 3, 0] rfl ?_
    exact hrec2 a x1 x2 r83 μ84 _ _ _ _ hf (by omega) (by omega)
  · rw [if_pos h81] at hf
    refine wa_iconst (v := (0 : Int32)) X dX11_over_104 (by decide) ?_
    obtain ⟨rfl, rfl, rfl, rfl⟩ := jret hf
    exact wa_iret X dX11_over_105 rfl (by omega) (by omega)
def fX11_over_b39 (rec2 : Nat → Int32 → Int32 → Int32 → JM → JO (Int32)) (a : Nat) (x1 : Int32) (x2 : Int32) (s0 : Int32) (μ : JM) : JO (Int32) := if 0 ≤ s0 then (jck ((jT μ a).1 == 12) <| jde (jP μ a 40) fun q37 => jck ((jT μ q37).1 == 101) <| jck (jin x1 (jT μ q37).2) <| jde (jP μ a 41) fun q41 => jck ((jT μ q41).1 == 101) <| jck (jin x1 (jT μ q41).2) <| if ((jshr (jI μ q41 (x1).toNatClampNeg) s0) &&& (1 : Int32)) = 0 then (fX11_over_b82 rec2 a x1 x2 s0 (1 : Int32) (jI μ q37 (x1).toNatClampNeg) x1 (jP μ a 40) μ) else (fX11_over_b82 rec2 a x1 x2 s0 (0 : Int32) (jI μ q37 (x1).toNatClampNeg) x1 (jP μ a 40) μ)) else (jck ((jT μ a).1 == 12) <| jcl (fX11_fails a (3 : Int32) (jI μ a 15) μ) fun r47 μ48 => jck (jbl r47) <| some (r47, μ48, 0, 0))
set_option maxHeartbeats 4000000 in
set_option maxRecDepth 100000 in
theorem gX11_over_b39 {b : Nat} {Θ : JE} {RC RS : Nat} {r : Int32} {ν : JM} (X : jX b Θ RX11 cX11_over 5 (some .boolean) 4 85 RC RS) {rec2 : Nat → Int32 → Int32 → Int32 → JM → JO (Int32)} (hrec2 : ∀ (a : Nat) (x1 : Int32) (x2 : Int32) (x3 : Int32) (μ : JM) (c m k n : Nat), rec2 a x1 x2 x3 μ = some (r, ν, c, m) → k + c = RC → n + m = RS → WA b Θ 5 (jE b Θ (some (.int r)) ν RC RS) μ k n 2 [(0, va_rf (some a)), (1, .int x1), (2, .int x2), (3, .int x3)] []) (a : Nat) (x1 : Int32) (x2 : Int32) (s0 : Int32) (μ : JM) (c m k n : Nat) (hf : fX11_over_b39 rec2 a x1 x2 s0 μ = some (r, ν, c, m)) (hk : k + c = RC) (hn : n + m = RS) : WA b Θ 5 (jE b Θ (some (.int r)) ν RC RS) μ k n 39 [(0, va_rf (some a)), (1, .int x1), (2, .int x2)] [.int s0] := by
  rw [fX11_over_b39] at hf
  refine wa_istore (L2 := [(4, .int s0), (0, va_rf (some a)), (1, .int x1), (2, .int x2)]) X dX11_over_39 (by decide) (by first | rfl | (show (4, _) :: List.filter (fun q : Nat × Value => !(q.1 == 4) && !(q.1 + 1 == 4 && q.2.category == 2)) _ = _; simp [va_rf_cat, cat_i, cat_l])) ?_
  refine wa_iload X 0 dX11_over_41 rfl ?_
  refine wa_ifge (tgt := 56) X dX11_over_43 (by decide) (fun h35 => ?_) (fun h35 => ?_)
  · rw [if_pos h35] at hf
    refine wa_aload_n X 1 dX11_over_56 rfl ?_
    obtain ⟨h36, hf⟩ := jckT hf
    refine wa_getP X dX11_over_57 lfX11_91 rfl h36 rfl ?_
    refine wa_iload_n X 2 dX11_over_60 rfl ?_
    refine wa_dup2 X dX11_over_61 rfl (va_rf_cat _) ?_
    obtain ⟨q37, h38, hf⟩ := jde_some hf
    obtain ⟨h39, hf⟩ := jckT hf
    obtain ⟨h40, hf⟩ := jck_some hf
    refine wa_riald X dX11_over_62 h38 h39 h40 ?_
    refine wa_aload_n X 1 dX11_over_63 rfl ?_
    refine wa_getP X dX11_over_64 lfX11_94 rfl h36 rfl ?_
    refine wa_iload_n X 2 dX11_over_67 rfl ?_
    obtain ⟨q41, h42, hf⟩ := jde_some hf
    obtain ⟨h43, hf⟩ := jckT hf
    obtain ⟨h44, hf⟩ := jck_some hf
    refine wa_riald X dX11_over_68 h42 h43 h44 ?_
    refine wa_iload X 0 dX11_over_69 rfl ?_
    refine wa_ishr X dX11_over_71 ?_
    refine wa_iconst (v := (1 : Int32)) X dX11_over_72 (by decide) ?_
    refine wa_iand X dX11_over_73 ?_
    refine wa_ifne (tgt := 81) X dX11_over_74 (by decide) (fun h45 => ?_) (fun h45 => ?_)
    · rw [if_neg h45] at hf
      refine wa_iconst (v := (0 : Int32)) X dX11_over_81 (by decide) ?_
      refine wa_sub (L2 := [(0, va_rf (some a)), (1, .int x1), (2, .int x2), (4, .int s0)]) [1, 2, 3, 0] rfl ?_
      exact gX11_over_b82 X hrec2 a x1 x2 s0 (0 : Int32) (jI μ q37 (x1).toNatClampNeg) x1 (jP μ a 40) μ _ _ _ _ hf (by omega) (by omega)
    · rw [if_pos h45] at hf
      refine wa_iconst (v := (1 : Int32)) X dX11_over_77 (by decide) ?_
      refine wa_goto (tgt := 82) X dX11_over_78 (by decide) ?_
      refine wa_sub (L2 := [(0, va_rf (some a)), (1, .int x1), (2, .int x2), (4, .int s0)]) [1, 2, 3, 0] rfl ?_
      exact gX11_over_b82 X hrec2 a x1 x2 s0 (1 : Int32) (jI μ q37 (x1).toNatClampNeg) x1 (jP μ a 40) μ _ _ _ _ hf (by omega) (by omega)
  · rw [if_neg h35] at hf
    refine wa_aload_n X 1 dX11_over_46 rfl ?_
    refine wa_iconst (v := (3 : Int32)) X dX11_over_47 (by decide) ?_
    refine wa_aload_n X 1 dX11_over_48 rfl ?_
    obtain ⟨h46, hf⟩ := jckT hf
    refine wa_getI X dX11_over_49 lfX11_185 rfl h46 rfl ?_
    obtain ⟨r47, μ48, c49, m50, c51, m52, e53, hf, h54, h55⟩ := jcl_some hf
    refine wa_rcallV (st2 := [.int r47]) X dX11_over_52 lmX11_201 lMX11_fails rfl h46 (mX11_fails e53) rfl rfl rfl (va_cats (Nat.le_of_ble_eq_true rfl)) (by decide) (by omega) (by omega) ?_
    obtain ⟨h56, hf⟩ := jck_some hf
    obtain ⟨rfl, rfl, rfl, rfl⟩ := jret hf
    exact wa_iret X dX11_over_55 (jbl_nar h56) (by omega) (by omega)
def fX11_over_b2 : Nat → Nat → Int32 → Int32 → Int32 → JM → JO (Int32)
  | 0, _, _, _, _, _ => none
  | fu + 1, a, x1, x2, x3, μ => if x3 = 0 then (some ((1 : Int32), μ, 0, 0)) else (jck ((jT μ a).1 == 12) <| jcl (fX11_takes a μ) fun r3 μ4 => if r3 = 0 then (some ((0 : Int32), μ4, 0, 0)) else (jck ((jT μ4 a).1 == 12) <| jcl (fX11_isName a μ4) fun r14 μ15 => if r14 = 0 then (some ((0 : Int32), μ15, 0, 0)) else (jck ((jT μ15 a).1 == 12) <| if (jI μ15 a 33) = 0 then (fX11_over_b39 (fX11_over_b2 fu) a x1 x2 (0 : Int32) μ15) else (jcl (fX11_labelled a (4 : Int32) x2 μ15) fun r26 μ27 => fX11_over_b39 (fX11_over_b2 fu) a x1 x2 r26 μ27))))
set_option maxHeartbeats 4000000 in
set_option maxRecDepth 100000 in
theorem gX11_over_b2 {b : Nat} {Θ : JE} {RC RS : Nat} {r : Int32} {ν : JM} (X : jX b Θ RX11 cX11_over 5 (some .boolean) 4 85 RC RS) : ∀ (fu : Nat) (a : Nat) (x1 : Int32) (x2 : Int32) (x3 : Int32) (μ : JM) (c m k n : Nat), fX11_over_b2 fu a x1 x2 x3 μ = some (r, ν, c, m) → k + c = RC → n + m = RS → WA b Θ 5 (jE b Θ (some (.int r)) ν RC RS) μ k n 2 [(0, va_rf (some a)), (1, .int x1), (2, .int x2), (3, .int x3)] [] := by
  intro fu
  induction fu with
  | zero => intro a x1 x2 x3 μ c m k n hf; cases hf
  | succ fu ih =>
    intro a x1 x2 x3 μ c m k n hf hk hn
    rw [fX11_over_b2] at hf
    refine wa_iload_n X 3 dX11_over_2 rfl ?_
    refine wa_ifeq (tgt := 117) X dX11_over_3 (by decide) (fun h1 => ?_) (fun h1 => ?_)
    · rw [if_pos h1] at hf
      refine wa_iconst (v := (1 : Int32)) X dX11_over_117 (by decide) ?_
      obtain ⟨rfl, rfl, rfl, rfl⟩ := jret hf
      exact wa_iret X dX11_over_118 rfl (by omega) (by omega)
    · rw [if_neg h1] at hf
      refine wa_aload_n X 0 dX11_over_6 rfl ?_
      obtain ⟨h2, hf⟩ := jckT hf
      obtain ⟨r3, μ4, c5, m6, c7, m8, e9, hf, h10, h11⟩ := jcl_some hf
      refine wa_rcallV (st2 := [.int r3]) X dX11_over_7 lmX11_255 lMX11_takes rfl h2 (mX11_takes e9) rfl rfl rfl (va_cats (Nat.le_of_ble_eq_true rfl)) (by decide) (by omega) (by omega) ?_
      refine wa_ifeq (tgt := 20) X dX11_over_10 (by decide) (fun h12 => ?_) (fun h12 => ?_)
      · rw [if_pos h12] at hf
        refine wa_iconst (v := (0 : Int32)) X dX11_over_20 (by decide) ?_
        obtain ⟨rfl, rfl, rfl, rfl⟩ := jret hf
        exact wa_iret X dX11_over_21 rfl (by omega) (by omega)
      · rw [if_neg h12] at hf
        refine wa_aload_n X 0 dX11_over_13 rfl ?_
        obtain ⟨h13, hf⟩ := jckT hf
        obtain ⟨r14, μ15, c16, m17, c18, m19, e20, hf, h21, h22⟩ := jcl_some hf
        refine wa_rcallV (st2 := [.int r14]) X dX11_over_14 lmX11_267 lMX11_isName rfl h13 (mX11_isName e20) rfl rfl rfl (va_cats (Nat.le_of_ble_eq_true rfl)) (by decide) (by omega) (by omega) ?_
        refine wa_ifne (tgt := 22) X dX11_over_17 (by decide) (fun h23 => ?_) (fun h23 => ?_)
        · rw [if_neg h23] at hf
          refine wa_aload_n X 0 dX11_over_22 rfl ?_
          obtain ⟨h24, hf⟩ := jckT hf
          refine wa_getI X dX11_over_23 lfX11_280 rfl h24 rfl ?_
          refine wa_ifeq (tgt := 38) X dX11_over_26 (by decide) (fun h25 => ?_) (fun h25 => ?_)
          · rw [if_pos h25] at hf
            refine wa_iconst (v := (0 : Int32)) X dX11_over_38 (by decide) ?_
            refine wa_sub (L2 := [(0, va_rf (some a)), (1, .int x1), (2, .int x2)]) [0, 1, 2] rfl ?_
            exact gX11_over_b39 X ih a x1 x2 (0 : Int32) μ15 _ _ _ _ hf (by omega) (by omega)
          · rw [if_neg h25] at hf
            refine wa_aload_n X 0 dX11_over_29 rfl ?_
            refine wa_iconst (v := (4 : Int32)) X dX11_over_30 (by decide) ?_
            refine wa_iload_n X 2 dX11_over_31 rfl ?_
            obtain ⟨r26, μ27, c28, m29, c30, m31, e32, hf, h33, h34⟩ := jcl_some hf
            refine wa_rcallV (st2 := [.int r26]) X dX11_over_32 lmX11_321 lMX11_labelled rfl h24 (mX11_labelled e32) rfl rfl rfl (va_cats (Nat.le_of_ble_eq_true rfl)) (by decide) (by omega) (by omega) ?_
            refine wa_goto (tgt := 39) X dX11_over_35 (by decide) ?_
            refine wa_sub (L2 := [(0, va_rf (some a)), (1, .int x1), (2, .int x2)]) [0, 1, 2] rfl ?_
            exact gX11_over_b39 X ih a x1 x2 r26 μ27 _ _ _ _ hf (by omega) (by omega)
        · rw [if_pos h23] at hf
          refine wa_iconst (v := (0 : Int32)) X dX11_over_20 (by decide) ?_
          obtain ⟨rfl, rfl, rfl, rfl⟩ := jret hf
          exact wa_iret X dX11_over_21 rfl (by omega) (by omega)
def fX11_over (a : Nat) (x1 : Int32) (x2 : Int32) (μ : JM) : JO (Int32) := fX11_over_b2  jfuel a x1 x2 (1 : Int32) μ
set_option maxHeartbeats 4000000 in
set_option maxRecDepth 100000 in
theorem mX11_over {b : Nat} {a : Nat} {x1 : Int32} {x2 : Int32} {μ : JM} {r : Int32} {ν : JM} {c m : Nat} (hf : fX11_over a x1 x2 μ = some (r, ν, c, m)) : JMet b yX11_over cX11_over 5 (some .boolean) 4 85 [va_rf (some a), .int x1, .int x2] μ (some (.int r)) ν c m := by
  refine JMet.of (by decide) (lg_sl_le (by simp only [List.map_cons, List.map_nil, List.sum_cons, List.sum_nil, va_rf_cat]; exact Nat.le_of_ble_eq_true rfl)) (fun Θ X hin => ?_)
  refine wa_eq (L2 := [(0, va_rf (some a)), (1, .int x1), (2, .int x2)]) ?_ rfl (by first | rfl | simp [lv_args, va_rf_cat, cat_i, cat_l]) rfl
  obtain ⟨k, hk0⟩ : ∃ k : Nat, k = 0 := ⟨0, rfl⟩
  obtain ⟨n, hn0⟩ : ∃ n : Nat, n = 0 := ⟨0, rfl⟩
  have hk : k + c = c := by omega
  have hn : n + m = m := by omega
  refine wa_costs hk0.symm hn0.symm ?_
  rw [fX11_over] at hf
  refine wa_iconst (v := (1 : Int32)) X dX11_over_0 (by decide) ?_
  refine wa_istore_n (L2 := [(3, .int (1 : Int32)), (0, va_rf (some a)), (1, .int x1), (2, .int x2)]) X dX11_over_1 (by decide) (by first | rfl | (show (3, _) :: List.filter (fun q : Nat × Value => !(q.1 == 3) && !(q.1 + 1 == 3 && q.2.category == 2)) _ = _; simp [va_rf_cat, cat_i, cat_l])) ?_
  refine wa_sub (L2 := [(0, va_rf (some a)), (1, .int x1), (2, .int x2), (3, .int (1 : Int32))]) [1, 2, 3, 0] rfl ?_
  exact gX11_over_b2 X jfuel a x1 x2 (1 : Int32) μ _ _ _ _ hf (by omega) (by omega)
theorem dX11_clause_0 : decode cX11_clause 0 = .ok (.bipush 96, 2) := by decide +kernel
theorem dX11_clause_2 : decode cX11_clause 2 = .ok (.iload_n 1, 1) := by decide +kernel
theorem dX11_clause_3 : decode cX11_clause 3 = .ok (.iadd, 1) := by decide +kernel
theorem dX11_clause_4 : decode cX11_clause 4 = .ok (.istore_n 2, 1) := by decide +kernel
theorem dX11_clause_5 : decode cX11_clause 5 = .ok (.aload_n 0, 1) := by decide +kernel
theorem dX11_clause_6 : decode cX11_clause 6 = .ok (.getfield 79, 3) := by decide +kernel
theorem dX11_clause_9 : decode cX11_clause 9 = .ok (.iload_n 2, 1) := by decide +kernel
theorem dX11_clause_10 : decode cX11_clause 10 = .ok (.iconst (-1), 1) := by decide +kernel
theorem dX11_clause_11 : decode cX11_clause 11 = .ok (.iastore, 1) := by decide +kernel
theorem dX11_clause_12 : decode cX11_clause 12 = .ok (.aload_n 0, 1) := by decide +kernel
theorem dX11_clause_13 : decode cX11_clause 13 = .ok (.getfield 82, 3) := by decide +kernel
theorem dX11_clause_16 : decode cX11_clause 16 = .ok (.iload_n 2, 1) := by decide +kernel
theorem dX11_clause_17 : decode cX11_clause 17 = .ok (.iconst (-1), 1) := by decide +kernel
theorem dX11_clause_18 : decode cX11_clause 18 = .ok (.iastore, 1) := by decide +kernel
theorem dX11_clause_19 : decode cX11_clause 19 = .ok (.aload_n 0, 1) := by decide +kernel
theorem dX11_clause_20 : decode cX11_clause 20 = .ok (.getfield 85, 3) := by decide +kernel
theorem dX11_clause_23 : decode cX11_clause 23 = .ok (.iload_n 2, 1) := by decide +kernel
theorem dX11_clause_24 : decode cX11_clause 24 = .ok (.iconst (-1), 1) := by decide +kernel
theorem dX11_clause_25 : decode cX11_clause 25 = .ok (.iastore, 1) := by decide +kernel
theorem dX11_clause_26 : decode cX11_clause 26 = .ok (.aload_n 0, 1) := by decide +kernel
theorem dX11_clause_27 : decode cX11_clause 27 = .ok (.getfield 88, 3) := by decide +kernel
theorem dX11_clause_30 : decode cX11_clause 30 = .ok (.iload_n 2, 1) := by decide +kernel
theorem dX11_clause_31 : decode cX11_clause 31 = .ok (.iconst (-1), 1) := by decide +kernel
theorem dX11_clause_32 : decode cX11_clause 32 = .ok (.iastore, 1) := by decide +kernel
theorem dX11_clause_33 : decode cX11_clause 33 = .ok (.aload_n 0, 1) := by decide +kernel
theorem dX11_clause_34 : decode cX11_clause 34 = .ok (.getfield 91, 3) := by decide +kernel
theorem dX11_clause_37 : decode cX11_clause 37 = .ok (.iload_n 2, 1) := by decide +kernel
theorem dX11_clause_38 : decode cX11_clause 38 = .ok (.iconst 0, 1) := by decide +kernel
theorem dX11_clause_39 : decode cX11_clause 39 = .ok (.iastore, 1) := by decide +kernel
theorem dX11_clause_40 : decode cX11_clause 40 = .ok (.aload_n 0, 1) := by decide +kernel
theorem dX11_clause_41 : decode cX11_clause 41 = .ok (.getfield 94, 3) := by decide +kernel
theorem dX11_clause_44 : decode cX11_clause 44 = .ok (.iload_n 2, 1) := by decide +kernel
theorem dX11_clause_45 : decode cX11_clause 45 = .ok (.iconst 0, 1) := by decide +kernel
theorem dX11_clause_46 : decode cX11_clause 46 = .ok (.iastore, 1) := by decide +kernel
theorem dX11_clause_47 : decode cX11_clause 47 = .ok (.aload_n 0, 1) := by decide +kernel
theorem dX11_clause_48 : decode cX11_clause 48 = .ok (.getfield 163, 3) := by decide +kernel
theorem dX11_clause_51 : decode cX11_clause 51 = .ok (.ifCond .le 5, 3) := by decide +kernel
theorem dX11_clause_54 : decode cX11_clause 54 = .ok (.iconst 0, 1) := by decide +kernel
theorem dX11_clause_55 : decode cX11_clause 55 = .ok (.ireturn, 1) := by decide +kernel
theorem dX11_clause_56 : decode cX11_clause 56 = .ok (.aload_n 0, 1) := by decide +kernel
theorem dX11_clause_57 : decode cX11_clause 57 = .ok (.ldc2_w 215, 3) := by decide +kernel
theorem dX11_clause_60 : decode cX11_clause 60 = .ok (.invokevirtual 217, 3) := by decide +kernel
theorem dX11_clause_63 : decode cX11_clause 63 = .ok (.ifCond .eq 9, 3) := by decide +kernel
theorem dX11_clause_66 : decode cX11_clause 66 = .ok (.aload_n 0, 1) := by decide +kernel
theorem dX11_clause_67 : decode cX11_clause 67 = .ok (.iload_n 2, 1) := by decide +kernel
theorem dX11_clause_68 : decode cX11_clause 68 = .ok (.invokevirtual 318, 3) := by decide +kernel
theorem dX11_clause_71 : decode cX11_clause 71 = .ok (.ireturn, 1) := by decide +kernel
theorem dX11_clause_72 : decode cX11_clause 72 = .ok (.aload_n 0, 1) := by decide +kernel
theorem dX11_clause_73 : decode cX11_clause 73 = .ok (.invokevirtual 267, 3) := by decide +kernel
theorem dX11_clause_76 : decode cX11_clause 76 = .ok (.ifCond .ne 5, 3) := by decide +kernel
theorem dX11_clause_79 : decode cX11_clause 79 = .ok (.iconst 0, 1) := by decide +kernel
theorem dX11_clause_80 : decode cX11_clause 80 = .ok (.ireturn, 1) := by decide +kernel
theorem dX11_clause_81 : decode cX11_clause 81 = .ok (.aload_n 0, 1) := by decide +kernel
theorem dX11_clause_82 : decode cX11_clause 82 = .ok (.getfield 280, 3) := by decide +kernel
theorem dX11_clause_85 : decode cX11_clause 85 = .ok (.ifCond .eq 22, 3) := by decide +kernel
theorem dX11_clause_88 : decode cX11_clause 88 = .ok (.aload_n 0, 1) := by decide +kernel
theorem dX11_clause_89 : decode cX11_clause 89 = .ok (.iconst 4, 1) := by decide +kernel
theorem dX11_clause_90 : decode cX11_clause 90 = .ok (.iload_n 1, 1) := by decide +kernel
theorem dX11_clause_91 : decode cX11_clause 91 = .ok (.invokevirtual 321, 3) := by decide +kernel
theorem dX11_clause_94 : decode cX11_clause 94 = .ok (.ifCond .lt 13, 3) := by decide +kernel
theorem dX11_clause_97 : decode cX11_clause 97 = .ok (.aload_n 0, 1) := by decide +kernel
theorem dX11_clause_98 : decode cX11_clause 98 = .ok (.iconst 2, 1) := by decide +kernel
theorem dX11_clause_99 : decode cX11_clause 99 = .ok (.aload_n 0, 1) := by decide +kernel
theorem dX11_clause_100 : decode cX11_clause 100 = .ok (.getfield 185, 3) := by decide +kernel
theorem dX11_clause_103 : decode cX11_clause 103 = .ok (.invokevirtual 201, 3) := by decide +kernel
theorem dX11_clause_106 : decode cX11_clause 106 = .ok (.ireturn, 1) := by decide +kernel
theorem dX11_clause_107 : decode cX11_clause 107 = .ok (.aload_n 0, 1) := by decide +kernel
theorem dX11_clause_108 : decode cX11_clause 108 = .ok (.iconst 0, 1) := by decide +kernel
theorem dX11_clause_109 : decode cX11_clause 109 = .ok (.invokevirtual 305, 3) := by decide +kernel
theorem dX11_clause_112 : decode cX11_clause 112 = .ok (.ifCond .ne 13, 3) := by decide +kernel
theorem dX11_clause_115 : decode cX11_clause 115 = .ok (.aload_n 0, 1) := by decide +kernel
theorem dX11_clause_116 : decode cX11_clause 116 = .ok (.iconst 3, 1) := by decide +kernel
theorem dX11_clause_117 : decode cX11_clause 117 = .ok (.aload_n 0, 1) := by decide +kernel
theorem dX11_clause_118 : decode cX11_clause 118 = .ok (.getfield 185, 3) := by decide +kernel
theorem dX11_clause_121 : decode cX11_clause 121 = .ok (.invokevirtual 201, 3) := by decide +kernel
theorem dX11_clause_124 : decode cX11_clause 124 = .ok (.ireturn, 1) := by decide +kernel
theorem dX11_clause_125 : decode cX11_clause 125 = .ok (.aload_n 0, 1) := by decide +kernel
theorem dX11_clause_126 : decode cX11_clause 126 = .ok (.getfield 76, 3) := by decide +kernel
theorem dX11_clause_129 : decode cX11_clause 129 = .ok (.iload_n 2, 1) := by decide +kernel
theorem dX11_clause_130 : decode cX11_clause 130 = .ok (.iconst 1, 1) := by decide +kernel
theorem dX11_clause_131 : decode cX11_clause 131 = .ok (.iastore, 1) := by decide +kernel
theorem dX11_clause_132 : decode cX11_clause 132 = .ok (.aload_n 0, 1) := by decide +kernel
theorem dX11_clause_133 : decode cX11_clause 133 = .ok (.iload_n 2, 1) := by decide +kernel
theorem dX11_clause_134 : decode cX11_clause 134 = .ok (.invokevirtual 309, 3) := by decide +kernel
theorem dX11_clause_137 : decode cX11_clause 137 = .ok (.aload_n 0, 1) := by decide +kernel
theorem dX11_clause_138 : decode cX11_clause 138 = .ok (.invokevirtual 255, 3) := by decide +kernel
theorem dX11_clause_141 : decode cX11_clause 141 = .ok (.ifCond .eq 12, 3) := by decide +kernel
theorem dX11_clause_144 : decode cX11_clause 144 = .ok (.aload_n 0, 1) := by decide +kernel
theorem dX11_clause_145 : decode cX11_clause 145 = .ok (.bipush 58, 2) := by decide +kernel
theorem dX11_clause_147 : decode cX11_clause 147 = .ok (.invokevirtual 325, 3) := by decide +kernel
theorem dX11_clause_150 : decode cX11_clause 150 = .ok (.ifCond .ne 5, 3) := by decide +kernel
theorem dX11_clause_153 : decode cX11_clause 153 = .ok (.iconst 0, 1) := by decide +kernel
theorem dX11_clause_154 : decode cX11_clause 154 = .ok (.ireturn, 1) := by decide +kernel
theorem dX11_clause_155 : decode cX11_clause 155 = .ok (.aload_n 0, 1) := by decide +kernel
theorem dX11_clause_156 : decode cX11_clause 156 = .ok (.getfield 76, 3) := by decide +kernel
theorem dX11_clause_159 : decode cX11_clause 159 = .ok (.iload_n 2, 1) := by decide +kernel
theorem dX11_clause_160 : decode cX11_clause 160 = .ok (.aload_n 0, 1) := by decide +kernel
theorem dX11_clause_161 : decode cX11_clause 161 = .ok (.ldc2_w 223, 3) := by decide +kernel
theorem dX11_clause_164 : decode cX11_clause 164 = .ok (.invokevirtual 217, 3) := by decide +kernel
theorem dX11_clause_167 : decode cX11_clause 167 = .ok (.ifCond .eq 7, 3) := by decide +kernel
theorem dX11_clause_170 : decode cX11_clause 170 = .ok (.iconst 1, 1) := by decide +kernel
theorem dX11_clause_171 : decode cX11_clause 171 = .ok (.goto 32, 3) := by decide +kernel
theorem dX11_clause_174 : decode cX11_clause 174 = .ok (.aload_n 0, 1) := by decide +kernel
theorem dX11_clause_175 : decode cX11_clause 175 = .ok (.ldc2_w 225, 3) := by decide +kernel
theorem dX11_clause_178 : decode cX11_clause 178 = .ok (.invokevirtual 217, 3) := by decide +kernel
theorem dX11_clause_181 : decode cX11_clause 181 = .ok (.ifCond .eq 7, 3) := by decide +kernel
theorem dX11_clause_184 : decode cX11_clause 184 = .ok (.iconst 2, 1) := by decide +kernel
theorem dX11_clause_185 : decode cX11_clause 185 = .ok (.goto 18, 3) := by decide +kernel
theorem dX11_clause_188 : decode cX11_clause 188 = .ok (.aload_n 0, 1) := by decide +kernel
theorem dX11_clause_189 : decode cX11_clause 189 = .ok (.ldc2_w 227, 3) := by decide +kernel
theorem dX11_clause_192 : decode cX11_clause 192 = .ok (.invokevirtual 217, 3) := by decide +kernel
theorem dX11_clause_195 : decode cX11_clause 195 = .ok (.ifCond .eq 7, 3) := by decide +kernel
theorem dX11_clause_198 : decode cX11_clause 198 = .ok (.iconst 3, 1) := by decide +kernel
theorem dX11_clause_199 : decode cX11_clause 199 = .ok (.goto 4, 3) := by decide +kernel
theorem dX11_clause_202 : decode cX11_clause 202 = .ok (.iconst (-1), 1) := by decide +kernel
theorem dX11_clause_203 : decode cX11_clause 203 = .ok (.iastore, 1) := by decide +kernel
theorem dX11_clause_204 : decode cX11_clause 204 = .ok (.aload_n 0, 1) := by decide +kernel
theorem dX11_clause_205 : decode cX11_clause 205 = .ok (.getfield 76, 3) := by decide +kernel
theorem dX11_clause_208 : decode cX11_clause 208 = .ok (.iload_n 2, 1) := by decide +kernel
theorem dX11_clause_209 : decode cX11_clause 209 = .ok (.iaload, 1) := by decide +kernel
theorem dX11_clause_210 : decode cX11_clause 210 = .ok (.ifCond .ge 13, 3) := by decide +kernel
theorem dX11_clause_213 : decode cX11_clause 213 = .ok (.aload_n 0, 1) := by decide +kernel
theorem dX11_clause_214 : decode cX11_clause 214 = .ok (.iconst 0, 1) := by decide +kernel
theorem dX11_clause_215 : decode cX11_clause 215 = .ok (.aload_n 0, 1) := by decide +kernel
theorem dX11_clause_216 : decode cX11_clause 216 = .ok (.getfield 185, 3) := by decide +kernel
theorem dX11_clause_219 : decode cX11_clause 219 = .ok (.invokevirtual 201, 3) := by decide +kernel
theorem dX11_clause_222 : decode cX11_clause 222 = .ok (.ireturn, 1) := by decide +kernel
theorem dX11_clause_223 : decode cX11_clause 223 = .ok (.aload_n 0, 1) := by decide +kernel
theorem dX11_clause_224 : decode cX11_clause 224 = .ok (.invokevirtual 255, 3) := by decide +kernel
theorem dX11_clause_227 : decode cX11_clause 227 = .ok (.ifCond .ne 5, 3) := by decide +kernel
theorem dX11_clause_230 : decode cX11_clause 230 = .ok (.iconst 0, 1) := by decide +kernel
theorem dX11_clause_231 : decode cX11_clause 231 = .ok (.ireturn, 1) := by decide +kernel
theorem dX11_clause_232 : decode cX11_clause 232 = .ok (.aload_n 0, 1) := by decide +kernel
theorem dX11_clause_233 : decode cX11_clause 233 = .ok (.getfield 79, 3) := by decide +kernel
theorem dX11_clause_236 : decode cX11_clause 236 = .ok (.iload_n 2, 1) := by decide +kernel
theorem dX11_clause_237 : decode cX11_clause 237 = .ok (.aload_n 0, 1) := by decide +kernel
theorem dX11_clause_238 : decode cX11_clause 238 = .ok (.invokevirtual 328, 3) := by decide +kernel
theorem dX11_clause_241 : decode cX11_clause 241 = .ok (.iastore, 1) := by decide +kernel
theorem dX11_clause_242 : decode cX11_clause 242 = .ok (.aload_n 0, 1) := by decide +kernel
theorem dX11_clause_243 : decode cX11_clause 243 = .ok (.ldc2_w 229, 3) := by decide +kernel
theorem dX11_clause_246 : decode cX11_clause 246 = .ok (.invokevirtual 312, 3) := by decide +kernel
theorem dX11_clause_249 : decode cX11_clause 249 = .ok (.ifCond .ne 5, 3) := by decide +kernel
theorem dX11_clause_252 : decode cX11_clause 252 = .ok (.iconst 0, 1) := by decide +kernel
theorem dX11_clause_253 : decode cX11_clause 253 = .ok (.ireturn, 1) := by decide +kernel
theorem dX11_clause_254 : decode cX11_clause 254 = .ok (.aload_n 0, 1) := by decide +kernel
theorem dX11_clause_255 : decode cX11_clause 255 = .ok (.getfield 82, 3) := by decide +kernel
theorem dX11_clause_258 : decode cX11_clause 258 = .ok (.iload_n 2, 1) := by decide +kernel
theorem dX11_clause_259 : decode cX11_clause 259 = .ok (.aload_n 0, 1) := by decide +kernel
theorem dX11_clause_260 : decode cX11_clause 260 = .ok (.invokevirtual 332, 3) := by decide +kernel
theorem dX11_clause_263 : decode cX11_clause 263 = .ok (.iastore, 1) := by decide +kernel
theorem dX11_clause_264 : decode cX11_clause 264 = .ok (.aload_n 0, 1) := by decide +kernel
theorem dX11_clause_265 : decode cX11_clause 265 = .ok (.getfield 163, 3) := by decide +kernel
theorem dX11_clause_268 : decode cX11_clause 268 = .ok (.ifCond .gt 21, 3) := by decide +kernel
theorem dX11_clause_271 : decode cX11_clause 271 = .ok (.aload_n 0, 1) := by decide +kernel
theorem dX11_clause_272 : decode cX11_clause 272 = .ok (.getfield 76, 3) := by decide +kernel
theorem dX11_clause_275 : decode cX11_clause 275 = .ok (.iload_n 2, 1) := by decide +kernel
theorem dX11_clause_276 : decode cX11_clause 276 = .ok (.iaload, 1) := by decide +kernel
theorem dX11_clause_277 : decode cX11_clause 277 = .ok (.iconst 1, 1) := by decide +kernel
theorem dX11_clause_278 : decode cX11_clause 278 = .ok (.if_icmp .ne 13, 3) := by decide +kernel
theorem dX11_clause_281 : decode cX11_clause 281 = .ok (.aload_n 0, 1) := by decide +kernel
theorem dX11_clause_282 : decode cX11_clause 282 = .ok (.iload_n 2, 1) := by decide +kernel
theorem dX11_clause_283 : decode cX11_clause 283 = .ok (.invokevirtual 335, 3) := by decide +kernel
theorem dX11_clause_286 : decode cX11_clause 286 = .ok (.ifCond .ne 5, 3) := by decide +kernel
theorem dX11_clause_289 : decode cX11_clause 289 = .ok (.iconst 0, 1) := by decide +kernel
theorem dX11_clause_290 : decode cX11_clause 290 = .ok (.ireturn, 1) := by decide +kernel
theorem dX11_clause_291 : decode cX11_clause 291 = .ok (.iconst 0, 1) := by decide +kernel
theorem dX11_clause_292 : decode cX11_clause 292 = .ok (.istore_n 3, 1) := by decide +kernel
theorem dX11_clause_293 : decode cX11_clause 293 = .ok (.iload_n 3, 1) := by decide +kernel
theorem dX11_clause_294 : decode cX11_clause 294 = .ok (.iconst 4, 1) := by decide +kernel
theorem dX11_clause_295 : decode cX11_clause 295 = .ok (.if_icmp .ge 25, 3) := by decide +kernel
theorem dX11_clause_298 : decode cX11_clause 298 = .ok (.aload_n 0, 1) := by decide +kernel
theorem dX11_clause_299 : decode cX11_clause 299 = .ok (.getfield 103, 3) := by decide +kernel
theorem dX11_clause_302 : decode cX11_clause 302 = .ok (.iconst 4, 1) := by decide +kernel
theorem dX11_clause_303 : decode cX11_clause 303 = .ok (.iload_n 2, 1) := by decide +kernel
theorem dX11_clause_304 : decode cX11_clause 304 = .ok (.imul, 1) := by decide +kernel
theorem dX11_clause_305 : decode cX11_clause 305 = .ok (.iload_n 3, 1) := by decide +kernel
theorem dX11_clause_306 : decode cX11_clause 306 = .ok (.iadd, 1) := by decide +kernel
theorem dX11_clause_307 : decode cX11_clause 307 = .ok (.aload_n 0, 1) := by decide +kernel
theorem dX11_clause_308 : decode cX11_clause 308 = .ok (.getfield 42, 3) := by decide +kernel
theorem dX11_clause_311 : decode cX11_clause 311 = .ok (.iload_n 3, 1) := by decide +kernel
theorem dX11_clause_312 : decode cX11_clause 312 = .ok (.laload, 1) := by decide +kernel
theorem dX11_clause_313 : decode cX11_clause 313 = .ok (.lastore, 1) := by decide +kernel
theorem dX11_clause_314 : decode cX11_clause 314 = .ok (.iinc 3 1, 3) := by decide +kernel
theorem dX11_clause_317 : decode cX11_clause 317 = .ok (.goto (-24), 3) := by decide +kernel
theorem dX11_clause_320 : decode cX11_clause 320 = .ok (.aload_n 0, 1) := by decide +kernel
theorem dX11_clause_321 : decode cX11_clause 321 = .ok (.ldc2_w 237, 3) := by decide +kernel
theorem dX11_clause_324 : decode cX11_clause 324 = .ok (.invokevirtual 217, 3) := by decide +kernel
theorem dX11_clause_327 : decode cX11_clause 327 = .ok (.ifCond .eq 51, 3) := by decide +kernel
theorem dX11_clause_330 : decode cX11_clause 330 = .ok (.aload_n 0, 1) := by decide +kernel
theorem dX11_clause_331 : decode cX11_clause 331 = .ok (.invokevirtual 255, 3) := by decide +kernel
theorem dX11_clause_334 : decode cX11_clause 334 = .ok (.ifCond .eq 10, 3) := by decide +kernel
theorem dX11_clause_337 : decode cX11_clause 337 = .ok (.aload_n 0, 1) := by decide +kernel
theorem dX11_clause_338 : decode cX11_clause 338 = .ok (.invokevirtual 315, 3) := by decide +kernel
theorem dX11_clause_341 : decode cX11_clause 341 = .ok (.ifCond .ne 5, 3) := by decide +kernel
theorem dX11_clause_344 : decode cX11_clause 344 = .ok (.iconst 0, 1) := by decide +kernel
theorem dX11_clause_345 : decode cX11_clause 345 = .ok (.ireturn, 1) := by decide +kernel
theorem dX11_clause_346 : decode cX11_clause 346 = .ok (.iconst 0, 1) := by decide +kernel
theorem dX11_clause_347 : decode cX11_clause 347 = .ok (.istore_n 3, 1) := by decide +kernel
theorem dX11_clause_348 : decode cX11_clause 348 = .ok (.iload_n 3, 1) := by decide +kernel
theorem dX11_clause_349 : decode cX11_clause 349 = .ok (.iconst 4, 1) := by decide +kernel
theorem dX11_clause_350 : decode cX11_clause 350 = .ok (.if_icmp .ge 28, 3) := by decide +kernel
theorem dX11_clause_353 : decode cX11_clause 353 = .ok (.aload_n 0, 1) := by decide +kernel
theorem dX11_clause_354 : decode cX11_clause 354 = .ok (.getfield 103, 3) := by decide +kernel
theorem dX11_clause_357 : decode cX11_clause 357 = .ok (.iconst 4, 1) := by decide +kernel
theorem dX11_clause_358 : decode cX11_clause 358 = .ok (.iload_n 2, 1) := by decide +kernel
theorem dX11_clause_359 : decode cX11_clause 359 = .ok (.imul, 1) := by decide +kernel
theorem dX11_clause_360 : decode cX11_clause 360 = .ok (.iload_n 3, 1) := by decide +kernel
theorem dX11_clause_361 : decode cX11_clause 361 = .ok (.iadd, 1) := by decide +kernel
theorem dX11_clause_362 : decode cX11_clause 362 = .ok (.dup2, 1) := by decide +kernel
theorem dX11_clause_363 : decode cX11_clause 363 = .ok (.laload, 1) := by decide +kernel
theorem dX11_clause_364 : decode cX11_clause 364 = .ok (.aload_n 0, 1) := by decide +kernel
theorem dX11_clause_365 : decode cX11_clause 365 = .ok (.getfield 61, 3) := by decide +kernel
theorem dX11_clause_368 : decode cX11_clause 368 = .ok (.iload_n 3, 1) := by decide +kernel
theorem dX11_clause_369 : decode cX11_clause 369 = .ok (.laload, 1) := by decide +kernel
theorem dX11_clause_370 : decode cX11_clause 370 = .ok (.land, 1) := by decide +kernel
theorem dX11_clause_371 : decode cX11_clause 371 = .ok (.lastore, 1) := by decide +kernel
theorem dX11_clause_372 : decode cX11_clause 372 = .ok (.iinc 3 1, 3) := by decide +kernel
theorem dX11_clause_375 : decode cX11_clause 375 = .ok (.goto (-27), 3) := by decide +kernel
theorem dX11_clause_378 : decode cX11_clause 378 = .ok (.aload_n 0, 1) := by decide +kernel
theorem dX11_clause_379 : decode cX11_clause 379 = .ok (.ldc2_w 239, 3) := by decide +kernel
theorem dX11_clause_382 : decode cX11_clause 382 = .ok (.invokevirtual 217, 3) := by decide +kernel
theorem dX11_clause_385 : decode cX11_clause 385 = .ok (.ifCond .eq 55, 3) := by decide +kernel
theorem dX11_clause_388 : decode cX11_clause 388 = .ok (.aload_n 0, 1) := by decide +kernel
theorem dX11_clause_389 : decode cX11_clause 389 = .ok (.invokevirtual 255, 3) := by decide +kernel
theorem dX11_clause_392 : decode cX11_clause 392 = .ok (.ifCond .eq 10, 3) := by decide +kernel
theorem dX11_clause_395 : decode cX11_clause 395 = .ok (.aload_n 0, 1) := by decide +kernel
theorem dX11_clause_396 : decode cX11_clause 396 = .ok (.invokevirtual 315, 3) := by decide +kernel
theorem dX11_clause_399 : decode cX11_clause 399 = .ok (.ifCond .ne 5, 3) := by decide +kernel
theorem dX11_clause_402 : decode cX11_clause 402 = .ok (.iconst 0, 1) := by decide +kernel
theorem dX11_clause_403 : decode cX11_clause 403 = .ok (.ireturn, 1) := by decide +kernel
theorem dX11_clause_404 : decode cX11_clause 404 = .ok (.iconst 0, 1) := by decide +kernel
theorem dX11_clause_405 : decode cX11_clause 405 = .ok (.istore_n 3, 1) := by decide +kernel
theorem dX11_clause_406 : decode cX11_clause 406 = .ok (.iload_n 3, 1) := by decide +kernel
theorem dX11_clause_407 : decode cX11_clause 407 = .ok (.iconst 4, 1) := by decide +kernel
theorem dX11_clause_408 : decode cX11_clause 408 = .ok (.if_icmp .ge 32, 3) := by decide +kernel
theorem dX11_clause_411 : decode cX11_clause 411 = .ok (.aload_n 0, 1) := by decide +kernel
theorem dX11_clause_412 : decode cX11_clause 412 = .ok (.getfield 103, 3) := by decide +kernel
theorem dX11_clause_415 : decode cX11_clause 415 = .ok (.iconst 4, 1) := by decide +kernel
theorem dX11_clause_416 : decode cX11_clause 416 = .ok (.iload_n 2, 1) := by decide +kernel
theorem dX11_clause_417 : decode cX11_clause 417 = .ok (.imul, 1) := by decide +kernel
theorem dX11_clause_418 : decode cX11_clause 418 = .ok (.iload_n 3, 1) := by decide +kernel
theorem dX11_clause_419 : decode cX11_clause 419 = .ok (.iadd, 1) := by decide +kernel
theorem dX11_clause_420 : decode cX11_clause 420 = .ok (.dup2, 1) := by decide +kernel
theorem dX11_clause_421 : decode cX11_clause 421 = .ok (.laload, 1) := by decide +kernel
theorem dX11_clause_422 : decode cX11_clause 422 = .ok (.aload_n 0, 1) := by decide +kernel
theorem dX11_clause_423 : decode cX11_clause 423 = .ok (.getfield 61, 3) := by decide +kernel
theorem dX11_clause_426 : decode cX11_clause 426 = .ok (.iload_n 3, 1) := by decide +kernel
theorem dX11_clause_427 : decode cX11_clause 427 = .ok (.laload, 1) := by decide +kernel
theorem dX11_clause_428 : decode cX11_clause 428 = .ok (.ldc2_w 278, 3) := by decide +kernel
theorem dX11_clause_431 : decode cX11_clause 431 = .ok (.lxor, 1) := by decide +kernel
theorem dX11_clause_432 : decode cX11_clause 432 = .ok (.land, 1) := by decide +kernel
theorem dX11_clause_433 : decode cX11_clause 433 = .ok (.lastore, 1) := by decide +kernel
theorem dX11_clause_434 : decode cX11_clause 434 = .ok (.iinc 3 1, 3) := by decide +kernel
theorem dX11_clause_437 : decode cX11_clause 437 = .ok (.goto (-31), 3) := by decide +kernel
theorem dX11_clause_440 : decode cX11_clause 440 = .ok (.aload_n 0, 1) := by decide +kernel
theorem dX11_clause_441 : decode cX11_clause 441 = .ok (.ldc2_w 241, 3) := by decide +kernel
theorem dX11_clause_444 : decode cX11_clause 444 = .ok (.invokevirtual 217, 3) := by decide +kernel
theorem dX11_clause_447 : decode cX11_clause 447 = .ok (.ifCond .eq 12, 3) := by decide +kernel
theorem dX11_clause_450 : decode cX11_clause 450 = .ok (.aload_n 0, 1) := by decide +kernel
theorem dX11_clause_451 : decode cX11_clause 451 = .ok (.iload_n 2, 1) := by decide +kernel
theorem dX11_clause_452 : decode cX11_clause 452 = .ok (.iload_n 1, 1) := by decide +kernel
theorem dX11_clause_453 : decode cX11_clause 453 = .ok (.invokevirtual 338, 3) := by decide +kernel
theorem dX11_clause_456 : decode cX11_clause 456 = .ok (.ifCond .eq 7, 3) := by decide +kernel
theorem dX11_clause_459 : decode cX11_clause 459 = .ok (.iconst 1, 1) := by decide +kernel
theorem dX11_clause_460 : decode cX11_clause 460 = .ok (.goto 4, 3) := by decide +kernel
theorem dX11_clause_463 : decode cX11_clause 463 = .ok (.iconst 0, 1) := by decide +kernel
theorem dX11_clause_464 : decode cX11_clause 464 = .ok (.ireturn, 1) := by decide +kernel
def fX11_clause_b440 (a : Nat) (x1 : Int32) (x2 : Int32) (μ : JM) : JO (Int32) := jck ((jT μ a).1 == 12) <| jcl (fX11_isWord a (514226 : Int64) μ) fun r395 μ396 => if r395 = 0 then (some ((1 : Int32), μ396, 0, 0)) else (jck ((jT μ396 a).1 == 12) <| jcl (fX11_over a x2 x1 μ396) fun r406 μ407 => if r406 = 0 then (some ((0 : Int32), μ407, 0, 0)) else (some ((1 : Int32), μ407, 0, 0)))
set_option maxHeartbeats 4000000 in
set_option maxRecDepth 100000 in
theorem gX11_clause_b440 {b : Nat} {Θ : JE} {RC RS : Nat} {r : Int32} {ν : JM} (X : jX b Θ RX11 cX11_clause 4 (some .boolean) 6 135 RC RS) (a : Nat) (x1 : Int32) (x2 : Int32) (μ : JM) (c m k n : Nat) (hf : fX11_clause_b440 a x1 x2 μ = some (r, ν, c, m)) (hk : k + c = RC) (hn : n + m = RS) : WA b Θ 4 (jE b Θ (some (.int r)) ν RC RS) μ k n 440 [(0, va_rf (some a)), (1, .int x1), (2, .int x2)] [] := by
  rw [fX11_clause_b440] at hf
  refine wa_aload_n X 0 dX11_clause_440 rfl ?_
  refine wa_ldc2 (v := (514226 : Int64)) X dX11_clause_441 lkX11_241 ?_
  obtain ⟨h394, hf⟩ := jckT hf
  obtain ⟨r395, μ396, c397, m398, c399, m400, e401, hf, h402, h403⟩ := jcl_some hf
  refine wa_rcallV (st2 := [.int r395]) X dX11_clause_444 lmX11_217 lMX11_isWord rfl h394 (mX11_isWord e401) rfl rfl rfl (va_cats (Nat.le_of_ble_eq_true rfl)) (by decide) (by omega) (by omega) ?_
  refine wa_ifeq (tgt := 459) X dX11_clause_447 (by decide) (fun h404 => ?_) (fun h404 => ?_)
  · rw [if_pos h404] at hf
    refine wa_iconst (v := (1 : Int32)) X dX11_clause_459 (by decide) ?_
    refine wa_goto (tgt := 464) X dX11_clause_460 (by decide) ?_
    obtain ⟨rfl, rfl, rfl, rfl⟩ := jret hf
    exact wa_iret X dX11_clause_464 rfl (by omega) (by omega)
  · rw [if_neg h404] at hf
    refine wa_aload_n X 0 dX11_clause_450 rfl ?_
    refine wa_iload_n X 2 dX11_clause_451 rfl ?_
    refine wa_iload_n X 1 dX11_clause_452 rfl ?_
    obtain ⟨h405, hf⟩ := jckT hf
    obtain ⟨r406, μ407, c408, m409, c410, m411, e412, hf, h413, h414⟩ := jcl_some hf
    refine wa_rcallV (st2 := [.int r406]) X dX11_clause_453 lmX11_338 lMX11_over rfl h405 (mX11_over e412) rfl rfl rfl (va_cats (Nat.le_of_ble_eq_true rfl)) (by decide) (by omega) (by omega) ?_
    refine wa_ifeq (tgt := 463) X dX11_clause_456 (by decide) (fun h415 => ?_) (fun h415 => ?_)
    · rw [if_pos h415] at hf
      refine wa_iconst (v := (0 : Int32)) X dX11_clause_463 (by decide) ?_
      obtain ⟨rfl, rfl, rfl, rfl⟩ := jret hf
      exact wa_iret X dX11_clause_464 rfl (by omega) (by omega)
    · rw [if_neg h415] at hf
      refine wa_iconst (v := (1 : Int32)) X dX11_clause_459 (by decide) ?_
      refine wa_goto (tgt := 464) X dX11_clause_460 (by decide) ?_
      obtain ⟨rfl, rfl, rfl, rfl⟩ := jret hf
      exact wa_iret X dX11_clause_464 rfl (by omega) (by omega)
def fX11_clause_b406 : Nat → Nat → Int32 → Int32 → Int32 → JM → JO (Int32)
  | 0, _, _, _, _, _ => none
  | fu + 1, a, x1, x2, x3, μ => if (4 : Int32) ≤ x3 then (fX11_clause_b440  a x1 x2 μ) else (jck ((jT μ a).1 == 12) <| jde (jP μ a 44) fun q383 => jck ((jT μ q383).1 == 102) <| jck (jin (((4 : Int32) * x2) + x3) (jT μ q383).2) <| jde (jP μ a 28) fun q387 => jck ((jT μ q387).1 == 102) <| jck (jin x3 (jT μ q387).2) <| jlt (jsJ μ q383 ((((4 : Int32) * x2) + x3)).toNatClampNeg ((jJ μ q383 ((((4 : Int32) * x2) + x3)).toNatClampNeg) &&& ((jJ μ q387 (x3).toNatClampNeg) ^^^ (-1 : Int64)))) fun μ391 => fX11_clause_b406 fu a x1 x2 (x3 + (1 : Int32)) μ391)
set_option maxHeartbeats 4000000 in
set_option maxRecDepth 100000 in
theorem gX11_clause_b406 {b : Nat} {Θ : JE} {RC RS : Nat} {r : Int32} {ν : JM} (X : jX b Θ RX11 cX11_clause 4 (some .boolean) 6 135 RC RS) : ∀ (fu : Nat) (a : Nat) (x1 : Int32) (x2 : Int32) (x3 : Int32) (μ : JM) (c m k n : Nat), fX11_clause_b406 fu a x1 x2 x3 μ = some (r, ν, c, m) → k + c = RC → n + m = RS → WA b Θ 4 (jE b Θ (some (.int r)) ν RC RS) μ k n 406 [(0, va_rf (some a)), (1, .int x1), (2, .int x2), (3, .int x3)] [] := by
  intro fu
  induction fu with
  | zero => intro a x1 x2 x3 μ c m k n hf; cases hf
  | succ fu ih =>
    intro a x1 x2 x3 μ c m k n hf hk hn
    rw [fX11_clause_b406] at hf
    refine wa_iload_n X 3 dX11_clause_406 rfl ?_
    refine wa_iconst (v := (4 : Int32)) X dX11_clause_407 (by decide) ?_
    refine wa_icge (tgt := 440) X dX11_clause_408 (by decide) (fun h381 => ?_) (fun h381 => ?_)
    · rw [if_pos h381] at hf
      refine wa_sub (L2 := [(0, va_rf (some a)), (1, .int x1), (2, .int x2)]) [0, 1, 2] rfl ?_
      exact gX11_clause_b440 X a x1 x2 μ _ _ _ _ hf (by omega) (by omega)
    · rw [if_neg h381] at hf
      refine wa_aload_n X 0 dX11_clause_411 rfl ?_
      obtain ⟨h382, hf⟩ := jckT hf
      refine wa_getP X dX11_clause_412 lfX11_103 rfl h382 rfl ?_
      refine wa_iconst (v := (4 : Int32)) X dX11_clause_415 (by decide) ?_
      refine wa_iload_n X 2 dX11_clause_416 rfl ?_
      refine wa_imul X dX11_clause_417 ?_
      refine wa_iload_n X 3 dX11_clause_418 rfl ?_
      refine wa_iadd X dX11_clause_419 ?_
      refine wa_dup2 X dX11_clause_420 rfl (va_rf_cat _) ?_
      obtain ⟨q383, h384, hf⟩ := jde_some hf
      obtain ⟨h385, hf⟩ := jckT hf
      obtain ⟨h386, hf⟩ := jck_some hf
      refine wa_rlald X dX11_clause_421 h384 h385 h386 ?_
      refine wa_aload_n X 0 dX11_clause_422 rfl ?_
      refine wa_getP X dX11_clause_423 lfX11_61 rfl h382 rfl ?_
      refine wa_iload_n X 3 dX11_clause_426 rfl ?_
      obtain ⟨q387, h388, hf⟩ := jde_some hf
      obtain ⟨h389, hf⟩ := jckT hf
      obtain ⟨h390, hf⟩ := jck_some hf
      refine wa_rlald X dX11_clause_427 h388 h389 h390 ?_
      refine wa_ldc2 (v := (-1 : Int64)) X dX11_clause_428 lkX11_278 ?_
      refine wa_lxor X dX11_clause_431 ?_
      refine wa_land X dX11_clause_432 ?_
      obtain ⟨μ391, hm392, hf⟩ := jlt_e hf
      have e393 : jT μ391 = jT μ := by rw [hm392]; rfl
      refine wa_rlast (ν := μ391) X dX11_clause_433 h384 h385 h386 hm392 ?_
      refine wa_iinc (v := (x3 + (1 : Int32))) (L2 := [(3, .int (x3 + (1 : Int32))), (0, va_rf (some a)), (1, .int x1), (2, .int x2)]) X 3 dX11_clause_434 rfl rfl (by decide) (by first | rfl | simp [va_rf_cat, cat_i, cat_l]) ?_
      refine wa_goto (tgt := 406) X dX11_clause_437 (by decide) ?_
      refine wa_sub (L2 := [(0, va_rf (some a)), (1, .int x1), (2, .int x2), (3, .int (x3 + (1 : Int32)))]) [1, 2, 3, 0] rfl ?_
      exact ih a x1 x2 (x3 + (1 : Int32)) μ391 _ _ _ _ hf (by omega) (by omega)
def fX11_clause_b378 (a : Nat) (x1 : Int32) (x2 : Int32) (μ : JM) : JO (Int32) := jck ((jT μ a).1 == 12) <| jcl (fX11_isWord a (719722099 : Int64) μ) fun r349 μ350 => if r349 = 0 then (fX11_clause_b440  a x1 x2 μ350) else (jck ((jT μ350 a).1 == 12) <| jcl (fX11_takes a μ350) fun r360 μ361 => if r360 = 0 then (some ((0 : Int32), μ361, 0, 0)) else (jck ((jT μ361 a).1 == 12) <| jcl (fX11_condition a μ361) fun r371 μ372 => if r371 = 0 then (some ((0 : Int32), μ372, 0, 0)) else (fX11_clause_b406  jfuel a x1 x2 (0 : Int32) μ372)))
set_option maxHeartbeats 4000000 in
set_option maxRecDepth 100000 in
theorem gX11_clause_b378 {b : Nat} {Θ : JE} {RC RS : Nat} {r : Int32} {ν : JM} (X : jX b Θ RX11 cX11_clause 4 (some .boolean) 6 135 RC RS) (a : Nat) (x1 : Int32) (x2 : Int32) (μ : JM) (c m k n : Nat) (hf : fX11_clause_b378 a x1 x2 μ = some (r, ν, c, m)) (hk : k + c = RC) (hn : n + m = RS) : WA b Θ 4 (jE b Θ (some (.int r)) ν RC RS) μ k n 378 [(0, va_rf (some a)), (1, .int x1), (2, .int x2)] [] := by
  rw [fX11_clause_b378] at hf
  refine wa_aload_n X 0 dX11_clause_378 rfl ?_
  refine wa_ldc2 (v := (719722099 : Int64)) X dX11_clause_379 lkX11_239 ?_
  obtain ⟨h348, hf⟩ := jckT hf
  obtain ⟨r349, μ350, c351, m352, c353, m354, e355, hf, h356, h357⟩ := jcl_some hf
  refine wa_rcallV (st2 := [.int r349]) X dX11_clause_382 lmX11_217 lMX11_isWord rfl h348 (mX11_isWord e355) rfl rfl rfl (va_cats (Nat.le_of_ble_eq_true rfl)) (by decide) (by omega) (by omega) ?_
  refine wa_ifeq (tgt := 440) X dX11_clause_385 (by decide) (fun h358 => ?_) (fun h358 => ?_)
  · rw [if_pos h358] at hf
    refine wa_sub (L2 := [(0, va_rf (some a)), (1, .int x1), (2, .int x2)]) [0, 1, 2] rfl ?_
    exact gX11_clause_b440 X a x1 x2 μ350 _ _ _ _ hf (by omega) (by omega)
  · rw [if_neg h358] at hf
    refine wa_aload_n X 0 dX11_clause_388 rfl ?_
    obtain ⟨h359, hf⟩ := jckT hf
    obtain ⟨r360, μ361, c362, m363, c364, m365, e366, hf, h367, h368⟩ := jcl_some hf
    refine wa_rcallV (st2 := [.int r360]) X dX11_clause_389 lmX11_255 lMX11_takes rfl h359 (mX11_takes e366) rfl rfl rfl (va_cats (Nat.le_of_ble_eq_true rfl)) (by decide) (by omega) (by omega) ?_
    refine wa_ifeq (tgt := 402) X dX11_clause_392 (by decide) (fun h369 => ?_) (fun h369 => ?_)
    · rw [if_pos h369] at hf
      refine wa_iconst (v := (0 : Int32)) X dX11_clause_402 (by decide) ?_
      obtain ⟨rfl, rfl, rfl, rfl⟩ := jret hf
      exact wa_iret X dX11_clause_403 rfl (by omega) (by omega)
    · rw [if_neg h369] at hf
      refine wa_aload_n X 0 dX11_clause_395 rfl ?_
      obtain ⟨h370, hf⟩ := jckT hf
      obtain ⟨r371, μ372, c373, m374, c375, m376, e377, hf, h378, h379⟩ := jcl_some hf
      refine wa_rcallV (st2 := [.int r371]) X dX11_clause_396 lmX11_315 lMX11_condition rfl h370 (mX11_condition e377) rfl rfl rfl (va_cats (Nat.le_of_ble_eq_true rfl)) (by decide) (by omega) (by omega) ?_
      refine wa_ifne (tgt := 404) X dX11_clause_399 (by decide) (fun h380 => ?_) (fun h380 => ?_)
      · rw [if_neg h380] at hf
        refine wa_iconst (v := (0 : Int32)) X dX11_clause_404 (by decide) ?_
        refine wa_istore_n (L2 := [(3, .int (0 : Int32)), (0, va_rf (some a)), (1, .int x1), (2, .int x2)]) X dX11_clause_405 (by decide) (by first | rfl | (show (3, _) :: List.filter (fun q : Nat × Value => !(q.1 == 3) && !(q.1 + 1 == 3 && q.2.category == 2)) _ = _; simp [va_rf_cat, cat_i, cat_l])) ?_
        refine wa_sub (L2 := [(0, va_rf (some a)), (1, .int x1), (2, .int x2), (3, .int (0 : Int32))]) [1, 2, 3, 0] rfl ?_
        exact gX11_clause_b406 X jfuel a x1 x2 (0 : Int32) μ372 _ _ _ _ hf (by omega) (by omega)
      · rw [if_pos h380] at hf
        refine wa_iconst (v := (0 : Int32)) X dX11_clause_402 (by decide) ?_
        obtain ⟨rfl, rfl, rfl, rfl⟩ := jret hf
        exact wa_iret X dX11_clause_403 rfl (by omega) (by omega)
def fX11_clause_b348 : Nat → Nat → Int32 → Int32 → Int32 → JM → JO (Int32)
  | 0, _, _, _, _, _ => none
  | fu + 1, a, x1, x2, x3, μ => if (4 : Int32) ≤ x3 then (fX11_clause_b378  a x1 x2 μ) else (jck ((jT μ a).1 == 12) <| jde (jP μ a 44) fun q337 => jck ((jT μ q337).1 == 102) <| jck (jin (((4 : Int32) * x2) + x3) (jT μ q337).2) <| jde (jP μ a 28) fun q341 => jck ((jT μ q341).1 == 102) <| jck (jin x3 (jT μ q341).2) <| jlt (jsJ μ q337 ((((4 : Int32) * x2) + x3)).toNatClampNeg ((jJ μ q337 ((((4 : Int32) * x2) + x3)).toNatClampNeg) &&& (jJ μ q341 (x3).toNatClampNeg))) fun μ345 => fX11_clause_b348 fu a x1 x2 (x3 + (1 : Int32)) μ345)
set_option maxHeartbeats 4000000 in
set_option maxRecDepth 100000 in
theorem gX11_clause_b348 {b : Nat} {Θ : JE} {RC RS : Nat} {r : Int32} {ν : JM} (X : jX b Θ RX11 cX11_clause 4 (some .boolean) 6 135 RC RS) : ∀ (fu : Nat) (a : Nat) (x1 : Int32) (x2 : Int32) (x3 : Int32) (μ : JM) (c m k n : Nat), fX11_clause_b348 fu a x1 x2 x3 μ = some (r, ν, c, m) → k + c = RC → n + m = RS → WA b Θ 4 (jE b Θ (some (.int r)) ν RC RS) μ k n 348 [(0, va_rf (some a)), (1, .int x1), (2, .int x2), (3, .int x3)] [] := by
  intro fu
  induction fu with
  | zero => intro a x1 x2 x3 μ c m k n hf; cases hf
  | succ fu ih =>
    intro a x1 x2 x3 μ c m k n hf hk hn
    rw [fX11_clause_b348] at hf
    refine wa_iload_n X 3 dX11_clause_348 rfl ?_
    refine wa_iconst (v := (4 : Int32)) X dX11_clause_349 (by decide) ?_
    refine wa_icge (tgt := 378) X dX11_clause_350 (by decide) (fun h335 => ?_) (fun h335 => ?_)
    · rw [if_pos h335] at hf
      refine wa_sub (L2 := [(0, va_rf (some a)), (1, .int x1), (2, .int x2)]) [0, 1, 2] rfl ?_
      exact gX11_clause_b378 X a x1 x2 μ _ _ _ _ hf (by omega) (by omega)
    · rw [if_neg h335] at hf
      refine wa_aload_n X 0 dX11_clause_353 rfl ?_
      obtain ⟨h336, hf⟩ := jckT hf
      refine wa_getP X dX11_clause_354 lfX11_103 rfl h336 rfl ?_
      refine wa_iconst (v := (4 : Int32)) X dX11_clause_357 (by decide) ?_
      refine wa_iload_n X 2 dX11_clause_358 rfl ?_
      refine wa_imul X dX11_clause_359 ?_
      refine wa_iload_n X 3 dX11_clause_360 rfl ?_
      refine wa_iadd X dX11_clause_361 ?_
      refine wa_dup2 X dX11_clause_362 rfl (va_rf_cat _) ?_
      obtain ⟨q337, h338, hf⟩ := jde_some hf
      obtain ⟨h339, hf⟩ := jckT hf
      obtain ⟨h340, hf⟩ := jck_some hf
      refine wa_rlald X dX11_clause_363 h338 h339 h340 ?_
      refine wa_aload_n X 0 dX11_clause_364 rfl ?_
      refine wa_getP X dX11_clause_365 lfX11_61 rfl h336 rfl ?_
      refine wa_iload_n X 3 dX11_clause_368 rfl ?_
      obtain ⟨q341, h342, hf⟩ := jde_some hf
      obtain ⟨h343, hf⟩ := jckT hf
      obtain ⟨h344, hf⟩ := jck_some hf
      refine wa_rlald X dX11_clause_369 h342 h343 h344 ?_
      refine wa_land X dX11_clause_370 ?_
      obtain ⟨μ345, hm346, hf⟩ := jlt_e hf
      have e347 : jT μ345 = jT μ := by rw [hm346]; rfl
      refine wa_rlast (ν := μ345) X dX11_clause_371 h338 h339 h340 hm346 ?_
      refine wa_iinc (v := (x3 + (1 : Int32))) (L2 := [(3, .int (x3 + (1 : Int32))), (0, va_rf (some a)), (1, .int x1), (2, .int x2)]) X 3 dX11_clause_372 rfl rfl (by decide) (by first | rfl | simp [va_rf_cat, cat_i, cat_l]) ?_
      refine wa_goto (tgt := 348) X dX11_clause_375 (by decide) ?_
      refine wa_sub (L2 := [(0, va_rf (some a)), (1, .int x1), (2, .int x2), (3, .int (x3 + (1 : Int32)))]) [1, 2, 3, 0] rfl ?_
      exact ih a x1 x2 (x3 + (1 : Int32)) μ345 _ _ _ _ hf (by omega) (by omega)
def fX11_clause_b293 : Nat → Nat → Int32 → Int32 → Int32 → JM → JO (Int32)
  | 0, _, _, _, _, _ => none
  | fu + 1, a, x1, x2, x3, μ => if (4 : Int32) ≤ x3 then (jck ((jT μ a).1 == 12) <| jcl (fX11_isWord a (294 : Int64) μ) fun r291 μ292 => if r291 = 0 then (fX11_clause_b378  a x1 x2 μ292) else (jck ((jT μ292 a).1 == 12) <| jcl (fX11_takes a μ292) fun r302 μ303 => if r302 = 0 then (some ((0 : Int32), μ303, 0, 0)) else (jck ((jT μ303 a).1 == 12) <| jcl (fX11_condition a μ303) fun r313 μ314 => if r313 = 0 then (some ((0 : Int32), μ314, 0, 0)) else (fX11_clause_b348  jfuel a x1 x2 (0 : Int32) μ314)))) else (jck ((jT μ a).1 == 12) <| jde (jP μ a 22) fun q324 => jck ((jT μ q324).1 == 102) <| jck (jin x3 (jT μ q324).2) <| jde (jP μ a 44) fun q328 => jck ((jT μ q328).1 == 102) <| jck (jin (((4 : Int32) * x2) + x3) (jT μ q328).2) <| jlt (jsJ μ q328 ((((4 : Int32) * x2) + x3)).toNatClampNeg (jJ μ q324 (x3).toNatClampNeg)) fun μ332 => fX11_clause_b293 fu a x1 x2 (x3 + (1 : Int32)) μ332)
set_option maxHeartbeats 4000000 in
set_option maxRecDepth 100000 in
theorem gX11_clause_b293 {b : Nat} {Θ : JE} {RC RS : Nat} {r : Int32} {ν : JM} (X : jX b Θ RX11 cX11_clause 4 (some .boolean) 6 135 RC RS) : ∀ (fu : Nat) (a : Nat) (x1 : Int32) (x2 : Int32) (x3 : Int32) (μ : JM) (c m k n : Nat), fX11_clause_b293 fu a x1 x2 x3 μ = some (r, ν, c, m) → k + c = RC → n + m = RS → WA b Θ 4 (jE b Θ (some (.int r)) ν RC RS) μ k n 293 [(0, va_rf (some a)), (1, .int x1), (2, .int x2), (3, .int x3)] [] := by
  intro fu
  induction fu with
  | zero => intro a x1 x2 x3 μ c m k n hf; cases hf
  | succ fu ih =>
    intro a x1 x2 x3 μ c m k n hf hk hn
    rw [fX11_clause_b293] at hf
    refine wa_iload_n X 3 dX11_clause_293 rfl ?_
    refine wa_iconst (v := (4 : Int32)) X dX11_clause_294 (by decide) ?_
    refine wa_icge (tgt := 320) X dX11_clause_295 (by decide) (fun h289 => ?_) (fun h289 => ?_)
    · rw [if_pos h289] at hf
      refine wa_aload_n X 0 dX11_clause_320 rfl ?_
      refine wa_ldc2 (v := (294 : Int64)) X dX11_clause_321 lkX11_237 ?_
      obtain ⟨h290, hf⟩ := jckT hf
      obtain ⟨r291, μ292, c293, m294, c295, m296, e297, hf, h298, h299⟩ := jcl_some hf
      refine wa_rcallV (st2 := [.int r291]) X dX11_clause_324 lmX11_217 lMX11_isWord rfl h290 (mX11_isWord e297) rfl rfl rfl (va_cats (Nat.le_of_ble_eq_true rfl)) (by decide) (by omega) (by omega) ?_
      refine wa_ifeq (tgt := 378) X dX11_clause_327 (by decide) (fun h300 => ?_) (fun h300 => ?_)
      · rw [if_pos h300] at hf
        refine wa_sub (L2 := [(0, va_rf (some a)), (1, .int x1), (2, .int x2)]) [0, 1, 2] rfl ?_
        exact gX11_clause_b378 X a x1 x2 μ292 _ _ _ _ hf (by omega) (by omega)
      · rw [if_neg h300] at hf
        refine wa_aload_n X 0 dX11_clause_330 rfl ?_
        obtain ⟨h301, hf⟩ := jckT hf
        obtain ⟨r302, μ303, c304, m305, c306, m307, e308, hf, h309, h310⟩ := jcl_some hf
        refine wa_rcallV (st2 := [.int r302]) X dX11_clause_331 lmX11_255 lMX11_takes rfl h301 (mX11_takes e308) rfl rfl rfl (va_cats (Nat.le_of_ble_eq_true rfl)) (by decide) (by omega) (by omega) ?_
        refine wa_ifeq (tgt := 344) X dX11_clause_334 (by decide) (fun h311 => ?_) (fun h311 => ?_)
        · rw [if_pos h311] at hf
          refine wa_iconst (v := (0 : Int32)) X dX11_clause_344 (by decide) ?_
          obtain ⟨rfl, rfl, rfl, rfl⟩ := jret hf
          exact wa_iret X dX11_clause_345 rfl (by omega) (by omega)
        · rw [if_neg h311] at hf
          refine wa_aload_n X 0 dX11_clause_337 rfl ?_
          obtain ⟨h312, hf⟩ := jckT hf
          obtain ⟨r313, μ314, c315, m316, c317, m318, e319, hf, h320, h321⟩ := jcl_some hf
          refine wa_rcallV (st2 := [.int r313]) X dX11_clause_338 lmX11_315 lMX11_condition rfl h312 (mX11_condition e319) rfl rfl rfl (va_cats (Nat.le_of_ble_eq_true rfl)) (by decide) (by omega) (by omega) ?_
          refine wa_ifne (tgt := 346) X dX11_clause_341 (by decide) (fun h322 => ?_) (fun h322 => ?_)
          · rw [if_neg h322] at hf
            refine wa_iconst (v := (0 : Int32)) X dX11_clause_346 (by decide) ?_
            refine wa_istore_n (L2 := [(3, .int (0 : Int32)), (0, va_rf (some a)), (1, .int x1), (2, .int x2)]) X dX11_clause_347 (by decide) (by first | rfl | (show (3, _) :: List.filter (fun q : Nat × Value => !(q.1 == 3) && !(q.1 + 1 == 3 && q.2.category == 2)) _ = _; simp [va_rf_cat, cat_i, cat_l])) ?_
            refine wa_sub (L2 := [(0, va_rf (some a)), (1, .int x1), (2, .int x2), (3, .int (0 : Int32))]) [1, 2, 3, 0] rfl ?_
            exact gX11_clause_b348 X jfuel a x1 x2 (0 : Int32) μ314 _ _ _ _ hf (by omega) (by omega)
          · rw [if_pos h322] at hf
            refine wa_iconst (v := (0 : Int32)) X dX11_clause_344 (by decide) ?_
            obtain ⟨rfl, rfl, rfl, rfl⟩ := jret hf
            exact wa_iret X dX11_clause_345 rfl (by omega) (by omega)
    · rw [if_neg h289] at hf
      refine wa_aload_n X 0 dX11_clause_298 rfl ?_
      obtain ⟨h323, hf⟩ := jckT hf
      refine wa_getP X dX11_clause_299 lfX11_103 rfl h323 rfl ?_
      refine wa_iconst (v := (4 : Int32)) X dX11_clause_302 (by decide) ?_
      refine wa_iload_n X 2 dX11_clause_303 rfl ?_
      refine wa_imul X dX11_clause_304 ?_
      refine wa_iload_n X 3 dX11_clause_305 rfl ?_
      refine wa_iadd X dX11_clause_306 ?_
      refine wa_aload_n X 0 dX11_clause_307 rfl ?_
      refine wa_getP X dX11_clause_308 lfX11_42 rfl h323 rfl ?_
      refine wa_iload_n X 3 dX11_clause_311 rfl ?_
      obtain ⟨q324, h325, hf⟩ := jde_some hf
      obtain ⟨h326, hf⟩ := jckT hf
      obtain ⟨h327, hf⟩ := jck_some hf
      refine wa_rlald X dX11_clause_312 h325 h326 h327 ?_
      obtain ⟨q328, h329, hf⟩ := jde_some hf
      obtain ⟨h330, hf⟩ := jckT hf
      obtain ⟨h331, hf⟩ := jck_some hf
      obtain ⟨μ332, hm333, hf⟩ := jlt_e hf
      have e334 : jT μ332 = jT μ := by rw [hm333]; rfl
      refine wa_rlast (ν := μ332) X dX11_clause_313 h329 h330 h331 hm333 ?_
      refine wa_iinc (v := (x3 + (1 : Int32))) (L2 := [(3, .int (x3 + (1 : Int32))), (0, va_rf (some a)), (1, .int x1), (2, .int x2)]) X 3 dX11_clause_314 rfl rfl (by decide) (by first | rfl | simp [va_rf_cat, cat_i, cat_l]) ?_
      refine wa_goto (tgt := 293) X dX11_clause_317 (by decide) ?_
      refine wa_sub (L2 := [(0, va_rf (some a)), (1, .int x1), (2, .int x2), (3, .int (x3 + (1 : Int32)))]) [1, 2, 3, 0] rfl ?_
      exact ih a x1 x2 (x3 + (1 : Int32)) μ332 _ _ _ _ hf (by omega) (by omega)
def fX11_clause_b291 (a : Nat) (x1 : Int32) (x2 : Int32) (μ : JM) : JO (Int32) := fX11_clause_b293  jfuel a x1 x2 (0 : Int32) μ
set_option maxHeartbeats 4000000 in
set_option maxRecDepth 100000 in
theorem gX11_clause_b291 {b : Nat} {Θ : JE} {RC RS : Nat} {r : Int32} {ν : JM} (X : jX b Θ RX11 cX11_clause 4 (some .boolean) 6 135 RC RS) (a : Nat) (x1 : Int32) (x2 : Int32) (μ : JM) (c m k n : Nat) (hf : fX11_clause_b291 a x1 x2 μ = some (r, ν, c, m)) (hk : k + c = RC) (hn : n + m = RS) : WA b Θ 4 (jE b Θ (some (.int r)) ν RC RS) μ k n 291 [(0, va_rf (some a)), (1, .int x1), (2, .int x2)] [] := by
  rw [fX11_clause_b291] at hf
  refine wa_iconst (v := (0 : Int32)) X dX11_clause_291 (by decide) ?_
  refine wa_istore_n (L2 := [(3, .int (0 : Int32)), (0, va_rf (some a)), (1, .int x1), (2, .int x2)]) X dX11_clause_292 (by decide) (by first | rfl | (show (3, _) :: List.filter (fun q : Nat × Value => !(q.1 == 3) && !(q.1 + 1 == 3 && q.2.category == 2)) _ = _; simp [va_rf_cat, cat_i, cat_l])) ?_
  refine wa_sub (L2 := [(0, va_rf (some a)), (1, .int x1), (2, .int x2), (3, .int (0 : Int32))]) [1, 2, 3, 0] rfl ?_
  exact gX11_clause_b293 X jfuel a x1 x2 (0 : Int32) μ _ _ _ _ hf (by omega) (by omega)
def fX11_clause_b203 (a : Nat) (x1 : Int32) (x2 : Int32) (s0 : Int32) (s1 : Int32) (s2 : Option Nat) (μ : JM) : JO (Int32) := jde s2 fun q194 => jck ((jT μ q194).1 == 101) <| jck (jin s1 (jT μ q194).2) <| jlt (jsI μ q194 (s1).toNatClampNeg s0) fun μ198 => jck ((jT μ a).1 == 12) <| jde (jP μ198 a 35) fun q202 => jck ((jT μ q202).1 == 101) <| jck (jin x2 (jT μ q202).2) <| if 0 ≤ (jI μ198 q202 (x2).toNatClampNeg) then (jcl (fX11_takes a μ198) fun r207 μ208 => if r207 = 0 then (some ((0 : Int32), μ208, 0, 0)) else (jck ((jT μ208 a).1 == 12) <| jcl (fX11_partyOf a μ208) fun r218 μ219 => jde (jP μ208 a 36) fun q227 => jck ((jT μ219 q227).1 == 101) <| jck (jin x2 (jT μ219 q227).2) <| jlt (jsI μ219 q227 (x2).toNatClampNeg r218) fun μ231 => jck ((jT μ219 a).1 == 12) <| jcl (fX11_expects a (655 : Int64) μ231) fun r235 μ236 => if r235 = 0 then (some ((0 : Int32), μ236, 0, 0)) else (jck ((jT μ236 a).1 == 12) <| jcl (fX11_actOf a μ236) fun r246 μ247 => jde (jP μ236 a 37) fun q255 => jck ((jT μ247 q255).1 == 101) <| jck (jin x2 (jT μ247 q255).2) <| jlt (jsI μ247 q255 (x2).toNatClampNeg r246) fun μ259 => jck ((jT μ247 a).1 == 12) <| if 0 < (jI μ259 a 18) then (some ((0 : Int32), μ259, 0, 0)) else (jde (jP μ259 a 35) fun q264 => jck ((jT μ247 q264).1 == 101) <| jck (jin x2 (jT μ247 q264).2) <| if (jI μ259 q264 (x2).toNatClampNeg) = (1 : Int32) then (jcl (fX11_byDays a x2 μ259) fun r269 μ270 => if r269 = 0 then (some ((0 : Int32), μ270, 0, 0)) else (fX11_clause_b291  a x1 x2 μ270)) else (fX11_clause_b291  a x1 x2 μ259))))) else (jcl (fX11_fails a (0 : Int32) (jI μ198 a 15) μ198) fun r279 μ280 => jck (jbl r279) <| some (r279, μ280, 0, 0))
set_option maxHeartbeats 4000000 in
set_option maxRecDepth 100000 in
theorem gX11_clause_b203 {b : Nat} {Θ : JE} {RC RS : Nat} {r : Int32} {ν : JM} (X : jX b Θ RX11 cX11_clause 4 (some .boolean) 6 135 RC RS) (a : Nat) (x1 : Int32) (x2 : Int32) (s0 : Int32) (s1 : Int32) (s2 : Option Nat) (μ : JM) (c m k n : Nat) (hf : fX11_clause_b203 a x1 x2 s0 s1 s2 μ = some (r, ν, c, m)) (hk : k + c = RC) (hn : n + m = RS) : WA b Θ 4 (jE b Θ (some (.int r)) ν RC RS) μ k n 203 [(0, va_rf (some a)), (1, .int x1), (2, .int x2)] [.int s0, .int s1, va_rf s2] := by
  rw [fX11_clause_b203] at hf
  obtain ⟨q194, h195, hf⟩ := jde_some hf
  obtain ⟨h196, hf⟩ := jckT hf
  obtain ⟨h197, hf⟩ := jck_some hf
  obtain ⟨μ198, hm199, hf⟩ := jlt_e hf
  have e200 : jT μ198 = jT μ := by rw [hm199]; rfl
  refine wa_riast (ν := μ198) X dX11_clause_203 h195 h196 h197 hm199 ?_
  refine wa_aload_n X 0 dX11_clause_204 rfl ?_
  obtain ⟨h201, hf⟩ := jckT hf
  refine wa_getP X dX11_clause_205 lfX11_76 rfl (by rw [e200]; exact h201) rfl ?_
  refine wa_iload_n X 2 dX11_clause_208 rfl ?_
  obtain ⟨q202, h203, hf⟩ := jde_some hf
  obtain ⟨h204, hf⟩ := jckT hf
  obtain ⟨h205, hf⟩ := jck_some hf
  refine wa_riald X dX11_clause_209 h203 (by rw [e200]; exact h204) (by rw [e200]; exact h205) ?_
  refine wa_ifge (tgt := 223) X dX11_clause_210 (by decide) (fun h206 => ?_) (fun h206 => ?_)
  · rw [if_pos h206] at hf
    refine wa_aload_n X 0 dX11_clause_223 rfl ?_
    obtain ⟨r207, μ208, c209, m210, c211, m212, e213, hf, h214, h215⟩ := jcl_some hf
    refine wa_rcallV (st2 := [.int r207]) X dX11_clause_224 lmX11_255 lMX11_takes rfl (by rw [e200]; exact h201) (mX11_takes e213) rfl rfl rfl (va_cats (Nat.le_of_ble_eq_true rfl)) (by decide) (by omega) (by omega) ?_
    refine wa_ifne (tgt := 232) X dX11_clause_227 (by decide) (fun h216 => ?_) (fun h216 => ?_)
    · rw [if_neg h216] at hf
      refine wa_aload_n X 0 dX11_clause_232 rfl ?_
      obtain ⟨h217, hf⟩ := jckT hf
      refine wa_getP X dX11_clause_233 lfX11_79 rfl h217 rfl ?_
      refine wa_iload_n X 2 dX11_clause_236 rfl ?_
      refine wa_aload_n X 0 dX11_clause_237 rfl ?_
      obtain ⟨r218, μ219, c220, m221, c222, m223, e224, hf, h225, h226⟩ := jcl_some hf
      refine wa_rcallV (st2 := [.int r218, .int x2, va_rf (jP μ208 a 36)]) X dX11_clause_238 lmX11_328 lMX11_partyOf rfl h217 (mX11_partyOf e224) rfl rfl rfl (va_cats (Nat.le_of_ble_eq_true rfl)) (by decide) (by omega) (by omega) ?_
      obtain ⟨q227, h228, hf⟩ := jde_some hf
      obtain ⟨h229, hf⟩ := jckT hf
      obtain ⟨h230, hf⟩ := jck_some hf
      obtain ⟨μ231, hm232, hf⟩ := jlt_e hf
      have e233 : jT μ231 = jT μ219 := by rw [hm232]; rfl
      refine wa_riast (ν := μ231) X dX11_clause_241 h228 h229 h230 hm232 ?_
      refine wa_aload_n X 0 dX11_clause_242 rfl ?_
      refine wa_ldc2 (v := (655 : Int64)) X dX11_clause_243 lkX11_229 ?_
      obtain ⟨h234, hf⟩ := jckT hf
      obtain ⟨r235, μ236, c237, m238, c239, m240, e241, hf, h242, h243⟩ := jcl_some hf
      refine wa_rcallV (st2 := [.int r235]) X dX11_clause_246 lmX11_312 lMX11_expects rfl (by rw [e233]; exact h234) (mX11_expects e241) rfl rfl rfl (va_cats (Nat.le_of_ble_eq_true rfl)) (by decide) (by omega) (by omega) ?_
      refine wa_ifne (tgt := 254) X dX11_clause_249 (by decide) (fun h244 => ?_) (fun h244 => ?_)
      · rw [if_neg h244] at hf
        refine wa_aload_n X 0 dX11_clause_254 rfl ?_
        obtain ⟨h245, hf⟩ := jckT hf
        refine wa_getP X dX11_clause_255 lfX11_82 rfl h245 rfl ?_
        refine wa_iload_n X 2 dX11_clause_258 rfl ?_
        refine wa_aload_n X 0 dX11_clause_259 rfl ?_
        obtain ⟨r246, μ247, c248, m249, c250, m251, e252, hf, h253, h254⟩ := jcl_some hf
        refine wa_rcallV (st2 := [.int r246, .int x2, va_rf (jP μ236 a 37)]) X dX11_clause_260 lmX11_332 lMX11_actOf rfl h245 (mX11_actOf e252) rfl rfl rfl (va_cats (Nat.le_of_ble_eq_true rfl)) (by decide) (by omega) (by omega) ?_
        obtain ⟨q255, h256, hf⟩ := jde_some hf
        obtain ⟨h257, hf⟩ := jckT hf
        obtain ⟨h258, hf⟩ := jck_some hf
        obtain ⟨μ259, hm260, hf⟩ := jlt_e hf
        have e261 : jT μ259 = jT μ247 := by rw [hm260]; rfl
        refine wa_riast (ν := μ259) X dX11_clause_263 h256 h257 h258 hm260 ?_
        refine wa_aload_n X 0 dX11_clause_264 rfl ?_
        obtain ⟨h262, hf⟩ := jckT hf
        refine wa_getI X dX11_clause_265 lfX11_163 rfl (by rw [e261]; exact h262) rfl ?_
        refine wa_ifgt (tgt := 289) X dX11_clause_268 (by decide) (fun h263 => ?_) (fun h263 => ?_)
        · rw [if_pos h263] at hf
          refine wa_iconst (v := (0 : Int32)) X dX11_clause_289 (by decide) ?_
          obtain ⟨rfl, rfl, rfl, rfl⟩ := jret hf
          exact wa_iret X dX11_clause_290 rfl (by omega) (by omega)
        · rw [if_neg h263] at hf
          refine wa_aload_n X 0 dX11_clause_271 rfl ?_
          refine wa_getP X dX11_clause_272 lfX11_76 rfl (by rw [e261]; exact h262) rfl ?_
          refine wa_iload_n X 2 dX11_clause_275 rfl ?_
          obtain ⟨q264, h265, hf⟩ := jde_some hf
          obtain ⟨h266, hf⟩ := jckT hf
          obtain ⟨h267, hf⟩ := jck_some hf
          refine wa_riald X dX11_clause_276 h265 (by rw [e261]; exact h266) (by rw [e261]; exact h267) ?_
          refine wa_iconst (v := (1 : Int32)) X dX11_clause_277 (by decide) ?_
          refine wa_icne (tgt := 291) X dX11_clause_278 (by decide) (fun h268 => ?_) (fun h268 => ?_)
          · rw [if_neg h268] at hf
            refine wa_sub (L2 := [(0, va_rf (some a)), (1, .int x1), (2, .int x2)]) [0, 1, 2] rfl ?_
            exact gX11_clause_b291 X a x1 x2 μ259 _ _ _ _ hf (by omega) (by omega)
          · rw [if_pos h268] at hf
            refine wa_aload_n X 0 dX11_clause_281 rfl ?_
            refine wa_iload_n X 2 dX11_clause_282 rfl ?_
            obtain ⟨r269, μ270, c271, m272, c273, m274, e275, hf, h276, h277⟩ := jcl_some hf
            refine wa_rcallV (st2 := [.int r269]) X dX11_clause_283 lmX11_335 lMX11_byDays rfl (by rw [e261]; exact h262) (mX11_byDays e275) rfl rfl rfl (va_cats (Nat.le_of_ble_eq_true rfl)) (by decide) (by omega) (by omega) ?_
            refine wa_ifne (tgt := 291) X dX11_clause_286 (by decide) (fun h278 => ?_) (fun h278 => ?_)
            · rw [if_neg h278] at hf
              refine wa_sub (L2 := [(0, va_rf (some a)), (1, .int x1), (2, .int x2)]) [0, 1, 2] rfl ?_
              exact gX11_clause_b291 X a x1 x2 μ270 _ _ _ _ hf (by omega) (by omega)
            · rw [if_pos h278] at hf
              refine wa_iconst (v := (0 : Int32)) X dX11_clause_289 (by decide) ?_
              obtain ⟨rfl, rfl, rfl, rfl⟩ := jret hf
              exact wa_iret X dX11_clause_290 rfl (by omega) (by omega)
      · rw [if_pos h244] at hf
        refine wa_iconst (v := (0 : Int32)) X dX11_clause_252 (by decide) ?_
        obtain ⟨rfl, rfl, rfl, rfl⟩ := jret hf
        exact wa_iret X dX11_clause_253 rfl (by omega) (by omega)
    · rw [if_pos h216] at hf
      refine wa_iconst (v := (0 : Int32)) X dX11_clause_230 (by decide) ?_
      obtain ⟨rfl, rfl, rfl, rfl⟩ := jret hf
      exact wa_iret X dX11_clause_231 rfl (by omega) (by omega)
  · rw [if_neg h206] at hf
    refine wa_aload_n X 0 dX11_clause_213 rfl ?_
    refine wa_iconst (v := (0 : Int32)) X dX11_clause_214 (by decide) ?_
    refine wa_aload_n X 0 dX11_clause_215 rfl ?_
    refine wa_getI X dX11_clause_216 lfX11_185 rfl (by rw [e200]; exact h201) rfl ?_
    obtain ⟨r279, μ280, c281, m282, c283, m284, e285, hf, h286, h287⟩ := jcl_some hf
    refine wa_rcallV (st2 := [.int r279]) X dX11_clause_219 lmX11_201 lMX11_fails rfl (by rw [e200]; exact h201) (mX11_fails e285) rfl rfl rfl (va_cats (Nat.le_of_ble_eq_true rfl)) (by decide) (by omega) (by omega) ?_
    obtain ⟨h288, hf⟩ := jck_some hf
    obtain ⟨rfl, rfl, rfl, rfl⟩ := jret hf
    exact wa_iret X dX11_clause_222 (jbl_nar h288) (by omega) (by omega)
def fX11_clause_b107 (a : Nat) (x1 : Int32) (x2 : Int32) (μ : JM) : JO (Int32) := jck ((jT μ a).1 == 12) <| jcl (fX11_isThere a (0 : Int32) μ) fun r101 μ102 => if r101 = 0 then (jck ((jT μ102 a).1 == 12) <| jcl (fX11_fails a (3 : Int32) (jI μ102 a 15) μ102) fun r184 μ185 => jck (jbl r184) <| some (r184, μ185, 0, 0)) else (jck ((jT μ102 a).1 == 12) <| jde (jP μ102 a 35) fun q112 => jck ((jT μ102 q112).1 == 101) <| jck (jin x2 (jT μ102 q112).2) <| jlt (jsI μ102 q112 (x2).toNatClampNeg (1 : Int32)) fun μ116 => jcl (fX11_keepsLabel a x2 μ116) fun u119 μ120 => jck ((jT μ120 a).1 == 12) <| jcl (fX11_takes a μ120) fun r129 μ130 => if r129 = 0 then (some ((0 : Int32), μ130, 0, 0)) else (jck ((jT μ130 a).1 == 12) <| jcl (fX11_expectsSign a (58 : Int32) μ130) fun r140 μ141 => if r140 = 0 then (some ((0 : Int32), μ141, 0, 0)) else (jck ((jT μ141 a).1 == 12) <| jcl (fX11_isWord a (153241 : Int64) μ141) fun r151 μ152 => if r151 = 0 then (jck ((jT μ152 a).1 == 12) <| jcl (fX11_isWord a (19176724 : Int64) μ152) fun r162 μ163 => if r162 = 0 then (jck ((jT μ163 a).1 == 12) <| jcl (fX11_isWord a (2094 : Int64) μ163) fun r173 μ174 => if r173 = 0 then (fX11_clause_b203  a x1 x2 (-1 : Int32) x2 (jP μ141 a 35) μ174) else (fX11_clause_b203  a x1 x2 (3 : Int32) x2 (jP μ141 a 35) μ174)) else (fX11_clause_b203  a x1 x2 (2 : Int32) x2 (jP μ141 a 35) μ163)) else (fX11_clause_b203  a x1 x2 (1 : Int32) x2 (jP μ141 a 35) μ152))))
set_option maxHeartbeats 4000000 in
set_option maxRecDepth 100000 in
theorem gX11_clause_b107 {b : Nat} {Θ : JE} {RC RS : Nat} {r : Int32} {ν : JM} (X : jX b Θ RX11 cX11_clause 4 (some .boolean) 6 135 RC RS) (a : Nat) (x1 : Int32) (x2 : Int32) (μ : JM) (c m k n : Nat) (hf : fX11_clause_b107 a x1 x2 μ = some (r, ν, c, m)) (hk : k + c = RC) (hn : n + m = RS) : WA b Θ 4 (jE b Θ (some (.int r)) ν RC RS) μ k n 107 [(0, va_rf (some a)), (1, .int x1), (2, .int x2)] [] := by
  rw [fX11_clause_b107] at hf
  refine wa_aload_n X 0 dX11_clause_107 rfl ?_
  refine wa_iconst (v := (0 : Int32)) X dX11_clause_108 (by decide) ?_
  obtain ⟨h100, hf⟩ := jckT hf
  obtain ⟨r101, μ102, c103, m104, c105, m106, e107, hf, h108, h109⟩ := jcl_some hf
  refine wa_rcallV (st2 := [.int r101]) X dX11_clause_109 lmX11_305 lMX11_isThere rfl h100 (mX11_isThere e107) rfl rfl rfl (va_cats (Nat.le_of_ble_eq_true rfl)) (by decide) (by omega) (by omega) ?_
  refine wa_ifne (tgt := 125) X dX11_clause_112 (by decide) (fun h110 => ?_) (fun h110 => ?_)
  · rw [if_neg h110] at hf
    refine wa_aload_n X 0 dX11_clause_125 rfl ?_
    obtain ⟨h111, hf⟩ := jckT hf
    refine wa_getP X dX11_clause_126 lfX11_76 rfl h111 rfl ?_
    refine wa_iload_n X 2 dX11_clause_129 rfl ?_
    refine wa_iconst (v := (1 : Int32)) X dX11_clause_130 (by decide) ?_
    obtain ⟨q112, h113, hf⟩ := jde_some hf
    obtain ⟨h114, hf⟩ := jckT hf
    obtain ⟨h115, hf⟩ := jck_some hf
    obtain ⟨μ116, hm117, hf⟩ := jlt_e hf
    have e118 : jT μ116 = jT μ102 := by rw [hm117]; rfl
    refine wa_riast (ν := μ116) X dX11_clause_131 h113 h114 h115 hm117 ?_
    refine wa_aload_n X 0 dX11_clause_132 rfl ?_
    refine wa_iload_n X 2 dX11_clause_133 rfl ?_
    obtain ⟨u119, μ120, c121, m122, c123, m124, e125, hf, h126, h127⟩ := jcl_some hf
    refine wa_rcallV (st2 := []) X dX11_clause_134 lmX11_309 lMX11_keepsLabel rfl (by rw [e118]; exact h111) (mX11_keepsLabel e125) rfl rfl rfl (va_cats (Nat.le_of_ble_eq_true rfl)) (by decide) (by omega) (by omega) ?_
    refine wa_aload_n X 0 dX11_clause_137 rfl ?_
    obtain ⟨h128, hf⟩ := jckT hf
    obtain ⟨r129, μ130, c131, m132, c133, m134, e135, hf, h136, h137⟩ := jcl_some hf
    refine wa_rcallV (st2 := [.int r129]) X dX11_clause_138 lmX11_255 lMX11_takes rfl h128 (mX11_takes e135) rfl rfl rfl (va_cats (Nat.le_of_ble_eq_true rfl)) (by decide) (by omega) (by omega) ?_
    refine wa_ifeq (tgt := 153) X dX11_clause_141 (by decide) (fun h138 => ?_) (fun h138 => ?_)
    · rw [if_pos h138] at hf
      refine wa_iconst (v := (0 : Int32)) X dX11_clause_153 (by decide) ?_
      obtain ⟨rfl, rfl, rfl, rfl⟩ := jret hf
      exact wa_iret X dX11_clause_154 rfl (by omega) (by omega)
    · rw [if_neg h138] at hf
      refine wa_aload_n X 0 dX11_clause_144 rfl ?_
      refine wa_bipush (v := (58 : Int32)) X dX11_clause_145 (by decide) ?_
      obtain ⟨h139, hf⟩ := jckT hf
      obtain ⟨r140, μ141, c142, m143, c144, m145, e146, hf, h147, h148⟩ := jcl_some hf
      refine wa_rcallV (st2 := [.int r140]) X dX11_clause_147 lmX11_325 lMX11_expectsSign rfl h139 (mX11_expectsSign e146) rfl rfl rfl (va_cats (Nat.le_of_ble_eq_true rfl)) (by decide) (by omega) (by omega) ?_
      refine wa_ifne (tgt := 155) X dX11_clause_150 (by decide) (fun h149 => ?_) (fun h149 => ?_)
      · rw [if_neg h149] at hf
        refine wa_aload_n X 0 dX11_clause_155 rfl ?_
        obtain ⟨h150, hf⟩ := jckT hf
        refine wa_getP X dX11_clause_156 lfX11_76 rfl h150 rfl ?_
        refine wa_iload_n X 2 dX11_clause_159 rfl ?_
        refine wa_aload_n X 0 dX11_clause_160 rfl ?_
        refine wa_ldc2 (v := (153241 : Int64)) X dX11_clause_161 lkX11_223 ?_
        obtain ⟨r151, μ152, c153, m154, c155, m156, e157, hf, h158, h159⟩ := jcl_some hf
        refine wa_rcallV (st2 := [.int r151, .int x2, va_rf (jP μ141 a 35)]) X dX11_clause_164 lmX11_217 lMX11_isWord rfl h150 (mX11_isWord e157) rfl rfl rfl (va_cats (Nat.le_of_ble_eq_true rfl)) (by decide) (by omega) (by omega) ?_
        refine wa_ifeq (tgt := 174) X dX11_clause_167 (by decide) (fun h160 => ?_) (fun h160 => ?_)
        · rw [if_pos h160] at hf
          refine wa_aload_n X 0 dX11_clause_174 rfl ?_
          refine wa_ldc2 (v := (19176724 : Int64)) X dX11_clause_175 lkX11_225 ?_
          obtain ⟨h161, hf⟩ := jckT hf
          obtain ⟨r162, μ163, c164, m165, c166, m167, e168, hf, h169, h170⟩ := jcl_some hf
          refine wa_rcallV (st2 := [.int r162, .int x2, va_rf (jP μ141 a 35)]) X dX11_clause_178 lmX11_217 lMX11_isWord rfl h161 (mX11_isWord e168) rfl rfl rfl (va_cats (Nat.le_of_ble_eq_true rfl)) (by decide) (by omega) (by omega) ?_
          refine wa_ifeq (tgt := 188) X dX11_clause_181 (by decide) (fun h171 => ?_) (fun h171 => ?_)
          · rw [if_pos h171] at hf
            refine wa_aload_n X 0 dX11_clause_188 rfl ?_
            refine wa_ldc2 (v := (2094 : Int64)) X dX11_clause_189 lkX11_227 ?_
            obtain ⟨h172, hf⟩ := jckT hf
            obtain ⟨r173, μ174, c175, m176, c177, m178, e179, hf, h180, h181⟩ := jcl_some hf
            refine wa_rcallV (st2 := [.int r173, .int x2, va_rf (jP μ141 a 35)]) X dX11_clause_192 lmX11_217 lMX11_isWord rfl h172 (mX11_isWord e179) rfl rfl rfl (va_cats (Nat.le_of_ble_eq_true rfl)) (by decide) (by omega) (by omega) ?_
            refine wa_ifeq (tgt := 202) X dX11_clause_195 (by decide) (fun h182 => ?_) (fun h182 => ?_)
            · rw [if_pos h182] at hf
              refine wa_iconst (v := (-1 : Int32)) X dX11_clause_202 (by decide) ?_
              refine wa_sub (L2 := [(0, va_rf (some a)), (1, .int x1), (2, .int x2)]) [0, 1, 2] rfl ?_
              exact gX11_clause_b203 X a x1 x2 (-1 : Int32) x2 (jP μ141 a 35) μ174 _ _ _ _ hf (by omega) (by omega)
            · rw [if_neg h182] at hf
              refine wa_iconst (v := (3 : Int32)) X dX11_clause_198 (by decide) ?_
              refine wa_goto (tgt := 203) X dX11_clause_199 (by decide) ?_
              refine wa_sub (L2 := [(0, va_rf (some a)), (1, .int x1), (2, .int x2)]) [0, 1, 2] rfl ?_
              exact gX11_clause_b203 X a x1 x2 (3 : Int32) x2 (jP μ141 a 35) μ174 _ _ _ _ hf (by omega) (by omega)
          · rw [if_neg h171] at hf
            refine wa_iconst (v := (2 : Int32)) X dX11_clause_184 (by decide) ?_
            refine wa_goto (tgt := 203) X dX11_clause_185 (by decide) ?_
            refine wa_sub (L2 := [(0, va_rf (some a)), (1, .int x1), (2, .int x2)]) [0, 1, 2] rfl ?_
            exact gX11_clause_b203 X a x1 x2 (2 : Int32) x2 (jP μ141 a 35) μ163 _ _ _ _ hf (by omega) (by omega)
        · rw [if_neg h160] at hf
          refine wa_iconst (v := (1 : Int32)) X dX11_clause_170 (by decide) ?_
          refine wa_goto (tgt := 203) X dX11_clause_171 (by decide) ?_
          refine wa_sub (L2 := [(0, va_rf (some a)), (1, .int x1), (2, .int x2)]) [0, 1, 2] rfl ?_
          exact gX11_clause_b203 X a x1 x2 (1 : Int32) x2 (jP μ141 a 35) μ152 _ _ _ _ hf (by omega) (by omega)
      · rw [if_pos h149] at hf
        refine wa_iconst (v := (0 : Int32)) X dX11_clause_153 (by decide) ?_
        obtain ⟨rfl, rfl, rfl, rfl⟩ := jret hf
        exact wa_iret X dX11_clause_154 rfl (by omega) (by omega)
  · rw [if_pos h110] at hf
    refine wa_aload_n X 0 dX11_clause_115 rfl ?_
    refine wa_iconst (v := (3 : Int32)) X dX11_clause_116 (by decide) ?_
    refine wa_aload_n X 0 dX11_clause_117 rfl ?_
    obtain ⟨h183, hf⟩ := jckT hf
    refine wa_getI X dX11_clause_118 lfX11_185 rfl h183 rfl ?_
    obtain ⟨r184, μ185, c186, m187, c188, m189, e190, hf, h191, h192⟩ := jcl_some hf
    refine wa_rcallV (st2 := [.int r184]) X dX11_clause_121 lmX11_201 lMX11_fails rfl h183 (mX11_fails e190) rfl rfl rfl (va_cats (Nat.le_of_ble_eq_true rfl)) (by decide) (by omega) (by omega) ?_
    obtain ⟨h193, hf⟩ := jck_some hf
    obtain ⟨rfl, rfl, rfl, rfl⟩ := jret hf
    exact wa_iret X dX11_clause_124 (jbl_nar h193) (by omega) (by omega)
def fX11_clause (a : Nat) (x1 : Int32) (μ : JM) : JO (Int32) := jck ((jT μ a).1 == 12) <| jde (jP μ a 36) fun q2 => jck ((jT μ q2).1 == 101) <| jck (jin ((96 : Int32) + x1) (jT μ q2).2) <| jlt (jsI μ q2 (((96 : Int32) + x1)).toNatClampNeg (-1 : Int32)) fun μ6 => jde (jP μ6 a 37) fun q9 => jck ((jT μ q9).1 == 101) <| jck (jin ((96 : Int32) + x1) (jT μ q9).2) <| jlt (jsI μ6 q9 (((96 : Int32) + x1)).toNatClampNeg (-1 : Int32)) fun μ13 => jde (jP μ13 a 38) fun q16 => jck ((jT μ q16).1 == 101) <| jck (jin ((96 : Int32) + x1) (jT μ q16).2) <| jlt (jsI μ13 q16 (((96 : Int32) + x1)).toNatClampNeg (-1 : Int32)) fun μ20 => jde (jP μ20 a 39) fun q23 => jck ((jT μ q23).1 == 101) <| jck (jin ((96 : Int32) + x1) (jT μ q23).2) <| jlt (jsI μ20 q23 (((96 : Int32) + x1)).toNatClampNeg (-1 : Int32)) fun μ27 => jde (jP μ27 a 40) fun q30 => jck ((jT μ q30).1 == 101) <| jck (jin ((96 : Int32) + x1) (jT μ q30).2) <| jlt (jsI μ27 q30 (((96 : Int32) + x1)).toNatClampNeg (0 : Int32)) fun μ34 => jde (jP μ34 a 41) fun q37 => jck ((jT μ q37).1 == 101) <| jck (jin ((96 : Int32) + x1) (jT μ q37).2) <| jlt (jsI μ34 q37 (((96 : Int32) + x1)).toNatClampNeg (0 : Int32)) fun μ41 => if (jI μ41 a 18) ≤ 0 then (jcl (fX11_isWord a (139666885 : Int64) μ41) fun r45 μ46 => if r45 = 0 then (jck ((jT μ46 a).1 == 12) <| jcl (fX11_isName a μ46) fun r56 μ57 => if r56 = 0 then (some ((0 : Int32), μ57, 0, 0)) else (jck ((jT μ57 a).1 == 12) <| if (jI μ57 a 33) = 0 then (fX11_clause_b107  a x1 ((96 : Int32) + x1) μ57) else (jcl (fX11_labelled a (4 : Int32) x1 μ57) fun r68 μ69 => if r68 < 0 then (fX11_clause_b107  a x1 ((96 : Int32) + x1) μ69) else (jck ((jT μ69 a).1 == 12) <| jcl (fX11_fails a (2 : Int32) (jI μ69 a 15) μ69) fun r79 μ80 => jck (jbl r79) <| some (r79, μ80, 0, 0))))) else (jck ((jT μ46 a).1 == 12) <| jcl (fX11_defines a ((96 : Int32) + x1) μ46) fun r90 μ91 => jck (jbl r90) <| some (r90, μ91, 0, 0))) else (some ((0 : Int32), μ41, 0, 0))
set_option maxHeartbeats 4000000 in
set_option maxRecDepth 100000 in
theorem mX11_clause {b : Nat} {a : Nat} {x1 : Int32} {μ : JM} {r : Int32} {ν : JM} {c m : Nat} (hf : fX11_clause a x1 μ = some (r, ν, c, m)) : JMet b yX11_clause cX11_clause 4 (some .boolean) 6 135 [va_rf (some a), .int x1] μ (some (.int r)) ν c m := by
  refine JMet.of (by decide) (lg_sl_le (by simp only [List.map_cons, List.map_nil, List.sum_cons, List.sum_nil, va_rf_cat]; exact Nat.le_of_ble_eq_true rfl)) (fun Θ X hin => ?_)
  refine wa_eq (L2 := [(0, va_rf (some a)), (1, .int x1)]) ?_ rfl (by first | rfl | simp [lv_args, va_rf_cat, cat_i, cat_l]) rfl
  obtain ⟨k, hk0⟩ : ∃ k : Nat, k = 0 := ⟨0, rfl⟩
  obtain ⟨n, hn0⟩ : ∃ n : Nat, n = 0 := ⟨0, rfl⟩
  have hk : k + c = c := by omega
  have hn : n + m = m := by omega
  refine wa_costs hk0.symm hn0.symm ?_
  rw [fX11_clause] at hf
  refine wa_bipush (v := (96 : Int32)) X dX11_clause_0 (by decide) ?_
  refine wa_iload_n X 1 dX11_clause_2 rfl ?_
  refine wa_iadd X dX11_clause_3 ?_
  refine wa_istore_n (L2 := [(2, .int ((96 : Int32) + x1)), (0, va_rf (some a)), (1, .int x1)]) X dX11_clause_4 (by decide) (by first | rfl | (show (2, _) :: List.filter (fun q : Nat × Value => !(q.1 == 2) && !(q.1 + 1 == 2 && q.2.category == 2)) _ = _; simp [va_rf_cat, cat_i, cat_l])) ?_
  refine wa_aload_n X 1 dX11_clause_5 rfl ?_
  obtain ⟨h1, hf⟩ := jckT hf
  refine wa_getP X dX11_clause_6 lfX11_79 rfl h1 rfl ?_
  refine wa_iload_n X 0 dX11_clause_9 rfl ?_
  refine wa_iconst (v := (-1 : Int32)) X dX11_clause_10 (by decide) ?_
  obtain ⟨q2, h3, hf⟩ := jde_some hf
  obtain ⟨h4, hf⟩ := jckT hf
  obtain ⟨h5, hf⟩ := jck_some hf
  obtain ⟨μ6, hm7, hf⟩ := jlt_e hf
  have e8 : jT μ6 = jT μ := by rw [hm7]; rfl
  refine wa_riast (ν := μ6) X dX11_clause_11 h3 h4 h5 hm7 ?_
  refine wa_aload_n X 1 dX11_clause_12 rfl ?_
  refine wa_getP X dX11_clause_13 lfX11_82 rfl (by rw [e8]; exact h1) rfl ?_
  refine wa_iload_n X 0 dX11_clause_16 rfl ?_
  refine wa_iconst (v := (-1 : Int32)) X dX11_clause_17 (by decide) ?_
  obtain ⟨q9, h10, hf⟩ := jde_some hf
  obtain ⟨h11, hf⟩ := jckT hf
  obtain ⟨h12, hf⟩ := jck_some hf
  obtain ⟨μ13, hm14, hf⟩ := jlt_e hf
  have e15 : jT μ13 = jT μ := by rw [hm14]; exact e8
  refine wa_riast (ν := μ13) X dX11_clause_18 h10 (by rw [e8]; exact h11) (by rw [e8]; exact h12) hm14 ?_
  refine wa_aload_n X 1 dX11_clause_19 rfl ?_
  refine wa_getP X dX11_clause_20 lfX11_85 rfl (by rw [e15]; exact h1) rfl ?_
  refine wa_iload_n X 0 dX11_clause_23 rfl ?_
  refine wa_iconst (v := (-1 : Int32)) X dX11_clause_24 (by decide) ?_
  obtain ⟨q16, h17, hf⟩ := jde_some hf
  obtain ⟨h18, hf⟩ := jckT hf
  obtain ⟨h19, hf⟩ := jck_some hf
  obtain ⟨μ20, hm21, hf⟩ := jlt_e hf
  have e22 : jT μ20 = jT μ := by rw [hm21]; exact e15
  refine wa_riast (ν := μ20) X dX11_clause_25 h17 (by rw [e15]; exact h18) (by rw [e15]; exact h19) hm21 ?_
  refine wa_aload_n X 1 dX11_clause_26 rfl ?_
  refine wa_getP X dX11_clause_27 lfX11_88 rfl (by rw [e22]; exact h1) rfl ?_
  refine wa_iload_n X 0 dX11_clause_30 rfl ?_
  refine wa_iconst (v := (-1 : Int32)) X dX11_clause_31 (by decide) ?_
  obtain ⟨q23, h24, hf⟩ := jde_some hf
  obtain ⟨h25, hf⟩ := jckT hf
  obtain ⟨h26, hf⟩ := jck_some hf
  obtain ⟨μ27, hm28, hf⟩ := jlt_e hf
  have e29 : jT μ27 = jT μ := by rw [hm28]; exact e22
  refine wa_riast (ν := μ27) X dX11_clause_32 h24 (by rw [e22]; exact h25) (by rw [e22]; exact h26) hm28 ?_
  refine wa_aload_n X 1 dX11_clause_33 rfl ?_
  refine wa_getP X dX11_clause_34 lfX11_91 rfl (by rw [e29]; exact h1) rfl ?_
  refine wa_iload_n X 0 dX11_clause_37 rfl ?_
  refine wa_iconst (v := (0 : Int32)) X dX11_clause_38 (by decide) ?_
  obtain ⟨q30, h31, hf⟩ := jde_some hf
  obtain ⟨h32, hf⟩ := jckT hf
  obtain ⟨h33, hf⟩ := jck_some hf
  obtain ⟨μ34, hm35, hf⟩ := jlt_e hf
  have e36 : jT μ34 = jT μ := by rw [hm35]; exact e29
  refine wa_riast (ν := μ34) X dX11_clause_39 h31 (by rw [e29]; exact h32) (by rw [e29]; exact h33) hm35 ?_
  refine wa_aload_n X 1 dX11_clause_40 rfl ?_
  refine wa_getP X dX11_clause_41 lfX11_94 rfl (by rw [e36]; exact h1) rfl ?_
  refine wa_iload_n X 0 dX11_clause_44 rfl ?_
  refine wa_iconst (v := (0 : Int32)) X dX11_clause_45 (by decide) ?_
  obtain ⟨q37, h38, hf⟩ := jde_some hf
  obtain ⟨h39, hf⟩ := jckT hf
  obtain ⟨h40, hf⟩ := jck_some hf
  obtain ⟨μ41, hm42, hf⟩ := jlt_e hf
  have e43 : jT μ41 = jT μ := by rw [hm42]; exact e36
  refine wa_riast (ν := μ41) X dX11_clause_46 h38 (by rw [e36]; exact h39) (by rw [e36]; exact h40) hm42 ?_
  refine wa_aload_n X 1 dX11_clause_47 rfl ?_
  refine wa_getI X dX11_clause_48 lfX11_163 rfl (by rw [e43]; exact h1) rfl ?_
  refine wa_ifle (tgt := 56) X dX11_clause_51 (by decide) (fun h44 => ?_) (fun h44 => ?_)
  · rw [if_pos h44] at hf
    refine wa_aload_n X 1 dX11_clause_56 rfl ?_
    refine wa_ldc2 (v := (139666885 : Int64)) X dX11_clause_57 lkX11_215 ?_
    obtain ⟨r45, μ46, c47, m48, c49, m50, e51, hf, h52, h53⟩ := jcl_some hf
    refine wa_rcallV (st2 := [.int r45]) X dX11_clause_60 lmX11_217 lMX11_isWord rfl (by rw [e43]; exact h1) (mX11_isWord e51) rfl rfl rfl (va_cats (Nat.le_of_ble_eq_true rfl)) (by decide) (by omega) (by omega) ?_
    refine wa_ifeq (tgt := 72) X dX11_clause_63 (by decide) (fun h54 => ?_) (fun h54 => ?_)
    · rw [if_pos h54] at hf
      refine wa_aload_n X 1 dX11_clause_72 rfl ?_
      obtain ⟨h55, hf⟩ := jckT hf
      obtain ⟨r56, μ57, c58, m59, c60, m61, e62, hf, h63, h64⟩ := jcl_some hf
      refine wa_rcallV (st2 := [.int r56]) X dX11_clause_73 lmX11_267 lMX11_isName rfl h55 (mX11_isName e62) rfl rfl rfl (va_cats (Nat.le_of_ble_eq_true rfl)) (by decide) (by omega) (by omega) ?_
      refine wa_ifne (tgt := 81) X dX11_clause_76 (by decide) (fun h65 => ?_) (fun h65 => ?_)
      · rw [if_neg h65] at hf
        refine wa_aload_n X 1 dX11_clause_81 rfl ?_
        obtain ⟨h66, hf⟩ := jckT hf
        refine wa_getI X dX11_clause_82 lfX11_280 rfl h66 rfl ?_
        refine wa_ifeq (tgt := 107) X dX11_clause_85 (by decide) (fun h67 => ?_) (fun h67 => ?_)
        · rw [if_pos h67] at hf
          refine wa_sub (L2 := [(0, va_rf (some a)), (1, .int x1), (2, .int ((96 : Int32) + x1))]) [1, 2, 0] rfl ?_
          exact gX11_clause_b107 X a x1 ((96 : Int32) + x1) μ57 _ _ _ _ hf (by omega) (by omega)
        · rw [if_neg h67] at hf
          refine wa_aload_n X 1 dX11_clause_88 rfl ?_
          refine wa_iconst (v := (4 : Int32)) X dX11_clause_89 (by decide) ?_
          refine wa_iload_n X 2 dX11_clause_90 rfl ?_
          obtain ⟨r68, μ69, c70, m71, c72, m73, e74, hf, h75, h76⟩ := jcl_some hf
          refine wa_rcallV (st2 := [.int r68]) X dX11_clause_91 lmX11_321 lMX11_labelled rfl h66 (mX11_labelled e74) rfl rfl rfl (va_cats (Nat.le_of_ble_eq_true rfl)) (by decide) (by omega) (by omega) ?_
          refine wa_iflt (tgt := 107) X dX11_clause_94 (by decide) (fun h77 => ?_) (fun h77 => ?_)
          · rw [if_pos h77] at hf
            refine wa_sub (L2 := [(0, va_rf (some a)), (1, .int x1), (2, .int ((96 : Int32) + x1))]) [1, 2, 0] rfl ?_
            exact gX11_clause_b107 X a x1 ((96 : Int32) + x1) μ69 _ _ _ _ hf (by omega) (by omega)
          · rw [if_neg h77] at hf
            refine wa_aload_n X 1 dX11_clause_97 rfl ?_
            refine wa_iconst (v := (2 : Int32)) X dX11_clause_98 (by decide) ?_
            refine wa_aload_n X 1 dX11_clause_99 rfl ?_
            obtain ⟨h78, hf⟩ := jckT hf
            refine wa_getI X dX11_clause_100 lfX11_185 rfl h78 rfl ?_
            obtain ⟨r79, μ80, c81, m82, c83, m84, e85, hf, h86, h87⟩ := jcl_some hf
            refine wa_rcallV (st2 := [.int r79]) X dX11_clause_103 lmX11_201 lMX11_fails rfl h78 (mX11_fails e85) rfl rfl rfl (va_cats (Nat.le_of_ble_eq_true rfl)) (by decide) (by omega) (by omega) ?_
            obtain ⟨h88, hf⟩ := jck_some hf
            obtain ⟨rfl, rfl, rfl, rfl⟩ := jret hf
            exact wa_iret X dX11_clause_106 (jbl_nar h88) (by omega) (by omega)
      · rw [if_pos h65] at hf
        refine wa_iconst (v := (0 : Int32)) X dX11_clause_79 (by decide) ?_
        obtain ⟨rfl, rfl, rfl, rfl⟩ := jret hf
        exact wa_iret X dX11_clause_80 rfl (by omega) (by omega)
    · rw [if_neg h54] at hf
      refine wa_aload_n X 1 dX11_clause_66 rfl ?_
      refine wa_iload_n X 0 dX11_clause_67 rfl ?_
      obtain ⟨h89, hf⟩ := jckT hf
      obtain ⟨r90, μ91, c92, m93, c94, m95, e96, hf, h97, h98⟩ := jcl_some hf
      refine wa_rcallV (st2 := [.int r90]) X dX11_clause_68 lmX11_318 lMX11_defines rfl h89 (mX11_defines e96) rfl rfl rfl (va_cats (Nat.le_of_ble_eq_true rfl)) (by decide) (by omega) (by omega) ?_
      obtain ⟨h99, hf⟩ := jck_some hf
      obtain ⟨rfl, rfl, rfl, rfl⟩ := jret hf
      exact wa_iret X dX11_clause_71 (jbl_nar h99) (by omega) (by omega)
  · rw [if_neg h44] at hf
    refine wa_iconst (v := (0 : Int32)) X dX11_clause_54 (by decide) ?_
    obtain ⟨rfl, rfl, rfl, rfl⟩ := jret hf
    exact wa_iret X dX11_clause_55 rfl (by omega) (by omega)
theorem dX11_beyond_0 : decode cX11_beyond 0 = .ok (.aload_n 0, 1) := by decide +kernel
theorem dX11_beyond_1 : decode cX11_beyond 1 = .ok (.getfield 163, 3) := by decide +kernel
theorem dX11_beyond_4 : decode cX11_beyond 4 = .ok (.ifCond .le 5, 3) := by decide +kernel
theorem dX11_beyond_7 : decode cX11_beyond 7 = .ok (.iconst 0, 1) := by decide +kernel
theorem dX11_beyond_8 : decode cX11_beyond 8 = .ok (.ireturn, 1) := by decide +kernel
theorem dX11_beyond_9 : decode cX11_beyond 9 = .ok (.aload_n 0, 1) := by decide +kernel
theorem dX11_beyond_10 : decode cX11_beyond 10 = .ok (.getfield 194, 3) := by decide +kernel
theorem dX11_beyond_13 : decode cX11_beyond 13 = .ok (.iconst 1, 1) := by decide +kernel
theorem dX11_beyond_14 : decode cX11_beyond 14 = .ok (.if_icmp .eq 13, 3) := by decide +kernel
theorem dX11_beyond_17 : decode cX11_beyond 17 = .ok (.aload_n 0, 1) := by decide +kernel
theorem dX11_beyond_18 : decode cX11_beyond 18 = .ok (.iconst 0, 1) := by decide +kernel
theorem dX11_beyond_19 : decode cX11_beyond 19 = .ok (.aload_n 0, 1) := by decide +kernel
theorem dX11_beyond_20 : decode cX11_beyond 20 = .ok (.getfield 185, 3) := by decide +kernel
theorem dX11_beyond_23 : decode cX11_beyond 23 = .ok (.invokevirtual 201, 3) := by decide +kernel
theorem dX11_beyond_26 : decode cX11_beyond 26 = .ok (.ireturn, 1) := by decide +kernel
theorem dX11_beyond_27 : decode cX11_beyond 27 = .ok (.aload_n 0, 1) := by decide +kernel
theorem dX11_beyond_28 : decode cX11_beyond 28 = .ok (.ldc2_w 215, 3) := by decide +kernel
theorem dX11_beyond_31 : decode cX11_beyond 31 = .ok (.invokevirtual 217, 3) := by decide +kernel
theorem dX11_beyond_34 : decode cX11_beyond 34 = .ok (.ifCond .ne 24, 3) := by decide +kernel
theorem dX11_beyond_37 : decode cX11_beyond 37 = .ok (.aload_n 0, 1) := by decide +kernel
theorem dX11_beyond_38 : decode cX11_beyond 38 = .ok (.invokevirtual 261, 3) := by decide +kernel
theorem dX11_beyond_41 : decode cX11_beyond 41 = .ok (.ifCond .ne 13, 3) := by decide +kernel
theorem dX11_beyond_44 : decode cX11_beyond 44 = .ok (.aload_n 0, 1) := by decide +kernel
theorem dX11_beyond_45 : decode cX11_beyond 45 = .ok (.iconst 4, 1) := by decide +kernel
theorem dX11_beyond_46 : decode cX11_beyond 46 = .ok (.bipush 24, 2) := by decide +kernel
theorem dX11_beyond_48 : decode cX11_beyond 48 = .ok (.invokevirtual 321, 3) := by decide +kernel
theorem dX11_beyond_51 : decode cX11_beyond 51 = .ok (.ifCond .lt 7, 3) := by decide +kernel
theorem dX11_beyond_54 : decode cX11_beyond 54 = .ok (.iconst 1, 1) := by decide +kernel
theorem dX11_beyond_55 : decode cX11_beyond 55 = .ok (.goto 4, 3) := by decide +kernel
theorem dX11_beyond_58 : decode cX11_beyond 58 = .ok (.iconst 0, 1) := by decide +kernel
theorem dX11_beyond_59 : decode cX11_beyond 59 = .ok (.istore_n 1, 1) := by decide +kernel
theorem dX11_beyond_60 : decode cX11_beyond 60 = .ok (.aload_n 0, 1) := by decide +kernel
theorem dX11_beyond_61 : decode cX11_beyond 61 = .ok (.iload_n 1, 1) := by decide +kernel
theorem dX11_beyond_62 : decode cX11_beyond 62 = .ok (.ifCond .eq 7, 3) := by decide +kernel
theorem dX11_beyond_65 : decode cX11_beyond 65 = .ok (.iconst 2, 1) := by decide +kernel
theorem dX11_beyond_66 : decode cX11_beyond 66 = .ok (.goto 4, 3) := by decide +kernel
theorem dX11_beyond_69 : decode cX11_beyond 69 = .ok (.iconst 4, 1) := by decide +kernel
theorem dX11_beyond_70 : decode cX11_beyond 70 = .ok (.aload_n 0, 1) := by decide +kernel
theorem dX11_beyond_71 : decode cX11_beyond 71 = .ok (.getfield 185, 3) := by decide +kernel
theorem dX11_beyond_74 : decode cX11_beyond 74 = .ok (.invokevirtual 201, 3) := by decide +kernel
theorem dX11_beyond_77 : decode cX11_beyond 77 = .ok (.ireturn, 1) := by decide +kernel
def fX11_beyond_b70 (a : Nat) (s0 : Int32) (s1 : Option Nat) (μ : JM) : JO (Int32) := jck ((jT μ a).1 == 12) <| jde s1 fun q48 => jck ((jT μ q48).1 == 12) <| jcl (fX11_fails q48 s0 (jI μ a 15) μ) fun r51 μ52 => jck (jbl r51) <| some (r51, μ52, 0, 0)
set_option maxHeartbeats 4000000 in
set_option maxRecDepth 100000 in
theorem gX11_beyond_b70 {b : Nat} {Θ : JE} {RC RS : Nat} {r : Int32} {ν : JM} (X : jX b Θ RX11 cX11_beyond 2 (some .boolean) 3 65 RC RS) (a : Nat) (s0 : Int32) (s1 : Option Nat) (μ : JM) (c m k n : Nat) (hf : fX11_beyond_b70 a s0 s1 μ = some (r, ν, c, m)) (hk : k + c = RC) (hn : n + m = RS) : WA b Θ 2 (jE b Θ (some (.int r)) ν RC RS) μ k n 70 [(0, va_rf (some a))] [.int s0, va_rf s1] := by
  rw [fX11_beyond_b70] at hf
  refine wa_aload_n X 0 dX11_beyond_70 rfl ?_
  obtain ⟨h47, hf⟩ := jckT hf
  refine wa_getI X dX11_beyond_71 lfX11_185 rfl h47 rfl ?_
  obtain ⟨q48, h49, hf⟩ := jde_some hf
  obtain ⟨h50, hf⟩ := jckT hf
  obtain ⟨r51, μ52, c53, m54, c55, m56, e57, hf, h58, h59⟩ := jcl_some hf
  refine wa_rcallV (st2 := [.int r51]) X dX11_beyond_74 lmX11_201 lMX11_fails h49 h50 (mX11_fails e57) rfl rfl rfl (va_cats (Nat.le_of_ble_eq_true rfl)) (by decide) (by omega) (by omega) ?_
  obtain ⟨h60, hf⟩ := jck_some hf
  obtain ⟨rfl, rfl, rfl, rfl⟩ := jret hf
  exact wa_iret X dX11_beyond_77 (jbl_nar h60) (by omega) (by omega)
def fX11_beyond_b59 (a : Nat) (s0 : Int32) (μ : JM) : JO (Int32) := if s0 = 0 then (fX11_beyond_b70  a (4 : Int32) (some a) μ) else (fX11_beyond_b70  a (2 : Int32) (some a) μ)
set_option maxHeartbeats 4000000 in
set_option maxRecDepth 100000 in
theorem gX11_beyond_b59 {b : Nat} {Θ : JE} {RC RS : Nat} {r : Int32} {ν : JM} (X : jX b Θ RX11 cX11_beyond 2 (some .boolean) 3 65 RC RS) (a : Nat) (s0 : Int32) (μ : JM) (c m k n : Nat) (hf : fX11_beyond_b59 a s0 μ = some (r, ν, c, m)) (hk : k + c = RC) (hn : n + m = RS) : WA b Θ 2 (jE b Θ (some (.int r)) ν RC RS) μ k n 59 [(0, va_rf (some a))] [.int s0] := by
  rw [fX11_beyond_b59] at hf
  refine wa_istore_n (L2 := [(1, .int s0), (0, va_rf (some a))]) X dX11_beyond_59 (by decide) (by first | rfl | (show (1, _) :: List.filter (fun q : Nat × Value => !(q.1 == 1) && !(q.1 + 1 == 1 && q.2.category == 2)) _ = _; simp [va_rf_cat, cat_i, cat_l])) ?_
  refine wa_aload_n X 1 dX11_beyond_60 rfl ?_
  refine wa_iload_n X 0 dX11_beyond_61 rfl ?_
  refine wa_ifeq (tgt := 69) X dX11_beyond_62 (by decide) (fun h46 => ?_) (fun h46 => ?_)
  · rw [if_pos h46] at hf
    refine wa_iconst (v := (4 : Int32)) X dX11_beyond_69 (by decide) ?_
    refine wa_sub (L2 := [(0, va_rf (some a))]) [1] rfl ?_
    exact gX11_beyond_b70 X a (4 : Int32) (some a) μ _ _ _ _ hf (by omega) (by omega)
  · rw [if_neg h46] at hf
    refine wa_iconst (v := (2 : Int32)) X dX11_beyond_65 (by decide) ?_
    refine wa_goto (tgt := 70) X dX11_beyond_66 (by decide) ?_
    refine wa_sub (L2 := [(0, va_rf (some a))]) [1] rfl ?_
    exact gX11_beyond_b70 X a (2 : Int32) (some a) μ _ _ _ _ hf (by omega) (by omega)
def fX11_beyond_b54 (a : Nat) (μ : JM) : JO (Int32) := fX11_beyond_b59  a (1 : Int32) μ
set_option maxHeartbeats 4000000 in
set_option maxRecDepth 100000 in
theorem gX11_beyond_b54 {b : Nat} {Θ : JE} {RC RS : Nat} {r : Int32} {ν : JM} (X : jX b Θ RX11 cX11_beyond 2 (some .boolean) 3 65 RC RS) (a : Nat) (μ : JM) (c m k n : Nat) (hf : fX11_beyond_b54 a μ = some (r, ν, c, m)) (hk : k + c = RC) (hn : n + m = RS) : WA b Θ 2 (jE b Θ (some (.int r)) ν RC RS) μ k n 54 [(0, va_rf (some a))] [] := by
  rw [fX11_beyond_b54] at hf
  refine wa_iconst (v := (1 : Int32)) X dX11_beyond_54 (by decide) ?_
  refine wa_goto (tgt := 59) X dX11_beyond_55 (by decide) ?_
  refine wa_sub (L2 := [(0, va_rf (some a))]) [0] rfl ?_
  exact gX11_beyond_b59 X a (1 : Int32) μ _ _ _ _ hf (by omega) (by omega)
def fX11_beyond_b58 (a : Nat) (μ : JM) : JO (Int32) := fX11_beyond_b59  a (0 : Int32) μ
set_option maxHeartbeats 4000000 in
set_option maxRecDepth 100000 in
theorem gX11_beyond_b58 {b : Nat} {Θ : JE} {RC RS : Nat} {r : Int32} {ν : JM} (X : jX b Θ RX11 cX11_beyond 2 (some .boolean) 3 65 RC RS) (a : Nat) (μ : JM) (c m k n : Nat) (hf : fX11_beyond_b58 a μ = some (r, ν, c, m)) (hk : k + c = RC) (hn : n + m = RS) : WA b Θ 2 (jE b Θ (some (.int r)) ν RC RS) μ k n 58 [(0, va_rf (some a))] [] := by
  rw [fX11_beyond_b58] at hf
  refine wa_iconst (v := (0 : Int32)) X dX11_beyond_58 (by decide) ?_
  refine wa_sub (L2 := [(0, va_rf (some a))]) [0] rfl ?_
  exact gX11_beyond_b59 X a (0 : Int32) μ _ _ _ _ hf (by omega) (by omega)
def fX11_beyond (a : Nat) (μ : JM) : JO (Int32) := jck ((jT μ a).1 == 12) <| if (jI μ a 18) ≤ 0 then (if (jI μ a 14) = (1 : Int32) then (jcl (fX11_isWord a (139666885 : Int64) μ) fun r4 μ5 => if r4 = 0 then (jck ((jT μ5 a).1 == 12) <| jcl (fX11_isOwn a μ5) fun r15 μ16 => if r15 = 0 then (jck ((jT μ16 a).1 == 12) <| jcl (fX11_labelled a (4 : Int32) (24 : Int32) μ16) fun r26 μ27 => if r26 < 0 then (fX11_beyond_b58  a μ27) else (fX11_beyond_b54  a μ27)) else (fX11_beyond_b54  a μ16)) else (fX11_beyond_b58  a μ5)) else (jcl (fX11_fails a (0 : Int32) (jI μ a 15) μ) fun r36 μ37 => jck (jbl r36) <| some (r36, μ37, 0, 0))) else (some ((0 : Int32), μ, 0, 0))
set_option maxHeartbeats 4000000 in
set_option maxRecDepth 100000 in
theorem mX11_beyond {b : Nat} {a : Nat} {μ : JM} {r : Int32} {ν : JM} {c m : Nat} (hf : fX11_beyond a μ = some (r, ν, c, m)) : JMet b yX11_beyond cX11_beyond 2 (some .boolean) 3 65 [va_rf (some a)] μ (some (.int r)) ν c m := by
  refine JMet.of (by decide) (lg_sl_le (by simp only [List.map_cons, List.map_nil, List.sum_cons, List.sum_nil, va_rf_cat]; exact Nat.le_of_ble_eq_true rfl)) (fun Θ X hin => ?_)
  refine wa_eq (L2 := [(0, va_rf (some a))]) ?_ rfl (by first | rfl | simp [lv_args, va_rf_cat, cat_i, cat_l]) rfl
  obtain ⟨k, hk0⟩ : ∃ k : Nat, k = 0 := ⟨0, rfl⟩
  obtain ⟨n, hn0⟩ : ∃ n : Nat, n = 0 := ⟨0, rfl⟩
  have hk : k + c = c := by omega
  have hn : n + m = m := by omega
  refine wa_costs hk0.symm hn0.symm ?_
  rw [fX11_beyond] at hf
  refine wa_aload_n X 0 dX11_beyond_0 rfl ?_
  obtain ⟨h1, hf⟩ := jckT hf
  refine wa_getI X dX11_beyond_1 lfX11_163 rfl h1 rfl ?_
  refine wa_ifle (tgt := 9) X dX11_beyond_4 (by decide) (fun h2 => ?_) (fun h2 => ?_)
  · rw [if_pos h2] at hf
    refine wa_aload_n X 0 dX11_beyond_9 rfl ?_
    refine wa_getI X dX11_beyond_10 lfX11_194 rfl h1 rfl ?_
    refine wa_iconst (v := (1 : Int32)) X dX11_beyond_13 (by decide) ?_
    refine wa_iceq (tgt := 27) X dX11_beyond_14 (by decide) (fun h3 => ?_) (fun h3 => ?_)
    · rw [if_pos h3] at hf
      refine wa_aload_n X 0 dX11_beyond_27 rfl ?_
      refine wa_ldc2 (v := (139666885 : Int64)) X dX11_beyond_28 lkX11_215 ?_
      obtain ⟨r4, μ5, c6, m7, c8, m9, e10, hf, h11, h12⟩ := jcl_some hf
      refine wa_rcallV (st2 := [.int r4]) X dX11_beyond_31 lmX11_217 lMX11_isWord rfl h1 (mX11_isWord e10) rfl rfl rfl (va_cats (Nat.le_of_ble_eq_true rfl)) (by decide) (by omega) (by omega) ?_
      refine wa_ifne (tgt := 58) X dX11_beyond_34 (by decide) (fun h13 => ?_) (fun h13 => ?_)
      · rw [if_neg h13] at hf
        refine wa_sub (L2 := [(0, va_rf (some a))]) [0] rfl ?_
        exact gX11_beyond_b58 X a μ5 _ _ _ _ hf (by omega) (by omega)
      · rw [if_pos h13] at hf
        refine wa_aload_n X 0 dX11_beyond_37 rfl ?_
        obtain ⟨h14, hf⟩ := jckT hf
        obtain ⟨r15, μ16, c17, m18, c19, m20, e21, hf, h22, h23⟩ := jcl_some hf
        refine wa_rcallV (st2 := [.int r15]) X dX11_beyond_38 lmX11_261 lMX11_isOwn rfl h14 (mX11_isOwn e21) rfl rfl rfl (va_cats (Nat.le_of_ble_eq_true rfl)) (by decide) (by omega) (by omega) ?_
        refine wa_ifne (tgt := 54) X dX11_beyond_41 (by decide) (fun h24 => ?_) (fun h24 => ?_)
        · rw [if_neg h24] at hf
          refine wa_sub (L2 := [(0, va_rf (some a))]) [0] rfl ?_
          exact gX11_beyond_b54 X a μ16 _ _ _ _ hf (by omega) (by omega)
        · rw [if_pos h24] at hf
          refine wa_aload_n X 0 dX11_beyond_44 rfl ?_
          refine wa_iconst (v := (4 : Int32)) X dX11_beyond_45 (by decide) ?_
          refine wa_bipush (v := (24 : Int32)) X dX11_beyond_46 (by decide) ?_
          obtain ⟨h25, hf⟩ := jckT hf
          obtain ⟨r26, μ27, c28, m29, c30, m31, e32, hf, h33, h34⟩ := jcl_some hf
          refine wa_rcallV (st2 := [.int r26]) X dX11_beyond_48 lmX11_321 lMX11_labelled rfl h25 (mX11_labelled e32) rfl rfl rfl (va_cats (Nat.le_of_ble_eq_true rfl)) (by decide) (by omega) (by omega) ?_
          refine wa_iflt (tgt := 58) X dX11_beyond_51 (by decide) (fun h35 => ?_) (fun h35 => ?_)
          · rw [if_pos h35] at hf
            refine wa_sub (L2 := [(0, va_rf (some a))]) [0] rfl ?_
            exact gX11_beyond_b58 X a μ27 _ _ _ _ hf (by omega) (by omega)
          · rw [if_neg h35] at hf
            refine wa_sub (L2 := [(0, va_rf (some a))]) [0] rfl ?_
            exact gX11_beyond_b54 X a μ27 _ _ _ _ hf (by omega) (by omega)
    · rw [if_neg h3] at hf
      refine wa_aload_n X 0 dX11_beyond_17 rfl ?_
      refine wa_iconst (v := (0 : Int32)) X dX11_beyond_18 (by decide) ?_
      refine wa_aload_n X 0 dX11_beyond_19 rfl ?_
      refine wa_getI X dX11_beyond_20 lfX11_185 rfl h1 rfl ?_
      obtain ⟨r36, μ37, c38, m39, c40, m41, e42, hf, h43, h44⟩ := jcl_some hf
      refine wa_rcallV (st2 := [.int r36]) X dX11_beyond_23 lmX11_201 lMX11_fails rfl h1 (mX11_fails e42) rfl rfl rfl (va_cats (Nat.le_of_ble_eq_true rfl)) (by decide) (by omega) (by omega) ?_
      obtain ⟨h45, hf⟩ := jck_some hf
      obtain ⟨rfl, rfl, rfl, rfl⟩ := jret hf
      exact wa_iret X dX11_beyond_26 (jbl_nar h45) (by omega) (by omega)
  · rw [if_neg h2] at hf
    refine wa_iconst (v := (0 : Int32)) X dX11_beyond_7 (by decide) ?_
    obtain ⟨rfl, rfl, rfl, rfl⟩ := jret hf
    exact wa_iret X dX11_beyond_8 rfl (by omega) (by omega)
