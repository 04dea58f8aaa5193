/-! functions and walks, by program -/
theorem dX8_find_0 : decode cX8_find 0 = .ok (.iconst 0, 1) := by decide +kernel
theorem dX8_find_1 : decode cX8_find 1 = .ok (.istore 4, 2) := by decide +kernel
theorem dX8_find_3 : decode cX8_find 3 = .ok (.iload 4, 2) := by decide +kernel
theorem dX8_find_5 : decode cX8_find 5 = .ok (.aload_n 0, 1) := by decide +kernel
theorem dX8_find_6 : decode cX8_find 6 = .ok (.getfield 27, 3) := by decide +kernel
theorem dX8_find_9 : decode cX8_find 9 = .ok (.if_icmp .ge 49, 3) := by decide +kernel
theorem dX8_find_12 : decode cX8_find 12 = .ok (.aload_n 0, 1) := by decide +kernel
theorem dX8_find_13 : decode cX8_find 13 = .ok (.getfield 17, 3) := by decide +kernel
theorem dX8_find_16 : decode cX8_find 16 = .ok (.iload 4, 2) := by decide +kernel
theorem dX8_find_18 : decode cX8_find 18 = .ok (.aaload, 1) := by decide +kernel
theorem dX8_find_19 : decode cX8_find 19 = .ok (.getfield 34, 3) := by decide +kernel
theorem dX8_find_22 : decode cX8_find 22 = .ok (.lload_n 1, 1) := by decide +kernel
theorem dX8_find_23 : decode cX8_find 23 = .ok (.lcmp, 1) := by decide +kernel
theorem dX8_find_24 : decode cX8_find 24 = .ok (.ifCond .ne 28, 3) := by decide +kernel
theorem dX8_find_27 : decode cX8_find 27 = .ok (.aload_n 0, 1) := by decide +kernel
theorem dX8_find_28 : decode cX8_find 28 = .ok (.getfield 17, 3) := by decide +kernel
theorem dX8_find_31 : decode cX8_find 31 = .ok (.iload 4, 2) := by decide +kernel
theorem dX8_find_33 : decode cX8_find 33 = .ok (.aaload, 1) := by decide +kernel
theorem dX8_find_34 : decode cX8_find 34 = .ok (.getfield 38, 3) := by decide +kernel
theorem dX8_find_37 : decode cX8_find 37 = .ok (.ifCond .ne 7, 3) := by decide +kernel
theorem dX8_find_40 : decode cX8_find 40 = .ok (.iconst 1, 1) := by decide +kernel
theorem dX8_find_41 : decode cX8_find 41 = .ok (.goto 4, 3) := by decide +kernel
theorem dX8_find_44 : decode cX8_find 44 = .ok (.iconst 0, 1) := by decide +kernel
theorem dX8_find_45 : decode cX8_find 45 = .ok (.iload_n 3, 1) := by decide +kernel
theorem dX8_find_46 : decode cX8_find 46 = .ok (.if_icmp .ne 6, 3) := by decide +kernel
theorem dX8_find_49 : decode cX8_find 49 = .ok (.iload 4, 2) := by decide +kernel
theorem dX8_find_51 : decode cX8_find 51 = .ok (.ireturn, 1) := by decide +kernel
theorem dX8_find_52 : decode cX8_find 52 = .ok (.iinc 4 1, 3) := by decide +kernel
theorem dX8_find_55 : decode cX8_find 55 = .ok (.goto (-52), 3) := by decide +kernel
theorem dX8_find_58 : decode cX8_find 58 = .ok (.iconst (-1), 1) := by decide +kernel
theorem dX8_find_59 : decode cX8_find 59 = .ok (.ireturn, 1) := by decide +kernel
def fX8_find_b52 (rec3 : Nat → Int64 → Int32 → Int32 → JM → JO (Int32)) (a : Nat) (y1 : Int64) (x3 : Int32) (x4 : Int32) (μ : JM) : JO (Int32) := rec3 a y1 x3 (x4 + (1 : Int32)) μ
set_option maxHeartbeats 4000000 in
set_option maxRecDepth 100000 in
theorem gX8_find_b52 {b : Nat} {Θ : JE} {RC RS : Nat} {r : Int32} {ν : JM} (X : jX b Θ RX8 cX8_find 5 (some .int) 0 0 RC RS) {rec3 : Nat → Int64 → Int32 → Int32 → JM → JO (Int32)} (hrec3 : ∀ (a : Nat) (y1 : Int64) (x3 : Int32) (x4 : Int32) (μ : JM) (c m k n : Nat), rec3 a y1 x3 x4 μ = some (r, ν, c, m) → k + c = RC → n + m = RS → WA b Θ 5 (jE b Θ (some (.int r)) ν RC RS) μ k n 3 [(0, va_rf (some a)), (1, .long y1), (3, .int x3), (4, .int x4)] []) (a : Nat) (y1 : Int64) (x3 : Int32) (x4 : Int32) (μ : JM) (c m k n : Nat) (hf : fX8_find_b52 rec3 a y1 x3 x4 μ = some (r, ν, c, m)) (hk : k + c = RC) (hn : n + m = RS) : WA b Θ 5 (jE b Θ (some (.int r)) ν RC RS) μ k n 52 [(0, va_rf (some a)), (1, .long y1), (3, .int x3), (4, .int x4)] [] := by
  rw [fX8_find_b52] at hf
  refine wa_iinc (v := (x4 + (1 : Int32))) (L2 := [(4, .int (x4 + (1 : Int32))), (0, va_rf (some a)), (1, .long y1), (3, .int x3)]) X 3 dX8_find_52 rfl rfl (by decide) (by first | rfl | simp [va_rf_cat, cat_i, cat_l]) ?_
  refine wa_goto (tgt := 3) X dX8_find_55 (by decide) ?_
  refine wa_sub (L2 := [(0, va_rf (some a)), (1, .long y1), (3, .int x3), (4, .int (x4 + (1 : Int32)))]) [1, 2, 3, 0] rfl ?_
  exact hrec3 a y1 x3 (x4 + (1 : Int32)) μ _ _ _ _ hf (by omega) (by omega)
def fX8_find_b45 (rec3 : Nat → Int64 → Int32 → Int32 → JM → JO (Int32)) (a : Nat) (y1 : Int64) (x3 : Int32) (x4 : Int32) (s0 : Int32) (μ : JM) : JO (Int32) := if s0 = x3 then (some (x4, μ, 0, 0)) else (fX8_find_b52 rec3 a y1 x3 x4 μ)
set_option maxHeartbeats 4000000 in
set_option maxRecDepth 100000 in
theorem gX8_find_b45 {b : Nat} {Θ : JE} {RC RS : Nat} {r : Int32} {ν : JM} (X : jX b Θ RX8 cX8_find 5 (some .int) 0 0 RC RS) {rec3 : Nat → Int64 → Int32 → Int32 → JM → JO (Int32)} (hrec3 : ∀ (a : Nat) (y1 : Int64) (x3 : Int32) (x4 : Int32) (μ : JM) (c m k n : Nat), rec3 a y1 x3 x4 μ = some (r, ν, c, m) → k + c = RC → n + m = RS → WA b Θ 5 (jE b Θ (some (.int r)) ν RC RS) μ k n 3 [(0, va_rf (some a)), (1, .long y1), (3, .int x3), (4, .int x4)] []) (a : Nat) (y1 : Int64) (x3 : Int32) (x4 : Int32) (s0 : Int32) (μ : JM) (c m k n : Nat) (hf : fX8_find_b45 rec3 a y1 x3 x4 s0 μ = some (r, ν, c, m)) (hk : k + c = RC) (hn : n + m = RS) : WA b Θ 5 (jE b Θ (some (.int r)) ν RC RS) μ k n 45 [(0, va_rf (some a)), (1, .long y1), (3, .int x3), (4, .int x4)] [.int s0] := by
  rw [fX8_find_b45] at hf
  refine wa_iload_n X 2 dX8_find_45 rfl ?_
  refine wa_icne (tgt := 52) X dX8_find_46 (by decide) (fun h12 => ?_) (fun h12 => ?_)
  · rw [if_neg h12] at hf
    refine wa_sub (L2 := [(0, va_rf (some a)), (1, .long y1), (3, .int x3), (4, .int x4)]) [0, 1, 2, 3] rfl ?_
    exact gX8_find_b52 X hrec3 a y1 x3 x4 μ _ _ _ _ hf (by omega) (by omega)
  · rw [if_pos h12] at hf
    refine wa_iload X 3 dX8_find_49 rfl ?_
    obtain ⟨rfl, rfl, rfl, rfl⟩ := jret hf
    exact wa_iret X dX8_find_51 rfl (by omega) (by omega)
def fX8_find_b3 : Nat → Nat → Int64 → Int32 → Int32 → JM → JO (Int32)
  | 0, _, _, _, _, _ => none
  | fu + 1, a, y1, x3, x4, μ => jck ((jT μ a).1 == 9) <| if (jI μ a 2) ≤ x4 then (some ((-1 : Int32), μ, 0, 0)) else (jde (jP μ a 0) fun q3 => jck ((jT μ q3).1 == 105) <| jck (jin x4 (jT μ q3).2) <| jde (jP μ q3 (x4).toNatClampNeg) fun q7 => jck ((jT μ q7).1 == 3) <| if (lg_cmp (jJ μ q7 1) y1) = 0 then (if (jI μ q7 0) = 0 then (fX8_find_b45 (fX8_find_b3 fu) a y1 x3 x4 (1 : Int32) μ) else (fX8_find_b45 (fX8_find_b3 fu) a y1 x3 x4 (0 : Int32) μ)) else (fX8_find_b52 (fX8_find_b3 fu) a y1 x3 x4 μ))
set_option maxHeartbeats 4000000 in
set_option maxRecDepth 100000 in
theorem gX8_find_b3 {b : Nat} {Θ : JE} {RC RS : Nat} {r : Int32} {ν : JM} (X : jX b Θ RX8 cX8_find 5 (some .int) 0 0 RC RS) : ∀ (fu : Nat) (a : Nat) (y1 : Int64) (x3 : Int32) (x4 : Int32) (μ : JM) (c m k n : Nat), fX8_find_b3 fu a y1 x3 x4 μ = some (r, ν, c, m) → k + c = RC → n + m = RS → WA b Θ 5 (jE b Θ (some (.int r)) ν RC RS) μ k n 3 [(0, va_rf (some a)), (1, .long y1), (3, .int x3), (4, .int x4)] [] := by
  intro fu
  induction fu with
  | zero => intro a y1 x3 x4 μ c m k n hf; cases hf
  | succ fu ih =>
    intro a y1 x3 x4 μ c m k n hf hk hn
    rw [fX8_find_b3] at hf
    refine wa_iload X 3 dX8_find_3 rfl ?_
    refine wa_aload_n X 0 dX8_find_5 rfl ?_
    obtain ⟨h1, hf⟩ := jckT hf
    refine wa_getI X dX8_find_6 lfX8_27 rfl h1 rfl ?_
    refine wa_icge (tgt := 58) X dX8_find_9 (by decide) (fun h2 => ?_) (fun h2 => ?_)
    · rw [if_pos h2] at hf
      refine wa_iconst (v := (-1 : Int32)) X dX8_find_58 (by decide) ?_
      obtain ⟨rfl, rfl, rfl, rfl⟩ := jret hf
      exact wa_iret X dX8_find_59 rfl (by omega) (by omega)
    · rw [if_neg h2] at hf
      refine wa_aload_n X 0 dX8_find_12 rfl ?_
      refine wa_getP X dX8_find_13 lfX8_17 rfl h1 rfl ?_
      refine wa_iload X 3 dX8_find_16 rfl ?_
      obtain ⟨q3, h4, hf⟩ := jde_some hf
      obtain ⟨h5, hf⟩ := jckT hf
      obtain ⟨h6, hf⟩ := jck_some hf
      refine wa_raald (t := 105) X dX8_find_18 h4 h5 (by decide) rfl rfl h6 ?_
      obtain ⟨q7, h8, hf⟩ := jde_some hf
      obtain ⟨h9, hf⟩ := jckT hf
      refine wa_getJ X dX8_find_19 lfX8_34 h8 h9 rfl ?_
      refine wa_lload_n X 1 dX8_find_22 rfl ?_
      refine wa_lcmp X dX8_find_23 ?_
      refine wa_ifne (tgt := 52) X dX8_find_24 (by decide) (fun h10 => ?_) (fun h10 => ?_)
      · rw [if_neg h10] at hf
        refine wa_sub (L2 := [(0, va_rf (some a)), (1, .long y1), (3, .int x3), (4, .int x4)]) [0, 1, 2, 3] rfl ?_
        exact gX8_find_b52 X ih a y1 x3 x4 μ _ _ _ _ hf (by omega) (by omega)
      · rw [if_pos h10] at hf
        refine wa_aload_n X 0 dX8_find_27 rfl ?_
        refine wa_getP X dX8_find_28 lfX8_17 rfl h1 rfl ?_
        refine wa_iload X 3 dX8_find_31 rfl ?_
        refine wa_raald (t := 105) X dX8_find_33 h4 h5 (by decide) rfl rfl h6 ?_
        refine wa_getI X dX8_find_34 lfX8_38 h8 h9 rfl ?_
        refine wa_ifne (tgt := 44) X dX8_find_37 (by decide) (fun h11 => ?_) (fun h11 => ?_)
        · rw [if_neg h11] at hf
          refine wa_iconst (v := (0 : Int32)) X dX8_find_44 (by decide) ?_
          refine wa_sub (L2 := [(0, va_rf (some a)), (1, .long y1), (3, .int x3), (4, .int x4)]) [0, 1, 2, 3] rfl ?_
          exact gX8_find_b45 X ih a y1 x3 x4 (0 : Int32) μ _ _ _ _ hf (by omega) (by omega)
        · rw [if_pos h11] at hf
          refine wa_iconst (v := (1 : Int32)) X dX8_find_40 (by decide) ?_
          refine wa_goto (tgt := 45) X dX8_find_41 (by decide) ?_
          refine wa_sub (L2 := [(0, va_rf (some a)), (1, .long y1), (3, .int x3), (4, .int x4)]) [0, 1, 2, 3] rfl ?_
          exact gX8_find_b45 X ih a y1 x3 x4 (1 : Int32) μ _ _ _ _ hf (by omega) (by omega)
def fX8_find (a : Nat) (y1 : Int64) (x3 : Int32) (μ : JM) : JO (Int32) := fX8_find_b3  jfuel a y1 x3 (0 : Int32) μ
set_option maxHeartbeats 4000000 in
set_option maxRecDepth 100000 in
theorem mX8_find {b : Nat} {a : Nat} {y1 : Int64} {x3 : Int32} {μ : JM} {r : Int32} {ν : JM} {c m : Nat} (hf : fX8_find a y1 x3 μ = some (r, ν, c, m)) : JMet b yX8_find cX8_find 5 (some .int) 0 0 [va_rf (some a), .long y1, .int x3] μ (some (.int r)) ν c m := by
  refine JMet.of (by decide) (lg_sl_le (by simp only [List.map_cons, List.map_nil, List.sum_cons, List.sum_nil, va_rf_cat]; exact Nat.le_of_ble_eq_true rfl)) (fun Θ X hin => ?_)
  refine wa_eq (L2 := [(0, va_rf (some a)), (1, .long y1), (3, .int x3)]) ?_ rfl (by first | rfl | simp [lv_args, va_rf_cat, cat_i, cat_l]) rfl
  obtain ⟨k, hk0⟩ : ∃ k : Nat, k = 0 := ⟨0, rfl⟩
  obtain ⟨n, hn0⟩ : ∃ n : Nat, n = 0 := ⟨0, rfl⟩
  have hk : k + c = c := by omega
  have hn : n + m = m := by omega
  refine wa_costs hk0.symm hn0.symm ?_
  rw [fX8_find] at hf
  refine wa_iconst (v := (0 : Int32)) X dX8_find_0 (by decide) ?_
  refine wa_istore (L2 := [(4, .int (0 : Int32)), (0, va_rf (some a)), (1, .long y1), (3, .int x3)]) X dX8_find_1 (by decide) (by first | rfl | (show (4, _) :: List.filter (fun q : Nat × Value => !(q.1 == 4) && !(q.1 + 1 == 4 && q.2.category == 2)) _ = _; simp [va_rf_cat, cat_i, cat_l])) ?_
  refine wa_sub (L2 := [(0, va_rf (some a)), (1, .long y1), (3, .int x3), (4, .int (0 : Int32))]) [1, 2, 3, 0] rfl ?_
  exact gX8_find_b3 X jfuel a y1 x3 (0 : Int32) μ _ _ _ _ hf (by omega) (by omega)
theorem dX8_at_0 : decode cX8_at 0 = .ok (.iload_n 1, 1) := by decide +kernel
theorem dX8_at_1 : decode cX8_at 1 = .ok (.ifCond .lt 11, 3) := by decide +kernel
theorem dX8_at_4 : decode cX8_at 4 = .ok (.iload_n 1, 1) := by decide +kernel
theorem dX8_at_5 : decode cX8_at 5 = .ok (.aload_n 0, 1) := by decide +kernel
theorem dX8_at_6 : decode cX8_at 6 = .ok (.getfield 27, 3) := by decide +kernel
theorem dX8_at_9 : decode cX8_at 9 = .ok (.if_icmp .lt 7, 3) := by decide +kernel
theorem dX8_at_12 : decode cX8_at 12 = .ok (.aconst_null, 1) := by decide +kernel
theorem dX8_at_13 : decode cX8_at 13 = .ok (.goto 9, 3) := by decide +kernel
theorem dX8_at_16 : decode cX8_at 16 = .ok (.aload_n 0, 1) := by decide +kernel
theorem dX8_at_17 : decode cX8_at 17 = .ok (.getfield 17, 3) := by decide +kernel
theorem dX8_at_20 : decode cX8_at 20 = .ok (.iload_n 1, 1) := by decide +kernel
theorem dX8_at_21 : decode cX8_at 21 = .ok (.aaload, 1) := by decide +kernel
theorem dX8_at_22 : decode cX8_at 22 = .ok (.areturn, 1) := by decide +kernel
def fX8_at (a : Nat) (x1 : Int32) (μ : JM) : JO (Option Nat) := if x1 < 0 then (some (none, μ, 0, 0)) else (jck ((jT μ a).1 == 9) <| if x1 < (jI μ a 2) then (jde (jP μ a 0) fun q4 => jck ((jT μ q4).1 == 105) <| jck (jin x1 (jT μ q4).2) <| some ((jP μ q4 (x1).toNatClampNeg), μ, 0, 0)) else (some (none, μ, 0, 0)))
set_option maxHeartbeats 4000000 in
set_option maxRecDepth 100000 in
theorem mX8_at {b : Nat} {a : Nat} {x1 : Int32} {μ : JM} {r : Option Nat} {ν : JM} {c m : Nat} (hf : fX8_at a x1 μ = some (r, ν, c, m)) : JMet b yX8_at cX8_at 2 (some (.object "ClauseBench$Clause")) 0 0 [va_rf (some a), .int x1] μ (some (va_rf r)) ν c m := by
  refine JMet.of (by decide) (lg_sl_le (by simp only [List.map_cons, List.map_nil, List.sum_cons, List.sum_nil, va_rf_cat]; exact Nat.le_of_ble_eq_true rfl)) (fun Θ X hin => ?_)
  refine wa_eq (L2 := [(0, va_rf (some a)), (1, .int x1)]) ?_ rfl (by first | rfl | simp [lv_args, va_rf_cat, cat_i, cat_l]) rfl
  obtain ⟨k, hk0⟩ : ∃ k : Nat, k = 0 := ⟨0, rfl⟩
  obtain ⟨n, hn0⟩ : ∃ n : Nat, n = 0 := ⟨0, rfl⟩
  have hk : k + c = c := by omega
  have hn : n + m = m := by omega
  refine wa_costs hk0.symm hn0.symm ?_
  rw [fX8_at] at hf
  refine wa_iload_n X 1 dX8_at_0 rfl ?_
  refine wa_iflt (tgt := 12) X dX8_at_1 (by decide) (fun h1 => ?_) (fun h1 => ?_)
  · rw [if_pos h1] at hf
    refine wa_null X dX8_at_12 ?_
    refine wa_goto (tgt := 22) X dX8_at_13 (by decide) ?_
    obtain ⟨rfl, rfl, rfl, rfl⟩ := jret hf
    exact wa_aret X dX8_at_22 (by first | exact Or.inl ⟨_, rfl⟩ | exact Or.inr ⟨_, rfl⟩) (by omega) (by omega)
  · rw [if_neg h1] at hf
    refine wa_iload_n X 1 dX8_at_4 rfl ?_
    refine wa_aload_n X 0 dX8_at_5 rfl ?_
    obtain ⟨h2, hf⟩ := jckT hf
    refine wa_getI X dX8_at_6 lfX8_27 rfl h2 rfl ?_
    refine wa_iclt (tgt := 16) X dX8_at_9 (by decide) (fun h3 => ?_) (fun h3 => ?_)
    · rw [if_pos h3] at hf
      refine wa_aload_n X 0 dX8_at_16 rfl ?_
      refine wa_getP X dX8_at_17 lfX8_17 rfl h2 rfl ?_
      refine wa_iload_n X 1 dX8_at_20 rfl ?_
      obtain ⟨q4, h5, hf⟩ := jde_some hf
      obtain ⟨h6, hf⟩ := jckT hf
      obtain ⟨h7, hf⟩ := jck_some hf
      refine wa_raald (t := 105) X dX8_at_21 h5 h6 (by decide) rfl rfl h7 ?_
      obtain ⟨rfl, rfl, rfl, rfl⟩ := jret hf
      exact wa_aret X dX8_at_22 (by first | exact Or.inl ⟨_, rfl⟩ | exact Or.inr ⟨_, rfl⟩) (by omega) (by omega)
    · rw [if_neg h3] at hf
      refine wa_null X dX8_at_12 ?_
      refine wa_goto (tgt := 22) X dX8_at_13 (by decide) ?_
      obtain ⟨rfl, rfl, rfl, rfl⟩ := jret hf
      exact wa_aret X dX8_at_22 (by first | exact Or.inl ⟨_, rfl⟩ | exact Or.inr ⟨_, rfl⟩) (by omega) (by omega)
theorem dX8_init_0 : decode cX8_init 0 = .ok (.aload_n 0, 1) := by decide +kernel
theorem dX8_init_1 : decode cX8_init 1 = .ok (.invokespecial 3, 3) := by decide +kernel
theorem dX8_init_4 : decode cX8_init 4 = .ok (.aload_n 0, 1) := by decide +kernel
theorem dX8_init_5 : decode cX8_init 5 = .ok (.iload_n 1, 1) := by decide +kernel
theorem dX8_init_6 : decode cX8_init 6 = .ok (.iconst 0, 1) := by decide +kernel
theorem dX8_init_7 : decode cX8_init 7 = .ok (.invokestatic 9, 3) := by decide +kernel
theorem dX8_init_10 : decode cX8_init 10 = .ok (.anewarray 15, 3) := by decide +kernel
theorem dX8_init_13 : decode cX8_init 13 = .ok (.putfield 17, 3) := by decide +kernel
theorem dX8_init_16 : decode cX8_init 16 = .ok (.aload_n 0, 1) := by decide +kernel
theorem dX8_init_17 : decode cX8_init 17 = .ok (.iload_n 2, 1) := by decide +kernel
theorem dX8_init_18 : decode cX8_init 18 = .ok (.putfield 23, 3) := by decide +kernel
theorem dX8_init_21 : decode cX8_init 21 = .ok (.return_, 1) := by decide +kernel
def fX8_init (a : Nat) (x1 : Int32) (x2 : Int32) (μ : JM) : JO (Unit) := jck (decide (¬ (jmax x1 (0 : Int32)) < 0)) <| jck (decide (((jmax x1 (0 : Int32))).toNatClampNeg * 4 ≤ 536870912)) <| jnw μ 105 ((jmax x1 (0 : Int32))).toNatClampNeg fun q1 μ2 => jck ((jT μ2 a).1 == 9) <| jlt (jsP μ2 a 0 (some q1)) fun μ13 => jlt (jsI μ13 a 1 x2) fun μ16 => some ((), μ16, 0, 0)
set_option maxHeartbeats 4000000 in
set_option maxRecDepth 100000 in
theorem mX8_init {b : Nat} {a : Nat} {x1 : Int32} {x2 : Int32} {μ : JM} {r : Unit} {ν : JM} {c m : Nat} (hf : fX8_init a x1 x2 μ = some (r, ν, c, m)) : JMet b yX8_init cX8_init 3 none 1 21 [va_rf (some a), .int x1, .int x2] μ (none) ν c m := by
  refine JMet.of (by decide) (lg_sl_le (by simp only [List.map_cons, List.map_nil, List.sum_cons, List.sum_nil, va_rf_cat]; exact Nat.le_of_ble_eq_true rfl)) (fun Θ X hin => ?_)
  have hin := hin rfl
  refine wa_eq (L2 := [(0, va_rf (some a)), (1, .int x1), (2, .int x2)]) ?_ rfl (by first | rfl | simp [lv_args, va_rf_cat, cat_i, cat_l]) rfl
  obtain ⟨k, hk0⟩ : ∃ k : Nat, k = 0 := ⟨0, rfl⟩
  obtain ⟨n, hn0⟩ : ∃ n : Nat, n = 0 := ⟨0, rfl⟩
  have hk : k + c = c := by omega
  have hn : n + m = m := by omega
  refine wa_costs hk0.symm hn0.symm ?_
  rw [fX8_init] at hf
  refine wa_aload_n X 0 dX8_init_0 rfl ?_
  refine wa_robj X dX8_init_1 lmX8_3 lo_inst lo_code (by decide) (Nat.le_trans (Nat.add_le_add_right (va_cats (m := 8) (Nat.le_of_ble_eq_true rfl)) 12) (by decide)) rfl ?_
  refine wa_aload_n X 0 dX8_init_4 rfl ?_
  refine wa_iload_n X 1 dX8_init_5 rfl ?_
  refine wa_iconst (v := (0 : Int32)) X dX8_init_6 (by decide) ?_
  refine wa_mmax X dX8_init_7 lmX8_9 l9_smax ln_RJ9 l9_cmax (by decide) (Nat.le_trans (Nat.add_le_add_right (va_cats (m := 8) (Nat.le_of_ble_eq_true rfl)) 13) (by decide)) (by omega) (by omega) ?_
  obtain ⟨h10, hf⟩ := jckD hf
  obtain ⟨h11, hf⟩ := jckD hf
  obtain ⟨q1, μ2, c5, m6, h3, hm4, hf, h7, h8⟩ := jnw_some hf
  refine wa_anew (t := 105) (N := ((jmax x1 (0 : Int32))).toNatClampNeg) (C := RX2) X dX8_init_10 (by decide) rfl (fun _ _ => rfl) lcX8_15 (by decide +kernel) h10 rfl h11 (by omega) (by omega) ?_
  rw [← h3, ← hm4]
  have h9 : (jT μ2 q1).1 = 105 := by rw [jT_at h3 hm4]
  obtain ⟨h12, hf⟩ := jckT hf
  obtain ⟨μ13, hm14, hf⟩ := jlt_e hf
  have e15 : jT μ13 = jT μ2 := by rw [hm14]; rfl
  refine wa_rputFP (ν := μ13) X hin dX8_init_13 lfX8_17 rfl h12 (by first | exact Or.inl ⟨_, rfl⟩ | exact Or.inr ⟨_, rfl⟩) rfl rfl hm14 ?_
  refine wa_aload_n X 0 dX8_init_16 rfl ?_
  refine wa_iload_n X 2 dX8_init_17 rfl ?_
  obtain ⟨μ16, hm17, hf⟩ := jlt_e hf
  have e18 : jT μ16 = jT μ2 := by rw [hm17]; exact e15
  refine wa_rputFI (ν := μ16) X hin dX8_init_18 lfX8_23 rfl (by rw [e15]; exact h12) rfl rfl rfl hm17 ?_
  obtain ⟨rfl, rfl, rfl, rfl⟩ := jret hf
  exact wa_vret X dX8_init_21 (by omega) (by omega)
theorem dX8_add_0 : decode cX8_add 0 = .ok (.aload_n 1, 1) := by decide +kernel
theorem dX8_add_1 : decode cX8_add 1 = .ok (.ifnull 35, 3) := by decide +kernel
theorem dX8_add_4 : decode cX8_add 4 = .ok (.aload_n 0, 1) := by decide +kernel
theorem dX8_add_5 : decode cX8_add 5 = .ok (.getfield 27, 3) := by decide +kernel
theorem dX8_add_8 : decode cX8_add 8 = .ok (.aload_n 0, 1) := by decide +kernel
theorem dX8_add_9 : decode cX8_add 9 = .ok (.getfield 17, 3) := by decide +kernel
theorem dX8_add_12 : decode cX8_add 12 = .ok (.arraylength, 1) := by decide +kernel
theorem dX8_add_13 : decode cX8_add 13 = .ok (.if_icmp .ge 23, 3) := by decide +kernel
theorem dX8_add_16 : decode cX8_add 16 = .ok (.aload_n 0, 1) := by decide +kernel
theorem dX8_add_17 : decode cX8_add 17 = .ok (.getfield 17, 3) := by decide +kernel
theorem dX8_add_20 : decode cX8_add 20 = .ok (.aload_n 0, 1) := by decide +kernel
theorem dX8_add_21 : decode cX8_add 21 = .ok (.getfield 27, 3) := by decide +kernel
theorem dX8_add_24 : decode cX8_add 24 = .ok (.aload_n 1, 1) := by decide +kernel
theorem dX8_add_25 : decode cX8_add 25 = .ok (.aastore, 1) := by decide +kernel
theorem dX8_add_26 : decode cX8_add 26 = .ok (.aload_n 0, 1) := by decide +kernel
theorem dX8_add_27 : decode cX8_add 27 = .ok (.dup, 1) := by decide +kernel
theorem dX8_add_28 : decode cX8_add 28 = .ok (.getfield 27, 3) := by decide +kernel
theorem dX8_add_31 : decode cX8_add 31 = .ok (.iconst 1, 1) := by decide +kernel
theorem dX8_add_32 : decode cX8_add 32 = .ok (.iadd, 1) := by decide +kernel
theorem dX8_add_33 : decode cX8_add 33 = .ok (.putfield 27, 3) := by decide +kernel
theorem dX8_add_36 : decode cX8_add 36 = .ok (.return_, 1) := by decide +kernel
def fX8_add (a : Nat) (p1 : Option Nat) (μ : JM) : JO (Unit) := if p1 = none then (some ((), μ, 0, 0)) else (jck ((jT μ a).1 == 9) <| jde (jP μ a 0) fun q3 => jck ((jT μ q3).1 == 105) <| if (nI (jT μ q3).2) ≤ (jI μ a 2) then (some ((), μ, 0, 0)) else (jck (jin (jI μ a 2) (jT μ q3).2) <| jck (jkd μ p1 3) <| jlt (jsP μ q3 ((jI μ a 2)).toNatClampNeg p1) fun μ9 => jlt (jsI μ9 a 2 ((jI μ9 a 2) + (1 : Int32))) fun μ12 => some ((), μ12, 0, 0)))
set_option maxHeartbeats 4000000 in
set_option maxRecDepth 100000 in
theorem mX8_add {b : Nat} {a : Nat} {p1 : Option Nat} {μ : JM} {r : Unit} {ν : JM} {c m : Nat} (hf : fX8_add a p1 μ = some (r, ν, c, m)) : JMet b yX8_add cX8_add 2 none 0 0 [va_rf (some a), va_rf p1] μ (none) ν c m := by
  refine JMet.of (by decide) (lg_sl_le (by simp only [List.map_cons, List.map_nil, List.sum_cons, List.sum_nil, va_rf_cat]; exact Nat.le_of_ble_eq_true rfl)) (fun Θ X hin => ?_)
  refine wa_eq (L2 := [(0, va_rf (some a)), (1, va_rf p1)]) ?_ rfl (by first | rfl | simp [lv_args, va_rf_cat, cat_i, cat_l]) rfl
  obtain ⟨k, hk0⟩ : ∃ k : Nat, k = 0 := ⟨0, rfl⟩
  obtain ⟨n, hn0⟩ : ∃ n : Nat, n = 0 := ⟨0, rfl⟩
  have hk : k + c = c := by omega
  have hn : n + m = m := by omega
  refine wa_costs hk0.symm hn0.symm ?_
  rw [fX8_add] at hf
  refine wa_aload_n X 1 dX8_add_0 rfl ?_
  refine wa_ifnull (tgt := 36) X dX8_add_1 (by decide) (fun h1 => ?_) (fun h1 => ?_)
  · rw [if_pos h1] at hf
    obtain ⟨rfl, rfl, rfl, rfl⟩ := jret hf
    exact wa_vret X dX8_add_36 (by omega) (by omega)
  · rw [if_neg h1] at hf
    refine wa_aload_n X 0 dX8_add_4 rfl ?_
    obtain ⟨h2, hf⟩ := jckT hf
    refine wa_getI X dX8_add_5 lfX8_27 rfl h2 rfl ?_
    refine wa_aload_n X 0 dX8_add_8 rfl ?_
    refine wa_getP X dX8_add_9 lfX8_17 rfl h2 rfl ?_
    obtain ⟨q3, h4, hf⟩ := jde_some hf
    obtain ⟨h5, hf⟩ := jckT hf
    refine wa_ralen (t := 105) X dX8_add_12 h4 h5 (by decide) ?_
    refine wa_icge (tgt := 36) X dX8_add_13 (by decide) (fun h6 => ?_) (fun h6 => ?_)
    · rw [if_pos h6] at hf
      obtain ⟨rfl, rfl, rfl, rfl⟩ := jret hf
      exact wa_vret X dX8_add_36 (by omega) (by omega)
    · rw [if_neg h6] at hf
      refine wa_aload_n X 0 dX8_add_16 rfl ?_
      refine wa_getP X dX8_add_17 lfX8_17 rfl h2 rfl ?_
      refine wa_aload_n X 0 dX8_add_20 rfl ?_
      refine wa_getI X dX8_add_21 lfX8_27 rfl h2 rfl ?_
      refine wa_aload_n X 1 dX8_add_24 rfl ?_
      obtain ⟨h7, hf⟩ := jck_some hf
      obtain ⟨h8, hf⟩ := jck_some hf
      obtain ⟨μ9, hm10, hf⟩ := jlt_e hf
      have e11 : jT μ9 = jT μ := by rw [hm10]; rfl
      refine wa_raast (ν := μ9) (t := 105) (tc := 3) X dX8_add_25 h4 h5 (by decide) (by decide) rfl (fun _ => rfl) (fun z hz => jkd_is h8 hz) h7 hm10 ?_
      refine wa_aload_n X 0 dX8_add_26 rfl ?_
      refine wa_dup X dX8_add_27 (va_rf_cat _) ?_
      refine wa_getI X dX8_add_28 lfX8_27 rfl (by rw [e11]; exact h2) rfl ?_
      refine wa_iconst (v := (1 : Int32)) X dX8_add_31 (by decide) ?_
      refine wa_iadd X dX8_add_32 ?_
      obtain ⟨μ12, hm13, hf⟩ := jlt_e hf
      have e14 : jT μ12 = jT μ := by rw [hm13]; exact e11
      refine wa_rputI (ν := μ12) X dX8_add_33 lfX8_27 rfl (by rw [e11]; exact h2) rfl rfl hm13 ?_
      obtain ⟨rfl, rfl, rfl, rfl⟩ := jret hf
      exact wa_vret X dX8_add_36 (by omega) (by omega)
theorem dX8_settle_0 : decode cX8_settle 0 = .ok (.aload_n 0, 1) := by decide +kernel
theorem dX8_settle_1 : decode cX8_settle 1 = .ok (.getfield 27, 3) := by decide +kernel
theorem dX8_settle_4 : decode cX8_settle 4 = .ok (.iconst 1, 1) := by decide +kernel
theorem dX8_settle_5 : decode cX8_settle 5 = .ok (.isub, 1) := by decide +kernel
theorem dX8_settle_6 : decode cX8_settle 6 = .ok (.istore_n 1, 1) := by decide +kernel
theorem dX8_settle_7 : decode cX8_settle 7 = .ok (.iload_n 1, 1) := by decide +kernel
theorem dX8_settle_8 : decode cX8_settle 8 = .ok (.ifCond .lt 60, 3) := by decide +kernel
theorem dX8_settle_11 : decode cX8_settle 11 = .ok (.iconst 0, 1) := by decide +kernel
theorem dX8_settle_12 : decode cX8_settle 12 = .ok (.istore_n 2, 1) := by decide +kernel
theorem dX8_settle_13 : decode cX8_settle 13 = .ok (.iload_n 2, 1) := by decide +kernel
theorem dX8_settle_14 : decode cX8_settle 14 = .ok (.iload_n 1, 1) := by decide +kernel
theorem dX8_settle_15 : decode cX8_settle 15 = .ok (.if_icmp .ge 47, 3) := by decide +kernel
theorem dX8_settle_18 : decode cX8_settle 18 = .ok (.aload_n 0, 1) := by decide +kernel
theorem dX8_settle_19 : decode cX8_settle 19 = .ok (.getfield 17, 3) := by decide +kernel
theorem dX8_settle_22 : decode cX8_settle 22 = .ok (.iload_n 1, 1) := by decide +kernel
theorem dX8_settle_23 : decode cX8_settle 23 = .ok (.aaload, 1) := by decide +kernel
theorem dX8_settle_24 : decode cX8_settle 24 = .ok (.getfield 41, 3) := by decide +kernel
theorem dX8_settle_27 : decode cX8_settle 27 = .ok (.iload_n 2, 1) := by decide +kernel
theorem dX8_settle_28 : decode cX8_settle 28 = .ok (.ishr, 1) := by decide +kernel
theorem dX8_settle_29 : decode cX8_settle 29 = .ok (.iconst 1, 1) := by decide +kernel
theorem dX8_settle_30 : decode cX8_settle 30 = .ok (.iand, 1) := by decide +kernel
theorem dX8_settle_31 : decode cX8_settle 31 = .ok (.iconst 1, 1) := by decide +kernel
theorem dX8_settle_32 : decode cX8_settle 32 = .ok (.if_icmp .ne 24, 3) := by decide +kernel
theorem dX8_settle_35 : decode cX8_settle 35 = .ok (.aload_n 0, 1) := by decide +kernel
theorem dX8_settle_36 : decode cX8_settle 36 = .ok (.getfield 17, 3) := by decide +kernel
theorem dX8_settle_39 : decode cX8_settle 39 = .ok (.iload_n 2, 1) := by decide +kernel
theorem dX8_settle_40 : decode cX8_settle 40 = .ok (.aaload, 1) := by decide +kernel
theorem dX8_settle_41 : decode cX8_settle 41 = .ok (.getfield 44, 3) := by decide +kernel
theorem dX8_settle_44 : decode cX8_settle 44 = .ok (.aload_n 0, 1) := by decide +kernel
theorem dX8_settle_45 : decode cX8_settle 45 = .ok (.getfield 17, 3) := by decide +kernel
theorem dX8_settle_48 : decode cX8_settle 48 = .ok (.iload_n 1, 1) := by decide +kernel
theorem dX8_settle_49 : decode cX8_settle 49 = .ok (.aaload, 1) := by decide +kernel
theorem dX8_settle_50 : decode cX8_settle 50 = .ok (.getfield 44, 3) := by decide +kernel
theorem dX8_settle_53 : decode cX8_settle 53 = .ok (.invokevirtual 48, 3) := by decide +kernel
theorem dX8_settle_56 : decode cX8_settle 56 = .ok (.iinc 2 1, 3) := by decide +kernel
theorem dX8_settle_59 : decode cX8_settle 59 = .ok (.goto (-46), 3) := by decide +kernel
theorem dX8_settle_62 : decode cX8_settle 62 = .ok (.iinc 1 (-1), 3) := by decide +kernel
theorem dX8_settle_65 : decode cX8_settle 65 = .ok (.goto (-58), 3) := by decide +kernel
theorem dX8_settle_68 : decode cX8_settle 68 = .ok (.return_, 1) := by decide +kernel
def fX8_settle_b56 (rec7 : Nat → Int32 → JM → JO (Unit)) (rec13 : Nat → Int32 → Int32 → JM → JO (Unit)) (a : Nat) (x1 : Int32) (x2 : Int32) (μ : JM) : JO (Unit) := rec13 a x1 (x2 + (1 : Int32)) μ
set_option maxHeartbeats 4000000 in
set_option maxRecDepth 100000 in
theorem gX8_settle_b56 {b : Nat} {Θ : JE} {RC RS : Nat} {r : Unit} {ν : JM} (X : jX b Θ RX8 cX8_settle 3 none 1 22 RC RS) {rec7 : Nat → Int32 → JM → JO (Unit)} (hrec7 : ∀ (a : Nat) (x1 : Int32) (μ : JM) (c m k n : Nat), rec7 a x1 μ = some (r, ν, c, m) → k + c = RC → n + m = RS → WA b Θ 3 (jE b Θ (none) ν RC RS) μ k n 7 [(0, va_rf (some a)), (1, .int x1)] []) {rec13 : Nat → Int32 → Int32 → JM → JO (Unit)} (hrec13 : ∀ (a : Nat) (x1 : Int32) (x2 : Int32) (μ : JM) (c m k n : Nat), rec13 a x1 x2 μ = some (r, ν, c, m) → k + c = RC → n + m = RS → WA b Θ 3 (jE b Θ (none) ν RC RS) μ k n 13 [(0, va_rf (some a)), (1, .int x1), (2, .int x2)] []) (a : Nat) (x1 : Int32) (x2 : Int32) (μ : JM) (c m k n : Nat) (hf : fX8_settle_b56 rec7 rec13 a x1 x2 μ = some (r, ν, c, m)) (hk : k + c = RC) (hn : n + m = RS) : WA b Θ 3 (jE b Θ (none) ν RC RS) μ k n 56 [(0, va_rf (some a)), (1, .int x1), (2, .int x2)] [] := by
  rw [fX8_settle_b56] at hf
  refine wa_iinc (v := (x2 + (1 : Int32))) (L2 := [(2, .int (x2 + (1 : Int32))), (0, va_rf (some a)), (1, .int x1)]) X 2 dX8_settle_56 rfl rfl (by decide) (by first | rfl | simp [va_rf_cat, cat_i, cat_l]) ?_
  refine wa_goto (tgt := 13) X dX8_settle_59 (by decide) ?_
  refine wa_sub (L2 := [(0, va_rf (some a)), (1, .int x1), (2, .int (x2 + (1 : Int32)))]) [1, 2, 0] rfl ?_
  exact hrec13 a x1 (x2 + (1 : Int32)) μ _ _ _ _ hf (by omega) (by omega)
def fX8_settle_b13 (rec7 : Nat → Int32 → JM → JO (Unit)) : Nat → Nat → Int32 → Int32 → JM → JO (Unit)
  | 0, _, _, _, _ => none
  | fu + 1, a, x1, x2, μ => if x1 ≤ x2 then (rec7 a (x1 + (-1 : Int32)) μ) else (jck ((jT μ a).1 == 9) <| jde (jP μ a 0) fun q5 => jck ((jT μ q5).1 == 105) <| jck (jin x1 (jT μ q5).2) <| jde (jP μ q5 (x1).toNatClampNeg) fun q9 => jck ((jT μ q9).1 == 3) <| if ((jshr (jI μ q9 6) x2) &&& (1 : Int32)) = (1 : Int32) then (jck (jin x2 (jT μ q5).2) <| jde (jP μ q5 (x2).toNatClampNeg) fun q14 => jck ((jT μ q14).1 == 3) <| jde (jP μ q14 8) fun q17 => jck ((jT μ q17).1 == 2) <| jcl (fX1_andNot q17 (jP μ q9 8) μ) fun u20 μ21 => fX8_settle_b56 rec7 (fX8_settle_b13 rec7 fu) a x1 x2 μ21) else (fX8_settle_b56 rec7 (fX8_settle_b13 rec7 fu) a x1 x2 μ))
set_option maxHeartbeats 4000000 in
set_option maxRecDepth 100000 in
theorem gX8_settle_b13 {b : Nat} {Θ : JE} {RC RS : Nat} {r : Unit} {ν : JM} (X : jX b Θ RX8 cX8_settle 3 none 1 22 RC RS) {rec7 : Nat → Int32 → JM → JO (Unit)} (hrec7 : ∀ (a : Nat) (x1 : Int32) (μ : JM) (c m k n : Nat), rec7 a x1 μ = some (r, ν, c, m) → k + c = RC → n + m = RS → WA b Θ 3 (jE b Θ (none) ν RC RS) μ k n 7 [(0, va_rf (some a)), (1, .int x1)] []) : ∀ (fu : Nat) (a : Nat) (x1 : Int32) (x2 : Int32) (μ : JM) (c m k n : Nat), fX8_settle_b13 rec7 fu a x1 x2 μ = some (r, ν, c, m) → k + c = RC → n + m = RS → WA b Θ 3 (jE b Θ (none) ν RC RS) μ k n 13 [(0, va_rf (some a)), (1, .int x1), (2, .int x2)] [] := by
  intro fu
  induction fu with
  | zero => intro a x1 x2 μ c m k n hf; cases hf
  | succ fu ih =>
    intro a x1 x2 μ c m k n hf hk hn
    rw [fX8_settle_b13] at hf
    refine wa_iload_n X 2 dX8_settle_13 rfl ?_
    refine wa_iload_n X 1 dX8_settle_14 rfl ?_
    refine wa_icge (tgt := 62) X dX8_settle_15 (by decide) (fun h3 => ?_) (fun h3 => ?_)
    · rw [if_pos h3] at hf
      refine wa_iinc (v := (x1 + (-1 : Int32))) (L2 := [(1, .int (x1 + (-1 : Int32))), (0, va_rf (some a)), (2, .int x2)]) X 1 dX8_settle_62 rfl rfl (by decide) (by first | rfl | simp [va_rf_cat, cat_i, cat_l]) ?_
      refine wa_goto (tgt := 7) X dX8_settle_65 (by decide) ?_
      refine wa_sub (L2 := [(0, va_rf (some a)), (1, .int (x1 + (-1 : Int32)))]) [1, 0] rfl ?_
      exact hrec7 a (x1 + (-1 : Int32)) μ _ _ _ _ hf (by omega) (by omega)
    · rw [if_neg h3] at hf
      refine wa_aload_n X 0 dX8_settle_18 rfl ?_
      obtain ⟨h4, hf⟩ := jckT hf
      refine wa_getP X dX8_settle_19 lfX8_17 rfl h4 rfl ?_
      refine wa_iload_n X 1 dX8_settle_22 rfl ?_
      obtain ⟨q5, h6, hf⟩ := jde_some hf
      obtain ⟨h7, hf⟩ := jckT hf
      obtain ⟨h8, hf⟩ := jck_some hf
      refine wa_raald (t := 105) X dX8_settle_23 h6 h7 (by decide) rfl rfl h8 ?_
      obtain ⟨q9, h10, hf⟩ := jde_some hf
      obtain ⟨h11, hf⟩ := jckT hf
      refine wa_getI X dX8_settle_24 lfX8_41 h10 h11 rfl ?_
      refine wa_iload_n X 2 dX8_settle_27 rfl ?_
      refine wa_ishr X dX8_settle_28 ?_
      refine wa_iconst (v := (1 : Int32)) X dX8_settle_29 (by decide) ?_
      refine wa_iand X dX8_settle_30 ?_
      refine wa_iconst (v := (1 : Int32)) X dX8_settle_31 (by decide) ?_
      refine wa_icne (tgt := 56) X dX8_settle_32 (by decide) (fun h12 => ?_) (fun h12 => ?_)
      · rw [if_neg h12] at hf
        refine wa_sub (L2 := [(0, va_rf (some a)), (1, .int x1), (2, .int x2)]) [0, 1, 2] rfl ?_
        exact gX8_settle_b56 X hrec7 ih a x1 x2 μ _ _ _ _ hf (by omega) (by omega)
      · rw [if_pos h12] at hf
        refine wa_aload_n X 0 dX8_settle_35 rfl ?_
        refine wa_getP X dX8_settle_36 lfX8_17 rfl h4 rfl ?_
        refine wa_iload_n X 2 dX8_settle_39 rfl ?_
        obtain ⟨h13, hf⟩ := jck_some hf
        refine wa_raald (t := 105) X dX8_settle_40 h6 h7 (by decide) rfl rfl h13 ?_
        obtain ⟨q14, h15, hf⟩ := jde_some hf
        obtain ⟨h16, hf⟩ := jckT hf
        refine wa_getP X dX8_settle_41 lfX8_44 h15 h16 rfl ?_
        refine wa_aload_n X 0 dX8_settle_44 rfl ?_
        refine wa_getP X dX8_settle_45 lfX8_17 rfl h4 rfl ?_
        refine wa_iload_n X 1 dX8_settle_48 rfl ?_
        refine wa_raald (t := 105) X dX8_settle_49 h6 h7 (by decide) rfl rfl h8 ?_
        refine wa_getP X dX8_settle_50 lfX8_44 h10 h11 rfl ?_
        obtain ⟨q17, h18, hf⟩ := jde_some hf
        obtain ⟨h19, hf⟩ := jckT hf
        obtain ⟨u20, μ21, c22, m23, c24, m25, e26, hf, h27, h28⟩ := jcl_some hf
        refine wa_rcallV (st2 := []) X dX8_settle_53 lmX8_48 lMX1_andNot h18 h19 (mX1_andNot e26) rfl rfl rfl (va_cats (Nat.le_of_ble_eq_true rfl)) (by decide) (by omega) (by omega) ?_
        refine wa_sub (L2 := [(0, va_rf (some a)), (1, .int x1), (2, .int x2)]) [0, 1, 2] rfl ?_
        exact gX8_settle_b56 X hrec7 ih a x1 x2 μ21 _ _ _ _ hf (by omega) (by omega)
def fX8_settle_b7 : Nat → Nat → Int32 → JM → JO (Unit)
  | 0, _, _, _ => none
  | fu + 1, a, x1, μ => if x1 < 0 then (some ((), μ, 0, 0)) else (fX8_settle_b13 (fX8_settle_b7 fu) jfuel a x1 (0 : Int32) μ)
set_option maxHeartbeats 4000000 in
set_option maxRecDepth 100000 in
theorem gX8_settle_b7 {b : Nat} {Θ : JE} {RC RS : Nat} {r : Unit} {ν : JM} (X : jX b Θ RX8 cX8_settle 3 none 1 22 RC RS) : ∀ (fu : Nat) (a : Nat) (x1 : Int32) (μ : JM) (c m k n : Nat), fX8_settle_b7 fu a x1 μ = some (r, ν, c, m) → k + c = RC → n + m = RS → WA b Θ 3 (jE b Θ (none) ν RC RS) μ k n 7 [(0, va_rf (some a)), (1, .int x1)] [] := by
  intro fu
  induction fu with
  | zero => intro a x1 μ c m k n hf; cases hf
  | succ fu ih =>
    intro a x1 μ c m k n hf hk hn
    rw [fX8_settle_b7] at hf
    refine wa_iload_n X 1 dX8_settle_7 rfl ?_
    refine wa_iflt (tgt := 68) X dX8_settle_8 (by decide) (fun h2 => ?_) (fun h2 => ?_)
    · rw [if_pos h2] at hf
      obtain ⟨rfl, rfl, rfl, rfl⟩ := jret hf
      exact wa_vret X dX8_settle_68 (by omega) (by omega)
    · rw [if_neg h2] at hf
      refine wa_iconst (v := (0 : Int32)) X dX8_settle_11 (by decide) ?_
      refine wa_istore_n (L2 := [(2, .int (0 : Int32)), (0, va_rf (some a)), (1, .int x1)]) X dX8_settle_12 (by decide) (by first | rfl | (show (2, _) :: List.filter (fun q : Nat × Value => !(q.1 == 2) && !(q.1 + 1 == 2 && q.2.category == 2)) _ = _; simp [va_rf_cat, cat_i, cat_l])) ?_
      refine wa_sub (L2 := [(0, va_rf (some a)), (1, .int x1), (2, .int (0 : Int32))]) [1, 2, 0] rfl ?_
      exact gX8_settle_b13 X ih jfuel a x1 (0 : Int32) μ _ _ _ _ hf (by omega) (by omega)
def fX8_settle (a : Nat) (μ : JM) : JO (Unit) := jck ((jT μ a).1 == 9) <| fX8_settle_b7  jfuel a ((jI μ a 2) - (1 : Int32)) μ
set_option maxHeartbeats 4000000 in
set_option maxRecDepth 100000 in
theorem mX8_settle {b : Nat} {a : Nat} {μ : JM} {r : Unit} {ν : JM} {c m : Nat} (hf : fX8_settle a μ = some (r, ν, c, m)) : JMet b yX8_settle cX8_settle 3 none 1 22 [va_rf (some a)] μ (none) ν c m := by
  refine JMet.of (by decide) (lg_sl_le (by simp only [List.map_cons, List.map_nil, List.sum_cons, List.sum_nil, va_rf_cat]; exact Nat.le_of_ble_eq_true rfl)) (fun Θ X hin => ?_)
  refine wa_eq (L2 := [(0, va_rf (some a))]) ?_ rfl (by first | rfl | simp [lv_args, va_rf_cat, cat_i, cat_l]) rfl
  obtain ⟨k, hk0⟩ : ∃ k : Nat, k = 0 := ⟨0, rfl⟩
  obtain ⟨n, hn0⟩ : ∃ n : Nat, n = 0 := ⟨0, rfl⟩
  have hk : k + c = c := by omega
  have hn : n + m = m := by omega
  refine wa_costs hk0.symm hn0.symm ?_
  rw [fX8_settle] at hf
  refine wa_aload_n X 0 dX8_settle_0 rfl ?_
  obtain ⟨h1, hf⟩ := jckT hf
  refine wa_getI X dX8_settle_1 lfX8_27 rfl h1 rfl ?_
  refine wa_iconst (v := (1 : Int32)) X dX8_settle_4 (by decide) ?_
  refine wa_isub X dX8_settle_5 ?_
  refine wa_istore_n (L2 := [(1, .int ((jI μ a 2) - (1 : Int32))), (0, va_rf (some a))]) X dX8_settle_6 (by decide) (by first | rfl | (show (1, _) :: List.filter (fun q : Nat × Value => !(q.1 == 1) && !(q.1 + 1 == 1 && q.2.category == 2)) _ = _; simp [va_rf_cat, cat_i, cat_l])) ?_
  refine wa_sub (L2 := [(0, va_rf (some a)), (1, .int ((jI μ a 2) - (1 : Int32)))]) [1, 0] rfl ?_
  exact gX8_settle_b7 X jfuel a ((jI μ a 2) - (1 : Int32)) μ _ _ _ _ hf (by omega) (by omega)
theorem dX8_remove_0 : decode cX8_remove 0 = .ok (.iload_n 1, 1) := by decide +kernel
theorem dX8_remove_1 : decode cX8_remove 1 = .ok (.ifCond .lt 11, 3) := by decide +kernel
theorem dX8_remove_4 : decode cX8_remove 4 = .ok (.iload_n 1, 1) := by decide +kernel
theorem dX8_remove_5 : decode cX8_remove 5 = .ok (.aload_n 0, 1) := by decide +kernel
theorem dX8_remove_6 : decode cX8_remove 6 = .ok (.getfield 27, 3) := by decide +kernel
theorem dX8_remove_9 : decode cX8_remove 9 = .ok (.if_icmp .lt 4, 3) := by decide +kernel
theorem dX8_remove_12 : decode cX8_remove 12 = .ok (.return_, 1) := by decide +kernel
theorem dX8_remove_13 : decode cX8_remove 13 = .ok (.iload_n 1, 1) := by decide +kernel
theorem dX8_remove_14 : decode cX8_remove 14 = .ok (.iconst 1, 1) := by decide +kernel
theorem dX8_remove_15 : decode cX8_remove 15 = .ok (.iadd, 1) := by decide +kernel
theorem dX8_remove_16 : decode cX8_remove 16 = .ok (.istore_n 2, 1) := by decide +kernel
theorem dX8_remove_17 : decode cX8_remove 17 = .ok (.iload_n 2, 1) := by decide +kernel
theorem dX8_remove_18 : decode cX8_remove 18 = .ok (.aload_n 0, 1) := by decide +kernel
theorem dX8_remove_19 : decode cX8_remove 19 = .ok (.getfield 27, 3) := by decide +kernel
theorem dX8_remove_22 : decode cX8_remove 22 = .ok (.if_icmp .ge 23, 3) := by decide +kernel
theorem dX8_remove_25 : decode cX8_remove 25 = .ok (.aload_n 0, 1) := by decide +kernel
theorem dX8_remove_26 : decode cX8_remove 26 = .ok (.getfield 17, 3) := by decide +kernel
theorem dX8_remove_29 : decode cX8_remove 29 = .ok (.iload_n 2, 1) := by decide +kernel
theorem dX8_remove_30 : decode cX8_remove 30 = .ok (.iconst 1, 1) := by decide +kernel
theorem dX8_remove_31 : decode cX8_remove 31 = .ok (.isub, 1) := by decide +kernel
theorem dX8_remove_32 : decode cX8_remove 32 = .ok (.aload_n 0, 1) := by decide +kernel
theorem dX8_remove_33 : decode cX8_remove 33 = .ok (.getfield 17, 3) := by decide +kernel
theorem dX8_remove_36 : decode cX8_remove 36 = .ok (.iload_n 2, 1) := by decide +kernel
theorem dX8_remove_37 : decode cX8_remove 37 = .ok (.aaload, 1) := by decide +kernel
theorem dX8_remove_38 : decode cX8_remove 38 = .ok (.aastore, 1) := by decide +kernel
theorem dX8_remove_39 : decode cX8_remove 39 = .ok (.iinc 2 1, 3) := by decide +kernel
theorem dX8_remove_42 : decode cX8_remove 42 = .ok (.goto (-25), 3) := by decide +kernel
theorem dX8_remove_45 : decode cX8_remove 45 = .ok (.aload_n 0, 1) := by decide +kernel
theorem dX8_remove_46 : decode cX8_remove 46 = .ok (.dup, 1) := by decide +kernel
theorem dX8_remove_47 : decode cX8_remove 47 = .ok (.getfield 27, 3) := by decide +kernel
theorem dX8_remove_50 : decode cX8_remove 50 = .ok (.iconst 1, 1) := by decide +kernel
theorem dX8_remove_51 : decode cX8_remove 51 = .ok (.isub, 1) := by decide +kernel
theorem dX8_remove_52 : decode cX8_remove 52 = .ok (.putfield 27, 3) := by decide +kernel
theorem dX8_remove_55 : decode cX8_remove 55 = .ok (.aload_n 0, 1) := by decide +kernel
theorem dX8_remove_56 : decode cX8_remove 56 = .ok (.getfield 17, 3) := by decide +kernel
theorem dX8_remove_59 : decode cX8_remove 59 = .ok (.aload_n 0, 1) := by decide +kernel
theorem dX8_remove_60 : decode cX8_remove 60 = .ok (.getfield 27, 3) := by decide +kernel
theorem dX8_remove_63 : decode cX8_remove 63 = .ok (.aconst_null, 1) := by decide +kernel
theorem dX8_remove_64 : decode cX8_remove 64 = .ok (.aastore, 1) := by decide +kernel
theorem dX8_remove_65 : decode cX8_remove 65 = .ok (.return_, 1) := by decide +kernel
def fX8_remove_b17 : Nat → Nat → Int32 → JM → JO (Unit)
  | 0, _, _, _ => none
  | fu + 1, a, x2, μ => jck ((jT μ a).1 == 9) <| if (jI μ a 2) ≤ x2 then (jlt (jsI μ a 2 ((jI μ a 2) - (1 : Int32))) fun μ6 => jde (jP μ6 a 0) fun q9 => jck ((jT μ q9).1 == 105) <| jck (jin (jI μ6 a 2) (jT μ q9).2) <| jlt (jsP μ6 q9 ((jI μ6 a 2)).toNatClampNeg none) fun μ13 => some ((), μ13, 0, 0)) else (jde (jP μ a 0) fun q16 => jck ((jT μ q16).1 == 105) <| jck (jin x2 (jT μ q16).2) <| jck (jin (x2 - (1 : Int32)) (jT μ q16).2) <| jck (jkd μ (jP μ q16 (x2).toNatClampNeg) 3) <| jlt (jsP μ q16 ((x2 - (1 : Int32))).toNatClampNeg (jP μ q16 (x2).toNatClampNeg)) fun μ22 => fX8_remove_b17 fu a (x2 + (1 : Int32)) μ22)
set_option maxHeartbeats 4000000 in
set_option maxRecDepth 100000 in
theorem gX8_remove_b17 {b : Nat} {Θ : JE} {RC RS : Nat} {r : Unit} {ν : JM} (X : jX b Θ RX8 cX8_remove 3 none 0 0 RC RS) : ∀ (fu : Nat) (a : Nat) (x2 : Int32) (μ : JM) (c m k n : Nat), fX8_remove_b17 fu a x2 μ = some (r, ν, c, m) → k + c = RC → n + m = RS → WA b Θ 3 (jE b Θ (none) ν RC RS) μ k n 17 [(0, va_rf (some a)), (2, .int x2)] [] := by
  intro fu
  induction fu with
  | zero => intro a x2 μ c m k n hf; cases hf
  | succ fu ih =>
    intro a x2 μ c m k n hf hk hn
    rw [fX8_remove_b17] at hf
    refine wa_iload_n X 1 dX8_remove_17 rfl ?_
    refine wa_aload_n X 0 dX8_remove_18 rfl ?_
    obtain ⟨h4, hf⟩ := jckT hf
    refine wa_getI X dX8_remove_19 lfX8_27 rfl h4 rfl ?_
    refine wa_icge (tgt := 45) X dX8_remove_22 (by decide) (fun h5 => ?_) (fun h5 => ?_)
    · rw [if_pos h5] at hf
      refine wa_aload_n X 0 dX8_remove_45 rfl ?_
      refine wa_dup X dX8_remove_46 (va_rf_cat _) ?_
      refine wa_getI X dX8_remove_47 lfX8_27 rfl h4 rfl ?_
      refine wa_iconst (v := (1 : Int32)) X dX8_remove_50 (by decide) ?_
      refine wa_isub X dX8_remove_51 ?_
      obtain ⟨μ6, hm7, hf⟩ := jlt_e hf
      have e8 : jT μ6 = jT μ := by rw [hm7]; rfl
      refine wa_rputI (ν := μ6) X dX8_remove_52 lfX8_27 rfl h4 rfl rfl hm7 ?_
      refine wa_aload_n X 0 dX8_remove_55 rfl ?_
      refine wa_getP X dX8_remove_56 lfX8_17 rfl (by rw [e8]; exact h4) rfl ?_
      refine wa_aload_n X 0 dX8_remove_59 rfl ?_
      refine wa_getI X dX8_remove_60 lfX8_27 rfl (by rw [e8]; exact h4) rfl ?_
      refine wa_null X dX8_remove_63 ?_
      obtain ⟨q9, h10, hf⟩ := jde_some hf
      obtain ⟨h11, hf⟩ := jckT hf
      obtain ⟨h12, hf⟩ := jck_some hf
      obtain ⟨μ13, hm14, hf⟩ := jlt_e hf
      have e15 : jT μ13 = jT μ := by rw [hm14]; exact e8
      refine wa_raast (ν := μ13) (t := 105) (tc := 3) X dX8_remove_64 h10 (by rw [e8]; exact h11) (by decide) (by decide) rfl (fun _ => rfl) (fun z hz => by cases hz) (by rw [e8]; exact h12) hm14 ?_
      obtain ⟨rfl, rfl, rfl, rfl⟩ := jret hf
      exact wa_vret X dX8_remove_65 (by omega) (by omega)
    · rw [if_neg h5] at hf
      refine wa_aload_n X 0 dX8_remove_25 rfl ?_
      refine wa_getP X dX8_remove_26 lfX8_17 rfl h4 rfl ?_
      refine wa_iload_n X 1 dX8_remove_29 rfl ?_
      refine wa_iconst (v := (1 : Int32)) X dX8_remove_30 (by decide) ?_
      refine wa_isub X dX8_remove_31 ?_
      refine wa_aload_n X 0 dX8_remove_32 rfl ?_
      refine wa_getP X dX8_remove_33 lfX8_17 rfl h4 rfl ?_
      refine wa_iload_n X 1 dX8_remove_36 rfl ?_
      obtain ⟨q16, h17, hf⟩ := jde_some hf
      obtain ⟨h18, hf⟩ := jckT hf
      obtain ⟨h19, hf⟩ := jck_some hf
      refine wa_raald (t := 105) X dX8_remove_37 h17 h18 (by decide) rfl rfl h19 ?_
      obtain ⟨h20, hf⟩ := jck_some hf
      obtain ⟨h21, hf⟩ := jck_some hf
      obtain ⟨μ22, hm23, hf⟩ := jlt_e hf
      have e24 : jT μ22 = jT μ := by rw [hm23]; rfl
      refine wa_raast (ν := μ22) (t := 105) (tc := 3) X dX8_remove_38 h17 h18 (by decide) (by decide) rfl (fun _ => rfl) (fun z hz => jkd_is h21 hz) h20 hm23 ?_
      refine wa_iinc (v := (x2 + (1 : Int32))) (L2 := [(2, .int (x2 + (1 : Int32))), (0, va_rf (some a))]) X 1 dX8_remove_39 rfl rfl (by decide) (by first | rfl | simp [va_rf_cat, cat_i, cat_l]) ?_
      refine wa_goto (tgt := 17) X dX8_remove_42 (by decide) ?_
      refine wa_sub (L2 := [(0, va_rf (some a)), (2, .int (x2 + (1 : Int32)))]) [1, 0] rfl ?_
      exact ih a (x2 + (1 : Int32)) μ22 _ _ _ _ hf (by omega) (by omega)
def fX8_remove (a : Nat) (x1 : Int32) (μ : JM) : JO (Unit) := if x1 < 0 then (some ((), μ, 0, 0)) else (jck ((jT μ a).1 == 9) <| if x1 < (jI μ a 2) then (fX8_remove_b17  jfuel a (x1 + (1 : Int32)) μ) else (some ((), μ, 0, 0)))
set_option maxHeartbeats 4000000 in
set_option maxRecDepth 100000 in
theorem mX8_remove {b : Nat} {a : Nat} {x1 : Int32} {μ : JM} {r : Unit} {ν : JM} {c m : Nat} (hf : fX8_remove a x1 μ = some (r, ν, c, m)) : JMet b yX8_remove cX8_remove 3 none 0 0 [va_rf (some a), .int x1] μ (none) ν c m := by
  refine JMet.of (by decide) (lg_sl_le (by simp only [List.map_cons, List.map_nil, List.sum_cons, List.sum_nil, va_rf_cat]; exact Nat.le_of_ble_eq_true rfl)) (fun Θ X hin => ?_)
  refine wa_eq (L2 := [(0, va_rf (some a)), (1, .int x1)]) ?_ rfl (by first | rfl | simp [lv_args, va_rf_cat, cat_i, cat_l]) rfl
  obtain ⟨k, hk0⟩ : ∃ k : Nat, k = 0 := ⟨0, rfl⟩
  obtain ⟨n, hn0⟩ : ∃ n : Nat, n = 0 := ⟨0, rfl⟩
  have hk : k + c = c := by omega
  have hn : n + m = m := by omega
  refine wa_costs hk0.symm hn0.symm ?_
  rw [fX8_remove] at hf
  refine wa_iload_n X 1 dX8_remove_0 rfl ?_
  refine wa_iflt (tgt := 12) X dX8_remove_1 (by decide) (fun h1 => ?_) (fun h1 => ?_)
  · rw [if_pos h1] at hf
    obtain ⟨rfl, rfl, rfl, rfl⟩ := jret hf
    exact wa_vret X dX8_remove_12 (by omega) (by omega)
  · rw [if_neg h1] at hf
    refine wa_iload_n X 1 dX8_remove_4 rfl ?_
    refine wa_aload_n X 0 dX8_remove_5 rfl ?_
    obtain ⟨h2, hf⟩ := jckT hf
    refine wa_getI X dX8_remove_6 lfX8_27 rfl h2 rfl ?_
    refine wa_iclt (tgt := 13) X dX8_remove_9 (by decide) (fun h3 => ?_) (fun h3 => ?_)
    · rw [if_pos h3] at hf
      refine wa_iload_n X 1 dX8_remove_13 rfl ?_
      refine wa_iconst (v := (1 : Int32)) X dX8_remove_14 (by decide) ?_
      refine wa_iadd X dX8_remove_15 ?_
      refine wa_istore_n (L2 := [(2, .int (x1 + (1 : Int32))), (0, va_rf (some a)), (1, .int x1)]) X dX8_remove_16 (by decide) (by first | rfl | (show (2, _) :: List.filter (fun q : Nat × Value => !(q.1 == 2) && !(q.1 + 1 == 2 && q.2.category == 2)) _ = _; simp [va_rf_cat, cat_i, cat_l])) ?_
      refine wa_sub (L2 := [(0, va_rf (some a)), (2, .int (x1 + (1 : Int32)))]) [1, 0] rfl ?_
      exact gX8_remove_b17 X jfuel a (x1 + (1 : Int32)) μ _ _ _ _ hf (by omega) (by omega)
    · rw [if_neg h3] at hf
      obtain ⟨rfl, rfl, rfl, rfl⟩ := jret hf
      exact wa_vret X dX8_remove_12 (by omega) (by omega)
theorem dX8_replace_0 : decode cX8_replace 0 = .ok (.iload_n 1, 1) := by decide +kernel
theorem dX8_replace_1 : decode cX8_replace 1 = .ok (.ifCond .lt 22, 3) := by decide +kernel
theorem dX8_replace_4 : decode cX8_replace 4 = .ok (.iload_n 1, 1) := by decide +kernel
theorem dX8_replace_5 : decode cX8_replace 5 = .ok (.aload_n 0, 1) := by decide +kernel
theorem dX8_replace_6 : decode cX8_replace 6 = .ok (.getfield 27, 3) := by decide +kernel
theorem dX8_replace_9 : decode cX8_replace 9 = .ok (.if_icmp .ge 14, 3) := by decide +kernel
theorem dX8_replace_12 : decode cX8_replace 12 = .ok (.aload_n 2, 1) := by decide +kernel
theorem dX8_replace_13 : decode cX8_replace 13 = .ok (.ifnull 10, 3) := by decide +kernel
theorem dX8_replace_16 : decode cX8_replace 16 = .ok (.aload_n 0, 1) := by decide +kernel
theorem dX8_replace_17 : decode cX8_replace 17 = .ok (.getfield 17, 3) := by decide +kernel
theorem dX8_replace_20 : decode cX8_replace 20 = .ok (.iload_n 1, 1) := by decide +kernel
theorem dX8_replace_21 : decode cX8_replace 21 = .ok (.aload_n 2, 1) := by decide +kernel
theorem dX8_replace_22 : decode cX8_replace 22 = .ok (.aastore, 1) := by decide +kernel
theorem dX8_replace_23 : decode cX8_replace 23 = .ok (.return_, 1) := by decide +kernel
def fX8_replace (a : Nat) (x1 : Int32) (p2 : Option Nat) (μ : JM) : JO (Unit) := if x1 < 0 then (some ((), μ, 0, 0)) else (jck ((jT μ a).1 == 9) <| if (jI μ a 2) ≤ x1 then (some ((), μ, 0, 0)) else (if p2 = none then (some ((), μ, 0, 0)) else (jde (jP μ a 0) fun q5 => jck ((jT μ q5).1 == 105) <| jck (jin x1 (jT μ q5).2) <| jck (jkd μ p2 3) <| jlt (jsP μ q5 (x1).toNatClampNeg p2) fun μ10 => some ((), μ10, 0, 0))))
set_option maxHeartbeats 4000000 in
set_option maxRecDepth 100000 in
theorem mX8_replace {b : Nat} {a : Nat} {x1 : Int32} {p2 : Option Nat} {μ : JM} {r : Unit} {ν : JM} {c m : Nat} (hf : fX8_replace a x1 p2 μ = some (r, ν, c, m)) : JMet b yX8_replace cX8_replace 3 none 0 0 [va_rf (some a), .int x1, va_rf p2] μ (none) ν c m := by
  refine JMet.of (by decide) (lg_sl_le (by simp only [List.map_cons, List.map_nil, List.sum_cons, List.sum_nil, va_rf_cat]; exact Nat.le_of_ble_eq_true rfl)) (fun Θ X hin => ?_)
  refine wa_eq (L2 := [(0, va_rf (some a)), (1, .int x1), (2, va_rf p2)]) ?_ rfl (by first | rfl | simp [lv_args, va_rf_cat, cat_i, cat_l]) rfl
  obtain ⟨k, hk0⟩ : ∃ k : Nat, k = 0 := ⟨0, rfl⟩
  obtain ⟨n, hn0⟩ : ∃ n : Nat, n = 0 := ⟨0, rfl⟩
  have hk : k + c = c := by omega
  have hn : n + m = m := by omega
  refine wa_costs hk0.symm hn0.symm ?_
  rw [fX8_replace] at hf
  refine wa_iload_n X 1 dX8_replace_0 rfl ?_
  refine wa_iflt (tgt := 23) X dX8_replace_1 (by decide) (fun h1 => ?_) (fun h1 => ?_)
  · rw [if_pos h1] at hf
    obtain ⟨rfl, rfl, rfl, rfl⟩ := jret hf
    exact wa_vret X dX8_replace_23 (by omega) (by omega)
  · rw [if_neg h1] at hf
    refine wa_iload_n X 1 dX8_replace_4 rfl ?_
    refine wa_aload_n X 0 dX8_replace_5 rfl ?_
    obtain ⟨h2, hf⟩ := jckT hf
    refine wa_getI X dX8_replace_6 lfX8_27 rfl h2 rfl ?_
    refine wa_icge (tgt := 23) X dX8_replace_9 (by decide) (fun h3 => ?_) (fun h3 => ?_)
    · rw [if_pos h3] at hf
      obtain ⟨rfl, rfl, rfl, rfl⟩ := jret hf
      exact wa_vret X dX8_replace_23 (by omega) (by omega)
    · rw [if_neg h3] at hf
      refine wa_aload_n X 2 dX8_replace_12 rfl ?_
      refine wa_ifnull (tgt := 23) X dX8_replace_13 (by decide) (fun h4 => ?_) (fun h4 => ?_)
      · rw [if_pos h4] at hf
        obtain ⟨rfl, rfl, rfl, rfl⟩ := jret hf
        exact wa_vret X dX8_replace_23 (by omega) (by omega)
      · rw [if_neg h4] at hf
        refine wa_aload_n X 0 dX8_replace_16 rfl ?_
        refine wa_getP X dX8_replace_17 lfX8_17 rfl h2 rfl ?_
        refine wa_iload_n X 1 dX8_replace_20 rfl ?_
        refine wa_aload_n X 2 dX8_replace_21 rfl ?_
        obtain ⟨q5, h6, hf⟩ := jde_some hf
        obtain ⟨h7, hf⟩ := jckT hf
        obtain ⟨h8, hf⟩ := jck_some hf
        obtain ⟨h9, hf⟩ := jck_some hf
        obtain ⟨μ10, hm11, hf⟩ := jlt_e hf
        have e12 : jT μ10 = jT μ := by rw [hm11]; rfl
        refine wa_raast (ν := μ10) (t := 105) (tc := 3) X dX8_replace_22 h6 h7 (by decide) (by decide) rfl (fun _ => rfl) (fun z hz => jkd_is h9 hz) h8 hm11 ?_
        obtain ⟨rfl, rfl, rfl, rfl⟩ := jret hf
        exact wa_vret X dX8_replace_23 (by omega) (by omega)
theorem dX8_addAll_0 : decode cX8_addAll 0 = .ok (.iconst 0, 1) := by decide +kernel
theorem dX8_addAll_1 : decode cX8_addAll 1 = .ok (.istore_n 2, 1) := by decide +kernel
theorem dX8_addAll_2 : decode cX8_addAll 2 = .ok (.iload_n 2, 1) := by decide +kernel
theorem dX8_addAll_3 : decode cX8_addAll 3 = .ok (.aload_n 1, 1) := by decide +kernel
theorem dX8_addAll_4 : decode cX8_addAll 4 = .ok (.getfield 27, 3) := by decide +kernel
theorem dX8_addAll_7 : decode cX8_addAll 7 = .ok (.if_icmp .ge 19, 3) := by decide +kernel
theorem dX8_addAll_10 : decode cX8_addAll 10 = .ok (.aload_n 0, 1) := by decide +kernel
theorem dX8_addAll_11 : decode cX8_addAll 11 = .ok (.aload_n 1, 1) := by decide +kernel
theorem dX8_addAll_12 : decode cX8_addAll 12 = .ok (.getfield 17, 3) := by decide +kernel
theorem dX8_addAll_15 : decode cX8_addAll 15 = .ok (.iload_n 2, 1) := by decide +kernel
theorem dX8_addAll_16 : decode cX8_addAll 16 = .ok (.aaload, 1) := by decide +kernel
theorem dX8_addAll_17 : decode cX8_addAll 17 = .ok (.invokevirtual 30, 3) := by decide +kernel
theorem dX8_addAll_20 : decode cX8_addAll 20 = .ok (.iinc 2 1, 3) := by decide +kernel
theorem dX8_addAll_23 : decode cX8_addAll 23 = .ok (.goto (-21), 3) := by decide +kernel
theorem dX8_addAll_26 : decode cX8_addAll 26 = .ok (.return_, 1) := by decide +kernel
def fX8_addAll_b2 : Nat → Nat → Option Nat → Int32 → JM → JO (Unit)
  | 0, _, _, _, _ => none
  | fu + 1, a, p1, x2, μ => jde p1 fun q1 => jck ((jT μ q1).1 == 9) <| if (jI μ q1 2) ≤ x2 then (some ((), μ, 0, 0)) else (jde (jP μ q1 0) fun q5 => jck ((jT μ q5).1 == 105) <| jck (jin x2 (jT μ q5).2) <| jck ((jT μ a).1 == 9) <| jcl (fX8_add a (jP μ q5 (x2).toNatClampNeg) μ) fun u10 μ11 => fX8_addAll_b2 fu a p1 (x2 + (1 : Int32)) μ11)
set_option maxHeartbeats 4000000 in
set_option maxRecDepth 100000 in
theorem gX8_addAll_b2 {b : Nat} {Θ : JE} {RC RS : Nat} {r : Unit} {ν : JM} (X : jX b Θ RX8 cX8_addAll 3 none 1 21 RC RS) : ∀ (fu : Nat) (a : Nat) (p1 : Option Nat) (x2 : Int32) (μ : JM) (c m k n : Nat), fX8_addAll_b2 fu a p1 x2 μ = some (r, ν, c, m) → k + c = RC → n + m = RS → WA b Θ 3 (jE b Θ (none) ν RC RS) μ k n 2 [(0, va_rf (some a)), (1, va_rf p1), (2, .int x2)] [] := by
  intro fu
  induction fu with
  | zero => intro a p1 x2 μ c m k n hf; cases hf
  | succ fu ih =>
    intro a p1 x2 μ c m k n hf hk hn
    rw [fX8_addAll_b2] at hf
    refine wa_iload_n X 2 dX8_addAll_2 rfl ?_
    refine wa_aload_n X 1 dX8_addAll_3 rfl ?_
    obtain ⟨q1, h2, hf⟩ := jde_some hf
    obtain ⟨h3, hf⟩ := jckT hf
    refine wa_getI X dX8_addAll_4 lfX8_27 h2 h3 rfl ?_
    refine wa_icge (tgt := 26) X dX8_addAll_7 (by decide) (fun h4 => ?_) (fun h4 => ?_)
    · rw [if_pos h4] at hf
      obtain ⟨rfl, rfl, rfl, rfl⟩ := jret hf
      exact wa_vret X dX8_addAll_26 (by omega) (by omega)
    · rw [if_neg h4] at hf
      refine wa_aload_n X 0 dX8_addAll_10 rfl ?_
      refine wa_aload_n X 1 dX8_addAll_11 rfl ?_
      refine wa_getP X dX8_addAll_12 lfX8_17 h2 h3 rfl ?_
      refine wa_iload_n X 2 dX8_addAll_15 rfl ?_
      obtain ⟨q5, h6, hf⟩ := jde_some hf
      obtain ⟨h7, hf⟩ := jckT hf
      obtain ⟨h8, hf⟩ := jck_some hf
      refine wa_raald (t := 105) X dX8_addAll_16 h6 h7 (by decide) rfl rfl h8 ?_
      obtain ⟨h9, hf⟩ := jckT hf
      obtain ⟨u10, μ11, c12, m13, c14, m15, e16, hf, h17, h18⟩ := jcl_some hf
      refine wa_rcallV (st2 := []) X dX8_addAll_17 lmX8_30 lMX8_add rfl h9 (mX8_add e16) rfl rfl rfl (va_cats (Nat.le_of_ble_eq_true rfl)) (by decide) (by omega) (by omega) ?_
      refine wa_iinc (v := (x2 + (1 : Int32))) (L2 := [(2, .int (x2 + (1 : Int32))), (0, va_rf (some a)), (1, va_rf p1)]) X 2 dX8_addAll_20 rfl rfl (by decide) (by first | rfl | simp [va_rf_cat, cat_i, cat_l]) ?_
      refine wa_goto (tgt := 2) X dX8_addAll_23 (by decide) ?_
      refine wa_sub (L2 := [(0, va_rf (some a)), (1, va_rf p1), (2, .int (x2 + (1 : Int32)))]) [1, 2, 0] rfl ?_
      exact ih a p1 (x2 + (1 : Int32)) μ11 _ _ _ _ hf (by omega) (by omega)
def fX8_addAll (a : Nat) (p1 : Option Nat) (μ : JM) : JO (Unit) := fX8_addAll_b2  jfuel a p1 (0 : Int32) μ
set_option maxHeartbeats 4000000 in
set_option maxRecDepth 100000 in
theorem mX8_addAll {b : Nat} {a : Nat} {p1 : Option Nat} {μ : JM} {r : Unit} {ν : JM} {c m : Nat} (hf : fX8_addAll a p1 μ = some (r, ν, c, m)) : JMet b yX8_addAll cX8_addAll 3 none 1 21 [va_rf (some a), va_rf p1] μ (none) ν c m := by
  refine JMet.of (by decide) (lg_sl_le (by simp only [List.map_cons, List.map_nil, List.sum_cons, List.sum_nil, va_rf_cat]; exact Nat.le_of_ble_eq_true rfl)) (fun Θ X hin => ?_)
  refine wa_eq (L2 := [(0, va_rf (some a)), (1, va_rf p1)]) ?_ rfl (by first | rfl | simp [lv_args, va_rf_cat, cat_i, cat_l]) rfl
  obtain ⟨k, hk0⟩ : ∃ k : Nat, k = 0 := ⟨0, rfl⟩
  obtain ⟨n, hn0⟩ : ∃ n : Nat, n = 0 := ⟨0, rfl⟩
  have hk : k + c = c := by omega
  have hn : n + m = m := by omega
  refine wa_costs hk0.symm hn0.symm ?_
  rw [fX8_addAll] at hf
  refine wa_iconst (v := (0 : Int32)) X dX8_addAll_0 (by decide) ?_
  refine wa_istore_n (L2 := [(2, .int (0 : Int32)), (0, va_rf (some a)), (1, va_rf p1)]) X dX8_addAll_1 (by decide) (by first | rfl | (show (2, _) :: List.filter (fun q : Nat × Value => !(q.1 == 2) && !(q.1 + 1 == 2 && q.2.category == 2)) _ = _; simp [va_rf_cat, cat_i, cat_l])) ?_
  refine wa_sub (L2 := [(0, va_rf (some a)), (1, va_rf p1), (2, .int (0 : Int32))]) [1, 2, 0] rfl ?_
  exact gX8_addAll_b2 X jfuel a p1 (0 : Int32) μ _ _ _ _ hf (by omega) (by omega)
theorem dX8_putOn_0 : decode cX8_putOn 0 = .ok (.iconst 0, 1) := by decide +kernel
theorem dX8_putOn_1 : decode cX8_putOn 1 = .ok (.istore_n 2, 1) := by decide +kernel
theorem dX8_putOn_2 : decode cX8_putOn 2 = .ok (.iload_n 2, 1) := by decide +kernel
theorem dX8_putOn_3 : decode cX8_putOn 3 = .ok (.aload_n 0, 1) := by decide +kernel
theorem dX8_putOn_4 : decode cX8_putOn 4 = .ok (.getfield 27, 3) := by decide +kernel
theorem dX8_putOn_7 : decode cX8_putOn 7 = .ok (.if_icmp .ge 58, 3) := by decide +kernel
theorem dX8_putOn_10 : decode cX8_putOn 10 = .ok (.iload_n 2, 1) := by decide +kernel
theorem dX8_putOn_11 : decode cX8_putOn 11 = .ok (.ifCond .le 10, 3) := by decide +kernel
theorem dX8_putOn_14 : decode cX8_putOn 14 = .ok (.aload_n 1, 1) := by decide +kernel
theorem dX8_putOn_15 : decode cX8_putOn 15 = .ok (.ldc2_w 54, 3) := by decide +kernel
theorem dX8_putOn_18 : decode cX8_putOn 18 = .ok (.invokevirtual 56, 3) := by decide +kernel
theorem dX8_putOn_21 : decode cX8_putOn 21 = .ok (.aload_n 0, 1) := by decide +kernel
theorem dX8_putOn_22 : decode cX8_putOn 22 = .ok (.getfield 17, 3) := by decide +kernel
theorem dX8_putOn_25 : decode cX8_putOn 25 = .ok (.iload_n 2, 1) := by decide +kernel
theorem dX8_putOn_26 : decode cX8_putOn 26 = .ok (.aaload, 1) := by decide +kernel
theorem dX8_putOn_27 : decode cX8_putOn 27 = .ok (.getfield 62, 3) := by decide +kernel
theorem dX8_putOn_30 : decode cX8_putOn 30 = .ok (.astore_n 3, 1) := by decide +kernel
theorem dX8_putOn_31 : decode cX8_putOn 31 = .ok (.iconst 0, 1) := by decide +kernel
theorem dX8_putOn_32 : decode cX8_putOn 32 = .ok (.istore 4, 2) := by decide +kernel
theorem dX8_putOn_34 : decode cX8_putOn 34 = .ok (.aload_n 3, 1) := by decide +kernel
theorem dX8_putOn_35 : decode cX8_putOn 35 = .ok (.ifnull 24, 3) := by decide +kernel
theorem dX8_putOn_38 : decode cX8_putOn 38 = .ok (.iload 4, 2) := by decide +kernel
theorem dX8_putOn_40 : decode cX8_putOn 40 = .ok (.aload_n 3, 1) := by decide +kernel
theorem dX8_putOn_41 : decode cX8_putOn 41 = .ok (.arraylength, 1) := by decide +kernel
theorem dX8_putOn_42 : decode cX8_putOn 42 = .ok (.if_icmp .ge 17, 3) := by decide +kernel
theorem dX8_putOn_45 : decode cX8_putOn 45 = .ok (.aload_n 1, 1) := by decide +kernel
theorem dX8_putOn_46 : decode cX8_putOn 46 = .ok (.aload_n 3, 1) := by decide +kernel
theorem dX8_putOn_47 : decode cX8_putOn 47 = .ok (.iload 4, 2) := by decide +kernel
theorem dX8_putOn_49 : decode cX8_putOn 49 = .ok (.laload, 1) := by decide +kernel
theorem dX8_putOn_50 : decode cX8_putOn 50 = .ok (.invokevirtual 56, 3) := by decide +kernel
theorem dX8_putOn_53 : decode cX8_putOn 53 = .ok (.iinc 4 1, 3) := by decide +kernel
theorem dX8_putOn_56 : decode cX8_putOn 56 = .ok (.goto (-22), 3) := by decide +kernel
theorem dX8_putOn_59 : decode cX8_putOn 59 = .ok (.iinc 2 1, 3) := by decide +kernel
theorem dX8_putOn_62 : decode cX8_putOn 62 = .ok (.goto (-60), 3) := by decide +kernel
theorem dX8_putOn_65 : decode cX8_putOn 65 = .ok (.return_, 1) := by decide +kernel
def fX8_putOn_b59 (rec2 : Nat → Option Nat → Int32 → JM → JO (Unit)) (a : Nat) (p1 : Option Nat) (x2 : Int32) (μ : JM) : JO (Unit) := rec2 a p1 (x2 + (1 : Int32)) μ
set_option maxHeartbeats 4000000 in
set_option maxRecDepth 100000 in
theorem gX8_putOn_b59 {b : Nat} {Θ : JE} {RC RS : Nat} {r : Unit} {ν : JM} (X : jX b Θ RX8 cX8_putOn 5 none 4 93 RC RS) {rec2 : Nat → Option Nat → Int32 → JM → JO (Unit)} (hrec2 : ∀ (a : Nat) (p1 : Option Nat) (x2 : Int32) (μ : JM) (c m k n : Nat), rec2 a p1 x2 μ = some (r, ν, c, m) → k + c = RC → n + m = RS → WA b Θ 5 (jE b Θ (none) ν RC RS) μ k n 2 [(0, va_rf (some a)), (1, va_rf p1), (2, .int x2)] []) (a : Nat) (p1 : Option Nat) (x2 : Int32) (μ : JM) (c m k n : Nat) (hf : fX8_putOn_b59 rec2 a p1 x2 μ = some (r, ν, c, m)) (hk : k + c = RC) (hn : n + m = RS) : WA b Θ 5 (jE b Θ (none) ν RC RS) μ k n 59 [(0, va_rf (some a)), (1, va_rf p1), (2, .int x2)] [] := by
  rw [fX8_putOn_b59] at hf
  refine wa_iinc (v := (x2 + (1 : Int32))) (L2 := [(2, .int (x2 + (1 : Int32))), (0, va_rf (some a)), (1, va_rf p1)]) X 2 dX8_putOn_59 rfl rfl (by decide) (by first | rfl | simp [va_rf_cat, cat_i, cat_l]) ?_
  refine wa_goto (tgt := 2) X dX8_putOn_62 (by decide) ?_
  refine wa_sub (L2 := [(0, va_rf (some a)), (1, va_rf p1), (2, .int (x2 + (1 : Int32)))]) [1, 2, 0] rfl ?_
  exact hrec2 a p1 (x2 + (1 : Int32)) μ _ _ _ _ hf (by omega) (by omega)
def fX8_putOn_b34 (rec2 : Nat → Option Nat → Int32 → JM → JO (Unit)) : Nat → Nat → Option Nat → Int32 → Option Nat → Int32 → JM → JO (Unit)
  | 0, _, _, _, _, _, _ => none
  | fu + 1, a, p1, x2, p3, x4, μ => if p3 = none then (fX8_putOn_b59 rec2 a p1 x2 μ) else (jde p3 fun q25 => jck ((jT μ q25).1 == 102) <| if (nI (jT μ q25).2) ≤ x4 then (fX8_putOn_b59 rec2 a p1 x2 μ) else (jck (jin x4 (jT μ q25).2) <| jde p1 fun q30 => jck ((jT μ q30).1 == 7) <| jcl (fX6_put q30 (jJ μ q25 (x4).toNatClampNeg) μ) fun u33 μ34 => fX8_putOn_b34 rec2 fu a p1 x2 p3 (x4 + (1 : Int32)) μ34))
set_option maxHeartbeats 4000000 in
set_option maxRecDepth 100000 in
theorem gX8_putOn_b34 {b : Nat} {Θ : JE} {RC RS : Nat} {r : Unit} {ν : JM} (X : jX b Θ RX8 cX8_putOn 5 none 4 93 RC RS) {rec2 : Nat → Option Nat → Int32 → JM → JO (Unit)} (hrec2 : ∀ (a : Nat) (p1 : Option Nat) (x2 : Int32) (μ : JM) (c m k n : Nat), rec2 a p1 x2 μ = some (r, ν, c, m) → k + c = RC → n + m = RS → WA b Θ 5 (jE b Θ (none) ν RC RS) μ k n 2 [(0, va_rf (some a)), (1, va_rf p1), (2, .int x2)] []) : ∀ (fu : Nat) (a : Nat) (p1 : Option Nat) (x2 : Int32) (p3 : Option Nat) (x4 : Int32) (μ : JM) (c m k n : Nat), fX8_putOn_b34 rec2 fu a p1 x2 p3 x4 μ = some (r, ν, c, m) → k + c = RC → n + m = RS → WA b Θ 5 (jE b Θ (none) ν RC RS) μ k n 34 [(0, va_rf (some a)), (1, va_rf p1), (2, .int x2), (3, va_rf p3), (4, .int x4)] [] := by
  intro fu
  induction fu with
  | zero => intro a p1 x2 p3 x4 μ c m k n hf; cases hf
  | succ fu ih =>
    intro a p1 x2 p3 x4 μ c m k n hf hk hn
    rw [fX8_putOn_b34] at hf
    refine wa_aload_n X 3 dX8_putOn_34 rfl ?_
    refine wa_ifnull (tgt := 59) X dX8_putOn_35 (by decide) (fun h24 => ?_) (fun h24 => ?_)
    · rw [if_pos h24] at hf
      refine wa_sub (L2 := [(0, va_rf (some a)), (1, va_rf p1), (2, .int x2)]) [0, 1, 2] rfl ?_
      exact gX8_putOn_b59 X hrec2 a p1 x2 μ _ _ _ _ hf (by omega) (by omega)
    · rw [if_neg h24] at hf
      refine wa_iload X 4 dX8_putOn_38 rfl ?_
      refine wa_aload_n X 3 dX8_putOn_40 rfl ?_
      obtain ⟨q25, h26, hf⟩ := jde_some hf
      obtain ⟨h27, hf⟩ := jckT hf
      refine wa_ralen (t := 102) X dX8_putOn_41 h26 h27 (by decide) ?_
      refine wa_icge (tgt := 59) X dX8_putOn_42 (by decide) (fun h28 => ?_) (fun h28 => ?_)
      · rw [if_pos h28] at hf
        refine wa_sub (L2 := [(0, va_rf (some a)), (1, va_rf p1), (2, .int x2)]) [0, 1, 2] rfl ?_
        exact gX8_putOn_b59 X hrec2 a p1 x2 μ _ _ _ _ hf (by omega) (by omega)
      · rw [if_neg h28] at hf
        refine wa_aload_n X 1 dX8_putOn_45 rfl ?_
        refine wa_aload_n X 3 dX8_putOn_46 rfl ?_
        refine wa_iload X 4 dX8_putOn_47 rfl ?_
        obtain ⟨h29, hf⟩ := jck_some hf
        refine wa_rlald X dX8_putOn_49 h26 h27 h29 ?_
        obtain ⟨q30, h31, hf⟩ := jde_some hf
        obtain ⟨h32, hf⟩ := jckT hf
        obtain ⟨u33, μ34, c35, m36, c37, m38, e39, hf, h40, h41⟩ := jcl_some hf
        refine wa_rcallV (st2 := []) X dX8_putOn_50 lmX8_56 lMX6_put h31 h32 (mX6_put e39) rfl rfl rfl (va_cats (Nat.le_of_ble_eq_true rfl)) (by decide) (by omega) (by omega) ?_
        refine wa_iinc (v := (x4 + (1 : Int32))) (L2 := [(4, .int (x4 + (1 : Int32))), (0, va_rf (some a)), (1, va_rf p1), (2, .int x2), (3, va_rf p3)]) X 4 dX8_putOn_53 rfl rfl (by decide) (by first | rfl | simp [va_rf_cat, cat_i, cat_l]) ?_
        refine wa_goto (tgt := 34) X dX8_putOn_56 (by decide) ?_
        refine wa_sub (L2 := [(0, va_rf (some a)), (1, va_rf p1), (2, .int x2), (3, va_rf p3), (4, .int (x4 + (1 : Int32)))]) [1, 2, 3, 4, 0] rfl ?_
        exact ih a p1 x2 p3 (x4 + (1 : Int32)) μ34 _ _ _ _ hf (by omega) (by omega)
def fX8_putOn_b21 (rec2 : Nat → Option Nat → Int32 → JM → JO (Unit)) (a : Nat) (p1 : Option Nat) (x2 : Int32) (μ : JM) : JO (Unit) := jck ((jT μ a).1 == 9) <| jde (jP μ a 0) fun q17 => jck ((jT μ q17).1 == 105) <| jck (jin x2 (jT μ q17).2) <| jde (jP μ q17 (x2).toNatClampNeg) fun q21 => jck ((jT μ q21).1 == 3) <| fX8_putOn_b34 rec2 jfuel a p1 x2 (jP μ q21 7) (0 : Int32) μ
set_option maxHeartbeats 4000000 in
set_option maxRecDepth 100000 in
theorem gX8_putOn_b21 {b : Nat} {Θ : JE} {RC RS : Nat} {r : Unit} {ν : JM} (X : jX b Θ RX8 cX8_putOn 5 none 4 93 RC RS) {rec2 : Nat → Option Nat → Int32 → JM → JO (Unit)} (hrec2 : ∀ (a : Nat) (p1 : Option Nat) (x2 : Int32) (μ : JM) (c m k n : Nat), rec2 a p1 x2 μ = some (r, ν, c, m) → k + c = RC → n + m = RS → WA b Θ 5 (jE b Θ (none) ν RC RS) μ k n 2 [(0, va_rf (some a)), (1, va_rf p1), (2, .int x2)] []) (a : Nat) (p1 : Option Nat) (x2 : Int32) (μ : JM) (c m k n : Nat) (hf : fX8_putOn_b21 rec2 a p1 x2 μ = some (r, ν, c, m)) (hk : k + c = RC) (hn : n + m = RS) : WA b Θ 5 (jE b Θ (none) ν RC RS) μ k n 21 [(0, va_rf (some a)), (1, va_rf p1), (2, .int x2)] [] := by
  rw [fX8_putOn_b21] at hf
  refine wa_aload_n X 0 dX8_putOn_21 rfl ?_
  obtain ⟨h16, hf⟩ := jckT hf
  refine wa_getP X dX8_putOn_22 lfX8_17 rfl h16 rfl ?_
  refine wa_iload_n X 2 dX8_putOn_25 rfl ?_
  obtain ⟨q17, h18, hf⟩ := jde_some hf
  obtain ⟨h19, hf⟩ := jckT hf
  obtain ⟨h20, hf⟩ := jck_some hf
  refine wa_raald (t := 105) X dX8_putOn_26 h18 h19 (by decide) rfl rfl h20 ?_
  obtain ⟨q21, h22, hf⟩ := jde_some hf
  obtain ⟨h23, hf⟩ := jckT hf
  refine wa_getP X dX8_putOn_27 lfX8_62 h22 h23 rfl ?_
  refine wa_astore_n (L2 := [(3, va_rf (jP μ q21 7)), (0, va_rf (some a)), (1, va_rf p1), (2, .int x2)]) X dX8_putOn_30 (by decide) (by first | rfl | (show (3, _) :: List.filter (fun q : Nat × Value => !(q.1 == 3) && !(q.1 + 1 == 3 && q.2.category == 2)) _ = _; simp [va_rf_cat, cat_i, cat_l])) ?_
  refine wa_iconst (v := (0 : Int32)) X dX8_putOn_31 (by decide) ?_
  refine wa_istore (L2 := [(4, .int (0 : Int32)), (3, va_rf (jP μ q21 7)), (0, va_rf (some a)), (1, va_rf p1), (2, .int x2)]) X dX8_putOn_32 (by decide) (by first | rfl | (show (4, _) :: List.filter (fun q : Nat × Value => !(q.1 == 4) && !(q.1 + 1 == 4 && q.2.category == 2)) _ = _; simp [va_rf_cat, cat_i, cat_l])) ?_
  refine wa_sub (L2 := [(0, va_rf (some a)), (1, va_rf p1), (2, .int x2), (3, va_rf (jP μ q21 7)), (4, .int (0 : Int32))]) [2, 3, 4, 1, 0] rfl ?_
  exact gX8_putOn_b34 X hrec2 jfuel a p1 x2 (jP μ q21 7) (0 : Int32) μ _ _ _ _ hf (by omega) (by omega)
def fX8_putOn_b2 : Nat → Nat → Option Nat → Int32 → JM → JO (Unit)
  | 0, _, _, _, _ => none
  | fu + 1, a, p1, x2, μ => jck ((jT μ a).1 == 9) <| if (jI μ a 2) ≤ x2 then (some ((), μ, 0, 0)) else (if x2 ≤ 0 then (fX8_putOn_b21 (fX8_putOn_b2 fu) a p1 x2 μ) else (jde p1 fun q4 => jck ((jT μ q4).1 == 7) <| jcl (fX6_put q4 (-60 : Int64) μ) fun u7 μ8 => fX8_putOn_b21 (fX8_putOn_b2 fu) a p1 x2 μ8))
set_option maxHeartbeats 4000000 in
set_option maxRecDepth 100000 in
theorem gX8_putOn_b2 {b : Nat} {Θ : JE} {RC RS : Nat} {r : Unit} {ν : JM} (X : jX b Θ RX8 cX8_putOn 5 none 4 93 RC RS) : ∀ (fu : Nat) (a : Nat) (p1 : Option Nat) (x2 : Int32) (μ : JM) (c m k n : Nat), fX8_putOn_b2 fu a p1 x2 μ = some (r, ν, c, m) → k + c = RC → n + m = RS → WA b Θ 5 (jE b Θ (none) ν RC RS) μ k n 2 [(0, va_rf (some a)), (1, va_rf p1), (2, .int x2)] [] := by
  intro fu
  induction fu with
  | zero => intro a p1 x2 μ c m k n hf; cases hf
  | succ fu ih =>
    intro a p1 x2 μ c m k n hf hk hn
    rw [fX8_putOn_b2] at hf
    refine wa_iload_n X 2 dX8_putOn_2 rfl ?_
    refine wa_aload_n X 0 dX8_putOn_3 rfl ?_
    obtain ⟨h1, hf⟩ := jckT hf
    refine wa_getI X dX8_putOn_4 lfX8_27 rfl h1 rfl ?_
    refine wa_icge (tgt := 65) X dX8_putOn_7 (by decide) (fun h2 => ?_) (fun h2 => ?_)
    · rw [if_pos h2] at hf
      obtain ⟨rfl, rfl, rfl, rfl⟩ := jret hf
      exact wa_vret X dX8_putOn_65 (by omega) (by omega)
    · rw [if_neg h2] at hf
      refine wa_iload_n X 2 dX8_putOn_10 rfl ?_
      refine wa_ifle (tgt := 21) X dX8_putOn_11 (by decide) (fun h3 => ?_) (fun h3 => ?_)
      · rw [if_pos h3] at hf
        refine wa_sub (L2 := [(0, va_rf (some a)), (1, va_rf p1), (2, .int x2)]) [0, 1, 2] rfl ?_
        exact gX8_putOn_b21 X ih a p1 x2 μ _ _ _ _ hf (by omega) (by omega)
      · rw [if_neg h3] at hf
        refine wa_aload_n X 1 dX8_putOn_14 rfl ?_
        refine wa_ldc2 (v := (-60 : Int64)) X dX8_putOn_15 lkX8_54 ?_
        obtain ⟨q4, h5, hf⟩ := jde_some hf
        obtain ⟨h6, hf⟩ := jckT hf
        obtain ⟨u7, μ8, c9, m10, c11, m12, e13, hf, h14, h15⟩ := jcl_some hf
        refine wa_rcallV (st2 := []) X dX8_putOn_18 lmX8_56 lMX6_put h5 h6 (mX6_put e13) rfl rfl rfl (va_cats (Nat.le_of_ble_eq_true rfl)) (by decide) (by omega) (by omega) ?_
        refine wa_sub (L2 := [(0, va_rf (some a)), (1, va_rf p1), (2, .int x2)]) [0, 1, 2] rfl ?_
        exact gX8_putOn_b21 X ih a p1 x2 μ8 _ _ _ _ hf (by omega) (by omega)
def fX8_putOn (a : Nat) (p1 : Option Nat) (μ : JM) : JO (Unit) := fX8_putOn_b2  jfuel a p1 (0 : Int32) μ
set_option maxHeartbeats 4000000 in
set_option maxRecDepth 100000 in
theorem mX8_putOn {b : Nat} {a : Nat} {p1 : Option Nat} {μ : JM} {r : Unit} {ν : JM} {c m : Nat} (hf : fX8_putOn a p1 μ = some (r, ν, c, m)) : JMet b yX8_putOn cX8_putOn 5 none 4 93 [va_rf (some a), va_rf p1] μ (none) ν c m := by
  refine JMet.of (by decide) (lg_sl_le (by simp only [List.map_cons, List.map_nil, List.sum_cons, List.sum_nil, va_rf_cat]; exact Nat.le_of_ble_eq_true rfl)) (fun Θ X hin => ?_)
  refine wa_eq (L2 := [(0, va_rf (some a)), (1, va_rf p1)]) ?_ rfl (by first | rfl | simp [lv_args, va_rf_cat, cat_i, cat_l]) rfl
  obtain ⟨k, hk0⟩ : ∃ k : Nat, k = 0 := ⟨0, rfl⟩
  obtain ⟨n, hn0⟩ : ∃ n : Nat, n = 0 := ⟨0, rfl⟩
  have hk : k + c = c := by omega
  have hn : n + m = m := by omega
  refine wa_costs hk0.symm hn0.symm ?_
  rw [fX8_putOn] at hf
  refine wa_iconst (v := (0 : Int32)) X dX8_putOn_0 (by decide) ?_
  refine wa_istore_n (L2 := [(2, .int (0 : Int32)), (0, va_rf (some a)), (1, va_rf p1)]) X dX8_putOn_1 (by decide) (by first | rfl | (show (2, _) :: List.filter (fun q : Nat × Value => !(q.1 == 2) && !(q.1 + 1 == 2 && q.2.category == 2)) _ = _; simp [va_rf_cat, cat_i, cat_l])) ?_
  refine wa_sub (L2 := [(0, va_rf (some a)), (1, va_rf p1), (2, .int (0 : Int32))]) [1, 2, 0] rfl ?_
  exact gX8_putOn_b2 X jfuel a p1 (0 : Int32) μ _ _ _ _ hf (by omega) (by omega)
theorem dX8_insert_0 : decode cX8_insert 0 = .ok (.iconst 0, 1) := by decide +kernel
theorem dX8_insert_1 : decode cX8_insert 1 = .ok (.istore_n 3, 1) := by decide +kernel
theorem dX8_insert_2 : decode cX8_insert 2 = .ok (.iload_n 3, 1) := by decide +kernel
theorem dX8_insert_3 : decode cX8_insert 3 = .ok (.iload_n 1, 1) := by decide +kernel
theorem dX8_insert_4 : decode cX8_insert 4 = .ok (.if_icmp .ge 16, 3) := by decide +kernel
theorem dX8_insert_7 : decode cX8_insert 7 = .ok (.aload_n 0, 1) := by decide +kernel
theorem dX8_insert_8 : decode cX8_insert 8 = .ok (.iload_n 3, 1) := by decide +kernel
theorem dX8_insert_9 : decode cX8_insert 9 = .ok (.iaload, 1) := by decide +kernel
theorem dX8_insert_10 : decode cX8_insert 10 = .ok (.iload_n 2, 1) := by decide +kernel
theorem dX8_insert_11 : decode cX8_insert 11 = .ok (.if_icmp .ge 9, 3) := by decide +kernel
theorem dX8_insert_14 : decode cX8_insert 14 = .ok (.iinc 3 1, 3) := by decide +kernel
theorem dX8_insert_17 : decode cX8_insert 17 = .ok (.goto (-15), 3) := by decide +kernel
theorem dX8_insert_20 : decode cX8_insert 20 = .ok (.iload_n 3, 1) := by decide +kernel
theorem dX8_insert_21 : decode cX8_insert 21 = .ok (.iload_n 1, 1) := by decide +kernel
theorem dX8_insert_22 : decode cX8_insert 22 = .ok (.if_icmp .ge 12, 3) := by decide +kernel
theorem dX8_insert_25 : decode cX8_insert 25 = .ok (.aload_n 0, 1) := by decide +kernel
theorem dX8_insert_26 : decode cX8_insert 26 = .ok (.iload_n 3, 1) := by decide +kernel
theorem dX8_insert_27 : decode cX8_insert 27 = .ok (.iaload, 1) := by decide +kernel
theorem dX8_insert_28 : decode cX8_insert 28 = .ok (.iload_n 2, 1) := by decide +kernel
theorem dX8_insert_29 : decode cX8_insert 29 = .ok (.if_icmp .ne 5, 3) := by decide +kernel
theorem dX8_insert_32 : decode cX8_insert 32 = .ok (.iload_n 1, 1) := by decide +kernel
theorem dX8_insert_33 : decode cX8_insert 33 = .ok (.ireturn, 1) := by decide +kernel
theorem dX8_insert_34 : decode cX8_insert 34 = .ok (.iload_n 1, 1) := by decide +kernel
theorem dX8_insert_35 : decode cX8_insert 35 = .ok (.istore 4, 2) := by decide +kernel
theorem dX8_insert_37 : decode cX8_insert 37 = .ok (.iload 4, 2) := by decide +kernel
theorem dX8_insert_39 : decode cX8_insert 39 = .ok (.iload_n 3, 1) := by decide +kernel
theorem dX8_insert_40 : decode cX8_insert 40 = .ok (.if_icmp .le 19, 3) := by decide +kernel
theorem dX8_insert_43 : decode cX8_insert 43 = .ok (.aload_n 0, 1) := by decide +kernel
theorem dX8_insert_44 : decode cX8_insert 44 = .ok (.iload 4, 2) := by decide +kernel
theorem dX8_insert_46 : decode cX8_insert 46 = .ok (.aload_n 0, 1) := by decide +kernel
theorem dX8_insert_47 : decode cX8_insert 47 = .ok (.iload 4, 2) := by decide +kernel
theorem dX8_insert_49 : decode cX8_insert 49 = .ok (.iconst 1, 1) := by decide +kernel
theorem dX8_insert_50 : decode cX8_insert 50 = .ok (.isub, 1) := by decide +kernel
theorem dX8_insert_51 : decode cX8_insert 51 = .ok (.iaload, 1) := by decide +kernel
theorem dX8_insert_52 : decode cX8_insert 52 = .ok (.iastore, 1) := by decide +kernel
theorem dX8_insert_53 : decode cX8_insert 53 = .ok (.iinc 4 (-1), 3) := by decide +kernel
theorem dX8_insert_56 : decode cX8_insert 56 = .ok (.goto (-19), 3) := by decide +kernel
theorem dX8_insert_59 : decode cX8_insert 59 = .ok (.aload_n 0, 1) := by decide +kernel
theorem dX8_insert_60 : decode cX8_insert 60 = .ok (.iload_n 3, 1) := by decide +kernel
theorem dX8_insert_61 : decode cX8_insert 61 = .ok (.iload_n 2, 1) := by decide +kernel
theorem dX8_insert_62 : decode cX8_insert 62 = .ok (.iastore, 1) := by decide +kernel
theorem dX8_insert_63 : decode cX8_insert 63 = .ok (.iload_n 1, 1) := by decide +kernel
theorem dX8_insert_64 : decode cX8_insert 64 = .ok (.iconst 1, 1) := by decide +kernel
theorem dX8_insert_65 : decode cX8_insert 65 = .ok (.iadd, 1) := by decide +kernel
theorem dX8_insert_66 : decode cX8_insert 66 = .ok (.ireturn, 1) := by decide +kernel
def fX8_insert_b37 : Nat → Option Nat → Int32 → Int32 → Int32 → Int32 → JM → JO (Int32)
  | 0, _, _, _, _, _, _ => none
  | fu + 1, p0, x1, x2, x3, x4, μ => if x4 ≤ x3 then (jde p0 fun q14 => jck ((jT μ q14).1 == 101) <| jck (jin x3 (jT μ q14).2) <| jlt (jsI μ q14 (x3).toNatClampNeg x2) fun μ18 => some ((x1 + (1 : Int32)), μ18, 0, 0)) else (jde p0 fun q21 => jck ((jT μ q21).1 == 101) <| jck (jin (x4 - (1 : Int32)) (jT μ q21).2) <| jck (jin x4 (jT μ q21).2) <| jlt (jsI μ q21 (x4).toNatClampNeg (jI μ q21 ((x4 - (1 : Int32))).toNatClampNeg)) fun μ26 => fX8_insert_b37 fu p0 x1 x2 x3 (x4 + (-1 : Int32)) μ26)
set_option maxHeartbeats 4000000 in
set_option maxRecDepth 100000 in
theorem gX8_insert_b37 {b : Nat} {Θ : JE} {RC RS : Nat} {r : Int32} {ν : JM} (X : jX b Θ RX8 cX8_insert 5 (some .int) 0 0 RC RS) : ∀ (fu : Nat) (p0 : Option Nat) (x1 : Int32) (x2 : Int32) (x3 : Int32) (x4 : Int32) (μ : JM) (c m k n : Nat), fX8_insert_b37 fu p0 x1 x2 x3 x4 μ = some (r, ν, c, m) → k + c = RC → n + m = RS → WA b Θ 5 (jE b Θ (some (.int r)) ν RC RS) μ k n 37 [(0, va_rf p0), (1, .int x1), (2, .int x2), (3, .int x3), (4, .int x4)] [] := by
  intro fu
  induction fu with
  | zero => intro p0 x1 x2 x3 x4 μ c m k n hf; cases hf
  | succ fu ih =>
    intro p0 x1 x2 x3 x4 μ c m k n hf hk hn
    rw [fX8_insert_b37] at hf
    refine wa_iload X 4 dX8_insert_37 rfl ?_
    refine wa_iload_n X 3 dX8_insert_39 rfl ?_
    refine wa_icle (tgt := 59) X dX8_insert_40 (by decide) (fun h13 => ?_) (fun h13 => ?_)
    · rw [if_pos h13] at hf
      refine wa_aload_n X 0 dX8_insert_59 rfl ?_
      refine wa_iload_n X 3 dX8_insert_60 rfl ?_
      refine wa_iload_n X 2 dX8_insert_61 rfl ?_
      obtain ⟨q14, h15, hf⟩ := jde_some hf
      obtain ⟨h16, hf⟩ := jckT hf
      obtain ⟨h17, hf⟩ := jck_some hf
      obtain ⟨μ18, hm19, hf⟩ := jlt_e hf
      have e20 : jT μ18 = jT μ := by rw [hm19]; rfl
      refine wa_riast (ν := μ18) X dX8_insert_62 h15 h16 h17 hm19 ?_
      refine wa_iload_n X 1 dX8_insert_63 rfl ?_
      refine wa_iconst (v := (1 : Int32)) X dX8_insert_64 (by decide) ?_
      refine wa_iadd X dX8_insert_65 ?_
      obtain ⟨rfl, rfl, rfl, rfl⟩ := jret hf
      exact wa_iret X dX8_insert_66 rfl (by omega) (by omega)
    · rw [if_neg h13] at hf
      refine wa_aload_n X 0 dX8_insert_43 rfl ?_
      refine wa_iload X 4 dX8_insert_44 rfl ?_
      refine wa_aload_n X 0 dX8_insert_46 rfl ?_
      refine wa_iload X 4 dX8_insert_47 rfl ?_
      refine wa_iconst (v := (1 : Int32)) X dX8_insert_49 (by decide) ?_
      refine wa_isub X dX8_insert_50 ?_
      obtain ⟨q21, h22, hf⟩ := jde_some hf
      obtain ⟨h23, hf⟩ := jckT hf
      obtain ⟨h24, hf⟩ := jck_some hf
      refine wa_riald X dX8_insert_51 h22 h23 h24 ?_
      obtain ⟨h25, hf⟩ := jck_some hf
      obtain ⟨μ26, hm27, hf⟩ := jlt_e hf
      have e28 : jT μ26 = jT μ := by rw [hm27]; rfl
      refine wa_riast (ν := μ26) X dX8_insert_52 h22 h23 h25 hm27 ?_
      refine wa_iinc (v := (x4 + (-1 : Int32))) (L2 := [(4, .int (x4 + (-1 : Int32))), (0, va_rf p0), (1, .int x1), (2, .int x2), (3, .int x3)]) X 4 dX8_insert_53 rfl rfl (by decide) (by first | rfl | simp [va_rf_cat, cat_i, cat_l]) ?_
      refine wa_goto (tgt := 37) X dX8_insert_56 (by decide) ?_
      refine wa_sub (L2 := [(0, va_rf p0), (1, .int x1), (2, .int x2), (3, .int x3), (4, .int (x4 + (-1 : Int32)))]) [1, 2, 3, 4, 0] rfl ?_
      exact ih p0 x1 x2 x3 (x4 + (-1 : Int32)) μ26 _ _ _ _ hf (by omega) (by omega)
def fX8_insert_b34 (p0 : Option Nat) (x1 : Int32) (x2 : Int32) (x3 : Int32) (μ : JM) : JO (Int32) := fX8_insert_b37  jfuel p0 x1 x2 x3 x1 μ
set_option maxHeartbeats 4000000 in
set_option maxRecDepth 100000 in
theorem gX8_insert_b34 {b : Nat} {Θ : JE} {RC RS : Nat} {r : Int32} {ν : JM} (X : jX b Θ RX8 cX8_insert 5 (some .int) 0 0 RC RS) (p0 : Option Nat) (x1 : Int32) (x2 : Int32) (x3 : Int32) (μ : JM) (c m k n : Nat) (hf : fX8_insert_b34 p0 x1 x2 x3 μ = some (r, ν, c, m)) (hk : k + c = RC) (hn : n + m = RS) : WA b Θ 5 (jE b Θ (some (.int r)) ν RC RS) μ k n 34 [(0, va_rf p0), (1, .int x1), (2, .int x2), (3, .int x3)] [] := by
  rw [fX8_insert_b34] at hf
  refine wa_iload_n X 1 dX8_insert_34 rfl ?_
  refine wa_istore (L2 := [(4, .int x1), (0, va_rf p0), (1, .int x1), (2, .int x2), (3, .int x3)]) X dX8_insert_35 (by decide) (by first | rfl | (show (4, _) :: List.filter (fun q : Nat × Value => !(q.1 == 4) && !(q.1 + 1 == 4 && q.2.category == 2)) _ = _; simp [va_rf_cat, cat_i, cat_l])) ?_
  refine wa_sub (L2 := [(0, va_rf p0), (1, .int x1), (2, .int x2), (3, .int x3), (4, .int x1)]) [1, 2, 3, 4, 0] rfl ?_
  exact gX8_insert_b37 X jfuel p0 x1 x2 x3 x1 μ _ _ _ _ hf (by omega) (by omega)
def fX8_insert_b20 (p0 : Option Nat) (x1 : Int32) (x2 : Int32) (x3 : Int32) (μ : JM) : JO (Int32) := if x1 ≤ x3 then (fX8_insert_b34  p0 x1 x2 x3 μ) else (jde p0 fun q8 => jck ((jT μ q8).1 == 101) <| jck (jin x3 (jT μ q8).2) <| if (jI μ q8 (x3).toNatClampNeg) = x2 then (some (x1, μ, 0, 0)) else (fX8_insert_b34  p0 x1 x2 x3 μ))
set_option maxHeartbeats 4000000 in
set_option maxRecDepth 100000 in
theorem gX8_insert_b20 {b : Nat} {Θ : JE} {RC RS : Nat} {r : Int32} {ν : JM} (X : jX b Θ RX8 cX8_insert 5 (some .int) 0 0 RC RS) (p0 : Option Nat) (x1 : Int32) (x2 : Int32) (x3 : Int32) (μ : JM) (c m k n : Nat) (hf : fX8_insert_b20 p0 x1 x2 x3 μ = some (r, ν, c, m)) (hk : k + c = RC) (hn : n + m = RS) : WA b Θ 5 (jE b Θ (some (.int r)) ν RC RS) μ k n 20 [(0, va_rf p0), (1, .int x1), (2, .int x2), (3, .int x3)] [] := by
  rw [fX8_insert_b20] at hf
  refine wa_iload_n X 3 dX8_insert_20 rfl ?_
  refine wa_iload_n X 1 dX8_insert_21 rfl ?_
  refine wa_icge (tgt := 34) X dX8_insert_22 (by decide) (fun h7 => ?_) (fun h7 => ?_)
  · rw [if_pos h7] at hf
    refine wa_sub (L2 := [(0, va_rf p0), (1, .int x1), (2, .int x2), (3, .int x3)]) [0, 1, 2, 3] rfl ?_
    exact gX8_insert_b34 X p0 x1 x2 x3 μ _ _ _ _ hf (by omega) (by omega)
  · rw [if_neg h7] at hf
    refine wa_aload_n X 0 dX8_insert_25 rfl ?_
    refine wa_iload_n X 3 dX8_insert_26 rfl ?_
    obtain ⟨q8, h9, hf⟩ := jde_some hf
    obtain ⟨h10, hf⟩ := jckT hf
    obtain ⟨h11, hf⟩ := jck_some hf
    refine wa_riald X dX8_insert_27 h9 h10 h11 ?_
    refine wa_iload_n X 2 dX8_insert_28 rfl ?_
    refine wa_icne (tgt := 34) X dX8_insert_29 (by decide) (fun h12 => ?_) (fun h12 => ?_)
    · rw [if_neg h12] at hf
      refine wa_sub (L2 := [(0, va_rf p0), (1, .int x1), (2, .int x2), (3, .int x3)]) [0, 1, 2, 3] rfl ?_
      exact gX8_insert_b34 X p0 x1 x2 x3 μ _ _ _ _ hf (by omega) (by omega)
    · rw [if_pos h12] at hf
      refine wa_iload_n X 1 dX8_insert_32 rfl ?_
      obtain ⟨rfl, rfl, rfl, rfl⟩ := jret hf
      exact wa_iret X dX8_insert_33 rfl (by omega) (by omega)
def fX8_insert_b2 : Nat → Option Nat → Int32 → Int32 → Int32 → JM → JO (Int32)
  | 0, _, _, _, _, _ => none
  | fu + 1, p0, x1, x2, x3, μ => if x1 ≤ x3 then (fX8_insert_b20  p0 x1 x2 x3 μ) else (jde p0 fun q2 => jck ((jT μ q2).1 == 101) <| jck (jin x3 (jT μ q2).2) <| if x2 ≤ (jI μ q2 (x3).toNatClampNeg) then (fX8_insert_b20  p0 x1 x2 x3 μ) else (fX8_insert_b2 fu p0 x1 x2 (x3 + (1 : Int32)) μ))
set_option maxHeartbeats 4000000 in
set_option maxRecDepth 100000 in
theorem gX8_insert_b2 {b : Nat} {Θ : JE} {RC RS : Nat} {r : Int32} {ν : JM} (X : jX b Θ RX8 cX8_insert 5 (some .int) 0 0 RC RS) : ∀ (fu : Nat) (p0 : Option Nat) (x1 : Int32) (x2 : Int32) (x3 : Int32) (μ : JM) (c m k n : Nat), fX8_insert_b2 fu p0 x1 x2 x3 μ = some (r, ν, c, m) → k + c = RC → n + m = RS → WA b Θ 5 (jE b Θ (some (.int r)) ν RC RS) μ k n 2 [(0, va_rf p0), (1, .int x1), (2, .int x2), (3, .int x3)] [] := by
  intro fu
  induction fu with
  | zero => intro p0 x1 x2 x3 μ c m k n hf; cases hf
  | succ fu ih =>
    intro p0 x1 x2 x3 μ c m k n hf hk hn
    rw [fX8_insert_b2] at hf
    refine wa_iload_n X 3 dX8_insert_2 rfl ?_
    refine wa_iload_n X 1 dX8_insert_3 rfl ?_
    refine wa_icge (tgt := 20) X dX8_insert_4 (by decide) (fun h1 => ?_) (fun h1 => ?_)
    · rw [if_pos h1] at hf
      refine wa_sub (L2 := [(0, va_rf p0), (1, .int x1), (2, .int x2), (3, .int x3)]) [0, 1, 2, 3] rfl ?_
      exact gX8_insert_b20 X p0 x1 x2 x3 μ _ _ _ _ hf (by omega) (by omega)
    · rw [if_neg h1] at hf
      refine wa_aload_n X 0 dX8_insert_7 rfl ?_
      refine wa_iload_n X 3 dX8_insert_8 rfl ?_
      obtain ⟨q2, h3, hf⟩ := jde_some hf
      obtain ⟨h4, hf⟩ := jckT hf
      obtain ⟨h5, hf⟩ := jck_some hf
      refine wa_riald X dX8_insert_9 h3 h4 h5 ?_
      refine wa_iload_n X 2 dX8_insert_10 rfl ?_
      refine wa_icge (tgt := 20) X dX8_insert_11 (by decide) (fun h6 => ?_) (fun h6 => ?_)
      · rw [if_pos h6] at hf
        refine wa_sub (L2 := [(0, va_rf p0), (1, .int x1), (2, .int x2), (3, .int x3)]) [0, 1, 2, 3] rfl ?_
        exact gX8_insert_b20 X p0 x1 x2 x3 μ _ _ _ _ hf (by omega) (by omega)
      · rw [if_neg h6] at hf
        refine wa_iinc (v := (x3 + (1 : Int32))) (L2 := [(3, .int (x3 + (1 : Int32))), (0, va_rf p0), (1, .int x1), (2, .int x2)]) X 3 dX8_insert_14 rfl rfl (by decide) (by first | rfl | simp [va_rf_cat, cat_i, cat_l]) ?_
        refine wa_goto (tgt := 2) X dX8_insert_17 (by decide) ?_
        refine wa_sub (L2 := [(0, va_rf p0), (1, .int x1), (2, .int x2), (3, .int (x3 + (1 : Int32)))]) [1, 2, 3, 0] rfl ?_
        exact ih p0 x1 x2 (x3 + (1 : Int32)) μ _ _ _ _ hf (by omega) (by omega)
def fX8_insert (p0 : Option Nat) (x1 : Int32) (x2 : Int32) (μ : JM) : JO (Int32) := fX8_insert_b2  jfuel p0 x1 x2 (0 : Int32) μ
set_option maxHeartbeats 4000000 in
set_option maxRecDepth 100000 in
theorem mX8_insert {b : Nat} {p0 : Option Nat} {x1 : Int32} {x2 : Int32} {μ : JM} {r : Int32} {ν : JM} {c m : Nat} (hf : fX8_insert p0 x1 x2 μ = some (r, ν, c, m)) : JMet b yX8_insert cX8_insert 5 (some .int) 0 0 [va_rf p0, .int x1, .int x2] μ (some (.int r)) ν c m := by
  refine JMet.of (by decide) (lg_sl_le (by simp only [List.map_cons, List.map_nil, List.sum_cons, List.sum_nil, va_rf_cat]; exact Nat.le_of_ble_eq_true rfl)) (fun Θ X hin => ?_)
  refine wa_eq (L2 := [(0, va_rf p0), (1, .int x1), (2, .int x2)]) ?_ rfl (by first | rfl | simp [lv_args, va_rf_cat, cat_i, cat_l]) rfl
  obtain ⟨k, hk0⟩ : ∃ k : Nat, k = 0 := ⟨0, rfl⟩
  obtain ⟨n, hn0⟩ : ∃ n : Nat, n = 0 := ⟨0, rfl⟩
  have hk : k + c = c := by omega
  have hn : n + m = m := by omega
  refine wa_costs hk0.symm hn0.symm ?_
  rw [fX8_insert] at hf
  refine wa_iconst (v := (0 : Int32)) X dX8_insert_0 (by decide) ?_
  refine wa_istore_n (L2 := [(3, .int (0 : Int32)), (0, va_rf p0), (1, .int x1), (2, .int x2)]) X dX8_insert_1 (by decide) (by first | rfl | (show (3, _) :: List.filter (fun q : Nat × Value => !(q.1 == 3) && !(q.1 + 1 == 3 && q.2.category == 2)) _ = _; simp [va_rf_cat, cat_i, cat_l])) ?_
  refine wa_sub (L2 := [(0, va_rf p0), (1, .int x1), (2, .int x2), (3, .int (0 : Int32))]) [1, 2, 3, 0] rfl ?_
  exact gX8_insert_b2 X jfuel p0 x1 x2 (0 : Int32) μ _ _ _ _ hf (by omega) (by omega)
theorem dX8_gatherKeys_0 : decode cX8_gatherKeys 0 = .ok (.iconst 0, 1) := by decide +kernel
theorem dX8_gatherKeys_1 : decode cX8_gatherKeys 1 = .ok (.istore_n 3, 1) := by decide +kernel
theorem dX8_gatherKeys_2 : decode cX8_gatherKeys 2 = .ok (.iconst 0, 1) := by decide +kernel
theorem dX8_gatherKeys_3 : decode cX8_gatherKeys 3 = .ok (.istore 4, 2) := by decide +kernel
theorem dX8_gatherKeys_5 : decode cX8_gatherKeys 5 = .ok (.iload 4, 2) := by decide +kernel
theorem dX8_gatherKeys_7 : decode cX8_gatherKeys 7 = .ok (.aload_n 0, 1) := by decide +kernel
theorem dX8_gatherKeys_8 : decode cX8_gatherKeys 8 = .ok (.getfield 27, 3) := by decide +kernel
theorem dX8_gatherKeys_11 : decode cX8_gatherKeys 11 = .ok (.if_icmp .ge 55, 3) := by decide +kernel
theorem dX8_gatherKeys_14 : decode cX8_gatherKeys 14 = .ok (.aload_n 0, 1) := by decide +kernel
theorem dX8_gatherKeys_15 : decode cX8_gatherKeys 15 = .ok (.getfield 17, 3) := by decide +kernel
theorem dX8_gatherKeys_18 : decode cX8_gatherKeys 18 = .ok (.iload 4, 2) := by decide +kernel
theorem dX8_gatherKeys_20 : decode cX8_gatherKeys 20 = .ok (.aaload, 1) := by decide +kernel
theorem dX8_gatherKeys_21 : decode cX8_gatherKeys 21 = .ok (.astore 5, 2) := by decide +kernel
theorem dX8_gatherKeys_23 : decode cX8_gatherKeys 23 = .ok (.aload 5, 2) := by decide +kernel
theorem dX8_gatherKeys_25 : decode cX8_gatherKeys 25 = .ok (.invokevirtual 66, 3) := by decide +kernel
theorem dX8_gatherKeys_28 : decode cX8_gatherKeys 28 = .ok (.ifCond .ne 32, 3) := by decide +kernel
theorem dX8_gatherKeys_31 : decode cX8_gatherKeys 31 = .ok (.aload 5, 2) := by decide +kernel
theorem dX8_gatherKeys_33 : decode cX8_gatherKeys 33 = .ok (.getfield 44, 3) := by decide +kernel
theorem dX8_gatherKeys_36 : decode cX8_gatherKeys 36 = .ok (.iload_n 1, 1) := by decide +kernel
theorem dX8_gatherKeys_37 : decode cX8_gatherKeys 37 = .ok (.invokevirtual 70, 3) := by decide +kernel
theorem dX8_gatherKeys_40 : decode cX8_gatherKeys 40 = .ok (.ifCond .eq 20, 3) := by decide +kernel
theorem dX8_gatherKeys_43 : decode cX8_gatherKeys 43 = .ok (.iload_n 3, 1) := by decide +kernel
theorem dX8_gatherKeys_44 : decode cX8_gatherKeys 44 = .ok (.aload_n 2, 1) := by decide +kernel
theorem dX8_gatherKeys_45 : decode cX8_gatherKeys 45 = .ok (.arraylength, 1) := by decide +kernel
theorem dX8_gatherKeys_46 : decode cX8_gatherKeys 46 = .ok (.if_icmp .ge 14, 3) := by decide +kernel
theorem dX8_gatherKeys_49 : decode cX8_gatherKeys 49 = .ok (.aload_n 2, 1) := by decide +kernel
theorem dX8_gatherKeys_50 : decode cX8_gatherKeys 50 = .ok (.iload_n 3, 1) := by decide +kernel
theorem dX8_gatherKeys_51 : decode cX8_gatherKeys 51 = .ok (.aload 5, 2) := by decide +kernel
theorem dX8_gatherKeys_53 : decode cX8_gatherKeys 53 = .ok (.invokevirtual 74, 3) := by decide +kernel
theorem dX8_gatherKeys_56 : decode cX8_gatherKeys 56 = .ok (.invokestatic 78, 3) := by decide +kernel
theorem dX8_gatherKeys_59 : decode cX8_gatherKeys 59 = .ok (.istore_n 3, 1) := by decide +kernel
theorem dX8_gatherKeys_60 : decode cX8_gatherKeys 60 = .ok (.iinc 4 1, 3) := by decide +kernel
theorem dX8_gatherKeys_63 : decode cX8_gatherKeys 63 = .ok (.goto (-58), 3) := by decide +kernel
theorem dX8_gatherKeys_66 : decode cX8_gatherKeys 66 = .ok (.iload_n 3, 1) := by decide +kernel
theorem dX8_gatherKeys_67 : decode cX8_gatherKeys 67 = .ok (.ireturn, 1) := by decide +kernel
def fX8_gatherKeys_b60 (rec5 : Nat → Int32 → Option Nat → Int32 → Int32 → JM → JO (Int32)) (a : Nat) (x1 : Int32) (p2 : Option Nat) (x3 : Int32) (x4 : Int32) (μ : JM) : JO (Int32) := rec5 a x1 p2 x3 (x4 + (1 : Int32)) μ
set_option maxHeartbeats 4000000 in
set_option maxRecDepth 100000 in
theorem gX8_gatherKeys_b60 {b : Nat} {Θ : JE} {RC RS : Nat} {r : Int32} {ν : JM} (X : jX b Θ RX8 cX8_gatherKeys 6 (some .int) 1 24 RC RS) {rec5 : Nat → Int32 → Option Nat → Int32 → Int32 → JM → JO (Int32)} (hrec5 : ∀ (a : Nat) (x1 : Int32) (p2 : Option Nat) (x3 : Int32) (x4 : Int32) (μ : JM) (c m k n : Nat), rec5 a x1 p2 x3 x4 μ = some (r, ν, c, m) → k + c = RC → n + m = RS → WA b Θ 6 (jE b Θ (some (.int r)) ν RC RS) μ k n 5 [(0, va_rf (some a)), (1, .int x1), (2, va_rf p2), (3, .int x3), (4, .int x4)] []) (a : Nat) (x1 : Int32) (p2 : Option Nat) (x3 : Int32) (x4 : Int32) (μ : JM) (c m k n : Nat) (hf : fX8_gatherKeys_b60 rec5 a x1 p2 x3 x4 μ = some (r, ν, c, m)) (hk : k + c = RC) (hn : n + m = RS) : WA b Θ 6 (jE b Θ (some (.int r)) ν RC RS) μ k n 60 [(0, va_rf (some a)), (1, .int x1), (2, va_rf p2), (3, .int x3), (4, .int x4)] [] := by
  rw [fX8_gatherKeys_b60] at hf
  refine wa_iinc (v := (x4 + (1 : Int32))) (L2 := [(4, .int (x4 + (1 : Int32))), (0, va_rf (some a)), (1, .int x1), (2, va_rf p2), (3, .int x3)]) X 4 dX8_gatherKeys_60 rfl rfl (by decide) (by first | rfl | simp [va_rf_cat, cat_i, cat_l]) ?_
  refine wa_goto (tgt := 5) X dX8_gatherKeys_63 (by decide) ?_
  refine wa_sub (L2 := [(0, va_rf (some a)), (1, .int x1), (2, va_rf p2), (3, .int x3), (4, .int (x4 + (1 : Int32)))]) [1, 2, 3, 4, 0] rfl ?_
  exact hrec5 a x1 p2 x3 (x4 + (1 : Int32)) μ _ _ _ _ hf (by omega) (by omega)
def fX8_gatherKeys_b5 : Nat → Nat → Int32 → Option Nat → Int32 → Int32 → JM → JO (Int32)
  | 0, _, _, _, _, _, _ => none
  | fu + 1, a, x1, p2, x3, x4, μ => jck ((jT μ a).1 == 9) <| if (jI μ a 2) ≤ x4 then (some (x3, μ, 0, 0)) else (jde (jP μ a 0) fun q3 => jck ((jT μ q3).1 == 105) <| jck (jin x4 (jT μ q3).2) <| jde (jP μ q3 (x4).toNatClampNeg) fun q7 => jck ((jT μ q7).1 == 3) <| jcl (fX2_isDefine q7 μ) fun r10 μ11 => if r10 = 0 then (jck ((jT μ11 q7).1 == 3) <| jde (jP μ11 q7 8) fun q21 => jck ((jT μ11 q21).1 == 2) <| jcl (fX1_has q21 x1 μ11) fun r24 μ25 => if r24 = 0 then (fX8_gatherKeys_b60 (fX8_gatherKeys_b5 fu) a x1 p2 x3 x4 μ25) else (jde p2 fun q34 => jck ((jT μ25 q34).1 == 101) <| if (nI (jT μ25 q34).2) ≤ x3 then (fX8_gatherKeys_b60 (fX8_gatherKeys_b5 fu) a x1 p2 x3 x4 μ25) else (jck ((jT μ25 q7).1 == 3) <| jcl (fX2_key q7 μ25) fun r39 μ40 => jcl (fX8_insert p2 x3 r39 μ40) fun r48 μ49 => fX8_gatherKeys_b60 (fX8_gatherKeys_b5 fu) a x1 p2 r48 x4 μ49))) else (fX8_gatherKeys_b60 (fX8_gatherKeys_b5 fu) a x1 p2 x3 x4 μ11))
set_option maxHeartbeats 4000000 in
set_option maxRecDepth 100000 in
theorem gX8_gatherKeys_b5 {b : Nat} {Θ : JE} {RC RS : Nat} {r : Int32} {ν : JM} (X : jX b Θ RX8 cX8_gatherKeys 6 (some .int) 1 24 RC RS) : ∀ (fu : Nat) (a : Nat) (x1 : Int32) (p2 : Option Nat) (x3 : Int32) (x4 : Int32) (μ : JM) (c m k n : Nat), fX8_gatherKeys_b5 fu a x1 p2 x3 x4 μ = some (r, ν, c, m) → k + c = RC → n + m = RS → WA b Θ 6 (jE b Θ (some (.int r)) ν RC RS) μ k n 5 [(0, va_rf (some a)), (1, .int x1), (2, va_rf p2), (3, .int x3), (4, .int x4)] [] := by
  intro fu
  induction fu with
  | zero => intro a x1 p2 x3 x4 μ c m k n hf; cases hf
  | succ fu ih =>
    intro a x1 p2 x3 x4 μ c m k n hf hk hn
    rw [fX8_gatherKeys_b5] at hf
    refine wa_iload X 4 dX8_gatherKeys_5 rfl ?_
    refine wa_aload_n X 0 dX8_gatherKeys_7 rfl ?_
    obtain ⟨h1, hf⟩ := jckT hf
    refine wa_getI X dX8_gatherKeys_8 lfX8_27 rfl h1 rfl ?_
    refine wa_icge (tgt := 66) X dX8_gatherKeys_11 (by decide) (fun h2 => ?_) (fun h2 => ?_)
    · rw [if_pos h2] at hf
      refine wa_iload_n X 3 dX8_gatherKeys_66 rfl ?_
      obtain ⟨rfl, rfl, rfl, rfl⟩ := jret hf
      exact wa_iret X dX8_gatherKeys_67 rfl (by omega) (by omega)
    · rw [if_neg h2] at hf
      refine wa_aload_n X 0 dX8_gatherKeys_14 rfl ?_
      refine wa_getP X dX8_gatherKeys_15 lfX8_17 rfl h1 rfl ?_
      refine wa_iload X 4 dX8_gatherKeys_18 rfl ?_
      obtain ⟨q3, h4, hf⟩ := jde_some hf
      obtain ⟨h5, hf⟩ := jckT hf
      obtain ⟨h6, hf⟩ := jck_some hf
      refine wa_raald (t := 105) X dX8_gatherKeys_20 h4 h5 (by decide) rfl rfl h6 ?_
      refine wa_astore (L2 := [(5, va_rf (jP μ q3 (x4).toNatClampNeg)), (0, va_rf (some a)), (1, .int x1), (2, va_rf p2), (3, .int x3), (4, .int x4)]) X dX8_gatherKeys_21 (by decide) (by first | rfl | (show (5, _) :: List.filter (fun q : Nat × Value => !(q.1 == 5) && !(q.1 + 1 == 5 && q.2.category == 2)) _ = _; simp [va_rf_cat, cat_i, cat_l])) ?_
      refine wa_aload X 0 dX8_gatherKeys_23 rfl ?_
      obtain ⟨q7, h8, hf⟩ := jde_some hf
      obtain ⟨h9, hf⟩ := jckT hf
      obtain ⟨r10, μ11, c12, m13, c14, m15, e16, hf, h17, h18⟩ := jcl_some hf
      refine wa_rcallV (st2 := [.int r10]) X dX8_gatherKeys_25 lmX8_66 lMX2_isDefine h8 h9 (mX2_isDefine e16) rfl rfl rfl (va_cats (Nat.le_of_ble_eq_true rfl)) (by decide) (by omega) (by omega) ?_
      refine wa_ifne (tgt := 60) X dX8_gatherKeys_28 (by decide) (fun h19 => ?_) (fun h19 => ?_)
      · rw [if_neg h19] at hf
        refine wa_sub (L2 := [(0, va_rf (some a)), (1, .int x1), (2, va_rf p2), (3, .int x3), (4, .int x4)]) [1, 2, 3, 4, 5] rfl ?_
        exact gX8_gatherKeys_b60 X ih a x1 p2 x3 x4 μ11 _ _ _ _ hf (by omega) (by omega)
      · rw [if_pos h19] at hf
        refine wa_aload X 0 dX8_gatherKeys_31 rfl ?_
        obtain ⟨h20, hf⟩ := jckT hf
        refine wa_getP X dX8_gatherKeys_33 lfX8_44 h8 h20 rfl ?_
        refine wa_iload_n X 2 dX8_gatherKeys_36 rfl ?_
        obtain ⟨q21, h22, hf⟩ := jde_some hf
        obtain ⟨h23, hf⟩ := jckT hf
        obtain ⟨r24, μ25, c26, m27, c28, m29, e30, hf, h31, h32⟩ := jcl_some hf
        refine wa_rcallV (st2 := [.int r24]) X dX8_gatherKeys_37 lmX8_70 lMX1_has h22 h23 (mX1_has e30) rfl rfl rfl (va_cats (Nat.le_of_ble_eq_true rfl)) (by decide) (by omega) (by omega) ?_
        refine wa_ifeq (tgt := 60) X dX8_gatherKeys_40 (by decide) (fun h33 => ?_) (fun h33 => ?_)
        · rw [if_pos h33] at hf
          refine wa_sub (L2 := [(0, va_rf (some a)), (1, .int x1), (2, va_rf p2), (3, .int x3), (4, .int x4)]) [1, 2, 3, 4, 5] rfl ?_
          exact gX8_gatherKeys_b60 X ih a x1 p2 x3 x4 μ25 _ _ _ _ hf (by omega) (by omega)
        · rw [if_neg h33] at hf
          refine wa_iload_n X 4 dX8_gatherKeys_43 rfl ?_
          refine wa_aload_n X 3 dX8_gatherKeys_44 rfl ?_
          obtain ⟨q34, h35, hf⟩ := jde_some hf
          obtain ⟨h36, hf⟩ := jckT hf
          refine wa_ralen (t := 101) X dX8_gatherKeys_45 h35 h36 (by decide) ?_
          refine wa_icge (tgt := 60) X dX8_gatherKeys_46 (by decide) (fun h37 => ?_) (fun h37 => ?_)
          · rw [if_pos h37] at hf
            refine wa_sub (L2 := [(0, va_rf (some a)), (1, .int x1), (2, va_rf p2), (3, .int x3), (4, .int x4)]) [1, 2, 3, 4, 5] rfl ?_
            exact gX8_gatherKeys_b60 X ih a x1 p2 x3 x4 μ25 _ _ _ _ hf (by omega) (by omega)
          · rw [if_neg h37] at hf
            refine wa_aload_n X 3 dX8_gatherKeys_49 rfl ?_
            refine wa_iload_n X 4 dX8_gatherKeys_50 rfl ?_
            refine wa_aload X 0 dX8_gatherKeys_51 rfl ?_
            obtain ⟨h38, hf⟩ := jckT hf
            obtain ⟨r39, μ40, c41, m42, c43, m44, e45, hf, h46, h47⟩ := jcl_some hf
            refine wa_rcallV (st2 := [.int r39, .int x3, va_rf p2]) X dX8_gatherKeys_53 lmX8_74 lMX2_key h8 h38 (mX2_key e45) rfl rfl rfl (va_cats (Nat.le_of_ble_eq_true rfl)) (by decide) (by omega) (by omega) ?_
            obtain ⟨r48, μ49, c50, m51, c52, m53, e54, hf, h55, h56⟩ := jcl_some hf
            refine wa_rcallS (st2 := [.int r48]) X dX8_gatherKeys_56 lmX8_78 lMX8_insert (mX8_insert e54) rfl rfl rfl (va_cats (Nat.le_of_ble_eq_true rfl)) (by decide) (by omega) (by omega) ?_
            refine wa_istore_n (L2 := [(3, .int r48), (5, va_rf (jP μ q3 (x4).toNatClampNeg)), (0, va_rf (some a)), (1, .int x1), (2, va_rf p2), (4, .int x4)]) X dX8_gatherKeys_59 (by decide) (by first | rfl | (show (3, _) :: List.filter (fun q : Nat × Value => !(q.1 == 3) && !(q.1 + 1 == 3 && q.2.category == 2)) _ = _; simp [va_rf_cat, cat_i, cat_l])) ?_
            refine wa_sub (L2 := [(0, va_rf (some a)), (1, .int x1), (2, va_rf p2), (3, .int r48), (4, .int x4)]) [2, 3, 4, 0, 5] rfl ?_
            exact gX8_gatherKeys_b60 X ih a x1 p2 r48 x4 μ49 _ _ _ _ hf (by omega) (by omega)
def fX8_gatherKeys (a : Nat) (x1 : Int32) (p2 : Option Nat) (μ : JM) : JO (Int32) := fX8_gatherKeys_b5  jfuel a x1 p2 (0 : Int32) (0 : Int32) μ
set_option maxHeartbeats 4000000 in
set_option maxRecDepth 100000 in
theorem mX8_gatherKeys {b : Nat} {a : Nat} {x1 : Int32} {p2 : Option Nat} {μ : JM} {r : Int32} {ν : JM} {c m : Nat} (hf : fX8_gatherKeys a x1 p2 μ = some (r, ν, c, m)) : JMet b yX8_gatherKeys cX8_gatherKeys 6 (some .int) 1 24 [va_rf (some a), .int x1, va_rf p2] μ (some (.int r)) ν c m := by
  refine JMet.of (by decide) (lg_sl_le (by simp only [List.map_cons, List.map_nil, List.sum_cons, List.sum_nil, va_rf_cat]; exact Nat.le_of_ble_eq_true rfl)) (fun Θ X hin => ?_)
  refine wa_eq (L2 := [(0, va_rf (some a)), (1, .int x1), (2, va_rf p2)]) ?_ rfl (by first | rfl | simp [lv_args, va_rf_cat, cat_i, cat_l]) rfl
  obtain ⟨k, hk0⟩ : ∃ k : Nat, k = 0 := ⟨0, rfl⟩
  obtain ⟨n, hn0⟩ : ∃ n : Nat, n = 0 := ⟨0, rfl⟩
  have hk : k + c = c := by omega
  have hn : n + m = m := by omega
  refine wa_costs hk0.symm hn0.symm ?_
  rw [fX8_gatherKeys] at hf
  refine wa_iconst (v := (0 : Int32)) X dX8_gatherKeys_0 (by decide) ?_
  refine wa_istore_n (L2 := [(3, .int (0 : Int32)), (0, va_rf (some a)), (1, .int x1), (2, va_rf p2)]) X dX8_gatherKeys_1 (by decide) (by first | rfl | (show (3, _) :: List.filter (fun q : Nat × Value => !(q.1 == 3) && !(q.1 + 1 == 3 && q.2.category == 2)) _ = _; simp [va_rf_cat, cat_i, cat_l])) ?_
  refine wa_iconst (v := (0 : Int32)) X dX8_gatherKeys_2 (by decide) ?_
  refine wa_istore (L2 := [(4, .int (0 : Int32)), (3, .int (0 : Int32)), (0, va_rf (some a)), (1, .int x1), (2, va_rf p2)]) X dX8_gatherKeys_3 (by decide) (by first | rfl | (show (4, _) :: List.filter (fun q : Nat × Value => !(q.1 == 4) && !(q.1 + 1 == 4 && q.2.category == 2)) _ = _; simp [va_rf_cat, cat_i, cat_l])) ?_
  refine wa_sub (L2 := [(0, va_rf (some a)), (1, .int x1), (2, va_rf p2), (3, .int (0 : Int32)), (4, .int (0 : Int32))]) [2, 3, 4, 1, 0] rfl ?_
  exact gX8_gatherKeys_b5 X jfuel a x1 p2 (0 : Int32) (0 : Int32) μ _ _ _ _ hf (by omega) (by omega)
theorem dX8_setOutcome_0 : decode cX8_setOutcome 0 = .ok (.aload_n 2, 1) := by decide +kernel
theorem dX8_setOutcome_1 : decode cX8_setOutcome 1 = .ok (.invokevirtual 93, 3) := by decide +kernel
theorem dX8_setOutcome_4 : decode cX8_setOutcome 4 = .ok (.iconst 0, 1) := by decide +kernel
theorem dX8_setOutcome_5 : decode cX8_setOutcome 5 = .ok (.istore_n 3, 1) := by decide +kernel
theorem dX8_setOutcome_6 : decode cX8_setOutcome 6 = .ok (.iload_n 3, 1) := by decide +kernel
theorem dX8_setOutcome_7 : decode cX8_setOutcome 7 = .ok (.aload_n 0, 1) := by decide +kernel
theorem dX8_setOutcome_8 : decode cX8_setOutcome 8 = .ok (.getfield 27, 3) := by decide +kernel
theorem dX8_setOutcome_11 : decode cX8_setOutcome 11 = .ok (.if_icmp .ge 47, 3) := by decide +kernel
theorem dX8_setOutcome_14 : decode cX8_setOutcome 14 = .ok (.aload_n 0, 1) := by decide +kernel
theorem dX8_setOutcome_15 : decode cX8_setOutcome 15 = .ok (.getfield 17, 3) := by decide +kernel
theorem dX8_setOutcome_18 : decode cX8_setOutcome 18 = .ok (.iload_n 3, 1) := by decide +kernel
theorem dX8_setOutcome_19 : decode cX8_setOutcome 19 = .ok (.aaload, 1) := by decide +kernel
theorem dX8_setOutcome_20 : decode cX8_setOutcome 20 = .ok (.invokevirtual 66, 3) := by decide +kernel
theorem dX8_setOutcome_23 : decode cX8_setOutcome 23 = .ok (.ifCond .ne 29, 3) := by decide +kernel
theorem dX8_setOutcome_26 : decode cX8_setOutcome 26 = .ok (.aload_n 0, 1) := by decide +kernel
theorem dX8_setOutcome_27 : decode cX8_setOutcome 27 = .ok (.getfield 17, 3) := by decide +kernel
theorem dX8_setOutcome_30 : decode cX8_setOutcome 30 = .ok (.iload_n 3, 1) := by decide +kernel
theorem dX8_setOutcome_31 : decode cX8_setOutcome 31 = .ok (.aaload, 1) := by decide +kernel
theorem dX8_setOutcome_32 : decode cX8_setOutcome 32 = .ok (.invokevirtual 74, 3) := by decide +kernel
theorem dX8_setOutcome_35 : decode cX8_setOutcome 35 = .ok (.iload_n 1, 1) := by decide +kernel
theorem dX8_setOutcome_36 : decode cX8_setOutcome 36 = .ok (.if_icmp .ne 16, 3) := by decide +kernel
theorem dX8_setOutcome_39 : decode cX8_setOutcome 39 = .ok (.aload_n 2, 1) := by decide +kernel
theorem dX8_setOutcome_40 : decode cX8_setOutcome 40 = .ok (.aload_n 0, 1) := by decide +kernel
theorem dX8_setOutcome_41 : decode cX8_setOutcome 41 = .ok (.getfield 17, 3) := by decide +kernel
theorem dX8_setOutcome_44 : decode cX8_setOutcome 44 = .ok (.iload_n 3, 1) := by decide +kernel
theorem dX8_setOutcome_45 : decode cX8_setOutcome 45 = .ok (.aaload, 1) := by decide +kernel
theorem dX8_setOutcome_46 : decode cX8_setOutcome 46 = .ok (.getfield 44, 3) := by decide +kernel
theorem dX8_setOutcome_49 : decode cX8_setOutcome 49 = .ok (.invokevirtual 90, 3) := by decide +kernel
theorem dX8_setOutcome_52 : decode cX8_setOutcome 52 = .ok (.iinc 3 1, 3) := by decide +kernel
theorem dX8_setOutcome_55 : decode cX8_setOutcome 55 = .ok (.goto (-49), 3) := by decide +kernel
theorem dX8_setOutcome_58 : decode cX8_setOutcome 58 = .ok (.return_, 1) := by decide +kernel
def fX8_setOutcome_b52 (rec6 : Nat → Int32 → Option Nat → Int32 → JM → JO (Unit)) (a : Nat) (x1 : Int32) (p2 : Option Nat) (x3 : Int32) (μ : JM) : JO (Unit) := rec6 a x1 p2 (x3 + (1 : Int32)) μ
set_option maxHeartbeats 4000000 in
set_option maxRecDepth 100000 in
theorem gX8_setOutcome_b52 {b : Nat} {Θ : JE} {RC RS : Nat} {r : Unit} {ν : JM} (X : jX b Θ RX8 cX8_setOutcome 4 none 1 22 RC RS) {rec6 : Nat → Int32 → Option Nat → Int32 → JM → JO (Unit)} (hrec6 : ∀ (a : Nat) (x1 : Int32) (p2 : Option Nat) (x3 : Int32) (μ : JM) (c m k n : Nat), rec6 a x1 p2 x3 μ = some (r, ν, c, m) → k + c = RC → n + m = RS → WA b Θ 4 (jE b Θ (none) ν RC RS) μ k n 6 [(0, va_rf (some a)), (1, .int x1), (2, va_rf p2), (3, .int x3)] []) (a : Nat) (x1 : Int32) (p2 : Option Nat) (x3 : Int32) (μ : JM) (c m k n : Nat) (hf : fX8_setOutcome_b52 rec6 a x1 p2 x3 μ = some (r, ν, c, m)) (hk : k + c = RC) (hn : n + m = RS) : WA b Θ 4 (jE b Θ (none) ν RC RS) μ k n 52 [(0, va_rf (some a)), (1, .int x1), (2, va_rf p2), (3, .int x3)] [] := by
  rw [fX8_setOutcome_b52] at hf
  refine wa_iinc (v := (x3 + (1 : Int32))) (L2 := [(3, .int (x3 + (1 : Int32))), (0, va_rf (some a)), (1, .int x1), (2, va_rf p2)]) X 3 dX8_setOutcome_52 rfl rfl (by decide) (by first | rfl | simp [va_rf_cat, cat_i, cat_l]) ?_
  refine wa_goto (tgt := 6) X dX8_setOutcome_55 (by decide) ?_
  refine wa_sub (L2 := [(0, va_rf (some a)), (1, .int x1), (2, va_rf p2), (3, .int (x3 + (1 : Int32)))]) [1, 2, 3, 0] rfl ?_
  exact hrec6 a x1 p2 (x3 + (1 : Int32)) μ _ _ _ _ hf (by omega) (by omega)
def fX8_setOutcome_b6 : Nat → Nat → Int32 → Option Nat → Int32 → JM → JO (Unit)
  | 0, _, _, _, _, _ => none
  | fu + 1, a, x1, p2, x3, μ => jck ((jT μ a).1 == 9) <| if (jI μ a 2) ≤ x3 then (some ((), μ, 0, 0)) else (jde (jP μ a 0) fun q15 => jck ((jT μ q15).1 == 105) <| jck (jin x3 (jT μ q15).2) <| jde (jP μ q15 (x3).toNatClampNeg) fun q19 => jck ((jT μ q19).1 == 3) <| jcl (fX2_isDefine q19 μ) fun r22 μ23 => if r22 = 0 then (jck ((jT μ23 a).1 == 9) <| jde (jP μ23 a 0) fun q33 => jck ((jT μ23 q33).1 == 105) <| jck (jin x3 (jT μ23 q33).2) <| jde (jP μ23 q33 (x3).toNatClampNeg) fun q37 => jck ((jT μ23 q37).1 == 3) <| jcl (fX2_key q37 μ23) fun r40 μ41 => if r40 = x1 then (jck ((jT μ41 a).1 == 9) <| jde (jP μ41 a 0) fun q51 => jck ((jT μ41 q51).1 == 105) <| jck (jin x3 (jT μ41 q51).2) <| jde (jP μ41 q51 (x3).toNatClampNeg) fun q55 => jck ((jT μ41 q55).1 == 3) <| jde p2 fun q58 => jck ((jT μ41 q58).1 == 2) <| jcl (fX1_or q58 (jP μ41 q55 8) μ41) fun u61 μ62 => fX8_setOutcome_b52 (fX8_setOutcome_b6 fu) a x1 p2 x3 μ62) else (fX8_setOutcome_b52 (fX8_setOutcome_b6 fu) a x1 p2 x3 μ41)) else (fX8_setOutcome_b52 (fX8_setOutcome_b6 fu) a x1 p2 x3 μ23))
set_option maxHeartbeats 4000000 in
set_option maxRecDepth 100000 in
theorem gX8_setOutcome_b6 {b : Nat} {Θ : JE} {RC RS : Nat} {r : Unit} {ν : JM} (X : jX b Θ RX8 cX8_setOutcome 4 none 1 22 RC RS) : ∀ (fu : Nat) (a : Nat) (x1 : Int32) (p2 : Option Nat) (x3 : Int32) (μ : JM) (c m k n : Nat), fX8_setOutcome_b6 fu a x1 p2 x3 μ = some (r, ν, c, m) → k + c = RC → n + m = RS → WA b Θ 4 (jE b Θ (none) ν RC RS) μ k n 6 [(0, va_rf (some a)), (1, .int x1), (2, va_rf p2), (3, .int x3)] [] := by
  intro fu
  induction fu with
  | zero => intro a x1 p2 x3 μ c m k n hf; cases hf
  | succ fu ih =>
    intro a x1 p2 x3 μ c m k n hf hk hn
    rw [fX8_setOutcome_b6] at hf
    refine wa_iload_n X 3 dX8_setOutcome_6 rfl ?_
    refine wa_aload_n X 0 dX8_setOutcome_7 rfl ?_
    obtain ⟨h13, hf⟩ := jckT hf
    refine wa_getI X dX8_setOutcome_8 lfX8_27 rfl h13 rfl ?_
    refine wa_icge (tgt := 58) X dX8_setOutcome_11 (by decide) (fun h14 => ?_) (fun h14 => ?_)
    · rw [if_pos h14] at hf
      obtain ⟨rfl, rfl, rfl, rfl⟩ := jret hf
      exact wa_vret X dX8_setOutcome_58 (by omega) (by omega)
    · rw [if_neg h14] at hf
      refine wa_aload_n X 0 dX8_setOutcome_14 rfl ?_
      refine wa_getP X dX8_setOutcome_15 lfX8_17 rfl h13 rfl ?_
      refine wa_iload_n X 3 dX8_setOutcome_18 rfl ?_
      obtain ⟨q15, h16, hf⟩ := jde_some hf
      obtain ⟨h17, hf⟩ := jckT hf
      obtain ⟨h18, hf⟩ := jck_some hf
      refine wa_raald (t := 105) X dX8_setOutcome_19 h16 h17 (by decide) rfl rfl h18 ?_
      obtain ⟨q19, h20, hf⟩ := jde_some hf
      obtain ⟨h21, hf⟩ := jckT hf
      obtain ⟨r22, μ23, c24, m25, c26, m27, e28, hf, h29, h30⟩ := jcl_some hf
      refine wa_rcallV (st2 := [.int r22]) X dX8_setOutcome_20 lmX8_66 lMX2_isDefine h20 h21 (mX2_isDefine e28) rfl rfl rfl (va_cats (Nat.le_of_ble_eq_true rfl)) (by decide) (by omega) (by omega) ?_
      refine wa_ifne (tgt := 52) X dX8_setOutcome_23 (by decide) (fun h31 => ?_) (fun h31 => ?_)
      · rw [if_neg h31] at hf
        refine wa_sub (L2 := [(0, va_rf (some a)), (1, .int x1), (2, va_rf p2), (3, .int x3)]) [0, 1, 2, 3] rfl ?_
        exact gX8_setOutcome_b52 X ih a x1 p2 x3 μ23 _ _ _ _ hf (by omega) (by omega)
      · rw [if_pos h31] at hf
        refine wa_aload_n X 0 dX8_setOutcome_26 rfl ?_
        obtain ⟨h32, hf⟩ := jckT hf
        refine wa_getP X dX8_setOutcome_27 lfX8_17 rfl h32 rfl ?_
        refine wa_iload_n X 3 dX8_setOutcome_30 rfl ?_
        obtain ⟨q33, h34, hf⟩ := jde_some hf
        obtain ⟨h35, hf⟩ := jckT hf
        obtain ⟨h36, hf⟩ := jck_some hf
        refine wa_raald (t := 105) X dX8_setOutcome_31 h34 h35 (by decide) rfl rfl h36 ?_
        obtain ⟨q37, h38, hf⟩ := jde_some hf
        obtain ⟨h39, hf⟩ := jckT hf
        obtain ⟨r40, μ41, c42, m43, c44, m45, e46, hf, h47, h48⟩ := jcl_some hf
        refine wa_rcallV (st2 := [.int r40]) X dX8_setOutcome_32 lmX8_74 lMX2_key h38 h39 (mX2_key e46) rfl rfl rfl (va_cats (Nat.le_of_ble_eq_true rfl)) (by decide) (by omega) (by omega) ?_
        refine wa_iload_n X 1 dX8_setOutcome_35 rfl ?_
        refine wa_icne (tgt := 52) X dX8_setOutcome_36 (by decide) (fun h49 => ?_) (fun h49 => ?_)
        · rw [if_neg h49] at hf
          refine wa_sub (L2 := [(0, va_rf (some a)), (1, .int x1), (2, va_rf p2), (3, .int x3)]) [0, 1, 2, 3] rfl ?_
          exact gX8_setOutcome_b52 X ih a x1 p2 x3 μ41 _ _ _ _ hf (by omega) (by omega)
        · rw [if_pos h49] at hf
          refine wa_aload_n X 2 dX8_setOutcome_39 rfl ?_
          refine wa_aload_n X 0 dX8_setOutcome_40 rfl ?_
          obtain ⟨h50, hf⟩ := jckT hf
          refine wa_getP X dX8_setOutcome_41 lfX8_17 rfl h50 rfl ?_
          refine wa_iload_n X 3 dX8_setOutcome_44 rfl ?_
          obtain ⟨q51, h52, hf⟩ := jde_some hf
          obtain ⟨h53, hf⟩ := jckT hf
          obtain ⟨h54, hf⟩ := jck_some hf
          refine wa_raald (t := 105) X dX8_setOutcome_45 h52 h53 (by decide) rfl rfl h54 ?_
          obtain ⟨q55, h56, hf⟩ := jde_some hf
          obtain ⟨h57, hf⟩ := jckT hf
          refine wa_getP X dX8_setOutcome_46 lfX8_44 h56 h57 rfl ?_
          obtain ⟨q58, h59, hf⟩ := jde_some hf
          obtain ⟨h60, hf⟩ := jckT hf
          obtain ⟨u61, μ62, c63, m64, c65, m66, e67, hf, h68, h69⟩ := jcl_some hf
          refine wa_rcallV (st2 := []) X dX8_setOutcome_49 lmX8_90 lMX1_or h59 h60 (mX1_or e67) rfl rfl rfl (va_cats (Nat.le_of_ble_eq_true rfl)) (by decide) (by omega) (by omega) ?_
          refine wa_sub (L2 := [(0, va_rf (some a)), (1, .int x1), (2, va_rf p2), (3, .int x3)]) [0, 1, 2, 3] rfl ?_
          exact gX8_setOutcome_b52 X ih a x1 p2 x3 μ62 _ _ _ _ hf (by omega) (by omega)
def fX8_setOutcome (a : Nat) (x1 : Int32) (p2 : Option Nat) (μ : JM) : JO (Unit) := jde p2 fun q1 => jck ((jT μ q1).1 == 2) <| jcl (fX1_clear q1 μ) fun u4 μ5 => fX8_setOutcome_b6  jfuel a x1 p2 (0 : Int32) μ5
set_option maxHeartbeats 4000000 in
set_option maxRecDepth 100000 in
theorem mX8_setOutcome {b : Nat} {a : Nat} {x1 : Int32} {p2 : Option Nat} {μ : JM} {r : Unit} {ν : JM} {c m : Nat} (hf : fX8_setOutcome a x1 p2 μ = some (r, ν, c, m)) : JMet b yX8_setOutcome cX8_setOutcome 4 none 1 22 [va_rf (some a), .int x1, va_rf p2] μ (none) ν c m := by
  refine JMet.of (by decide) (lg_sl_le (by simp only [List.map_cons, List.map_nil, List.sum_cons, List.sum_nil, va_rf_cat]; exact Nat.le_of_ble_eq_true rfl)) (fun Θ X hin => ?_)
  refine wa_eq (L2 := [(0, va_rf (some a)), (1, .int x1), (2, va_rf p2)]) ?_ rfl (by first | rfl | simp [lv_args, va_rf_cat, cat_i, cat_l]) rfl
  obtain ⟨k, hk0⟩ : ∃ k : Nat, k = 0 := ⟨0, rfl⟩
  obtain ⟨n, hn0⟩ : ∃ n : Nat, n = 0 := ⟨0, rfl⟩
  have hk : k + c = c := by omega
  have hn : n + m = m := by omega
  refine wa_costs hk0.symm hn0.symm ?_
  rw [fX8_setOutcome] at hf
  refine wa_aload_n X 2 dX8_setOutcome_0 rfl ?_
  obtain ⟨q1, h2, hf⟩ := jde_some hf
  obtain ⟨h3, hf⟩ := jckT hf
  obtain ⟨u4, μ5, c6, m7, c8, m9, e10, hf, h11, h12⟩ := jcl_some hf
  refine wa_rcallV (st2 := []) X dX8_setOutcome_1 lmX8_93 lMX1_clear h2 h3 (mX1_clear e10) rfl rfl rfl (va_cats (Nat.le_of_ble_eq_true rfl)) (by decide) (by omega) (by omega) ?_
  refine wa_iconst (v := (0 : Int32)) X dX8_setOutcome_4 (by decide) ?_
  refine wa_istore_n (L2 := [(3, .int (0 : Int32)), (0, va_rf (some a)), (1, .int x1), (2, va_rf p2)]) X dX8_setOutcome_5 (by decide) (by first | rfl | (show (3, _) :: List.filter (fun q : Nat × Value => !(q.1 == 3) && !(q.1 + 1 == 3 && q.2.category == 2)) _ = _; simp [va_rf_cat, cat_i, cat_l])) ?_
  refine wa_sub (L2 := [(0, va_rf (some a)), (1, .int x1), (2, va_rf p2), (3, .int (0 : Int32))]) [1, 2, 3, 0] rfl ?_
  exact gX8_setOutcome_b6 X jfuel a x1 p2 (0 : Int32) μ5 _ _ _ _ hf (by omega) (by omega)
theorem dX8_addUnlike_0 : decode cX8_addUnlike 0 = .ok (.new 49, 3) := by decide +kernel
theorem dX8_addUnlike_3 : decode cX8_addUnlike 3 = .ok (.dup, 1) := by decide +kernel
theorem dX8_addUnlike_4 : decode cX8_addUnlike 4 = .ok (.invokespecial 82, 3) := by decide +kernel
theorem dX8_addUnlike_7 : decode cX8_addUnlike 7 = .ok (.astore_n 3, 1) := by decide +kernel
theorem dX8_addUnlike_8 : decode cX8_addUnlike 8 = .ok (.new 49, 3) := by decide +kernel
theorem dX8_addUnlike_11 : decode cX8_addUnlike 11 = .ok (.dup, 1) := by decide +kernel
theorem dX8_addUnlike_12 : decode cX8_addUnlike 12 = .ok (.invokespecial 82, 3) := by decide +kernel
theorem dX8_addUnlike_15 : decode cX8_addUnlike 15 = .ok (.astore 4, 2) := by decide +kernel
theorem dX8_addUnlike_17 : decode cX8_addUnlike 17 = .ok (.iconst 0, 1) := by decide +kernel
theorem dX8_addUnlike_18 : decode cX8_addUnlike 18 = .ok (.istore 5, 2) := by decide +kernel
theorem dX8_addUnlike_20 : decode cX8_addUnlike 20 = .ok (.iload 5, 2) := by decide +kernel
theorem dX8_addUnlike_22 : decode cX8_addUnlike 22 = .ok (.aload_n 0, 1) := by decide +kernel
theorem dX8_addUnlike_23 : decode cX8_addUnlike 23 = .ok (.getfield 27, 3) := by decide +kernel
theorem dX8_addUnlike_26 : decode cX8_addUnlike 26 = .ok (.if_icmp .ge 64, 3) := by decide +kernel
theorem dX8_addUnlike_29 : decode cX8_addUnlike 29 = .ok (.aload_n 0, 1) := by decide +kernel
theorem dX8_addUnlike_30 : decode cX8_addUnlike 30 = .ok (.getfield 17, 3) := by decide +kernel
theorem dX8_addUnlike_33 : decode cX8_addUnlike 33 = .ok (.iload 5, 2) := by decide +kernel
theorem dX8_addUnlike_35 : decode cX8_addUnlike 35 = .ok (.aaload, 1) := by decide +kernel
theorem dX8_addUnlike_36 : decode cX8_addUnlike 36 = .ok (.invokevirtual 66, 3) := by decide +kernel
theorem dX8_addUnlike_39 : decode cX8_addUnlike 39 = .ok (.ifCond .ne 45, 3) := by decide +kernel
theorem dX8_addUnlike_42 : decode cX8_addUnlike 42 = .ok (.aload_n 0, 1) := by decide +kernel
theorem dX8_addUnlike_43 : decode cX8_addUnlike 43 = .ok (.aload_n 0, 1) := by decide +kernel
theorem dX8_addUnlike_44 : decode cX8_addUnlike 44 = .ok (.getfield 17, 3) := by decide +kernel
theorem dX8_addUnlike_47 : decode cX8_addUnlike 47 = .ok (.iload 5, 2) := by decide +kernel
theorem dX8_addUnlike_49 : decode cX8_addUnlike 49 = .ok (.aaload, 1) := by decide +kernel
theorem dX8_addUnlike_50 : decode cX8_addUnlike 50 = .ok (.invokevirtual 74, 3) := by decide +kernel
theorem dX8_addUnlike_53 : decode cX8_addUnlike 53 = .ok (.aload_n 3, 1) := by decide +kernel
theorem dX8_addUnlike_54 : decode cX8_addUnlike 54 = .ok (.invokevirtual 83, 3) := by decide +kernel
theorem dX8_addUnlike_57 : decode cX8_addUnlike 57 = .ok (.aload_n 1, 1) := by decide +kernel
theorem dX8_addUnlike_58 : decode cX8_addUnlike 58 = .ok (.aload_n 0, 1) := by decide +kernel
theorem dX8_addUnlike_59 : decode cX8_addUnlike 59 = .ok (.getfield 17, 3) := by decide +kernel
theorem dX8_addUnlike_62 : decode cX8_addUnlike 62 = .ok (.iload 5, 2) := by decide +kernel
theorem dX8_addUnlike_64 : decode cX8_addUnlike 64 = .ok (.aaload, 1) := by decide +kernel
theorem dX8_addUnlike_65 : decode cX8_addUnlike 65 = .ok (.invokevirtual 74, 3) := by decide +kernel
theorem dX8_addUnlike_68 : decode cX8_addUnlike 68 = .ok (.aload 4, 2) := by decide +kernel
theorem dX8_addUnlike_70 : decode cX8_addUnlike 70 = .ok (.invokevirtual 83, 3) := by decide +kernel
theorem dX8_addUnlike_73 : decode cX8_addUnlike 73 = .ok (.aload_n 3, 1) := by decide +kernel
theorem dX8_addUnlike_74 : decode cX8_addUnlike 74 = .ok (.aload 4, 2) := by decide +kernel
theorem dX8_addUnlike_76 : decode cX8_addUnlike 76 = .ok (.invokevirtual 87, 3) := by decide +kernel
theorem dX8_addUnlike_79 : decode cX8_addUnlike 79 = .ok (.aload_n 2, 1) := by decide +kernel
theorem dX8_addUnlike_80 : decode cX8_addUnlike 80 = .ok (.aload_n 3, 1) := by decide +kernel
theorem dX8_addUnlike_81 : decode cX8_addUnlike 81 = .ok (.invokevirtual 90, 3) := by decide +kernel
theorem dX8_addUnlike_84 : decode cX8_addUnlike 84 = .ok (.iinc 5 1, 3) := by decide +kernel
theorem dX8_addUnlike_87 : decode cX8_addUnlike 87 = .ok (.goto (-67), 3) := by decide +kernel
theorem dX8_addUnlike_90 : decode cX8_addUnlike 90 = .ok (.return_, 1) := by decide +kernel
def fX8_addUnlike_b84 (rec20 : Nat → Option Nat → Option Nat → Option Nat → Option Nat → Int32 → JM → JO (Unit)) (a : Nat) (p1 : Option Nat) (p2 : Option Nat) (p3 : Option Nat) (p4 : Option Nat) (x5 : Int32) (μ : JM) : JO (Unit) := rec20 a p1 p2 p3 p4 (x5 + (1 : Int32)) μ
set_option maxHeartbeats 4000000 in
set_option maxRecDepth 100000 in
theorem gX8_addUnlike_b84 {b : Nat} {Θ : JE} {RC RS : Nat} {r : Unit} {ν : JM} (X : jX b Θ RX8 cX8_addUnlike 6 none 2 45 RC RS) {rec20 : Nat → Option Nat → Option Nat → Option Nat → Option Nat → Int32 → JM → JO (Unit)} (hrec20 : ∀ (a : Nat) (p1 : Option Nat) (p2 : Option Nat) (p3 : Option Nat) (p4 : Option Nat) (x5 : Int32) (μ : JM) (c m k n : Nat), rec20 a p1 p2 p3 p4 x5 μ = some (r, ν, c, m) → k + c = RC → n + m = RS → WA b Θ 6 (jE b Θ (none) ν RC RS) μ k n 20 [(0, va_rf (some a)), (1, va_rf p1), (2, va_rf p2), (3, va_rf p3), (4, va_rf p4), (5, .int x5)] []) (a : Nat) (p1 : Option Nat) (p2 : Option Nat) (p3 : Option Nat) (p4 : Option Nat) (x5 : Int32) (μ : JM) (c m k n : Nat) (hf : fX8_addUnlike_b84 rec20 a p1 p2 p3 p4 x5 μ = some (r, ν, c, m)) (hk : k + c = RC) (hn : n + m = RS) : WA b Θ 6 (jE b Θ (none) ν RC RS) μ k n 84 [(0, va_rf (some a)), (1, va_rf p1), (2, va_rf p2), (3, va_rf p3), (4, va_rf p4), (5, .int x5)] [] := by
  rw [fX8_addUnlike_b84] at hf
  refine wa_iinc (v := (x5 + (1 : Int32))) (L2 := [(5, .int (x5 + (1 : Int32))), (0, va_rf (some a)), (1, va_rf p1), (2, va_rf p2), (3, va_rf p3), (4, va_rf p4)]) X 5 dX8_addUnlike_84 rfl rfl (by decide) (by first | rfl | simp [va_rf_cat, cat_i, cat_l]) ?_
  refine wa_goto (tgt := 20) X dX8_addUnlike_87 (by decide) ?_
  refine wa_sub (L2 := [(0, va_rf (some a)), (1, va_rf p1), (2, va_rf p2), (3, va_rf p3), (4, va_rf p4), (5, .int (x5 + (1 : Int32)))]) [1, 2, 3, 4, 5, 0] rfl ?_
  exact hrec20 a p1 p2 p3 p4 (x5 + (1 : Int32)) μ _ _ _ _ hf (by omega) (by omega)
def fX8_addUnlike_b20 : Nat → Nat → Option Nat → Option Nat → Option Nat → Option Nat → Int32 → JM → JO (Unit)
  | 0, _, _, _, _, _, _, _ => none
  | fu + 1, a, p1, p2, p3, p4, x5, μ => jck ((jT μ a).1 == 9) <| if (jI μ a 2) ≤ x5 then (some ((), μ, 0, 0)) else (jde (jP μ a 0) fun q39 => jck ((jT μ q39).1 == 105) <| jck (jin x5 (jT μ q39).2) <| jde (jP μ q39 (x5).toNatClampNeg) fun q43 => jck ((jT μ q43).1 == 3) <| jcl (fX2_isDefine q43 μ) fun r46 μ47 => if r46 = 0 then (jck ((jT μ47 a).1 == 9) <| jde (jP μ47 a 0) fun q57 => jck ((jT μ47 q57).1 == 105) <| jck (jin x5 (jT μ47 q57).2) <| jde (jP μ47 q57 (x5).toNatClampNeg) fun q61 => jck ((jT μ47 q61).1 == 3) <| jcl (fX2_key q61 μ47) fun r64 μ65 => jck ((jT μ65 a).1 == 9) <| jcl (fX8_setOutcome a r64 p3 μ65) fun u74 μ75 => jck ((jT μ75 a).1 == 9) <| jde (jP μ75 a 0) fun q84 => jck ((jT μ75 q84).1 == 105) <| jck (jin x5 (jT μ75 q84).2) <| jde (jP μ75 q84 (x5).toNatClampNeg) fun q88 => jck ((jT μ75 q88).1 == 3) <| jcl (fX2_key q88 μ75) fun r91 μ92 => jde p1 fun q100 => jck ((jT μ92 q100).1 == 9) <| jcl (fX8_setOutcome q100 r91 p4 μ92) fun u103 μ104 => jde p3 fun q112 => jck ((jT μ104 q112).1 == 2) <| jcl (fX1_xor q112 p4 μ104) fun u115 μ116 => jde p2 fun q124 => jck ((jT μ116 q124).1 == 2) <| jcl (fX1_or q124 p3 μ116) fun u127 μ128 => fX8_addUnlike_b84 (fX8_addUnlike_b20 fu) a p1 p2 p3 p4 x5 μ128) else (fX8_addUnlike_b84 (fX8_addUnlike_b20 fu) a p1 p2 p3 p4 x5 μ47))
set_option maxHeartbeats 4000000 in
set_option maxRecDepth 100000 in
theorem gX8_addUnlike_b20 {b : Nat} {Θ : JE} {RC RS : Nat} {r : Unit} {ν : JM} (X : jX b Θ RX8 cX8_addUnlike 6 none 2 45 RC RS) : ∀ (fu : Nat) (a : Nat) (p1 : Option Nat) (p2 : Option Nat) (p3 : Option Nat) (p4 : Option Nat) (x5 : Int32) (μ : JM) (c m k n : Nat), fX8_addUnlike_b20 fu a p1 p2 p3 p4 x5 μ = some (r, ν, c, m) → k + c = RC → n + m = RS → WA b Θ 6 (jE b Θ (none) ν RC RS) μ k n 20 [(0, va_rf (some a)), (1, va_rf p1), (2, va_rf p2), (3, va_rf p3), (4, va_rf p4), (5, .int x5)] [] := by
  intro fu
  induction fu with
  | zero => intro a p1 p2 p3 p4 x5 μ c m k n hf; cases hf
  | succ fu ih =>
    intro a p1 p2 p3 p4 x5 μ c m k n hf hk hn
    rw [fX8_addUnlike_b20] at hf
    refine wa_iload X 5 dX8_addUnlike_20 rfl ?_
    refine wa_aload_n X 0 dX8_addUnlike_22 rfl ?_
    obtain ⟨h37, hf⟩ := jckT hf
    refine wa_getI X dX8_addUnlike_23 lfX8_27 rfl h37 rfl ?_
    refine wa_icge (tgt := 90) X dX8_addUnlike_26 (by decide) (fun h38 => ?_) (fun h38 => ?_)
    · rw [if_pos h38] at hf
      obtain ⟨rfl, rfl, rfl, rfl⟩ := jret hf
      exact wa_vret X dX8_addUnlike_90 (by omega) (by omega)
    · rw [if_neg h38] at hf
      refine wa_aload_n X 0 dX8_addUnlike_29 rfl ?_
      refine wa_getP X dX8_addUnlike_30 lfX8_17 rfl h37 rfl ?_
      refine wa_iload X 5 dX8_addUnlike_33 rfl ?_
      obtain ⟨q39, h40, hf⟩ := jde_some hf
      obtain ⟨h41, hf⟩ := jckT hf
      obtain ⟨h42, hf⟩ := jck_some hf
      refine wa_raald (t := 105) X dX8_addUnlike_35 h40 h41 (by decide) rfl rfl h42 ?_
      obtain ⟨q43, h44, hf⟩ := jde_some hf
      obtain ⟨h45, hf⟩ := jckT hf
      obtain ⟨r46, μ47, c48, m49, c50, m51, e52, hf, h53, h54⟩ := jcl_some hf
      refine wa_rcallV (st2 := [.int r46]) X dX8_addUnlike_36 lmX8_66 lMX2_isDefine h44 h45 (mX2_isDefine e52) rfl rfl rfl (va_cats (Nat.le_of_ble_eq_true rfl)) (by decide) (by omega) (by omega) ?_
      refine wa_ifne (tgt := 84) X dX8_addUnlike_39 (by decide) (fun h55 => ?_) (fun h55 => ?_)
      · rw [if_neg h55] at hf
        refine wa_sub (L2 := [(0, va_rf (some a)), (1, va_rf p1), (2, va_rf p2), (3, va_rf p3), (4, va_rf p4), (5, .int x5)]) [0, 1, 2, 3, 4, 5] rfl ?_
        exact gX8_addUnlike_b84 X ih a p1 p2 p3 p4 x5 μ47 _ _ _ _ hf (by omega) (by omega)
      · rw [if_pos h55] at hf
        refine wa_aload_n X 0 dX8_addUnlike_42 rfl ?_
        refine wa_aload_n X 0 dX8_addUnlike_43 rfl ?_
        obtain ⟨h56, hf⟩ := jckT hf
        refine wa_getP X dX8_addUnlike_44 lfX8_17 rfl h56 rfl ?_
        refine wa_iload X 5 dX8_addUnlike_47 rfl ?_
        obtain ⟨q57, h58, hf⟩ := jde_some hf
        obtain ⟨h59, hf⟩ := jckT hf
        obtain ⟨h60, hf⟩ := jck_some hf
        refine wa_raald (t := 105) X dX8_addUnlike_49 h58 h59 (by decide) rfl rfl h60 ?_
        obtain ⟨q61, h62, hf⟩ := jde_some hf
        obtain ⟨h63, hf⟩ := jckT hf
        obtain ⟨r64, μ65, c66, m67, c68, m69, e70, hf, h71, h72⟩ := jcl_some hf
        refine wa_rcallV (st2 := [.int r64, va_rf (some a)]) X dX8_addUnlike_50 lmX8_74 lMX2_key h62 h63 (mX2_key e70) rfl rfl rfl (va_cats (Nat.le_of_ble_eq_true rfl)) (by decide) (by omega) (by omega) ?_
        refine wa_aload_n X 3 dX8_addUnlike_53 rfl ?_
        obtain ⟨h73, hf⟩ := jckT hf
        obtain ⟨u74, μ75, c76, m77, c78, m79, e80, hf, h81, h82⟩ := jcl_some hf
        refine wa_rcallV (st2 := []) X dX8_addUnlike_54 lmX8_83 lMX8_setOutcome rfl h73 (mX8_setOutcome e80) rfl rfl rfl (va_cats (Nat.le_of_ble_eq_true rfl)) (by decide) (by omega) (by omega) ?_
        refine wa_aload_n X 1 dX8_addUnlike_57 rfl ?_
        refine wa_aload_n X 0 dX8_addUnlike_58 rfl ?_
        obtain ⟨h83, hf⟩ := jckT hf
        refine wa_getP X dX8_addUnlike_59 lfX8_17 rfl h83 rfl ?_
        refine wa_iload X 5 dX8_addUnlike_62 rfl ?_
        obtain ⟨q84, h85, hf⟩ := jde_some hf
        obtain ⟨h86, hf⟩ := jckT hf
        obtain ⟨h87, hf⟩ := jck_some hf
        refine wa_raald (t := 105) X dX8_addUnlike_64 h85 h86 (by decide) rfl rfl h87 ?_
        obtain ⟨q88, h89, hf⟩ := jde_some hf
        obtain ⟨h90, hf⟩ := jckT hf
        obtain ⟨r91, μ92, c93, m94, c95, m96, e97, hf, h98, h99⟩ := jcl_some hf
        refine wa_rcallV (st2 := [.int r91, va_rf p1]) X dX8_addUnlike_65 lmX8_74 lMX2_key h89 h90 (mX2_key e97) rfl rfl rfl (va_cats (Nat.le_of_ble_eq_true rfl)) (by decide) (by omega) (by omega) ?_
        refine wa_aload X 4 dX8_addUnlike_68 rfl ?_
        obtain ⟨q100, h101, hf⟩ := jde_some hf
        obtain ⟨h102, hf⟩ := jckT hf
        obtain ⟨u103, μ104, c105, m106, c107, m108, e109, hf, h110, h111⟩ := jcl_some hf
        refine wa_rcallV (st2 := []) X dX8_addUnlike_70 lmX8_83 lMX8_setOutcome h101 h102 (mX8_setOutcome e109) rfl rfl rfl (va_cats (Nat.le_of_ble_eq_true rfl)) (by decide) (by omega) (by omega) ?_
        refine wa_aload_n X 3 dX8_addUnlike_73 rfl ?_
        refine wa_aload X 4 dX8_addUnlike_74 rfl ?_
        obtain ⟨q112, h113, hf⟩ := jde_some hf
        obtain ⟨h114, hf⟩ := jckT hf
        obtain ⟨u115, μ116, c117, m118, c119, m120, e121, hf, h122, h123⟩ := jcl_some hf
        refine wa_rcallV (st2 := []) X dX8_addUnlike_76 lmX8_87 lMX1_xor h113 h114 (mX1_xor e121) rfl rfl rfl (va_cats (Nat.le_of_ble_eq_true rfl)) (by decide) (by omega) (by omega) ?_
        refine wa_aload_n X 2 dX8_addUnlike_79 rfl ?_
        refine wa_aload_n X 3 dX8_addUnlike_80 rfl ?_
        obtain ⟨q124, h125, hf⟩ := jde_some hf
        obtain ⟨h126, hf⟩ := jckT hf
        obtain ⟨u127, μ128, c129, m130, c131, m132, e133, hf, h134, h135⟩ := jcl_some hf
        refine wa_rcallV (st2 := []) X dX8_addUnlike_81 lmX8_90 lMX1_or h125 h126 (mX1_or e133) rfl rfl rfl (va_cats (Nat.le_of_ble_eq_true rfl)) (by decide) (by omega) (by omega) ?_
        refine wa_sub (L2 := [(0, va_rf (some a)), (1, va_rf p1), (2, va_rf p2), (3, va_rf p3), (4, va_rf p4), (5, .int x5)]) [0, 1, 2, 3, 4, 5] rfl ?_
        exact gX8_addUnlike_b84 X ih a p1 p2 p3 p4 x5 μ128 _ _ _ _ hf (by omega) (by omega)
def fX8_addUnlike (a : Nat) (p1 : Option Nat) (p2 : Option Nat) (μ : JM) : JO (Unit) := jnwo μ 2 1 fun q1 μ2 => jcl (fX1_init q1 μ2) fun u10 μ11 => jnwo μ11 2 1 fun q19 μ20 => jcl (fX1_init q19 μ20) fun u28 μ29 => fX8_addUnlike_b20  jfuel a p1 p2 (some q1) (some q19) (0 : Int32) μ29
set_option maxHeartbeats 4000000 in
set_option maxRecDepth 100000 in
theorem mX8_addUnlike {b : Nat} {a : Nat} {p1 : Option Nat} {p2 : Option Nat} {μ : JM} {r : Unit} {ν : JM} {c m : Nat} (hf : fX8_addUnlike a p1 p2 μ = some (r, ν, c, m)) : JMet b yX8_addUnlike cX8_addUnlike 6 none 2 45 [va_rf (some a), va_rf p1, va_rf p2] μ (none) ν c m := by
  refine JMet.of (by decide) (lg_sl_le (by simp only [List.map_cons, List.map_nil, List.sum_cons, List.sum_nil, va_rf_cat]; exact Nat.le_of_ble_eq_true rfl)) (fun Θ X hin => ?_)
  refine wa_eq (L2 := [(0, va_rf (some a)), (1, va_rf p1), (2, va_rf p2)]) ?_ rfl (by first | rfl | simp [lv_args, va_rf_cat, cat_i, cat_l]) rfl
  obtain ⟨k, hk0⟩ : ∃ k : Nat, k = 0 := ⟨0, rfl⟩
  obtain ⟨n, hn0⟩ : ∃ n : Nat, n = 0 := ⟨0, rfl⟩
  have hk : k + c = c := by omega
  have hn : n + m = m := by omega
  refine wa_costs hk0.symm hn0.symm ?_
  rw [fX8_addUnlike] at hf
  obtain ⟨q1, μ2, c5, m6, h3, hm4, hf, h7, h8⟩ := jnwo_some hf
  refine wa_new (t := 2) (N := 1) X dX8_addUnlike_0 (by decide) rfl lcX8_49 li_RX1 ln_RX1 (by omega) (by omega) ?_
  rw [← h3, ← hm4]
  have h9 : (jT μ2 q1).1 = 2 := by rw [jT_at h3 hm4]
  refine wa_dup X dX8_addUnlike_3 (va_rf_cat _) ?_
  obtain ⟨u10, μ11, c12, m13, c14, m15, e16, hf, h17, h18⟩ := jcl_some hf
  refine wa_rcallI (st2 := [va_rf (some q1)]) X dX8_addUnlike_4 lmX8_82 lMX1_init rfl (mX1_init e16) rfl rfl rfl (va_cats (Nat.le_of_ble_eq_true rfl)) (by decide) (by omega) (by omega) ?_
  refine wa_astore_n (L2 := [(3, va_rf (some q1)), (0, va_rf (some a)), (1, va_rf p1), (2, va_rf p2)]) X dX8_addUnlike_7 (by decide) (by first | rfl | (show (3, _) :: List.filter (fun q : Nat × Value => !(q.1 == 3) && !(q.1 + 1 == 3 && q.2.category == 2)) _ = _; simp [va_rf_cat, cat_i, cat_l])) ?_
  obtain ⟨q19, μ20, c23, m24, h21, hm22, hf, h25, h26⟩ := jnwo_some hf
  refine wa_new (t := 2) (N := 1) X dX8_addUnlike_8 (by decide) rfl lcX8_49 li_RX1 ln_RX1 (by omega) (by omega) ?_
  rw [← h21, ← hm22]
  have h27 : (jT μ20 q19).1 = 2 := by rw [jT_at h21 hm22]
  refine wa_dup X dX8_addUnlike_11 (va_rf_cat _) ?_
  obtain ⟨u28, μ29, c30, m31, c32, m33, e34, hf, h35, h36⟩ := jcl_some hf
  refine wa_rcallI (st2 := [va_rf (some q19)]) X dX8_addUnlike_12 lmX8_82 lMX1_init rfl (mX1_init e34) rfl rfl rfl (va_cats (Nat.le_of_ble_eq_true rfl)) (by decide) (by omega) (by omega) ?_
  refine wa_astore (L2 := [(4, va_rf (some q19)), (3, va_rf (some q1)), (0, va_rf (some a)), (1, va_rf p1), (2, va_rf p2)]) X dX8_addUnlike_15 (by decide) (by first | rfl | (show (4, _) :: List.filter (fun q : Nat × Value => !(q.1 == 4) && !(q.1 + 1 == 4 && q.2.category == 2)) _ = _; simp [va_rf_cat, cat_i, cat_l])) ?_
  refine wa_iconst (v := (0 : Int32)) X dX8_addUnlike_17 (by decide) ?_
  refine wa_istore (L2 := [(5, .int (0 : Int32)), (4, va_rf (some q19)), (3, va_rf (some q1)), (0, va_rf (some a)), (1, va_rf p1), (2, va_rf p2)]) X dX8_addUnlike_18 (by decide) (by first | rfl | (show (5, _) :: List.filter (fun q : Nat × Value => !(q.1 == 5) && !(q.1 + 1 == 5 && q.2.category == 2)) _ = _; simp [va_rf_cat, cat_i, cat_l])) ?_
  refine wa_sub (L2 := [(0, va_rf (some a)), (1, va_rf p1), (2, va_rf p2), (3, va_rf (some q1)), (4, va_rf (some q19)), (5, .int (0 : Int32))]) [3, 4, 5, 2, 1, 0] rfl ?_
  exact gX8_addUnlike_b20 X jfuel a p1 p2 (some q1) (some q19) (0 : Int32) μ29 _ _ _ _ hf (by omega) (by omega)
theorem dX8_compareClause_0 : decode cX8_compareClause 0 = .ok (.aload_n 3, 1) := by decide +kernel
theorem dX8_compareClause_1 : decode cX8_compareClause 1 = .ok (.invokevirtual 93, 3) := by decide +kernel
theorem dX8_compareClause_4 : decode cX8_compareClause 4 = .ok (.aload_n 0, 1) := by decide +kernel
theorem dX8_compareClause_5 : decode cX8_compareClause 5 = .ok (.iload_n 1, 1) := by decide +kernel
theorem dX8_compareClause_6 : decode cX8_compareClause 6 = .ok (.invokevirtual 96, 3) := by decide +kernel
theorem dX8_compareClause_9 : decode cX8_compareClause 9 = .ok (.astore 4, 2) := by decide +kernel
theorem dX8_compareClause_11 : decode cX8_compareClause 11 = .ok (.aload 4, 2) := by decide +kernel
theorem dX8_compareClause_13 : decode cX8_compareClause 13 = .ok (.ifnull 11, 3) := by decide +kernel
theorem dX8_compareClause_16 : decode cX8_compareClause 16 = .ok (.aload 4, 2) := by decide +kernel
theorem dX8_compareClause_18 : decode cX8_compareClause 18 = .ok (.invokevirtual 66, 3) := by decide +kernel
theorem dX8_compareClause_21 : decode cX8_compareClause 21 = .ok (.ifCond .eq 4, 3) := by decide +kernel
theorem dX8_compareClause_24 : decode cX8_compareClause 24 = .ok (.return_, 1) := by decide +kernel
theorem dX8_compareClause_25 : decode cX8_compareClause 25 = .ok (.aload_n 3, 1) := by decide +kernel
theorem dX8_compareClause_26 : decode cX8_compareClause 26 = .ok (.aload 4, 2) := by decide +kernel
theorem dX8_compareClause_28 : decode cX8_compareClause 28 = .ok (.getfield 44, 3) := by decide +kernel
theorem dX8_compareClause_31 : decode cX8_compareClause 31 = .ok (.invokevirtual 100, 3) := by decide +kernel
theorem dX8_compareClause_34 : decode cX8_compareClause 34 = .ok (.aload_n 2, 1) := by decide +kernel
theorem dX8_compareClause_35 : decode cX8_compareClause 35 = .ok (.aload_n 2, 1) := by decide +kernel
theorem dX8_compareClause_36 : decode cX8_compareClause 36 = .ok (.aload 4, 2) := by decide +kernel
theorem dX8_compareClause_38 : decode cX8_compareClause 38 = .ok (.getfield 34, 3) := by decide +kernel
theorem dX8_compareClause_41 : decode cX8_compareClause 41 = .ok (.iconst 0, 1) := by decide +kernel
theorem dX8_compareClause_42 : decode cX8_compareClause 42 = .ok (.invokevirtual 103, 3) := by decide +kernel
theorem dX8_compareClause_45 : decode cX8_compareClause 45 = .ok (.invokevirtual 96, 3) := by decide +kernel
theorem dX8_compareClause_48 : decode cX8_compareClause 48 = .ok (.astore 5, 2) := by decide +kernel
theorem dX8_compareClause_50 : decode cX8_compareClause 50 = .ok (.aload 5, 2) := by decide +kernel
theorem dX8_compareClause_52 : decode cX8_compareClause 52 = .ok (.ifnull 12, 3) := by decide +kernel
theorem dX8_compareClause_55 : decode cX8_compareClause 55 = .ok (.aload_n 3, 1) := by decide +kernel
theorem dX8_compareClause_56 : decode cX8_compareClause 56 = .ok (.aload 5, 2) := by decide +kernel
theorem dX8_compareClause_58 : decode cX8_compareClause 58 = .ok (.getfield 44, 3) := by decide +kernel
theorem dX8_compareClause_61 : decode cX8_compareClause 61 = .ok (.invokevirtual 87, 3) := by decide +kernel
theorem dX8_compareClause_64 : decode cX8_compareClause 64 = .ok (.return_, 1) := by decide +kernel
def fX8_compareClause (a : Nat) (x1 : Int32) (p2 : Option Nat) (p3 : Option Nat) (μ : JM) : JO (Unit) := jde p3 fun q1 => jck ((jT μ q1).1 == 2) <| jcl (fX1_clear q1 μ) fun u4 μ5 => jck ((jT μ5 a).1 == 9) <| jcl (fX8_at a x1 μ5) fun r14 μ15 => if r14 = none then (some ((), μ15, 0, 0)) else (jde r14 fun q24 => jck ((jT μ15 q24).1 == 3) <| jcl (fX2_isDefine q24 μ15) fun r27 μ28 => if r27 = 0 then (jck ((jT μ28 q24).1 == 3) <| jck ((jT μ28 q1).1 == 2) <| jcl (fX1_copy q1 (jP μ28 q24 8) μ28) fun u39 μ40 => jck ((jT μ40 q24).1 == 3) <| jde p2 fun q49 => jck ((jT μ40 q49).1 == 9) <| jcl (fX8_find q49 (jJ μ40 q24 1) (0 : Int32) μ40) fun r52 μ53 => jck ((jT μ53 q49).1 == 9) <| jcl (fX8_at q49 r52 μ53) fun r62 μ63 => if r62 = none then (some ((), μ63, 0, 0)) else (jde r62 fun q72 => jck ((jT μ63 q72).1 == 3) <| jck ((jT μ63 q1).1 == 2) <| jcl (fX1_xor q1 (jP μ63 q72 8) μ63) fun u76 μ77 => some ((), μ77, 0, 0))) else (some ((), μ28, 0, 0)))
set_option maxHeartbeats 4000000 in
set_option maxRecDepth 100000 in
theorem mX8_compareClause {b : Nat} {a : Nat} {x1 : Int32} {p2 : Option Nat} {p3 : Option Nat} {μ : JM} {r : Unit} {ν : JM} {c m : Nat} (hf : fX8_compareClause a x1 p2 p3 μ = some (r, ν, c, m)) : JMet b yX8_compareClause cX8_compareClause 6 none 1 24 [va_rf (some a), .int x1, va_rf p2, va_rf p3] μ (none) ν c m := by
  refine JMet.of (by decide) (lg_sl_le (by simp only [List.map_cons, List.map_nil, List.sum_cons, List.sum_nil, va_rf_cat]; exact Nat.le_of_ble_eq_true rfl)) (fun Θ X hin => ?_)
  refine wa_eq (L2 := [(0, va_rf (some a)), (1, .int x1), (2, va_rf p2), (3, va_rf p3)]) ?_ rfl (by first | rfl | simp [lv_args, va_rf_cat, cat_i, cat_l]) rfl
  obtain ⟨k, hk0⟩ : ∃ k : Nat, k = 0 := ⟨0, rfl⟩
  obtain ⟨n, hn0⟩ : ∃ n : Nat, n = 0 := ⟨0, rfl⟩
  have hk : k + c = c := by omega
  have hn : n + m = m := by omega
  refine wa_costs hk0.symm hn0.symm ?_
  rw [fX8_compareClause] at hf
  refine wa_aload_n X 3 dX8_compareClause_0 rfl ?_
  obtain ⟨q1, h2, hf⟩ := jde_some hf
  obtain ⟨h3, hf⟩ := jckT hf
  obtain ⟨u4, μ5, c6, m7, c8, m9, e10, hf, h11, h12⟩ := jcl_some hf
  refine wa_rcallV (st2 := []) X dX8_compareClause_1 lmX8_93 lMX1_clear h2 h3 (mX1_clear e10) rfl rfl rfl (va_cats (Nat.le_of_ble_eq_true rfl)) (by decide) (by omega) (by omega) ?_
  refine wa_aload_n X 0 dX8_compareClause_4 rfl ?_
  refine wa_iload_n X 1 dX8_compareClause_5 rfl ?_
  obtain ⟨h13, hf⟩ := jckT hf
  obtain ⟨r14, μ15, c16, m17, c18, m19, e20, hf, h21, h22⟩ := jcl_some hf
  refine wa_rcallV (st2 := [va_rf r14]) X dX8_compareClause_6 lmX8_96 lMX8_at rfl h13 (mX8_at e20) rfl rfl rfl (va_cats (Nat.le_of_ble_eq_true rfl)) (by decide) (by omega) (by omega) ?_
  refine wa_astore (L2 := [(4, va_rf r14), (0, va_rf (some a)), (1, .int x1), (2, va_rf p2), (3, va_rf p3)]) X dX8_compareClause_9 (by decide) (by first | rfl | (show (4, _) :: List.filter (fun q : Nat × Value => !(q.1 == 4) && !(q.1 + 1 == 4 && q.2.category == 2)) _ = _; simp [va_rf_cat, cat_i, cat_l])) ?_
  refine wa_aload X 0 dX8_compareClause_11 rfl ?_
  refine wa_ifnull (tgt := 24) X dX8_compareClause_13 (by decide) (fun h23 => ?_) (fun h23 => ?_)
  · rw [if_pos h23] at hf
    obtain ⟨rfl, rfl, rfl, rfl⟩ := jret hf
    exact wa_vret X dX8_compareClause_24 (by omega) (by omega)
  · rw [if_neg h23] at hf
    refine wa_aload X 0 dX8_compareClause_16 rfl ?_
    obtain ⟨q24, h25, hf⟩ := jde_some hf
    obtain ⟨h26, hf⟩ := jckT hf
    obtain ⟨r27, μ28, c29, m30, c31, m32, e33, hf, h34, h35⟩ := jcl_some hf
    refine wa_rcallV (st2 := [.int r27]) X dX8_compareClause_18 lmX8_66 lMX2_isDefine h25 h26 (mX2_isDefine e33) rfl rfl rfl (va_cats (Nat.le_of_ble_eq_true rfl)) (by decide) (by omega) (by omega) ?_
    refine wa_ifeq (tgt := 25) X dX8_compareClause_21 (by decide) (fun h36 => ?_) (fun h36 => ?_)
    · rw [if_pos h36] at hf
      refine wa_aload_n X 4 dX8_compareClause_25 rfl ?_
      refine wa_aload X 0 dX8_compareClause_26 rfl ?_
      obtain ⟨h37, hf⟩ := jckT hf
      refine wa_getP X dX8_compareClause_28 lfX8_44 h25 h37 rfl ?_
      obtain ⟨h38, hf⟩ := jckT hf
      obtain ⟨u39, μ40, c41, m42, c43, m44, e45, hf, h46, h47⟩ := jcl_some hf
      refine wa_rcallV (st2 := []) X dX8_compareClause_31 lmX8_100 lMX1_copy h2 h38 (mX1_copy e45) rfl rfl rfl (va_cats (Nat.le_of_ble_eq_true rfl)) (by decide) (by omega) (by omega) ?_
      refine wa_aload_n X 3 dX8_compareClause_34 rfl ?_
      refine wa_aload_n X 3 dX8_compareClause_35 rfl ?_
      refine wa_aload X 0 dX8_compareClause_36 rfl ?_
      obtain ⟨h48, hf⟩ := jckT hf
      refine wa_getJ X dX8_compareClause_38 lfX8_34 h25 h48 rfl ?_
      refine wa_iconst (v := (0 : Int32)) X dX8_compareClause_41 (by decide) ?_
      obtain ⟨q49, h50, hf⟩ := jde_some hf
      obtain ⟨h51, hf⟩ := jckT hf
      obtain ⟨r52, μ53, c54, m55, c56, m57, e58, hf, h59, h60⟩ := jcl_some hf
      refine wa_rcallV (st2 := [.int r52, va_rf p2]) X dX8_compareClause_42 lmX8_103 lMX8_find h50 h51 (mX8_find e58) rfl rfl rfl (va_cats (Nat.le_of_ble_eq_true rfl)) (by decide) (by omega) (by omega) ?_
      obtain ⟨h61, hf⟩ := jckT hf
      obtain ⟨r62, μ63, c64, m65, c66, m67, e68, hf, h69, h70⟩ := jcl_some hf
      refine wa_rcallV (st2 := [va_rf r62]) X dX8_compareClause_45 lmX8_96 lMX8_at h50 h61 (mX8_at e68) rfl rfl rfl (va_cats (Nat.le_of_ble_eq_true rfl)) (by decide) (by omega) (by omega) ?_
      refine wa_astore (L2 := [(5, va_rf r62), (4, va_rf r14), (0, va_rf (some a)), (1, .int x1), (2, va_rf p2), (3, va_rf p3)]) X dX8_compareClause_48 (by decide) (by first | rfl | (show (5, _) :: List.filter (fun q : Nat × Value => !(q.1 == 5) && !(q.1 + 1 == 5 && q.2.category == 2)) _ = _; simp [va_rf_cat, cat_i, cat_l])) ?_
      refine wa_aload X 0 dX8_compareClause_50 rfl ?_
      refine wa_ifnull (tgt := 64) X dX8_compareClause_52 (by decide) (fun h71 => ?_) (fun h71 => ?_)
      · rw [if_pos h71] at hf
        obtain ⟨rfl, rfl, rfl, rfl⟩ := jret hf
        exact wa_vret X dX8_compareClause_64 (by omega) (by omega)
      · rw [if_neg h71] at hf
        refine wa_aload_n X 5 dX8_compareClause_55 rfl ?_
        refine wa_aload X 0 dX8_compareClause_56 rfl ?_
        obtain ⟨q72, h73, hf⟩ := jde_some hf
        obtain ⟨h74, hf⟩ := jckT hf
        refine wa_getP X dX8_compareClause_58 lfX8_44 h73 h74 rfl ?_
        obtain ⟨h75, hf⟩ := jckT hf
        obtain ⟨u76, μ77, c78, m79, c80, m81, e82, hf, h83, h84⟩ := jcl_some hf
        refine wa_rcallV (st2 := []) X dX8_compareClause_61 lmX8_87 lMX1_xor h2 h75 (mX1_xor e82) rfl rfl rfl (va_cats (Nat.le_of_ble_eq_true rfl)) (by decide) (by omega) (by omega) ?_
        obtain ⟨rfl, rfl, rfl, rfl⟩ := jret hf
        exact wa_vret X dX8_compareClause_64 (by omega) (by omega)
    · rw [if_neg h36] at hf
      obtain ⟨rfl, rfl, rfl, rfl⟩ := jret hf
      exact wa_vret X dX8_compareClause_24 (by omega) (by omega)
theorem dX8_clash_0 : decode cX8_clash 0 = .ok (.aload_n 3, 1) := by decide +kernel
theorem dX8_clash_1 : decode cX8_clash 1 = .ok (.invokevirtual 93, 3) := by decide +kernel
theorem dX8_clash_4 : decode cX8_clash 4 = .ok (.aload_n 0, 1) := by decide +kernel
theorem dX8_clash_5 : decode cX8_clash 5 = .ok (.iload_n 1, 1) := by decide +kernel
theorem dX8_clash_6 : decode cX8_clash 6 = .ok (.invokevirtual 96, 3) := by decide +kernel
theorem dX8_clash_9 : decode cX8_clash 9 = .ok (.astore 4, 2) := by decide +kernel
theorem dX8_clash_11 : decode cX8_clash 11 = .ok (.aload_n 0, 1) := by decide +kernel
theorem dX8_clash_12 : decode cX8_clash 12 = .ok (.iload_n 2, 1) := by decide +kernel
theorem dX8_clash_13 : decode cX8_clash 13 = .ok (.invokevirtual 96, 3) := by decide +kernel
theorem dX8_clash_16 : decode cX8_clash 16 = .ok (.astore 5, 2) := by decide +kernel
theorem dX8_clash_18 : decode cX8_clash 18 = .ok (.aload 4, 2) := by decide +kernel
theorem dX8_clash_20 : decode cX8_clash 20 = .ok (.ifnull 26, 3) := by decide +kernel
theorem dX8_clash_23 : decode cX8_clash 23 = .ok (.aload 5, 2) := by decide +kernel
theorem dX8_clash_25 : decode cX8_clash 25 = .ok (.ifnull 21, 3) := by decide +kernel
theorem dX8_clash_28 : decode cX8_clash 28 = .ok (.aload 4, 2) := by decide +kernel
theorem dX8_clash_30 : decode cX8_clash 30 = .ok (.getfield 38, 3) := by decide +kernel
theorem dX8_clash_33 : decode cX8_clash 33 = .ok (.iconst 1, 1) := by decide +kernel
theorem dX8_clash_34 : decode cX8_clash 34 = .ok (.if_icmp .ne 12, 3) := by decide +kernel
theorem dX8_clash_37 : decode cX8_clash 37 = .ok (.aload 5, 2) := by decide +kernel
theorem dX8_clash_39 : decode cX8_clash 39 = .ok (.getfield 38, 3) := by decide +kernel
theorem dX8_clash_42 : decode cX8_clash 42 = .ok (.iconst 3, 1) := by decide +kernel
theorem dX8_clash_43 : decode cX8_clash 43 = .ok (.if_icmp .eq 4, 3) := by decide +kernel
theorem dX8_clash_46 : decode cX8_clash 46 = .ok (.return_, 1) := by decide +kernel
theorem dX8_clash_47 : decode cX8_clash 47 = .ok (.aload 4, 2) := by decide +kernel
theorem dX8_clash_49 : decode cX8_clash 49 = .ok (.getfield 107, 3) := by decide +kernel
theorem dX8_clash_52 : decode cX8_clash 52 = .ok (.aload 5, 2) := by decide +kernel
theorem dX8_clash_54 : decode cX8_clash 54 = .ok (.getfield 107, 3) := by decide +kernel
theorem dX8_clash_57 : decode cX8_clash 57 = .ok (.if_icmp .ne 34, 3) := by decide +kernel
theorem dX8_clash_60 : decode cX8_clash 60 = .ok (.aload 4, 2) := by decide +kernel
theorem dX8_clash_62 : decode cX8_clash 62 = .ok (.getfield 110, 3) := by decide +kernel
theorem dX8_clash_65 : decode cX8_clash 65 = .ok (.aload 5, 2) := by decide +kernel
theorem dX8_clash_67 : decode cX8_clash 67 = .ok (.getfield 110, 3) := by decide +kernel
theorem dX8_clash_70 : decode cX8_clash 70 = .ok (.if_icmp .ne 21, 3) := by decide +kernel
theorem dX8_clash_73 : decode cX8_clash 73 = .ok (.aload_n 3, 1) := by decide +kernel
theorem dX8_clash_74 : decode cX8_clash 74 = .ok (.aload 4, 2) := by decide +kernel
theorem dX8_clash_76 : decode cX8_clash 76 = .ok (.getfield 44, 3) := by decide +kernel
theorem dX8_clash_79 : decode cX8_clash 79 = .ok (.invokevirtual 100, 3) := by decide +kernel
theorem dX8_clash_82 : decode cX8_clash 82 = .ok (.aload_n 3, 1) := by decide +kernel
theorem dX8_clash_83 : decode cX8_clash 83 = .ok (.aload 5, 2) := by decide +kernel
theorem dX8_clash_85 : decode cX8_clash 85 = .ok (.getfield 44, 3) := by decide +kernel
theorem dX8_clash_88 : decode cX8_clash 88 = .ok (.invokevirtual 113, 3) := by decide +kernel
theorem dX8_clash_91 : decode cX8_clash 91 = .ok (.return_, 1) := by decide +kernel
def fX8_clash (a : Nat) (x1 : Int32) (x2 : Int32) (p3 : Option Nat) (μ : JM) : JO (Unit) := jde p3 fun q1 => jck ((jT μ q1).1 == 2) <| jcl (fX1_clear q1 μ) fun u4 μ5 => jck ((jT μ5 a).1 == 9) <| jcl (fX8_at a x1 μ5) fun r14 μ15 => jck ((jT μ15 a).1 == 9) <| jcl (fX8_at a x2 μ15) fun r24 μ25 => if r14 = none then (some ((), μ25, 0, 0)) else (if r24 = none then (some ((), μ25, 0, 0)) else (jde r14 fun q35 => jck ((jT μ25 q35).1 == 3) <| if (jI μ25 q35 0) = (1 : Int32) then (jde r24 fun q39 => jck ((jT μ25 q39).1 == 3) <| if (jI μ25 q39 0) = (3 : Int32) then (if (jI μ25 q35 2) = (jI μ25 q39 2) then (if (jI μ25 q35 3) = (jI μ25 q39 3) then (jck ((jT μ25 q1).1 == 2) <| jcl (fX1_copy q1 (jP μ25 q35 8) μ25) fun u46 μ47 => jck ((jT μ47 q39).1 == 3) <| jck ((jT μ47 q1).1 == 2) <| jcl (fX1_and q1 (jP μ47 q39 8) μ47) fun u57 μ58 => some ((), μ58, 0, 0)) else (some ((), μ25, 0, 0))) else (some ((), μ25, 0, 0))) else (some ((), μ25, 0, 0))) else (some ((), μ25, 0, 0))))
set_option maxHeartbeats 4000000 in
set_option maxRecDepth 100000 in
theorem mX8_clash {b : Nat} {a : Nat} {x1 : Int32} {x2 : Int32} {p3 : Option Nat} {μ : JM} {r : Unit} {ν : JM} {c m : Nat} (hf : fX8_clash a x1 x2 p3 μ = some (r, ν, c, m)) : JMet b yX8_clash cX8_clash 6 none 1 22 [va_rf (some a), .int x1, .int x2, va_rf p3] μ (none) ν c m := by
  refine JMet.of (by decide) (lg_sl_le (by simp only [List.map_cons, List.map_nil, List.sum_cons, List.sum_nil, va_rf_cat]; exact Nat.le_of_ble_eq_true rfl)) (fun Θ X hin => ?_)
  refine wa_eq (L2 := [(0, va_rf (some a)), (1, .int x1), (2, .int x2), (3, va_rf p3)]) ?_ rfl (by first | rfl | simp [lv_args, va_rf_cat, cat_i, cat_l]) rfl
  obtain ⟨k, hk0⟩ : ∃ k : Nat, k = 0 := ⟨0, rfl⟩
  obtain ⟨n, hn0⟩ : ∃ n : Nat, n = 0 := ⟨0, rfl⟩
  have hk : k + c = c := by omega
  have hn : n + m = m := by omega
  refine wa_costs hk0.symm hn0.symm ?_
  rw [fX8_clash] at hf
  refine wa_aload_n X 3 dX8_clash_0 rfl ?_
  obtain ⟨q1, h2, hf⟩ := jde_some hf
  obtain ⟨h3, hf⟩ := jckT hf
  obtain ⟨u4, μ5, c6, m7, c8, m9, e10, hf, h11, h12⟩ := jcl_some hf
  refine wa_rcallV (st2 := []) X dX8_clash_1 lmX8_93 lMX1_clear h2 h3 (mX1_clear e10) rfl rfl rfl (va_cats (Nat.le_of_ble_eq_true rfl)) (by decide) (by omega) (by omega) ?_
  refine wa_aload_n X 0 dX8_clash_4 rfl ?_
  refine wa_iload_n X 1 dX8_clash_5 rfl ?_
  obtain ⟨h13, hf⟩ := jckT hf
  obtain ⟨r14, μ15, c16, m17, c18, m19, e20, hf, h21, h22⟩ := jcl_some hf
  refine wa_rcallV (st2 := [va_rf r14]) X dX8_clash_6 lmX8_96 lMX8_at rfl h13 (mX8_at e20) rfl rfl rfl (va_cats (Nat.le_of_ble_eq_true rfl)) (by decide) (by omega) (by omega) ?_
  refine wa_astore (L2 := [(4, va_rf r14), (0, va_rf (some a)), (1, .int x1), (2, .int x2), (3, va_rf p3)]) X dX8_clash_9 (by decide) (by first | rfl | (show (4, _) :: List.filter (fun q : Nat × Value => !(q.1 == 4) && !(q.1 + 1 == 4 && q.2.category == 2)) _ = _; simp [va_rf_cat, cat_i, cat_l])) ?_
  refine wa_aload_n X 1 dX8_clash_11 rfl ?_
  refine wa_iload_n X 3 dX8_clash_12 rfl ?_
  obtain ⟨h23, hf⟩ := jckT hf
  obtain ⟨r24, μ25, c26, m27, c28, m29, e30, hf, h31, h32⟩ := jcl_some hf
  refine wa_rcallV (st2 := [va_rf r24]) X dX8_clash_13 lmX8_96 lMX8_at rfl h23 (mX8_at e30) rfl rfl rfl (va_cats (Nat.le_of_ble_eq_true rfl)) (by decide) (by omega) (by omega) ?_
  refine wa_astore (L2 := [(5, va_rf r24), (4, va_rf r14), (0, va_rf (some a)), (1, .int x1), (2, .int x2), (3, va_rf p3)]) X dX8_clash_16 (by decide) (by first | rfl | (show (5, _) :: List.filter (fun q : Nat × Value => !(q.1 == 5) && !(q.1 + 1 == 5 && q.2.category == 2)) _ = _; simp [va_rf_cat, cat_i, cat_l])) ?_
  refine wa_aload X 1 dX8_clash_18 rfl ?_
  refine wa_ifnull (tgt := 46) X dX8_clash_20 (by decide) (fun h33 => ?_) (fun h33 => ?_)
  · rw [if_pos h33] at hf
    obtain ⟨rfl, rfl, rfl, rfl⟩ := jret hf
    exact wa_vret X dX8_clash_46 (by omega) (by omega)
  · rw [if_neg h33] at hf
    refine wa_aload X 0 dX8_clash_23 rfl ?_
    refine wa_ifnull (tgt := 46) X dX8_clash_25 (by decide) (fun h34 => ?_) (fun h34 => ?_)
    · rw [if_pos h34] at hf
      obtain ⟨rfl, rfl, rfl, rfl⟩ := jret hf
      exact wa_vret X dX8_clash_46 (by omega) (by omega)
    · rw [if_neg h34] at hf
      refine wa_aload X 1 dX8_clash_28 rfl ?_
      obtain ⟨q35, h36, hf⟩ := jde_some hf
      obtain ⟨h37, hf⟩ := jckT hf
      refine wa_getI X dX8_clash_30 lfX8_38 h36 h37 rfl ?_
      refine wa_iconst (v := (1 : Int32)) X dX8_clash_33 (by decide) ?_
      refine wa_icne (tgt := 46) X dX8_clash_34 (by decide) (fun h38 => ?_) (fun h38 => ?_)
      · rw [if_neg h38] at hf
        obtain ⟨rfl, rfl, rfl, rfl⟩ := jret hf
        exact wa_vret X dX8_clash_46 (by omega) (by omega)
      · rw [if_pos h38] at hf
        refine wa_aload X 0 dX8_clash_37 rfl ?_
        obtain ⟨q39, h40, hf⟩ := jde_some hf
        obtain ⟨h41, hf⟩ := jckT hf
        refine wa_getI X dX8_clash_39 lfX8_38 h40 h41 rfl ?_
        refine wa_iconst (v := (3 : Int32)) X dX8_clash_42 (by decide) ?_
        refine wa_iceq (tgt := 47) X dX8_clash_43 (by decide) (fun h42 => ?_) (fun h42 => ?_)
        · rw [if_pos h42] at hf
          refine wa_aload X 1 dX8_clash_47 rfl ?_
          refine wa_getI X dX8_clash_49 lfX8_107 h36 h37 rfl ?_
          refine wa_aload X 0 dX8_clash_52 rfl ?_
          refine wa_getI X dX8_clash_54 lfX8_107 h40 h41 rfl ?_
          refine wa_icne (tgt := 91) X dX8_clash_57 (by decide) (fun h43 => ?_) (fun h43 => ?_)
          · rw [if_neg h43] at hf
            obtain ⟨rfl, rfl, rfl, rfl⟩ := jret hf
            exact wa_vret X dX8_clash_91 (by omega) (by omega)
          · rw [if_pos h43] at hf
            refine wa_aload X 1 dX8_clash_60 rfl ?_
            refine wa_getI X dX8_clash_62 lfX8_110 h36 h37 rfl ?_
            refine wa_aload X 0 dX8_clash_65 rfl ?_
            refine wa_getI X dX8_clash_67 lfX8_110 h40 h41 rfl ?_
            refine wa_icne (tgt := 91) X dX8_clash_70 (by decide) (fun h44 => ?_) (fun h44 => ?_)
            · rw [if_neg h44] at hf
              obtain ⟨rfl, rfl, rfl, rfl⟩ := jret hf
              exact wa_vret X dX8_clash_91 (by omega) (by omega)
            · rw [if_pos h44] at hf
              refine wa_aload_n X 5 dX8_clash_73 rfl ?_
              refine wa_aload X 1 dX8_clash_74 rfl ?_
              refine wa_getP X dX8_clash_76 lfX8_44 h36 h37 rfl ?_
              obtain ⟨h45, hf⟩ := jckT hf
              obtain ⟨u46, μ47, c48, m49, c50, m51, e52, hf, h53, h54⟩ := jcl_some hf
              refine wa_rcallV (st2 := []) X dX8_clash_79 lmX8_100 lMX1_copy h2 h45 (mX1_copy e52) rfl rfl rfl (va_cats (Nat.le_of_ble_eq_true rfl)) (by decide) (by omega) (by omega) ?_
              refine wa_aload_n X 5 dX8_clash_82 rfl ?_
              refine wa_aload X 0 dX8_clash_83 rfl ?_
              obtain ⟨h55, hf⟩ := jckT hf
              refine wa_getP X dX8_clash_85 lfX8_44 h40 h55 rfl ?_
              obtain ⟨h56, hf⟩ := jckT hf
              obtain ⟨u57, μ58, c59, m60, c61, m62, e63, hf, h64, h65⟩ := jcl_some hf
              refine wa_rcallV (st2 := []) X dX8_clash_88 lmX8_113 lMX1_and h2 h56 (mX1_and e63) rfl rfl rfl (va_cats (Nat.le_of_ble_eq_true rfl)) (by decide) (by omega) (by omega) ?_
              obtain ⟨rfl, rfl, rfl, rfl⟩ := jret hf
              exact wa_vret X dX8_clash_91 (by omega) (by omega)
        · rw [if_neg h42] at hf
          obtain ⟨rfl, rfl, rfl, rfl⟩ := jret hf
          exact wa_vret X dX8_clash_46 (by omega) (by omega)
theorem dX8_addOwing_0 : decode cX8_addOwing 0 = .ok (.iconst 0, 1) := by decide +kernel
theorem dX8_addOwing_1 : decode cX8_addOwing 1 = .ok (.istore_n 3, 1) := by decide +kernel
theorem dX8_addOwing_2 : decode cX8_addOwing 2 = .ok (.iload_n 3, 1) := by decide +kernel
theorem dX8_addOwing_3 : decode cX8_addOwing 3 = .ok (.aload_n 0, 1) := by decide +kernel
theorem dX8_addOwing_4 : decode cX8_addOwing 4 = .ok (.getfield 27, 3) := by decide +kernel
theorem dX8_addOwing_7 : decode cX8_addOwing 7 = .ok (.if_icmp .ge 48, 3) := by decide +kernel
theorem dX8_addOwing_10 : decode cX8_addOwing 10 = .ok (.aload_n 0, 1) := by decide +kernel
theorem dX8_addOwing_11 : decode cX8_addOwing 11 = .ok (.getfield 17, 3) := by decide +kernel
theorem dX8_addOwing_14 : decode cX8_addOwing 14 = .ok (.iload_n 3, 1) := by decide +kernel
theorem dX8_addOwing_15 : decode cX8_addOwing 15 = .ok (.aaload, 1) := by decide +kernel
theorem dX8_addOwing_16 : decode cX8_addOwing 16 = .ok (.getfield 38, 3) := by decide +kernel
theorem dX8_addOwing_19 : decode cX8_addOwing 19 = .ok (.iconst 1, 1) := by decide +kernel
theorem dX8_addOwing_20 : decode cX8_addOwing 20 = .ok (.if_icmp .ne 29, 3) := by decide +kernel
theorem dX8_addOwing_23 : decode cX8_addOwing 23 = .ok (.aload_n 0, 1) := by decide +kernel
theorem dX8_addOwing_24 : decode cX8_addOwing 24 = .ok (.getfield 17, 3) := by decide +kernel
theorem dX8_addOwing_27 : decode cX8_addOwing 27 = .ok (.iload_n 3, 1) := by decide +kernel
theorem dX8_addOwing_28 : decode cX8_addOwing 28 = .ok (.aaload, 1) := by decide +kernel
theorem dX8_addOwing_29 : decode cX8_addOwing 29 = .ok (.getfield 110, 3) := by decide +kernel
theorem dX8_addOwing_32 : decode cX8_addOwing 32 = .ok (.iload_n 1, 1) := by decide +kernel
theorem dX8_addOwing_33 : decode cX8_addOwing 33 = .ok (.if_icmp .ne 16, 3) := by decide +kernel
theorem dX8_addOwing_36 : decode cX8_addOwing 36 = .ok (.aload_n 2, 1) := by decide +kernel
theorem dX8_addOwing_37 : decode cX8_addOwing 37 = .ok (.aload_n 0, 1) := by decide +kernel
theorem dX8_addOwing_38 : decode cX8_addOwing 38 = .ok (.getfield 17, 3) := by decide +kernel
theorem dX8_addOwing_41 : decode cX8_addOwing 41 = .ok (.iload_n 3, 1) := by decide +kernel
theorem dX8_addOwing_42 : decode cX8_addOwing 42 = .ok (.aaload, 1) := by decide +kernel
theorem dX8_addOwing_43 : decode cX8_addOwing 43 = .ok (.getfield 44, 3) := by decide +kernel
theorem dX8_addOwing_46 : decode cX8_addOwing 46 = .ok (.invokevirtual 90, 3) := by decide +kernel
theorem dX8_addOwing_49 : decode cX8_addOwing 49 = .ok (.iinc 3 1, 3) := by decide +kernel
theorem dX8_addOwing_52 : decode cX8_addOwing 52 = .ok (.goto (-50), 3) := by decide +kernel
theorem dX8_addOwing_55 : decode cX8_addOwing 55 = .ok (.return_, 1) := by decide +kernel
def fX8_addOwing_b49 (rec2 : Nat → Int32 → Option Nat → Int32 → JM → JO (Unit)) (a : Nat) (x1 : Int32) (p2 : Option Nat) (x3 : Int32) (μ : JM) : JO (Unit) := rec2 a x1 p2 (x3 + (1 : Int32)) μ
set_option maxHeartbeats 4000000 in
set_option maxRecDepth 100000 in
theorem gX8_addOwing_b49 {b : Nat} {Θ : JE} {RC RS : Nat} {r : Unit} {ν : JM} (X : jX b Θ RX8 cX8_addOwing 4 none 1 22 RC RS) {rec2 : Nat → Int32 → Option Nat → Int32 → JM → JO (Unit)} (hrec2 : ∀ (a : Nat) (x1 : Int32) (p2 : Option Nat) (x3 : Int32) (μ : JM) (c m k n : Nat), rec2 a x1 p2 x3 μ = some (r, ν, c, m) → k + c = RC → n + m = RS → WA b Θ 4 (jE b Θ (none) ν RC RS) μ k n 2 [(0, va_rf (some a)), (1, .int x1), (2, va_rf p2), (3, .int x3)] []) (a : Nat) (x1 : Int32) (p2 : Option Nat) (x3 : Int32) (μ : JM) (c m k n : Nat) (hf : fX8_addOwing_b49 rec2 a x1 p2 x3 μ = some (r, ν, c, m)) (hk : k + c = RC) (hn : n + m = RS) : WA b Θ 4 (jE b Θ (none) ν RC RS) μ k n 49 [(0, va_rf (some a)), (1, .int x1), (2, va_rf p2), (3, .int x3)] [] := by
  rw [fX8_addOwing_b49] at hf
  refine wa_iinc (v := (x3 + (1 : Int32))) (L2 := [(3, .int (x3 + (1 : Int32))), (0, va_rf (some a)), (1, .int x1), (2, va_rf p2)]) X 3 dX8_addOwing_49 rfl rfl (by decide) (by first | rfl | simp [va_rf_cat, cat_i, cat_l]) ?_
  refine wa_goto (tgt := 2) X dX8_addOwing_52 (by decide) ?_
  refine wa_sub (L2 := [(0, va_rf (some a)), (1, .int x1), (2, va_rf p2), (3, .int (x3 + (1 : Int32)))]) [1, 2, 3, 0] rfl ?_
  exact hrec2 a x1 p2 (x3 + (1 : Int32)) μ _ _ _ _ hf (by omega) (by omega)
def fX8_addOwing_b2 : Nat → Nat → Int32 → Option Nat → Int32 → JM → JO (Unit)
  | 0, _, _, _, _, _ => none
  | fu + 1, a, x1, p2, x3, μ => jck ((jT μ a).1 == 9) <| if (jI μ a 2) ≤ x3 then (some ((), μ, 0, 0)) else (jde (jP μ a 0) fun q3 => jck ((jT μ q3).1 == 105) <| jck (jin x3 (jT μ q3).2) <| jde (jP μ q3 (x3).toNatClampNeg) fun q7 => jck ((jT μ q7).1 == 3) <| if (jI μ q7 0) = (1 : Int32) then (if (jI μ q7 3) = x1 then (jde p2 fun q12 => jck ((jT μ q12).1 == 2) <| jcl (fX1_or q12 (jP μ q7 8) μ) fun u15 μ16 => fX8_addOwing_b49 (fX8_addOwing_b2 fu) a x1 p2 x3 μ16) else (fX8_addOwing_b49 (fX8_addOwing_b2 fu) a x1 p2 x3 μ)) else (fX8_addOwing_b49 (fX8_addOwing_b2 fu) a x1 p2 x3 μ))
set_option maxHeartbeats 4000000 in
set_option maxRecDepth 100000 in
theorem gX8_addOwing_b2 {b : Nat} {Θ : JE} {RC RS : Nat} {r : Unit} {ν : JM} (X : jX b Θ RX8 cX8_addOwing 4 none 1 22 RC RS) : ∀ (fu : Nat) (a : Nat) (x1 : Int32) (p2 : Option Nat) (x3 : Int32) (μ : JM) (c m k n : Nat), fX8_addOwing_b2 fu a x1 p2 x3 μ = some (r, ν, c, m) → k + c = RC → n + m = RS → WA b Θ 4 (jE b Θ (none) ν RC RS) μ k n 2 [(0, va_rf (some a)), (1, .int x1), (2, va_rf p2), (3, .int x3)] [] := by
  intro fu
  induction fu with
  | zero => intro a x1 p2 x3 μ c m k n hf; cases hf
  | succ fu ih =>
    intro a x1 p2 x3 μ c m k n hf hk hn
    rw [fX8_addOwing_b2] at hf
    refine wa_iload_n X 3 dX8_addOwing_2 rfl ?_
    refine wa_aload_n X 0 dX8_addOwing_3 rfl ?_
    obtain ⟨h1, hf⟩ := jckT hf
    refine wa_getI X dX8_addOwing_4 lfX8_27 rfl h1 rfl ?_
    refine wa_icge (tgt := 55) X dX8_addOwing_7 (by decide) (fun h2 => ?_) (fun h2 => ?_)
    · rw [if_pos h2] at hf
      obtain ⟨rfl, rfl, rfl, rfl⟩ := jret hf
      exact wa_vret X dX8_addOwing_55 (by omega) (by omega)
    · rw [if_neg h2] at hf
      refine wa_aload_n X 0 dX8_addOwing_10 rfl ?_
      refine wa_getP X dX8_addOwing_11 lfX8_17 rfl h1 rfl ?_
      refine wa_iload_n X 3 dX8_addOwing_14 rfl ?_
      obtain ⟨q3, h4, hf⟩ := jde_some hf
      obtain ⟨h5, hf⟩ := jckT hf
      obtain ⟨h6, hf⟩ := jck_some hf
      refine wa_raald (t := 105) X dX8_addOwing_15 h4 h5 (by decide) rfl rfl h6 ?_
      obtain ⟨q7, h8, hf⟩ := jde_some hf
      obtain ⟨h9, hf⟩ := jckT hf
      refine wa_getI X dX8_addOwing_16 lfX8_38 h8 h9 rfl ?_
      refine wa_iconst (v := (1 : Int32)) X dX8_addOwing_19 (by decide) ?_
      refine wa_icne (tgt := 49) X dX8_addOwing_20 (by decide) (fun h10 => ?_) (fun h10 => ?_)
      · rw [if_neg h10] at hf
        refine wa_sub (L2 := [(0, va_rf (some a)), (1, .int x1), (2, va_rf p2), (3, .int x3)]) [0, 1, 2, 3] rfl ?_
        exact gX8_addOwing_b49 X ih a x1 p2 x3 μ _ _ _ _ hf (by omega) (by omega)
      · rw [if_pos h10] at hf
        refine wa_aload_n X 0 dX8_addOwing_23 rfl ?_
        refine wa_getP X dX8_addOwing_24 lfX8_17 rfl h1 rfl ?_
        refine wa_iload_n X 3 dX8_addOwing_27 rfl ?_
        refine wa_raald (t := 105) X dX8_addOwing_28 h4 h5 (by decide) rfl rfl h6 ?_
        refine wa_getI X dX8_addOwing_29 lfX8_110 h8 h9 rfl ?_
        refine wa_iload_n X 1 dX8_addOwing_32 rfl ?_
        refine wa_icne (tgt := 49) X dX8_addOwing_33 (by decide) (fun h11 => ?_) (fun h11 => ?_)
        · rw [if_neg h11] at hf
          refine wa_sub (L2 := [(0, va_rf (some a)), (1, .int x1), (2, va_rf p2), (3, .int x3)]) [0, 1, 2, 3] rfl ?_
          exact gX8_addOwing_b49 X ih a x1 p2 x3 μ _ _ _ _ hf (by omega) (by omega)
        · rw [if_pos h11] at hf
          refine wa_aload_n X 2 dX8_addOwing_36 rfl ?_
          refine wa_aload_n X 0 dX8_addOwing_37 rfl ?_
          refine wa_getP X dX8_addOwing_38 lfX8_17 rfl h1 rfl ?_
          refine wa_iload_n X 3 dX8_addOwing_41 rfl ?_
          refine wa_raald (t := 105) X dX8_addOwing_42 h4 h5 (by decide) rfl rfl h6 ?_
          refine wa_getP X dX8_addOwing_43 lfX8_44 h8 h9 rfl ?_
          obtain ⟨q12, h13, hf⟩ := jde_some hf
          obtain ⟨h14, hf⟩ := jckT hf
          obtain ⟨u15, μ16, c17, m18, c19, m20, e21, hf, h22, h23⟩ := jcl_some hf
          refine wa_rcallV (st2 := []) X dX8_addOwing_46 lmX8_90 lMX1_or h13 h14 (mX1_or e21) rfl rfl rfl (va_cats (Nat.le_of_ble_eq_true rfl)) (by decide) (by omega) (by omega) ?_
          refine wa_sub (L2 := [(0, va_rf (some a)), (1, .int x1), (2, va_rf p2), (3, .int x3)]) [0, 1, 2, 3] rfl ?_
          exact gX8_addOwing_b49 X ih a x1 p2 x3 μ16 _ _ _ _ hf (by omega) (by omega)
def fX8_addOwing (a : Nat) (x1 : Int32) (p2 : Option Nat) (μ : JM) : JO (Unit) := fX8_addOwing_b2  jfuel a x1 p2 (0 : Int32) μ
set_option maxHeartbeats 4000000 in
set_option maxRecDepth 100000 in
theorem mX8_addOwing {b : Nat} {a : Nat} {x1 : Int32} {p2 : Option Nat} {μ : JM} {r : Unit} {ν : JM} {c m : Nat} (hf : fX8_addOwing a x1 p2 μ = some (r, ν, c, m)) : JMet b yX8_addOwing cX8_addOwing 4 none 1 22 [va_rf (some a), .int x1, va_rf p2] μ (none) ν c m := by
  refine JMet.of (by decide) (lg_sl_le (by simp only [List.map_cons, List.map_nil, List.sum_cons, List.sum_nil, va_rf_cat]; exact Nat.le_of_ble_eq_true rfl)) (fun Θ X hin => ?_)
  refine wa_eq (L2 := [(0, va_rf (some a)), (1, .int x1), (2, va_rf p2)]) ?_ rfl (by first | rfl | simp [lv_args, va_rf_cat, cat_i, cat_l]) rfl
  obtain ⟨k, hk0⟩ : ∃ k : Nat, k = 0 := ⟨0, rfl⟩
  obtain ⟨n, hn0⟩ : ∃ n : Nat, n = 0 := ⟨0, rfl⟩
  have hk : k + c = c := by omega
  have hn : n + m = m := by omega
  refine wa_costs hk0.symm hn0.symm ?_
  rw [fX8_addOwing] at hf
  refine wa_iconst (v := (0 : Int32)) X dX8_addOwing_0 (by decide) ?_
  refine wa_istore_n (L2 := [(3, .int (0 : Int32)), (0, va_rf (some a)), (1, .int x1), (2, va_rf p2)]) X dX8_addOwing_1 (by decide) (by first | rfl | (show (3, _) :: List.filter (fun q : Nat × Value => !(q.1 == 3) && !(q.1 + 1 == 3 && q.2.category == 2)) _ = _; simp [va_rf_cat, cat_i, cat_l])) ?_
  refine wa_sub (L2 := [(0, va_rf (some a)), (1, .int x1), (2, va_rf p2), (3, .int (0 : Int32))]) [1, 2, 3, 0] rfl ?_
  exact gX8_addOwing_b2 X jfuel a x1 p2 (0 : Int32) μ _ _ _ _ hf (by omega) (by omega)
