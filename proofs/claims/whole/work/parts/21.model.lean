/-! functions and walks, by program -/
theorem dX11_isSign_0 : decode cX11_isSign 0 = .ok (.aload_n 0, 1) := by decide +kernel
theorem dX11_isSign_1 : decode cX11_isSign 1 = .ok (.getfield 194, 3) := by decide +kernel
theorem dX11_isSign_4 : decode cX11_isSign 4 = .ok (.iconst 3, 1) := by decide +kernel
theorem dX11_isSign_5 : decode cX11_isSign 5 = .ok (.if_icmp .ne 15, 3) := by decide +kernel
theorem dX11_isSign_8 : decode cX11_isSign 8 = .ok (.aload_n 0, 1) := by decide +kernel
theorem dX11_isSign_9 : decode cX11_isSign 9 = .ok (.getfield 191, 3) := by decide +kernel
theorem dX11_isSign_12 : decode cX11_isSign 12 = .ok (.iload_n 1, 1) := by decide +kernel
theorem dX11_isSign_13 : decode cX11_isSign 13 = .ok (.if_icmp .ne 7, 3) := by decide +kernel
theorem dX11_isSign_16 : decode cX11_isSign 16 = .ok (.iconst 1, 1) := by decide +kernel
theorem dX11_isSign_17 : decode cX11_isSign 17 = .ok (.goto 4, 3) := by decide +kernel
theorem dX11_isSign_20 : decode cX11_isSign 20 = .ok (.iconst 0, 1) := by decide +kernel
theorem dX11_isSign_21 : decode cX11_isSign 21 = .ok (.ireturn, 1) := by decide +kernel
def fX11_isSign (a : Nat) (x1 : Int32) (μ : JM) : JO (Int32) := jck ((jT μ a).1 == 12) <| if (jI μ a 14) = (3 : Int32) then (if (jI μ a 17) = x1 then (some ((1 : Int32), μ, 0, 0)) else (some ((0 : Int32), μ, 0, 0))) else (some ((0 : Int32), μ, 0, 0))
set_option maxHeartbeats 4000000 in
set_option maxRecDepth 100000 in
theorem mX11_isSign {b : Nat} {a : Nat} {x1 : Int32} {μ : JM} {r : Int32} {ν : JM} {c m : Nat} (hf : fX11_isSign a x1 μ = some (r, ν, c, m)) : JMet b yX11_isSign cX11_isSign 2 (some .boolean) 0 0 [va_rf (some a), .int x1] μ (some (.int r)) ν c m := by
  refine JMet.of (by decide) (lg_sl_le (by simp only [List.map_cons, List.map_nil, List.sum_cons, List.sum_nil, va_rf_cat]; exact Nat.le_of_ble_eq_true rfl)) (fun Θ X hin => ?_)
  refine wa_eq (L2 := [(0, va_rf (some a)), (1, .int x1)]) ?_ rfl (by first | rfl | simp [lv_args, va_rf_cat, cat_i, cat_l]) rfl
  obtain ⟨k, hk0⟩ : ∃ k : Nat, k = 0 := ⟨0, rfl⟩
  obtain ⟨n, hn0⟩ : ∃ n : Nat, n = 0 := ⟨0, rfl⟩
  have hk : k + c = c := by omega
  have hn : n + m = m := by omega
  refine wa_costs hk0.symm hn0.symm ?_
  rw [fX11_isSign] at hf
  refine wa_aload_n X 0 dX11_isSign_0 rfl ?_
  obtain ⟨h1, hf⟩ := jckT hf
  refine wa_getI X dX11_isSign_1 lfX11_194 rfl h1 rfl ?_
  refine wa_iconst (v := (3 : Int32)) X dX11_isSign_4 (by decide) ?_
  refine wa_icne (tgt := 20) X dX11_isSign_5 (by decide) (fun h2 => ?_) (fun h2 => ?_)
  · rw [if_neg h2] at hf
    refine wa_iconst (v := (0 : Int32)) X dX11_isSign_20 (by decide) ?_
    obtain ⟨rfl, rfl, rfl, rfl⟩ := jret hf
    exact wa_iret X dX11_isSign_21 rfl (by omega) (by omega)
  · rw [if_pos h2] at hf
    refine wa_aload_n X 0 dX11_isSign_8 rfl ?_
    refine wa_getI X dX11_isSign_9 lfX11_191 rfl h1 rfl ?_
    refine wa_iload_n X 1 dX11_isSign_12 rfl ?_
    refine wa_icne (tgt := 20) X dX11_isSign_13 (by decide) (fun h3 => ?_) (fun h3 => ?_)
    · rw [if_neg h3] at hf
      refine wa_iconst (v := (0 : Int32)) X dX11_isSign_20 (by decide) ?_
      obtain ⟨rfl, rfl, rfl, rfl⟩ := jret hf
      exact wa_iret X dX11_isSign_21 rfl (by omega) (by omega)
    · rw [if_pos h3] at hf
      refine wa_iconst (v := (1 : Int32)) X dX11_isSign_16 (by decide) ?_
      refine wa_goto (tgt := 21) X dX11_isSign_17 (by decide) ?_
      obtain ⟨rfl, rfl, rfl, rfl⟩ := jret hf
      exact wa_iret X dX11_isSign_21 rfl (by omega) (by omega)
theorem dX11_letters_0 : decode cX11_letters 0 = .ok (.lconst 0, 1) := by decide +kernel
theorem dX11_letters_1 : decode cX11_letters 1 = .ok (.lstore_n 1, 1) := by decide +kernel
theorem dX11_letters_2 : decode cX11_letters 2 = .ok (.iconst 0, 1) := by decide +kernel
theorem dX11_letters_3 : decode cX11_letters 3 = .ok (.istore_n 3, 1) := by decide +kernel
theorem dX11_letters_4 : decode cX11_letters 4 = .ok (.iload_n 3, 1) := by decide +kernel
theorem dX11_letters_5 : decode cX11_letters 5 = .ok (.aload_n 0, 1) := by decide +kernel
theorem dX11_letters_6 : decode cX11_letters 6 = .ok (.getfield 188, 3) := by decide +kernel
theorem dX11_letters_9 : decode cX11_letters 9 = .ok (.if_icmp .ge 29, 3) := by decide +kernel
theorem dX11_letters_12 : decode cX11_letters 12 = .ok (.lload_n 1, 1) := by decide +kernel
theorem dX11_letters_13 : decode cX11_letters 13 = .ok (.iconst 5, 1) := by decide +kernel
theorem dX11_letters_14 : decode cX11_letters 14 = .ok (.lshl, 1) := by decide +kernel
theorem dX11_letters_15 : decode cX11_letters 15 = .ok (.aload_n 0, 1) := by decide +kernel
theorem dX11_letters_16 : decode cX11_letters 16 = .ok (.getfield 36, 3) := by decide +kernel
theorem dX11_letters_19 : decode cX11_letters 19 = .ok (.aload_n 0, 1) := by decide +kernel
theorem dX11_letters_20 : decode cX11_letters 20 = .ok (.getfield 185, 3) := by decide +kernel
theorem dX11_letters_23 : decode cX11_letters 23 = .ok (.iload_n 3, 1) := by decide +kernel
theorem dX11_letters_24 : decode cX11_letters 24 = .ok (.iadd, 1) := by decide +kernel
theorem dX11_letters_25 : decode cX11_letters 25 = .ok (.baload, 1) := by decide +kernel
theorem dX11_letters_26 : decode cX11_letters 26 = .ok (.bipush 96, 2) := by decide +kernel
theorem dX11_letters_28 : decode cX11_letters 28 = .ok (.isub, 1) := by decide +kernel
theorem dX11_letters_29 : decode cX11_letters 29 = .ok (.i2l, 1) := by decide +kernel
theorem dX11_letters_30 : decode cX11_letters 30 = .ok (.lor, 1) := by decide +kernel
theorem dX11_letters_31 : decode cX11_letters 31 = .ok (.lstore_n 1, 1) := by decide +kernel
theorem dX11_letters_32 : decode cX11_letters 32 = .ok (.iinc 3 1, 3) := by decide +kernel
theorem dX11_letters_35 : decode cX11_letters 35 = .ok (.goto (-31), 3) := by decide +kernel
theorem dX11_letters_38 : decode cX11_letters 38 = .ok (.lload_n 1, 1) := by decide +kernel
theorem dX11_letters_39 : decode cX11_letters 39 = .ok (.lreturn, 1) := by decide +kernel
def fX11_letters_b4 : Nat → Nat → Int64 → Int32 → JM → JO (Int64)
  | 0, _, _, _, _ => none
  | fu + 1, a, y1, x3, μ => jck ((jT μ a).1 == 12) <| if (jI μ a 16) ≤ x3 then (some (y1, μ, 0, 0)) else (jde (jP μ a 11) fun q3 => jck ((jT μ q3).1 == 100) <| jck (jin ((jI μ a 15) + x3) (jT μ q3).2) <| fX11_letters_b4 fu a ((jlshl y1 (5 : Int32)) ||| (((jI μ q3 (((jI μ a 15) + x3)).toNatClampNeg) - (96 : Int32))).toInt64) (x3 + (1 : Int32)) μ)
set_option maxHeartbeats 4000000 in
set_option maxRecDepth 100000 in
theorem gX11_letters_b4 {b : Nat} {Θ : JE} {RC RS : Nat} {r : Int64} {ν : JM} (X : jX b Θ RX11 cX11_letters 4 (some .long) 0 0 RC RS) : ∀ (fu : Nat) (a : Nat) (y1 : Int64) (x3 : Int32) (μ : JM) (c m k n : Nat), fX11_letters_b4 fu a y1 x3 μ = some (r, ν, c, m) → k + c = RC → n + m = RS → WA b Θ 4 (jE b Θ (some (.long r)) ν RC RS) μ k n 4 [(0, va_rf (some a)), (1, .long y1), (3, .int x3)] [] := by
  intro fu
  induction fu with
  | zero => intro a y1 x3 μ c m k n hf; cases hf
  | succ fu ih =>
    intro a y1 x3 μ c m k n hf hk hn
    rw [fX11_letters_b4] at hf
    refine wa_iload_n X 2 dX11_letters_4 rfl ?_
    refine wa_aload_n X 0 dX11_letters_5 rfl ?_
    obtain ⟨h1, hf⟩ := jckT hf
    refine wa_getI X dX11_letters_6 lfX11_188 rfl h1 rfl ?_
    refine wa_icge (tgt := 38) X dX11_letters_9 (by decide) (fun h2 => ?_) (fun h2 => ?_)
    · rw [if_pos h2] at hf
      refine wa_lload_n X 1 dX11_letters_38 rfl ?_
      obtain ⟨rfl, rfl, rfl, rfl⟩ := jret hf
      exact wa_lret X dX11_letters_39 (by omega) (by omega)
    · rw [if_neg h2] at hf
      refine wa_lload_n X 1 dX11_letters_12 rfl ?_
      refine wa_iconst (v := (5 : Int32)) X dX11_letters_13 (by decide) ?_
      refine wa_lshl X dX11_letters_14 ?_
      refine wa_aload_n X 0 dX11_letters_15 rfl ?_
      refine wa_getP X dX11_letters_16 lfX11_36 rfl h1 rfl ?_
      refine wa_aload_n X 0 dX11_letters_19 rfl ?_
      refine wa_getI X dX11_letters_20 lfX11_185 rfl h1 rfl ?_
      refine wa_iload_n X 2 dX11_letters_23 rfl ?_
      refine wa_iadd X dX11_letters_24 ?_
      obtain ⟨q3, h4, hf⟩ := jde_some hf
      obtain ⟨h5, hf⟩ := jckT hf
      obtain ⟨h6, hf⟩ := jck_some hf
      refine wa_rbald X dX11_letters_25 h4 h5 h6 ?_
      refine wa_bipush (v := (96 : Int32)) X dX11_letters_26 (by decide) ?_
      refine wa_isub X dX11_letters_28 ?_
      refine wa_i2l X dX11_letters_29 ?_
      refine wa_lor X dX11_letters_30 ?_
      refine wa_lstore_n (L2 := [(1, .long ((jlshl y1 (5 : Int32)) ||| (((jI μ q3 (((jI μ a 15) + x3)).toNatClampNeg) - (96 : Int32))).toInt64)), (0, va_rf (some a)), (3, .int x3)]) X dX11_letters_31 (by decide) (by first | rfl | (show (1, _) :: List.filter (fun q : Nat × Value => !(q.1 == 1) && (!(q.1 == 2) && !(q.1 + 1 == 1 && q.2.category == 2))) _ = _; simp [va_rf_cat, cat_i, cat_l])) ?_
      refine wa_iinc (v := (x3 + (1 : Int32))) (L2 := [(3, .int (x3 + (1 : Int32))), (1, .long ((jlshl y1 (5 : Int32)) ||| (((jI μ q3 (((jI μ a 15) + x3)).toNatClampNeg) - (96 : Int32))).toInt64)), (0, va_rf (some a))]) X 2 dX11_letters_32 rfl rfl (by decide) (by first | rfl | simp [va_rf_cat, cat_i, cat_l]) ?_
      refine wa_goto (tgt := 4) X dX11_letters_35 (by decide) ?_
      refine wa_sub (L2 := [(0, va_rf (some a)), (1, .long ((jlshl y1 (5 : Int32)) ||| (((jI μ q3 (((jI μ a 15) + x3)).toNatClampNeg) - (96 : Int32))).toInt64)), (3, .int (x3 + (1 : Int32)))]) [2, 1, 0] rfl ?_
      exact ih a ((jlshl y1 (5 : Int32)) ||| (((jI μ q3 (((jI μ a 15) + x3)).toNatClampNeg) - (96 : Int32))).toInt64) (x3 + (1 : Int32)) μ _ _ _ _ hf (by omega) (by omega)
def fX11_letters (a : Nat) (μ : JM) : JO (Int64) := fX11_letters_b4  jfuel a (0 : Int64) (0 : Int32) μ
set_option maxHeartbeats 4000000 in
set_option maxRecDepth 100000 in
theorem mX11_letters {b : Nat} {a : Nat} {μ : JM} {r : Int64} {ν : JM} {c m : Nat} (hf : fX11_letters a μ = some (r, ν, c, m)) : JMet b yX11_letters cX11_letters 4 (some .long) 0 0 [va_rf (some a)] μ (some (.long r)) ν c m := by
  refine JMet.of (by decide) (lg_sl_le (by simp only [List.map_cons, List.map_nil, List.sum_cons, List.sum_nil, va_rf_cat]; exact Nat.le_of_ble_eq_true rfl)) (fun Θ X hin => ?_)
  refine wa_eq (L2 := [(0, va_rf (some a))]) ?_ rfl (by first | rfl | simp [lv_args, va_rf_cat, cat_i, cat_l]) rfl
  obtain ⟨k, hk0⟩ : ∃ k : Nat, k = 0 := ⟨0, rfl⟩
  obtain ⟨n, hn0⟩ : ∃ n : Nat, n = 0 := ⟨0, rfl⟩
  have hk : k + c = c := by omega
  have hn : n + m = m := by omega
  refine wa_costs hk0.symm hn0.symm ?_
  rw [fX11_letters] at hf
  refine wa_lconst (v := (0 : Int64)) X dX11_letters_0 (by decide) ?_
  refine wa_lstore_n (L2 := [(1, .long (0 : Int64)), (0, va_rf (some a))]) X dX11_letters_1 (by decide) (by first | rfl | (show (1, _) :: List.filter (fun q : Nat × Value => !(q.1 == 1) && (!(q.1 == 2) && !(q.1 + 1 == 1 && q.2.category == 2))) _ = _; simp [va_rf_cat, cat_i, cat_l])) ?_
  refine wa_iconst (v := (0 : Int32)) X dX11_letters_2 (by decide) ?_
  refine wa_istore_n (L2 := [(3, .int (0 : Int32)), (1, .long (0 : Int64)), (0, va_rf (some a))]) X dX11_letters_3 (by decide) (by first | rfl | (show (3, _) :: List.filter (fun q : Nat × Value => !(q.1 == 3) && !(q.1 + 1 == 3 && q.2.category == 2)) _ = _; simp [va_rf_cat, cat_i, cat_l])) ?_
  refine wa_sub (L2 := [(0, va_rf (some a)), (1, .long (0 : Int64)), (3, .int (0 : Int32))]) [2, 1, 0] rfl ?_
  exact gX11_letters_b4 X jfuel a (0 : Int64) (0 : Int32) μ _ _ _ _ hf (by omega) (by omega)
theorem dX11_isWord_0 : decode cX11_isWord 0 = .ok (.aload_n 0, 1) := by decide +kernel
theorem dX11_isWord_1 : decode cX11_isWord 1 = .ok (.getfield 194, 3) := by decide +kernel
theorem dX11_isWord_4 : decode cX11_isWord 4 = .ok (.iconst 1, 1) := by decide +kernel
theorem dX11_isWord_5 : decode cX11_isWord 5 = .ok (.if_icmp .ne 25, 3) := by decide +kernel
theorem dX11_isWord_8 : decode cX11_isWord 8 = .ok (.aload_n 0, 1) := by decide +kernel
theorem dX11_isWord_9 : decode cX11_isWord 9 = .ok (.getfield 188, 3) := by decide +kernel
theorem dX11_isWord_12 : decode cX11_isWord 12 = .ok (.bipush 12, 2) := by decide +kernel
theorem dX11_isWord_14 : decode cX11_isWord 14 = .ok (.if_icmp .gt 16, 3) := by decide +kernel
theorem dX11_isWord_17 : decode cX11_isWord 17 = .ok (.aload_n 0, 1) := by decide +kernel
theorem dX11_isWord_18 : decode cX11_isWord 18 = .ok (.invokevirtual 211, 3) := by decide +kernel
theorem dX11_isWord_21 : decode cX11_isWord 21 = .ok (.lload_n 1, 1) := by decide +kernel
theorem dX11_isWord_22 : decode cX11_isWord 22 = .ok (.lcmp, 1) := by decide +kernel
theorem dX11_isWord_23 : decode cX11_isWord 23 = .ok (.ifCond .ne 7, 3) := by decide +kernel
theorem dX11_isWord_26 : decode cX11_isWord 26 = .ok (.iconst 1, 1) := by decide +kernel
theorem dX11_isWord_27 : decode cX11_isWord 27 = .ok (.goto 4, 3) := by decide +kernel
theorem dX11_isWord_30 : decode cX11_isWord 30 = .ok (.iconst 0, 1) := by decide +kernel
theorem dX11_isWord_31 : decode cX11_isWord 31 = .ok (.ireturn, 1) := by decide +kernel
def fX11_isWord (a : Nat) (y1 : Int64) (μ : JM) : JO (Int32) := jck ((jT μ a).1 == 12) <| if (jI μ a 14) = (1 : Int32) then (if (12 : Int32) < (jI μ a 16) then (some ((0 : Int32), μ, 0, 0)) else (jcl (fX11_letters a μ) fun r4 μ5 => if (lg_cmp r4 y1) = 0 then (some ((1 : Int32), μ5, 0, 0)) else (some ((0 : Int32), μ5, 0, 0)))) else (some ((0 : Int32), μ, 0, 0))
set_option maxHeartbeats 4000000 in
set_option maxRecDepth 100000 in
theorem mX11_isWord {b : Nat} {a : Nat} {y1 : Int64} {μ : JM} {r : Int32} {ν : JM} {c m : Nat} (hf : fX11_isWord a y1 μ = some (r, ν, c, m)) : JMet b yX11_isWord cX11_isWord 3 (some .boolean) 1 23 [va_rf (some a), .long y1] μ (some (.int r)) ν c m := by
  refine JMet.of (by decide) (lg_sl_le (by simp only [List.map_cons, List.map_nil, List.sum_cons, List.sum_nil, va_rf_cat]; exact Nat.le_of_ble_eq_true rfl)) (fun Θ X hin => ?_)
  refine wa_eq (L2 := [(0, va_rf (some a)), (1, .long y1)]) ?_ rfl (by first | rfl | simp [lv_args, va_rf_cat, cat_i, cat_l]) rfl
  obtain ⟨k, hk0⟩ : ∃ k : Nat, k = 0 := ⟨0, rfl⟩
  obtain ⟨n, hn0⟩ : ∃ n : Nat, n = 0 := ⟨0, rfl⟩
  have hk : k + c = c := by omega
  have hn : n + m = m := by omega
  refine wa_costs hk0.symm hn0.symm ?_
  rw [fX11_isWord] at hf
  refine wa_aload_n X 0 dX11_isWord_0 rfl ?_
  obtain ⟨h1, hf⟩ := jckT hf
  refine wa_getI X dX11_isWord_1 lfX11_194 rfl h1 rfl ?_
  refine wa_iconst (v := (1 : Int32)) X dX11_isWord_4 (by decide) ?_
  refine wa_icne (tgt := 30) X dX11_isWord_5 (by decide) (fun h2 => ?_) (fun h2 => ?_)
  · rw [if_neg h2] at hf
    refine wa_iconst (v := (0 : Int32)) X dX11_isWord_30 (by decide) ?_
    obtain ⟨rfl, rfl, rfl, rfl⟩ := jret hf
    exact wa_iret X dX11_isWord_31 rfl (by omega) (by omega)
  · rw [if_pos h2] at hf
    refine wa_aload_n X 0 dX11_isWord_8 rfl ?_
    refine wa_getI X dX11_isWord_9 lfX11_188 rfl h1 rfl ?_
    refine wa_bipush (v := (12 : Int32)) X dX11_isWord_12 (by decide) ?_
    refine wa_icgt (tgt := 30) X dX11_isWord_14 (by decide) (fun h3 => ?_) (fun h3 => ?_)
    · rw [if_pos h3] at hf
      refine wa_iconst (v := (0 : Int32)) X dX11_isWord_30 (by decide) ?_
      obtain ⟨rfl, rfl, rfl, rfl⟩ := jret hf
      exact wa_iret X dX11_isWord_31 rfl (by omega) (by omega)
    · rw [if_neg h3] at hf
      refine wa_aload_n X 0 dX11_isWord_17 rfl ?_
      obtain ⟨r4, μ5, c6, m7, c8, m9, e10, hf, h11, h12⟩ := jcl_some hf
      refine wa_rcallV (st2 := [.long r4]) X dX11_isWord_18 lmX11_211 lMX11_letters rfl h1 (mX11_letters e10) rfl rfl rfl (va_cats (Nat.le_of_ble_eq_true rfl)) (by decide) (by omega) (by omega) ?_
      refine wa_lload_n X 1 dX11_isWord_21 rfl ?_
      refine wa_lcmp X dX11_isWord_22 ?_
      refine wa_ifne (tgt := 30) X dX11_isWord_23 (by decide) (fun h13 => ?_) (fun h13 => ?_)
      · rw [if_neg h13] at hf
        refine wa_iconst (v := (0 : Int32)) X dX11_isWord_30 (by decide) ?_
        obtain ⟨rfl, rfl, rfl, rfl⟩ := jret hf
        exact wa_iret X dX11_isWord_31 rfl (by omega) (by omega)
      · rw [if_pos h13] at hf
        refine wa_iconst (v := (1 : Int32)) X dX11_isWord_26 (by decide) ?_
        refine wa_goto (tgt := 31) X dX11_isWord_27 (by decide) ?_
        obtain ⟨rfl, rfl, rfl, rfl⟩ := jret hf
        exact wa_iret X dX11_isWord_31 rfl (by omega) (by omega)
theorem dX11_isOwn_0 : decode cX11_isOwn 0 = .ok (.aload_n 0, 1) := by decide +kernel
theorem dX11_isOwn_1 : decode cX11_isOwn 1 = .ok (.ldc2_w 215, 3) := by decide +kernel
theorem dX11_isOwn_4 : decode cX11_isOwn 4 = .ok (.invokevirtual 217, 3) := by decide +kernel
theorem dX11_isOwn_7 : decode cX11_isOwn 7 = .ok (.ifCond .ne 173, 3) := by decide +kernel
theorem dX11_isOwn_10 : decode cX11_isOwn 10 = .ok (.aload_n 0, 1) := by decide +kernel
theorem dX11_isOwn_11 : decode cX11_isOwn 11 = .ok (.ldc2_w 221, 3) := by decide +kernel
theorem dX11_isOwn_14 : decode cX11_isOwn 14 = .ok (.invokevirtual 217, 3) := by decide +kernel
theorem dX11_isOwn_17 : decode cX11_isOwn 17 = .ok (.ifCond .ne 163, 3) := by decide +kernel
theorem dX11_isOwn_20 : decode cX11_isOwn 20 = .ok (.aload_n 0, 1) := by decide +kernel
theorem dX11_isOwn_21 : decode cX11_isOwn 21 = .ok (.ldc2_w 223, 3) := by decide +kernel
theorem dX11_isOwn_24 : decode cX11_isOwn 24 = .ok (.invokevirtual 217, 3) := by decide +kernel
theorem dX11_isOwn_27 : decode cX11_isOwn 27 = .ok (.ifCond .ne 153, 3) := by decide +kernel
theorem dX11_isOwn_30 : decode cX11_isOwn 30 = .ok (.aload_n 0, 1) := by decide +kernel
theorem dX11_isOwn_31 : decode cX11_isOwn 31 = .ok (.ldc2_w 225, 3) := by decide +kernel
theorem dX11_isOwn_34 : decode cX11_isOwn 34 = .ok (.invokevirtual 217, 3) := by decide +kernel
theorem dX11_isOwn_37 : decode cX11_isOwn 37 = .ok (.ifCond .ne 143, 3) := by decide +kernel
theorem dX11_isOwn_40 : decode cX11_isOwn 40 = .ok (.aload_n 0, 1) := by decide +kernel
theorem dX11_isOwn_41 : decode cX11_isOwn 41 = .ok (.ldc2_w 227, 3) := by decide +kernel
theorem dX11_isOwn_44 : decode cX11_isOwn 44 = .ok (.invokevirtual 217, 3) := by decide +kernel
theorem dX11_isOwn_47 : decode cX11_isOwn 47 = .ok (.ifCond .ne 133, 3) := by decide +kernel
theorem dX11_isOwn_50 : decode cX11_isOwn 50 = .ok (.aload_n 0, 1) := by decide +kernel
theorem dX11_isOwn_51 : decode cX11_isOwn 51 = .ok (.ldc2_w 229, 3) := by decide +kernel
theorem dX11_isOwn_54 : decode cX11_isOwn 54 = .ok (.invokevirtual 217, 3) := by decide +kernel
theorem dX11_isOwn_57 : decode cX11_isOwn 57 = .ok (.ifCond .ne 123, 3) := by decide +kernel
theorem dX11_isOwn_60 : decode cX11_isOwn 60 = .ok (.aload_n 0, 1) := by decide +kernel
theorem dX11_isOwn_61 : decode cX11_isOwn 61 = .ok (.ldc2_w 231, 3) := by decide +kernel
theorem dX11_isOwn_64 : decode cX11_isOwn 64 = .ok (.invokevirtual 217, 3) := by decide +kernel
theorem dX11_isOwn_67 : decode cX11_isOwn 67 = .ok (.ifCond .ne 113, 3) := by decide +kernel
theorem dX11_isOwn_70 : decode cX11_isOwn 70 = .ok (.aload_n 0, 1) := by decide +kernel
theorem dX11_isOwn_71 : decode cX11_isOwn 71 = .ok (.ldc2_w 233, 3) := by decide +kernel
theorem dX11_isOwn_74 : decode cX11_isOwn 74 = .ok (.invokevirtual 217, 3) := by decide +kernel
theorem dX11_isOwn_77 : decode cX11_isOwn 77 = .ok (.ifCond .ne 103, 3) := by decide +kernel
theorem dX11_isOwn_80 : decode cX11_isOwn 80 = .ok (.aload_n 0, 1) := by decide +kernel
theorem dX11_isOwn_81 : decode cX11_isOwn 81 = .ok (.ldc2_w 235, 3) := by decide +kernel
theorem dX11_isOwn_84 : decode cX11_isOwn 84 = .ok (.invokevirtual 217, 3) := by decide +kernel
theorem dX11_isOwn_87 : decode cX11_isOwn 87 = .ok (.ifCond .ne 93, 3) := by decide +kernel
theorem dX11_isOwn_90 : decode cX11_isOwn 90 = .ok (.aload_n 0, 1) := by decide +kernel
theorem dX11_isOwn_91 : decode cX11_isOwn 91 = .ok (.ldc2_w 237, 3) := by decide +kernel
theorem dX11_isOwn_94 : decode cX11_isOwn 94 = .ok (.invokevirtual 217, 3) := by decide +kernel
theorem dX11_isOwn_97 : decode cX11_isOwn 97 = .ok (.ifCond .ne 83, 3) := by decide +kernel
theorem dX11_isOwn_100 : decode cX11_isOwn 100 = .ok (.aload_n 0, 1) := by decide +kernel
theorem dX11_isOwn_101 : decode cX11_isOwn 101 = .ok (.ldc2_w 239, 3) := by decide +kernel
theorem dX11_isOwn_104 : decode cX11_isOwn 104 = .ok (.invokevirtual 217, 3) := by decide +kernel
theorem dX11_isOwn_107 : decode cX11_isOwn 107 = .ok (.ifCond .ne 73, 3) := by decide +kernel
theorem dX11_isOwn_110 : decode cX11_isOwn 110 = .ok (.aload_n 0, 1) := by decide +kernel
theorem dX11_isOwn_111 : decode cX11_isOwn 111 = .ok (.ldc2_w 241, 3) := by decide +kernel
theorem dX11_isOwn_114 : decode cX11_isOwn 114 = .ok (.invokevirtual 217, 3) := by decide +kernel
theorem dX11_isOwn_117 : decode cX11_isOwn 117 = .ok (.ifCond .ne 63, 3) := by decide +kernel
theorem dX11_isOwn_120 : decode cX11_isOwn 120 = .ok (.aload_n 0, 1) := by decide +kernel
theorem dX11_isOwn_121 : decode cX11_isOwn 121 = .ok (.ldc2_w 243, 3) := by decide +kernel
theorem dX11_isOwn_124 : decode cX11_isOwn 124 = .ok (.invokevirtual 217, 3) := by decide +kernel
theorem dX11_isOwn_127 : decode cX11_isOwn 127 = .ok (.ifCond .ne 53, 3) := by decide +kernel
theorem dX11_isOwn_130 : decode cX11_isOwn 130 = .ok (.aload_n 0, 1) := by decide +kernel
theorem dX11_isOwn_131 : decode cX11_isOwn 131 = .ok (.ldc2_w 245, 3) := by decide +kernel
theorem dX11_isOwn_134 : decode cX11_isOwn 134 = .ok (.invokevirtual 217, 3) := by decide +kernel
theorem dX11_isOwn_137 : decode cX11_isOwn 137 = .ok (.ifCond .ne 43, 3) := by decide +kernel
theorem dX11_isOwn_140 : decode cX11_isOwn 140 = .ok (.aload_n 0, 1) := by decide +kernel
theorem dX11_isOwn_141 : decode cX11_isOwn 141 = .ok (.ldc2_w 247, 3) := by decide +kernel
theorem dX11_isOwn_144 : decode cX11_isOwn 144 = .ok (.invokevirtual 217, 3) := by decide +kernel
theorem dX11_isOwn_147 : decode cX11_isOwn 147 = .ok (.ifCond .ne 33, 3) := by decide +kernel
theorem dX11_isOwn_150 : decode cX11_isOwn 150 = .ok (.aload_n 0, 1) := by decide +kernel
theorem dX11_isOwn_151 : decode cX11_isOwn 151 = .ok (.ldc2_w 249, 3) := by decide +kernel
theorem dX11_isOwn_154 : decode cX11_isOwn 154 = .ok (.invokevirtual 217, 3) := by decide +kernel
theorem dX11_isOwn_157 : decode cX11_isOwn 157 = .ok (.ifCond .ne 23, 3) := by decide +kernel
theorem dX11_isOwn_160 : decode cX11_isOwn 160 = .ok (.aload_n 0, 1) := by decide +kernel
theorem dX11_isOwn_161 : decode cX11_isOwn 161 = .ok (.ldc2_w 251, 3) := by decide +kernel
theorem dX11_isOwn_164 : decode cX11_isOwn 164 = .ok (.invokevirtual 217, 3) := by decide +kernel
theorem dX11_isOwn_167 : decode cX11_isOwn 167 = .ok (.ifCond .ne 13, 3) := by decide +kernel
theorem dX11_isOwn_170 : decode cX11_isOwn 170 = .ok (.aload_n 0, 1) := by decide +kernel
theorem dX11_isOwn_171 : decode cX11_isOwn 171 = .ok (.ldc2_w 253, 3) := by decide +kernel
theorem dX11_isOwn_174 : decode cX11_isOwn 174 = .ok (.invokevirtual 217, 3) := by decide +kernel
theorem dX11_isOwn_177 : decode cX11_isOwn 177 = .ok (.ifCond .eq 7, 3) := by decide +kernel
theorem dX11_isOwn_180 : decode cX11_isOwn 180 = .ok (.iconst 1, 1) := by decide +kernel
theorem dX11_isOwn_181 : decode cX11_isOwn 181 = .ok (.goto 4, 3) := by decide +kernel
theorem dX11_isOwn_184 : decode cX11_isOwn 184 = .ok (.iconst 0, 1) := by decide +kernel
theorem dX11_isOwn_185 : decode cX11_isOwn 185 = .ok (.ireturn, 1) := by decide +kernel
def fX11_isOwn (a : Nat) (μ : JM) : JO (Int32) := jck ((jT μ a).1 == 12) <| jcl (fX11_isWord a (139666885 : Int64) μ) fun r2 μ3 => if r2 = 0 then (jck ((jT μ3 a).1 == 12) <| jcl (fX11_isWord a (51 : Int64) μ3) fun r13 μ14 => if r13 = 0 then (jck ((jT μ14 a).1 == 12) <| jcl (fX11_isWord a (153241 : Int64) μ14) fun r24 μ25 => if r24 = 0 then (jck ((jT μ25 a).1 == 12) <| jcl (fX11_isWord a (19176724 : Int64) μ25) fun r35 μ36 => if r35 = 0 then (jck ((jT μ36 a).1 == 12) <| jcl (fX11_isWord a (2094 : Int64) μ36) fun r46 μ47 => if r46 = 0 then (jck ((jT μ47 a).1 == 12) <| jcl (fX11_isWord a (655 : Int64) μ47) fun r57 μ58 => if r57 = 0 then (jck ((jT μ58 a).1 == 12) <| jcl (fX11_isWord a (89 : Int64) μ58) fun r68 μ69 => if r68 = 0 then (jck ((jT μ69 a).1 == 12) <| jcl (fX11_isWord a (132915 : Int64) μ69) fun r79 μ80 => if r79 = 0 then (jck ((jT μ80 a).1 == 12) <| jcl (fX11_isWord a (806995756851 : Int64) μ80) fun r90 μ91 => if r90 = 0 then (jck ((jT μ91 a).1 == 12) <| jcl (fX11_isWord a (294 : Int64) μ91) fun r101 μ102 => if r101 = 0 then (jck ((jT μ102 a).1 == 12) <| jcl (fX11_isWord a (719722099 : Int64) μ102) fun r112 μ113 => if r112 = 0 then (jck ((jT μ113 a).1 == 12) <| jcl (fX11_isWord a (514226 : Int64) μ113) fun r123 μ124 => if r123 = 0 then (jck ((jT μ124 a).1 == 12) <| jcl (fX11_isWord a (1476 : Int64) μ124) fun r134 μ135 => if r134 = 0 then (jck ((jT μ135 a).1 == 12) <| jcl (fX11_isWord a (498 : Int64) μ135) fun r145 μ146 => if r145 = 0 then (jck ((jT μ146 a).1 == 12) <| jcl (fX11_isWord a (14836 : Int64) μ146) fun r156 μ157 => if r156 = 0 then (jck ((jT μ157 a).1 == 12) <| jcl (fX11_isWord a (659105125 : Int64) μ157) fun r167 μ168 => if r167 = 0 then (jck ((jT μ168 a).1 == 12) <| jcl (fX11_isWord a (19512296549 : Int64) μ168) fun r178 μ179 => if r178 = 0 then (jck ((jT μ179 a).1 == 12) <| jcl (fX11_isWord a (1156 : Int64) μ179) fun r189 μ190 => if r189 = 0 then (some ((0 : Int32), μ190, 0, 0)) else (some ((1 : Int32), μ190, 0, 0))) else (some ((1 : Int32), μ179, 0, 0))) else (some ((1 : Int32), μ168, 0, 0))) else (some ((1 : Int32), μ157, 0, 0))) else (some ((1 : Int32), μ146, 0, 0))) else (some ((1 : Int32), μ135, 0, 0))) else (some ((1 : Int32), μ124, 0, 0))) else (some ((1 : Int32), μ113, 0, 0))) else (some ((1 : Int32), μ102, 0, 0))) else (some ((1 : Int32), μ91, 0, 0))) else (some ((1 : Int32), μ80, 0, 0))) else (some ((1 : Int32), μ69, 0, 0))) else (some ((1 : Int32), μ58, 0, 0))) else (some ((1 : Int32), μ47, 0, 0))) else (some ((1 : Int32), μ36, 0, 0))) else (some ((1 : Int32), μ25, 0, 0))) else (some ((1 : Int32), μ14, 0, 0))) else (some ((1 : Int32), μ3, 0, 0))
set_option maxHeartbeats 4000000 in
set_option maxRecDepth 100000 in
theorem mX11_isOwn {b : Nat} {a : Nat} {μ : JM} {r : Int32} {ν : JM} {c m : Nat} (hf : fX11_isOwn a μ = some (r, ν, c, m)) : JMet b yX11_isOwn cX11_isOwn 1 (some .boolean) 2 45 [va_rf (some a)] μ (some (.int r)) ν c m := by
  refine JMet.of (by decide) (lg_sl_le (by simp only [List.map_cons, List.map_nil, List.sum_cons, List.sum_nil, va_rf_cat]; exact Nat.le_of_ble_eq_true rfl)) (fun Θ X hin => ?_)
  refine wa_eq (L2 := [(0, va_rf (some a))]) ?_ rfl (by first | rfl | simp [lv_args, va_rf_cat, cat_i, cat_l]) rfl
  obtain ⟨k, hk0⟩ : ∃ k : Nat, k = 0 := ⟨0, rfl⟩
  obtain ⟨n, hn0⟩ : ∃ n : Nat, n = 0 := ⟨0, rfl⟩
  have hk : k + c = c := by omega
  have hn : n + m = m := by omega
  refine wa_costs hk0.symm hn0.symm ?_
  rw [fX11_isOwn] at hf
  refine wa_aload_n X 0 dX11_isOwn_0 rfl ?_
  refine wa_ldc2 (v := (139666885 : Int64)) X dX11_isOwn_1 lkX11_215 ?_
  obtain ⟨h1, hf⟩ := jckT hf
  obtain ⟨r2, μ3, c4, m5, c6, m7, e8, hf, h9, h10⟩ := jcl_some hf
  refine wa_rcallV (st2 := [.int r2]) X dX11_isOwn_4 lmX11_217 lMX11_isWord rfl h1 (mX11_isWord e8) rfl rfl rfl (va_cats (Nat.le_of_ble_eq_true rfl)) (by decide) (by omega) (by omega) ?_
  refine wa_ifne (tgt := 180) X dX11_isOwn_7 (by decide) (fun h11 => ?_) (fun h11 => ?_)
  · rw [if_neg h11] at hf
    refine wa_iconst (v := (1 : Int32)) X dX11_isOwn_180 (by decide) ?_
    refine wa_goto (tgt := 185) X dX11_isOwn_181 (by decide) ?_
    obtain ⟨rfl, rfl, rfl, rfl⟩ := jret hf
    exact wa_iret X dX11_isOwn_185 rfl (by omega) (by omega)
  · rw [if_pos h11] at hf
    refine wa_aload_n X 0 dX11_isOwn_10 rfl ?_
    refine wa_ldc2 (v := (51 : Int64)) X dX11_isOwn_11 lkX11_221 ?_
    obtain ⟨h12, hf⟩ := jckT hf
    obtain ⟨r13, μ14, c15, m16, c17, m18, e19, hf, h20, h21⟩ := jcl_some hf
    refine wa_rcallV (st2 := [.int r13]) X dX11_isOwn_14 lmX11_217 lMX11_isWord rfl h12 (mX11_isWord e19) rfl rfl rfl (va_cats (Nat.le_of_ble_eq_true rfl)) (by decide) (by omega) (by omega) ?_
    refine wa_ifne (tgt := 180) X dX11_isOwn_17 (by decide) (fun h22 => ?_) (fun h22 => ?_)
    · rw [if_neg h22] at hf
      refine wa_iconst (v := (1 : Int32)) X dX11_isOwn_180 (by decide) ?_
      refine wa_goto (tgt := 185) X dX11_isOwn_181 (by decide) ?_
      obtain ⟨rfl, rfl, rfl, rfl⟩ := jret hf
      exact wa_iret X dX11_isOwn_185 rfl (by omega) (by omega)
    · rw [if_pos h22] at hf
      refine wa_aload_n X 0 dX11_isOwn_20 rfl ?_
      refine wa_ldc2 (v := (153241 : Int64)) X dX11_isOwn_21 lkX11_223 ?_
      obtain ⟨h23, hf⟩ := jckT hf
      obtain ⟨r24, μ25, c26, m27, c28, m29, e30, hf, h31, h32⟩ := jcl_some hf
      refine wa_rcallV (st2 := [.int r24]) X dX11_isOwn_24 lmX11_217 lMX11_isWord rfl h23 (mX11_isWord e30) rfl rfl rfl (va_cats (Nat.le_of_ble_eq_true rfl)) (by decide) (by omega) (by omega) ?_
      refine wa_ifne (tgt := 180) X dX11_isOwn_27 (by decide) (fun h33 => ?_) (fun h33 => ?_)
      · rw [if_neg h33] at hf
        refine wa_iconst (v := (1 : Int32)) X dX11_isOwn_180 (by decide) ?_
        refine wa_goto (tgt := 185) X dX11_isOwn_181 (by decide) ?_
        obtain ⟨rfl, rfl, rfl, rfl⟩ := jret hf
        exact wa_iret X dX11_isOwn_185 rfl (by omega) (by omega)
      · rw [if_pos h33] at hf
        refine wa_aload_n X 0 dX11_isOwn_30 rfl ?_
        refine wa_ldc2 (v := (19176724 : Int64)) X dX11_isOwn_31 lkX11_225 ?_
        obtain ⟨h34, hf⟩ := jckT hf
        obtain ⟨r35, μ36, c37, m38, c39, m40, e41, hf, h42, h43⟩ := jcl_some hf
        refine wa_rcallV (st2 := [.int r35]) X dX11_isOwn_34 lmX11_217 lMX11_isWord rfl h34 (mX11_isWord e41) rfl rfl rfl (va_cats (Nat.le_of_ble_eq_true rfl)) (by decide) (by omega) (by omega) ?_
        refine wa_ifne (tgt := 180) X dX11_isOwn_37 (by decide) (fun h44 => ?_) (fun h44 => ?_)
        · rw [if_neg h44] at hf
          refine wa_iconst (v := (1 : Int32)) X dX11_isOwn_180 (by decide) ?_
          refine wa_goto (tgt := 185) X dX11_isOwn_181 (by decide) ?_
          obtain ⟨rfl, rfl, rfl, rfl⟩ := jret hf
          exact wa_iret X dX11_isOwn_185 rfl (by omega) (by omega)
        · rw [if_pos h44] at hf
          refine wa_aload_n X 0 dX11_isOwn_40 rfl ?_
          refine wa_ldc2 (v := (2094 : Int64)) X dX11_isOwn_41 lkX11_227 ?_
          obtain ⟨h45, hf⟩ := jckT hf
          obtain ⟨r46, μ47, c48, m49, c50, m51, e52, hf, h53, h54⟩ := jcl_some hf
          refine wa_rcallV (st2 := [.int r46]) X dX11_isOwn_44 lmX11_217 lMX11_isWord rfl h45 (mX11_isWord e52) rfl rfl rfl (va_cats (Nat.le_of_ble_eq_true rfl)) (by decide) (by omega) (by omega) ?_
          refine wa_ifne (tgt := 180) X dX11_isOwn_47 (by decide) (fun h55 => ?_) (fun h55 => ?_)
          · rw [if_neg h55] at hf
            refine wa_iconst (v := (1 : Int32)) X dX11_isOwn_180 (by decide) ?_
            refine wa_goto (tgt := 185) X dX11_isOwn_181 (by decide) ?_
            obtain ⟨rfl, rfl, rfl, rfl⟩ := jret hf
            exact wa_iret X dX11_isOwn_185 rfl (by omega) (by omega)
          · rw [if_pos h55] at hf
            refine wa_aload_n X 0 dX11_isOwn_50 rfl ?_
            refine wa_ldc2 (v := (655 : Int64)) X dX11_isOwn_51 lkX11_229 ?_
            obtain ⟨h56, hf⟩ := jckT hf
            obtain ⟨r57, μ58, c59, m60, c61, m62, e63, hf, h64, h65⟩ := jcl_some hf
            refine wa_rcallV (st2 := [.int r57]) X dX11_isOwn_54 lmX11_217 lMX11_isWord rfl h56 (mX11_isWord e63) rfl rfl rfl (va_cats (Nat.le_of_ble_eq_true rfl)) (by decide) (by omega) (by omega) ?_
            refine wa_ifne (tgt := 180) X dX11_isOwn_57 (by decide) (fun h66 => ?_) (fun h66 => ?_)
            · rw [if_neg h66] at hf
              refine wa_iconst (v := (1 : Int32)) X dX11_isOwn_180 (by decide) ?_
              refine wa_goto (tgt := 185) X dX11_isOwn_181 (by decide) ?_
              obtain ⟨rfl, rfl, rfl, rfl⟩ := jret hf
              exact wa_iret X dX11_isOwn_185 rfl (by omega) (by omega)
            · rw [if_pos h66] at hf
              refine wa_aload_n X 0 dX11_isOwn_60 rfl ?_
              refine wa_ldc2 (v := (89 : Int64)) X dX11_isOwn_61 lkX11_231 ?_
              obtain ⟨h67, hf⟩ := jckT hf
              obtain ⟨r68, μ69, c70, m71, c72, m73, e74, hf, h75, h76⟩ := jcl_some hf
              refine wa_rcallV (st2 := [.int r68]) X dX11_isOwn_64 lmX11_217 lMX11_isWord rfl h67 (mX11_isWord e74) rfl rfl rfl (va_cats (Nat.le_of_ble_eq_true rfl)) (by decide) (by omega) (by omega) ?_
              refine wa_ifne (tgt := 180) X dX11_isOwn_67 (by decide) (fun h77 => ?_) (fun h77 => ?_)
              · rw [if_neg h77] at hf
                refine wa_iconst (v := (1 : Int32)) X dX11_isOwn_180 (by decide) ?_
                refine wa_goto (tgt := 185) X dX11_isOwn_181 (by decide) ?_
                obtain ⟨rfl, rfl, rfl, rfl⟩ := jret hf
                exact wa_iret X dX11_isOwn_185 rfl (by omega) (by omega)
              · rw [if_pos h77] at hf
                refine wa_aload_n X 0 dX11_isOwn_70 rfl ?_
                refine wa_ldc2 (v := (132915 : Int64)) X dX11_isOwn_71 lkX11_233 ?_
                obtain ⟨h78, hf⟩ := jckT hf
                obtain ⟨r79, μ80, c81, m82, c83, m84, e85, hf, h86, h87⟩ := jcl_some hf
                refine wa_rcallV (st2 := [.int r79]) X dX11_isOwn_74 lmX11_217 lMX11_isWord rfl h78 (mX11_isWord e85) rfl rfl rfl (va_cats (Nat.le_of_ble_eq_true rfl)) (by decide) (by omega) (by omega) ?_
                refine wa_ifne (tgt := 180) X dX11_isOwn_77 (by decide) (fun h88 => ?_) (fun h88 => ?_)
                · rw [if_neg h88] at hf
                  refine wa_iconst (v := (1 : Int32)) X dX11_isOwn_180 (by decide) ?_
                  refine wa_goto (tgt := 185) X dX11_isOwn_181 (by decide) ?_
                  obtain ⟨rfl, rfl, rfl, rfl⟩ := jret hf
                  exact wa_iret X dX11_isOwn_185 rfl (by omega) (by omega)
                · rw [if_pos h88] at hf
                  refine wa_aload_n X 0 dX11_isOwn_80 rfl ?_
                  refine wa_ldc2 (v := (806995756851 : Int64)) X dX11_isOwn_81 lkX11_235 ?_
                  obtain ⟨h89, hf⟩ := jckT hf
                  obtain ⟨r90, μ91, c92, m93, c94, m95, e96, hf, h97, h98⟩ := jcl_some hf
                  refine wa_rcallV (st2 := [.int r90]) X dX11_isOwn_84 lmX11_217 lMX11_isWord rfl h89 (mX11_isWord e96) rfl rfl rfl (va_cats (Nat.le_of_ble_eq_true rfl)) (by decide) (by omega) (by omega) ?_
                  refine wa_ifne (tgt := 180) X dX11_isOwn_87 (by decide) (fun h99 => ?_) (fun h99 => ?_)
                  · rw [if_neg h99] at hf
                    refine wa_iconst (v := (1 : Int32)) X dX11_isOwn_180 (by decide) ?_
                    refine wa_goto (tgt := 185) X dX11_isOwn_181 (by decide) ?_
                    obtain ⟨rfl, rfl, rfl, rfl⟩ := jret hf
                    exact wa_iret X dX11_isOwn_185 rfl (by omega) (by omega)
                  · rw [if_pos h99] at hf
                    refine wa_aload_n X 0 dX11_isOwn_90 rfl ?_
                    refine wa_ldc2 (v := (294 : Int64)) X dX11_isOwn_91 lkX11_237 ?_
                    obtain ⟨h100, hf⟩ := jckT hf
                    obtain ⟨r101, μ102, c103, m104, c105, m106, e107, hf, h108, h109⟩ := jcl_some hf
                    refine wa_rcallV (st2 := [.int r101]) X dX11_isOwn_94 lmX11_217 lMX11_isWord rfl h100 (mX11_isWord e107) rfl rfl rfl (va_cats (Nat.le_of_ble_eq_true rfl)) (by decide) (by omega) (by omega) ?_
                    refine wa_ifne (tgt := 180) X dX11_isOwn_97 (by decide) (fun h110 => ?_) (fun h110 => ?_)
                    · rw [if_neg h110] at hf
                      refine wa_iconst (v := (1 : Int32)) X dX11_isOwn_180 (by decide) ?_
                      refine wa_goto (tgt := 185) X dX11_isOwn_181 (by decide) ?_
                      obtain ⟨rfl, rfl, rfl, rfl⟩ := jret hf
                      exact wa_iret X dX11_isOwn_185 rfl (by omega) (by omega)
                    · rw [if_pos h110] at hf
                      refine wa_aload_n X 0 dX11_isOwn_100 rfl ?_
                      refine wa_ldc2 (v := (719722099 : Int64)) X dX11_isOwn_101 lkX11_239 ?_
                      obtain ⟨h111, hf⟩ := jckT hf
                      obtain ⟨r112, μ113, c114, m115, c116, m117, e118, hf, h119, h120⟩ := jcl_some hf
                      refine wa_rcallV (st2 := [.int r112]) X dX11_isOwn_104 lmX11_217 lMX11_isWord rfl h111 (mX11_isWord e118) rfl rfl rfl (va_cats (Nat.le_of_ble_eq_true rfl)) (by decide) (by omega) (by omega) ?_
                      refine wa_ifne (tgt := 180) X dX11_isOwn_107 (by decide) (fun h121 => ?_) (fun h121 => ?_)
                      · rw [if_neg h121] at hf
                        refine wa_iconst (v := (1 : Int32)) X dX11_isOwn_180 (by decide) ?_
                        refine wa_goto (tgt := 185) X dX11_isOwn_181 (by decide) ?_
                        obtain ⟨rfl, rfl, rfl, rfl⟩ := jret hf
                        exact wa_iret X dX11_isOwn_185 rfl (by omega) (by omega)
                      · rw [if_pos h121] at hf
                        refine wa_aload_n X 0 dX11_isOwn_110 rfl ?_
                        refine wa_ldc2 (v := (514226 : Int64)) X dX11_isOwn_111 lkX11_241 ?_
                        obtain ⟨h122, hf⟩ := jckT hf
                        obtain ⟨r123, μ124, c125, m126, c127, m128, e129, hf, h130, h131⟩ := jcl_some hf
                        refine wa_rcallV (st2 := [.int r123]) X dX11_isOwn_114 lmX11_217 lMX11_isWord rfl h122 (mX11_isWord e129) rfl rfl rfl (va_cats (Nat.le_of_ble_eq_true rfl)) (by decide) (by omega) (by omega) ?_
                        refine wa_ifne (tgt := 180) X dX11_isOwn_117 (by decide) (fun h132 => ?_) (fun h132 => ?_)
                        · rw [if_neg h132] at hf
                          refine wa_iconst (v := (1 : Int32)) X dX11_isOwn_180 (by decide) ?_
                          refine wa_goto (tgt := 185) X dX11_isOwn_181 (by decide) ?_
                          obtain ⟨rfl, rfl, rfl, rfl⟩ := jret hf
                          exact wa_iret X dX11_isOwn_185 rfl (by omega) (by omega)
                        · rw [if_pos h132] at hf
                          refine wa_aload_n X 0 dX11_isOwn_120 rfl ?_
                          refine wa_ldc2 (v := (1476 : Int64)) X dX11_isOwn_121 lkX11_243 ?_
                          obtain ⟨h133, hf⟩ := jckT hf
                          obtain ⟨r134, μ135, c136, m137, c138, m139, e140, hf, h141, h142⟩ := jcl_some hf
                          refine wa_rcallV (st2 := [.int r134]) X dX11_isOwn_124 lmX11_217 lMX11_isWord rfl h133 (mX11_isWord e140) rfl rfl rfl (va_cats (Nat.le_of_ble_eq_true rfl)) (by decide) (by omega) (by omega) ?_
                          refine wa_ifne (tgt := 180) X dX11_isOwn_127 (by decide) (fun h143 => ?_) (fun h143 => ?_)
                          · rw [if_neg h143] at hf
                            refine wa_iconst (v := (1 : Int32)) X dX11_isOwn_180 (by decide) ?_
                            refine wa_goto (tgt := 185) X dX11_isOwn_181 (by decide) ?_
                            obtain ⟨rfl, rfl, rfl, rfl⟩ := jret hf
                            exact wa_iret X dX11_isOwn_185 rfl (by omega) (by omega)
                          · rw [if_pos h143] at hf
                            refine wa_aload_n X 0 dX11_isOwn_130 rfl ?_
                            refine wa_ldc2 (v := (498 : Int64)) X dX11_isOwn_131 lkX11_245 ?_
                            obtain ⟨h144, hf⟩ := jckT hf
                            obtain ⟨r145, μ146, c147, m148, c149, m150, e151, hf, h152, h153⟩ := jcl_some hf
                            refine wa_rcallV (st2 := [.int r145]) X dX11_isOwn_134 lmX11_217 lMX11_isWord rfl h144 (mX11_isWord e151) rfl rfl rfl (va_cats (Nat.le_of_ble_eq_true rfl)) (by decide) (by omega) (by omega) ?_
                            refine wa_ifne (tgt := 180) X dX11_isOwn_137 (by decide) (fun h154 => ?_) (fun h154 => ?_)
                            · rw [if_neg h154] at hf
                              refine wa_iconst (v := (1 : Int32)) X dX11_isOwn_180 (by decide) ?_
                              refine wa_goto (tgt := 185) X dX11_isOwn_181 (by decide) ?_
                              obtain ⟨rfl, rfl, rfl, rfl⟩ := jret hf
                              exact wa_iret X dX11_isOwn_185 rfl (by omega) (by omega)
                            · rw [if_pos h154] at hf
                              refine wa_aload_n X 0 dX11_isOwn_140 rfl ?_
                              refine wa_ldc2 (v := (14836 : Int64)) X dX11_isOwn_141 lkX11_247 ?_
                              obtain ⟨h155, hf⟩ := jckT hf
                              obtain ⟨r156, μ157, c158, m159, c160, m161, e162, hf, h163, h164⟩ := jcl_some hf
                              refine wa_rcallV (st2 := [.int r156]) X dX11_isOwn_144 lmX11_217 lMX11_isWord rfl h155 (mX11_isWord e162) rfl rfl rfl (va_cats (Nat.le_of_ble_eq_true rfl)) (by decide) (by omega) (by omega) ?_
                              refine wa_ifne (tgt := 180) X dX11_isOwn_147 (by decide) (fun h165 => ?_) (fun h165 => ?_)
                              · rw [if_neg h165] at hf
                                refine wa_iconst (v := (1 : Int32)) X dX11_isOwn_180 (by decide) ?_
                                refine wa_goto (tgt := 185) X dX11_isOwn_181 (by decide) ?_
                                obtain ⟨rfl, rfl, rfl, rfl⟩ := jret hf
                                exact wa_iret X dX11_isOwn_185 rfl (by omega) (by omega)
                              · rw [if_pos h165] at hf
                                refine wa_aload_n X 0 dX11_isOwn_150 rfl ?_
                                refine wa_ldc2 (v := (659105125 : Int64)) X dX11_isOwn_151 lkX11_249 ?_
                                obtain ⟨h166, hf⟩ := jckT hf
                                obtain ⟨r167, μ168, c169, m170, c171, m172, e173, hf, h174, h175⟩ := jcl_some hf
                                refine wa_rcallV (st2 := [.int r167]) X dX11_isOwn_154 lmX11_217 lMX11_isWord rfl h166 (mX11_isWord e173) rfl rfl rfl (va_cats (Nat.le_of_ble_eq_true rfl)) (by decide) (by omega) (by omega) ?_
                                refine wa_ifne (tgt := 180) X dX11_isOwn_157 (by decide) (fun h176 => ?_) (fun h176 => ?_)
                                · rw [if_neg h176] at hf
                                  refine wa_iconst (v := (1 : Int32)) X dX11_isOwn_180 (by decide) ?_
                                  refine wa_goto (tgt := 185) X dX11_isOwn_181 (by decide) ?_
                                  obtain ⟨rfl, rfl, rfl, rfl⟩ := jret hf
                                  exact wa_iret X dX11_isOwn_185 rfl (by omega) (by omega)
                                · rw [if_pos h176] at hf
                                  refine wa_aload_n X 0 dX11_isOwn_160 rfl ?_
                                  refine wa_ldc2 (v := (19512296549 : Int64)) X dX11_isOwn_161 lkX11_251 ?_
                                  obtain ⟨h177, hf⟩ := jckT hf
                                  obtain ⟨r178, μ179, c180, m181, c182, m183, e184, hf, h185, h186⟩ := jcl_some hf
                                  refine wa_rcallV (st2 := [.int r178]) X dX11_isOwn_164 lmX11_217 lMX11_isWord rfl h177 (mX11_isWord e184) rfl rfl rfl (va_cats (Nat.le_of_ble_eq_true rfl)) (by decide) (by omega) (by omega) ?_
                                  refine wa_ifne (tgt := 180) X dX11_isOwn_167 (by decide) (fun h187 => ?_) (fun h187 => ?_)
                                  · rw [if_neg h187] at hf
                                    refine wa_iconst (v := (1 : Int32)) X dX11_isOwn_180 (by decide) ?_
                                    refine wa_goto (tgt := 185) X dX11_isOwn_181 (by decide) ?_
                                    obtain ⟨rfl, rfl, rfl, rfl⟩ := jret hf
                                    exact wa_iret X dX11_isOwn_185 rfl (by omega) (by omega)
                                  · rw [if_pos h187] at hf
                                    refine wa_aload_n X 0 dX11_isOwn_170 rfl ?_
                                    refine wa_ldc2 (v := (1156 : Int64)) X dX11_isOwn_171 lkX11_253 ?_
                                    obtain ⟨h188, hf⟩ := jckT hf
                                    obtain ⟨r189, μ190, c191, m192, c193, m194, e195, hf, h196, h197⟩ := jcl_some hf
                                    refine wa_rcallV (st2 := [.int r189]) X dX11_isOwn_174 lmX11_217 lMX11_isWord rfl h188 (mX11_isWord e195) rfl rfl rfl (va_cats (Nat.le_of_ble_eq_true rfl)) (by decide) (by omega) (by omega) ?_
                                    refine wa_ifeq (tgt := 184) X dX11_isOwn_177 (by decide) (fun h198 => ?_) (fun h198 => ?_)
                                    · rw [if_pos h198] at hf
                                      refine wa_iconst (v := (0 : Int32)) X dX11_isOwn_184 (by decide) ?_
                                      obtain ⟨rfl, rfl, rfl, rfl⟩ := jret hf
                                      exact wa_iret X dX11_isOwn_185 rfl (by omega) (by omega)
                                    · rw [if_neg h198] at hf
                                      refine wa_iconst (v := (1 : Int32)) X dX11_isOwn_180 (by decide) ?_
                                      refine wa_goto (tgt := 185) X dX11_isOwn_181 (by decide) ?_
                                      obtain ⟨rfl, rfl, rfl, rfl⟩ := jret hf
                                      exact wa_iret X dX11_isOwn_185 rfl (by omega) (by omega)
theorem dX11_expects_0 : decode cX11_expects 0 = .ok (.aload_n 0, 1) := by decide +kernel
theorem dX11_expects_1 : decode cX11_expects 1 = .ok (.getfield 163, 3) := by decide +kernel
theorem dX11_expects_4 : decode cX11_expects 4 = .ok (.ifCond .ne 34, 3) := by decide +kernel
theorem dX11_expects_7 : decode cX11_expects 7 = .ok (.aload_n 0, 1) := by decide +kernel
theorem dX11_expects_8 : decode cX11_expects 8 = .ok (.lload_n 1, 1) := by decide +kernel
theorem dX11_expects_9 : decode cX11_expects 9 = .ok (.invokevirtual 217, 3) := by decide +kernel
theorem dX11_expects_12 : decode cX11_expects 12 = .ok (.ifCond .ne 15, 3) := by decide +kernel
theorem dX11_expects_15 : decode cX11_expects 15 = .ok (.aload_n 0, 1) := by decide +kernel
theorem dX11_expects_16 : decode cX11_expects 16 = .ok (.iconst 0, 1) := by decide +kernel
theorem dX11_expects_17 : decode cX11_expects 17 = .ok (.aload_n 0, 1) := by decide +kernel
theorem dX11_expects_18 : decode cX11_expects 18 = .ok (.getfield 185, 3) := by decide +kernel
theorem dX11_expects_21 : decode cX11_expects 21 = .ok (.invokevirtual 201, 3) := by decide +kernel
theorem dX11_expects_24 : decode cX11_expects 24 = .ok (.ifCond .eq 14, 3) := by decide +kernel
theorem dX11_expects_27 : decode cX11_expects 27 = .ok (.aload_n 0, 1) := by decide +kernel
theorem dX11_expects_28 : decode cX11_expects 28 = .ok (.invokevirtual 255, 3) := by decide +kernel
theorem dX11_expects_31 : decode cX11_expects 31 = .ok (.ifCond .eq 7, 3) := by decide +kernel
theorem dX11_expects_34 : decode cX11_expects 34 = .ok (.iconst 1, 1) := by decide +kernel
theorem dX11_expects_35 : decode cX11_expects 35 = .ok (.goto 4, 3) := by decide +kernel
theorem dX11_expects_38 : decode cX11_expects 38 = .ok (.iconst 0, 1) := by decide +kernel
theorem dX11_expects_39 : decode cX11_expects 39 = .ok (.ireturn, 1) := by decide +kernel
def fX11_expects_b27 (a : Nat) (μ : JM) : JO (Int32) := jck ((jT μ a).1 == 12) <| jcl (fX11_takes a μ) fun r25 μ26 => if r25 = 0 then (some ((0 : Int32), μ26, 0, 0)) else (some ((1 : Int32), μ26, 0, 0))
set_option maxHeartbeats 4000000 in
set_option maxRecDepth 100000 in
theorem gX11_expects_b27 {b : Nat} {Θ : JE} {RC RS : Nat} {r : Int32} {ν : JM} (X : jX b Θ RX11 cX11_expects 3 (some .boolean) 3 65 RC RS) (a : Nat) (μ : JM) (c m k n : Nat) (hf : fX11_expects_b27 a μ = some (r, ν, c, m)) (hk : k + c = RC) (hn : n + m = RS) : WA b Θ 3 (jE b Θ (some (.int r)) ν RC RS) μ k n 27 [(0, va_rf (some a))] [] := by
  rw [fX11_expects_b27] at hf
  refine wa_aload_n X 0 dX11_expects_27 rfl ?_
  obtain ⟨h24, hf⟩ := jckT hf
  obtain ⟨r25, μ26, c27, m28, c29, m30, e31, hf, h32, h33⟩ := jcl_some hf
  refine wa_rcallV (st2 := [.int r25]) X dX11_expects_28 lmX11_255 lMX11_takes rfl h24 (mX11_takes e31) rfl rfl rfl (va_cats (Nat.le_of_ble_eq_true rfl)) (by decide) (by omega) (by omega) ?_
  refine wa_ifeq (tgt := 38) X dX11_expects_31 (by decide) (fun h34 => ?_) (fun h34 => ?_)
  · rw [if_pos h34] at hf
    refine wa_iconst (v := (0 : Int32)) X dX11_expects_38 (by decide) ?_
    obtain ⟨rfl, rfl, rfl, rfl⟩ := jret hf
    exact wa_iret X dX11_expects_39 rfl (by omega) (by omega)
  · rw [if_neg h34] at hf
    refine wa_iconst (v := (1 : Int32)) X dX11_expects_34 (by decide) ?_
    refine wa_goto (tgt := 39) X dX11_expects_35 (by decide) ?_
    obtain ⟨rfl, rfl, rfl, rfl⟩ := jret hf
    exact wa_iret X dX11_expects_39 rfl (by omega) (by omega)
def fX11_expects (a : Nat) (y1 : Int64) (μ : JM) : JO (Int32) := jck ((jT μ a).1 == 12) <| if (jI μ a 18) = 0 then (jcl (fX11_isWord a y1 μ) fun r3 μ4 => if r3 = 0 then (jck ((jT μ4 a).1 == 12) <| jcl (fX11_fails a (0 : Int32) (jI μ4 a 15) μ4) fun r14 μ15 => if r14 = 0 then (some ((0 : Int32), μ15, 0, 0)) else (fX11_expects_b27  a μ15)) else (fX11_expects_b27  a μ4)) else (some ((0 : Int32), μ, 0, 0))
set_option maxHeartbeats 4000000 in
set_option maxRecDepth 100000 in
theorem mX11_expects {b : Nat} {a : Nat} {y1 : Int64} {μ : JM} {r : Int32} {ν : JM} {c m : Nat} (hf : fX11_expects a y1 μ = some (r, ν, c, m)) : JMet b yX11_expects cX11_expects 3 (some .boolean) 3 65 [va_rf (some a), .long y1] μ (some (.int r)) ν c m := by
  refine JMet.of (by decide) (lg_sl_le (by simp only [List.map_cons, List.map_nil, List.sum_cons, List.sum_nil, va_rf_cat]; exact Nat.le_of_ble_eq_true rfl)) (fun Θ X hin => ?_)
  refine wa_eq (L2 := [(0, va_rf (some a)), (1, .long y1)]) ?_ rfl (by first | rfl | simp [lv_args, va_rf_cat, cat_i, cat_l]) rfl
  obtain ⟨k, hk0⟩ : ∃ k : Nat, k = 0 := ⟨0, rfl⟩
  obtain ⟨n, hn0⟩ : ∃ n : Nat, n = 0 := ⟨0, rfl⟩
  have hk : k + c = c := by omega
  have hn : n + m = m := by omega
  refine wa_costs hk0.symm hn0.symm ?_
  rw [fX11_expects] at hf
  refine wa_aload_n X 0 dX11_expects_0 rfl ?_
  obtain ⟨h1, hf⟩ := jckT hf
  refine wa_getI X dX11_expects_1 lfX11_163 rfl h1 rfl ?_
  refine wa_ifne (tgt := 38) X dX11_expects_4 (by decide) (fun h2 => ?_) (fun h2 => ?_)
  · rw [if_neg h2] at hf
    refine wa_iconst (v := (0 : Int32)) X dX11_expects_38 (by decide) ?_
    obtain ⟨rfl, rfl, rfl, rfl⟩ := jret hf
    exact wa_iret X dX11_expects_39 rfl (by omega) (by omega)
  · rw [if_pos h2] at hf
    refine wa_aload_n X 0 dX11_expects_7 rfl ?_
    refine wa_lload_n X 1 dX11_expects_8 rfl ?_
    obtain ⟨r3, μ4, c5, m6, c7, m8, e9, hf, h10, h11⟩ := jcl_some hf
    refine wa_rcallV (st2 := [.int r3]) X dX11_expects_9 lmX11_217 lMX11_isWord rfl h1 (mX11_isWord e9) rfl rfl rfl (va_cats (Nat.le_of_ble_eq_true rfl)) (by decide) (by omega) (by omega) ?_
    refine wa_ifne (tgt := 27) X dX11_expects_12 (by decide) (fun h12 => ?_) (fun h12 => ?_)
    · rw [if_neg h12] at hf
      refine wa_sub (L2 := [(0, va_rf (some a))]) [0] rfl ?_
      exact gX11_expects_b27 X a μ4 _ _ _ _ hf (by omega) (by omega)
    · rw [if_pos h12] at hf
      refine wa_aload_n X 0 dX11_expects_15 rfl ?_
      refine wa_iconst (v := (0 : Int32)) X dX11_expects_16 (by decide) ?_
      refine wa_aload_n X 0 dX11_expects_17 rfl ?_
      obtain ⟨h13, hf⟩ := jckT hf
      refine wa_getI X dX11_expects_18 lfX11_185 rfl h13 rfl ?_
      obtain ⟨r14, μ15, c16, m17, c18, m19, e20, hf, h21, h22⟩ := jcl_some hf
      refine wa_rcallV (st2 := [.int r14]) X dX11_expects_21 lmX11_201 lMX11_fails rfl h13 (mX11_fails e20) rfl rfl rfl (va_cats (Nat.le_of_ble_eq_true rfl)) (by decide) (by omega) (by omega) ?_
      refine wa_ifeq (tgt := 38) X dX11_expects_24 (by decide) (fun h23 => ?_) (fun h23 => ?_)
      · rw [if_pos h23] at hf
        refine wa_iconst (v := (0 : Int32)) X dX11_expects_38 (by decide) ?_
        obtain ⟨rfl, rfl, rfl, rfl⟩ := jret hf
        exact wa_iret X dX11_expects_39 rfl (by omega) (by omega)
      · rw [if_neg h23] at hf
        refine wa_sub (L2 := [(0, va_rf (some a))]) [0] rfl ?_
        exact gX11_expects_b27 X a μ15 _ _ _ _ hf (by omega) (by omega)
theorem dX11_expectsSign_0 : decode cX11_expectsSign 0 = .ok (.aload_n 0, 1) := by decide +kernel
theorem dX11_expectsSign_1 : decode cX11_expectsSign 1 = .ok (.getfield 163, 3) := by decide +kernel
theorem dX11_expectsSign_4 : decode cX11_expectsSign 4 = .ok (.ifCond .ne 34, 3) := by decide +kernel
theorem dX11_expectsSign_7 : decode cX11_expectsSign 7 = .ok (.aload_n 0, 1) := by decide +kernel
theorem dX11_expectsSign_8 : decode cX11_expectsSign 8 = .ok (.iload_n 1, 1) := by decide +kernel
theorem dX11_expectsSign_9 : decode cX11_expectsSign 9 = .ok (.invokevirtual 258, 3) := by decide +kernel
theorem dX11_expectsSign_12 : decode cX11_expectsSign 12 = .ok (.ifCond .ne 15, 3) := by decide +kernel
theorem dX11_expectsSign_15 : decode cX11_expectsSign 15 = .ok (.aload_n 0, 1) := by decide +kernel
theorem dX11_expectsSign_16 : decode cX11_expectsSign 16 = .ok (.iconst 0, 1) := by decide +kernel
theorem dX11_expectsSign_17 : decode cX11_expectsSign 17 = .ok (.aload_n 0, 1) := by decide +kernel
theorem dX11_expectsSign_18 : decode cX11_expectsSign 18 = .ok (.getfield 185, 3) := by decide +kernel
theorem dX11_expectsSign_21 : decode cX11_expectsSign 21 = .ok (.invokevirtual 201, 3) := by decide +kernel
theorem dX11_expectsSign_24 : decode cX11_expectsSign 24 = .ok (.ifCond .eq 14, 3) := by decide +kernel
theorem dX11_expectsSign_27 : decode cX11_expectsSign 27 = .ok (.aload_n 0, 1) := by decide +kernel
theorem dX11_expectsSign_28 : decode cX11_expectsSign 28 = .ok (.invokevirtual 255, 3) := by decide +kernel
theorem dX11_expectsSign_31 : decode cX11_expectsSign 31 = .ok (.ifCond .eq 7, 3) := by decide +kernel
theorem dX11_expectsSign_34 : decode cX11_expectsSign 34 = .ok (.iconst 1, 1) := by decide +kernel
theorem dX11_expectsSign_35 : decode cX11_expectsSign 35 = .ok (.goto 4, 3) := by decide +kernel
theorem dX11_expectsSign_38 : decode cX11_expectsSign 38 = .ok (.iconst 0, 1) := by decide +kernel
theorem dX11_expectsSign_39 : decode cX11_expectsSign 39 = .ok (.ireturn, 1) := by decide +kernel
def fX11_expectsSign_b27 (a : Nat) (μ : JM) : JO (Int32) := jck ((jT μ a).1 == 12) <| jcl (fX11_takes a μ) fun r25 μ26 => if r25 = 0 then (some ((0 : Int32), μ26, 0, 0)) else (some ((1 : Int32), μ26, 0, 0))
set_option maxHeartbeats 4000000 in
set_option maxRecDepth 100000 in
theorem gX11_expectsSign_b27 {b : Nat} {Θ : JE} {RC RS : Nat} {r : Int32} {ν : JM} (X : jX b Θ RX11 cX11_expectsSign 2 (some .boolean) 3 65 RC RS) (a : Nat) (μ : JM) (c m k n : Nat) (hf : fX11_expectsSign_b27 a μ = some (r, ν, c, m)) (hk : k + c = RC) (hn : n + m = RS) : WA b Θ 2 (jE b Θ (some (.int r)) ν RC RS) μ k n 27 [(0, va_rf (some a))] [] := by
  rw [fX11_expectsSign_b27] at hf
  refine wa_aload_n X 0 dX11_expectsSign_27 rfl ?_
  obtain ⟨h24, hf⟩ := jckT hf
  obtain ⟨r25, μ26, c27, m28, c29, m30, e31, hf, h32, h33⟩ := jcl_some hf
  refine wa_rcallV (st2 := [.int r25]) X dX11_expectsSign_28 lmX11_255 lMX11_takes rfl h24 (mX11_takes e31) rfl rfl rfl (va_cats (Nat.le_of_ble_eq_true rfl)) (by decide) (by omega) (by omega) ?_
  refine wa_ifeq (tgt := 38) X dX11_expectsSign_31 (by decide) (fun h34 => ?_) (fun h34 => ?_)
  · rw [if_pos h34] at hf
    refine wa_iconst (v := (0 : Int32)) X dX11_expectsSign_38 (by decide) ?_
    obtain ⟨rfl, rfl, rfl, rfl⟩ := jret hf
    exact wa_iret X dX11_expectsSign_39 rfl (by omega) (by omega)
  · rw [if_neg h34] at hf
    refine wa_iconst (v := (1 : Int32)) X dX11_expectsSign_34 (by decide) ?_
    refine wa_goto (tgt := 39) X dX11_expectsSign_35 (by decide) ?_
    obtain ⟨rfl, rfl, rfl, rfl⟩ := jret hf
    exact wa_iret X dX11_expectsSign_39 rfl (by omega) (by omega)
def fX11_expectsSign (a : Nat) (x1 : Int32) (μ : JM) : JO (Int32) := jck ((jT μ a).1 == 12) <| if (jI μ a 18) = 0 then (jcl (fX11_isSign a x1 μ) fun r3 μ4 => if r3 = 0 then (jck ((jT μ4 a).1 == 12) <| jcl (fX11_fails a (0 : Int32) (jI μ4 a 15) μ4) fun r14 μ15 => if r14 = 0 then (some ((0 : Int32), μ15, 0, 0)) else (fX11_expectsSign_b27  a μ15)) else (fX11_expectsSign_b27  a μ4)) else (some ((0 : Int32), μ, 0, 0))
set_option maxHeartbeats 4000000 in
set_option maxRecDepth 100000 in
theorem mX11_expectsSign {b : Nat} {a : Nat} {x1 : Int32} {μ : JM} {r : Int32} {ν : JM} {c m : Nat} (hf : fX11_expectsSign a x1 μ = some (r, ν, c, m)) : JMet b yX11_expectsSign cX11_expectsSign 2 (some .boolean) 3 65 [va_rf (some a), .int x1] μ (some (.int r)) ν c m := by
  refine JMet.of (by decide) (lg_sl_le (by simp only [List.map_cons, List.map_nil, List.sum_cons, List.sum_nil, va_rf_cat]; exact Nat.le_of_ble_eq_true rfl)) (fun Θ X hin => ?_)
  refine wa_eq (L2 := [(0, va_rf (some a)), (1, .int x1)]) ?_ rfl (by first | rfl | simp [lv_args, va_rf_cat, cat_i, cat_l]) rfl
  obtain ⟨k, hk0⟩ : ∃ k : Nat, k = 0 := ⟨0, rfl⟩
  obtain ⟨n, hn0⟩ : ∃ n : Nat, n = 0 := ⟨0, rfl⟩
  have hk : k + c = c := by omega
  have hn : n + m = m := by omega
  refine wa_costs hk0.symm hn0.symm ?_
  rw [fX11_expectsSign] at hf
  refine wa_aload_n X 0 dX11_expectsSign_0 rfl ?_
  obtain ⟨h1, hf⟩ := jckT hf
  refine wa_getI X dX11_expectsSign_1 lfX11_163 rfl h1 rfl ?_
  refine wa_ifne (tgt := 38) X dX11_expectsSign_4 (by decide) (fun h2 => ?_) (fun h2 => ?_)
  · rw [if_neg h2] at hf
    refine wa_iconst (v := (0 : Int32)) X dX11_expectsSign_38 (by decide) ?_
    obtain ⟨rfl, rfl, rfl, rfl⟩ := jret hf
    exact wa_iret X dX11_expectsSign_39 rfl (by omega) (by omega)
  · rw [if_pos h2] at hf
    refine wa_aload_n X 0 dX11_expectsSign_7 rfl ?_
    refine wa_iload_n X 1 dX11_expectsSign_8 rfl ?_
    obtain ⟨r3, μ4, c5, m6, c7, m8, e9, hf, h10, h11⟩ := jcl_some hf
    refine wa_rcallV (st2 := [.int r3]) X dX11_expectsSign_9 lmX11_258 lMX11_isSign rfl h1 (mX11_isSign e9) rfl rfl rfl (va_cats (Nat.le_of_ble_eq_true rfl)) (by decide) (by omega) (by omega) ?_
    refine wa_ifne (tgt := 27) X dX11_expectsSign_12 (by decide) (fun h12 => ?_) (fun h12 => ?_)
    · rw [if_neg h12] at hf
      refine wa_sub (L2 := [(0, va_rf (some a))]) [0] rfl ?_
      exact gX11_expectsSign_b27 X a μ4 _ _ _ _ hf (by omega) (by omega)
    · rw [if_pos h12] at hf
      refine wa_aload_n X 0 dX11_expectsSign_15 rfl ?_
      refine wa_iconst (v := (0 : Int32)) X dX11_expectsSign_16 (by decide) ?_
      refine wa_aload_n X 0 dX11_expectsSign_17 rfl ?_
      obtain ⟨h13, hf⟩ := jckT hf
      refine wa_getI X dX11_expectsSign_18 lfX11_185 rfl h13 rfl ?_
      obtain ⟨r14, μ15, c16, m17, c18, m19, e20, hf, h21, h22⟩ := jcl_some hf
      refine wa_rcallV (st2 := [.int r14]) X dX11_expectsSign_21 lmX11_201 lMX11_fails rfl h13 (mX11_fails e20) rfl rfl rfl (va_cats (Nat.le_of_ble_eq_true rfl)) (by decide) (by omega) (by omega) ?_
      refine wa_ifeq (tgt := 38) X dX11_expectsSign_24 (by decide) (fun h23 => ?_) (fun h23 => ?_)
      · rw [if_pos h23] at hf
        refine wa_iconst (v := (0 : Int32)) X dX11_expectsSign_38 (by decide) ?_
        obtain ⟨rfl, rfl, rfl, rfl⟩ := jret hf
        exact wa_iret X dX11_expectsSign_39 rfl (by omega) (by omega)
      · rw [if_neg h23] at hf
        refine wa_sub (L2 := [(0, va_rf (some a))]) [0] rfl ?_
        exact gX11_expectsSign_b27 X a μ15 _ _ _ _ hf (by omega) (by omega)
theorem dX11_isName_0 : decode cX11_isName 0 = .ok (.aload_n 0, 1) := by decide +kernel
theorem dX11_isName_1 : decode cX11_isName 1 = .ok (.getfield 163, 3) := by decide +kernel
theorem dX11_isName_4 : decode cX11_isName 4 = .ok (.ifCond .le 5, 3) := by decide +kernel
theorem dX11_isName_7 : decode cX11_isName 7 = .ok (.iconst 0, 1) := by decide +kernel
theorem dX11_isName_8 : decode cX11_isName 8 = .ok (.ireturn, 1) := by decide +kernel
theorem dX11_isName_9 : decode cX11_isName 9 = .ok (.aload_n 0, 1) := by decide +kernel
theorem dX11_isName_10 : decode cX11_isName 10 = .ok (.getfield 194, 3) := by decide +kernel
theorem dX11_isName_13 : decode cX11_isName 13 = .ok (.iconst 1, 1) := by decide +kernel
theorem dX11_isName_14 : decode cX11_isName 14 = .ok (.if_icmp .eq 13, 3) := by decide +kernel
theorem dX11_isName_17 : decode cX11_isName 17 = .ok (.aload_n 0, 1) := by decide +kernel
theorem dX11_isName_18 : decode cX11_isName 18 = .ok (.iconst 0, 1) := by decide +kernel
theorem dX11_isName_19 : decode cX11_isName 19 = .ok (.aload_n 0, 1) := by decide +kernel
theorem dX11_isName_20 : decode cX11_isName 20 = .ok (.getfield 185, 3) := by decide +kernel
theorem dX11_isName_23 : decode cX11_isName 23 = .ok (.invokevirtual 201, 3) := by decide +kernel
theorem dX11_isName_26 : decode cX11_isName 26 = .ok (.ireturn, 1) := by decide +kernel
theorem dX11_isName_27 : decode cX11_isName 27 = .ok (.aload_n 0, 1) := by decide +kernel
theorem dX11_isName_28 : decode cX11_isName 28 = .ok (.invokevirtual 261, 3) := by decide +kernel
theorem dX11_isName_31 : decode cX11_isName 31 = .ok (.ifCond .eq 15, 3) := by decide +kernel
theorem dX11_isName_34 : decode cX11_isName 34 = .ok (.aload_n 0, 1) := by decide +kernel
theorem dX11_isName_35 : decode cX11_isName 35 = .ok (.iconst 2, 1) := by decide +kernel
theorem dX11_isName_36 : decode cX11_isName 36 = .ok (.aload_n 0, 1) := by decide +kernel
theorem dX11_isName_37 : decode cX11_isName 37 = .ok (.getfield 185, 3) := by decide +kernel
theorem dX11_isName_40 : decode cX11_isName 40 = .ok (.invokevirtual 201, 3) := by decide +kernel
theorem dX11_isName_43 : decode cX11_isName 43 = .ok (.ifCond .eq 7, 3) := by decide +kernel
theorem dX11_isName_46 : decode cX11_isName 46 = .ok (.iconst 1, 1) := by decide +kernel
theorem dX11_isName_47 : decode cX11_isName 47 = .ok (.goto 4, 3) := by decide +kernel
theorem dX11_isName_50 : decode cX11_isName 50 = .ok (.iconst 0, 1) := by decide +kernel
theorem dX11_isName_51 : decode cX11_isName 51 = .ok (.ireturn, 1) := by decide +kernel
def fX11_isName (a : Nat) (μ : JM) : JO (Int32) := jck ((jT μ a).1 == 12) <| if (jI μ a 18) ≤ 0 then (if (jI μ a 14) = (1 : Int32) then (jcl (fX11_isOwn a μ) fun r4 μ5 => if r4 = 0 then (some ((1 : Int32), μ5, 0, 0)) else (jck ((jT μ5 a).1 == 12) <| jcl (fX11_fails a (2 : Int32) (jI μ5 a 15) μ5) fun r15 μ16 => if r15 = 0 then (some ((0 : Int32), μ16, 0, 0)) else (some ((1 : Int32), μ16, 0, 0)))) else (jcl (fX11_fails a (0 : Int32) (jI μ a 15) μ) fun r25 μ26 => jck (jbl r25) <| some (r25, μ26, 0, 0))) else (some ((0 : Int32), μ, 0, 0))
set_option maxHeartbeats 4000000 in
set_option maxRecDepth 100000 in
theorem mX11_isName {b : Nat} {a : Nat} {μ : JM} {r : Int32} {ν : JM} {c m : Nat} (hf : fX11_isName a μ = some (r, ν, c, m)) : JMet b yX11_isName cX11_isName 1 (some .boolean) 3 65 [va_rf (some a)] μ (some (.int r)) ν c m := by
  refine JMet.of (by decide) (lg_sl_le (by simp only [List.map_cons, List.map_nil, List.sum_cons, List.sum_nil, va_rf_cat]; exact Nat.le_of_ble_eq_true rfl)) (fun Θ X hin => ?_)
  refine wa_eq (L2 := [(0, va_rf (some a))]) ?_ rfl (by first | rfl | simp [lv_args, va_rf_cat, cat_i, cat_l]) rfl
  obtain ⟨k, hk0⟩ : ∃ k : Nat, k = 0 := ⟨0, rfl⟩
  obtain ⟨n, hn0⟩ : ∃ n : Nat, n = 0 := ⟨0, rfl⟩
  have hk : k + c = c := by omega
  have hn : n + m = m := by omega
  refine wa_costs hk0.symm hn0.symm ?_
  rw [fX11_isName] at hf
  refine wa_aload_n X 0 dX11_isName_0 rfl ?_
  obtain ⟨h1, hf⟩ := jckT hf
  refine wa_getI X dX11_isName_1 lfX11_163 rfl h1 rfl ?_
  refine wa_ifle (tgt := 9) X dX11_isName_4 (by decide) (fun h2 => ?_) (fun h2 => ?_)
  · rw [if_pos h2] at hf
    refine wa_aload_n X 0 dX11_isName_9 rfl ?_
    refine wa_getI X dX11_isName_10 lfX11_194 rfl h1 rfl ?_
    refine wa_iconst (v := (1 : Int32)) X dX11_isName_13 (by decide) ?_
    refine wa_iceq (tgt := 27) X dX11_isName_14 (by decide) (fun h3 => ?_) (fun h3 => ?_)
    · rw [if_pos h3] at hf
      refine wa_aload_n X 0 dX11_isName_27 rfl ?_
      obtain ⟨r4, μ5, c6, m7, c8, m9, e10, hf, h11, h12⟩ := jcl_some hf
      refine wa_rcallV (st2 := [.int r4]) X dX11_isName_28 lmX11_261 lMX11_isOwn rfl h1 (mX11_isOwn e10) rfl rfl rfl (va_cats (Nat.le_of_ble_eq_true rfl)) (by decide) (by omega) (by omega) ?_
      refine wa_ifeq (tgt := 46) X dX11_isName_31 (by decide) (fun h13 => ?_) (fun h13 => ?_)
      · rw [if_pos h13] at hf
        refine wa_iconst (v := (1 : Int32)) X dX11_isName_46 (by decide) ?_
        refine wa_goto (tgt := 51) X dX11_isName_47 (by decide) ?_
        obtain ⟨rfl, rfl, rfl, rfl⟩ := jret hf
        exact wa_iret X dX11_isName_51 rfl (by omega) (by omega)
      · rw [if_neg h13] at hf
        refine wa_aload_n X 0 dX11_isName_34 rfl ?_
        refine wa_iconst (v := (2 : Int32)) X dX11_isName_35 (by decide) ?_
        refine wa_aload_n X 0 dX11_isName_36 rfl ?_
        obtain ⟨h14, hf⟩ := jckT hf
        refine wa_getI X dX11_isName_37 lfX11_185 rfl h14 rfl ?_
        obtain ⟨r15, μ16, c17, m18, c19, m20, e21, hf, h22, h23⟩ := jcl_some hf
        refine wa_rcallV (st2 := [.int r15]) X dX11_isName_40 lmX11_201 lMX11_fails rfl h14 (mX11_fails e21) rfl rfl rfl (va_cats (Nat.le_of_ble_eq_true rfl)) (by decide) (by omega) (by omega) ?_
        refine wa_ifeq (tgt := 50) X dX11_isName_43 (by decide) (fun h24 => ?_) (fun h24 => ?_)
        · rw [if_pos h24] at hf
          refine wa_iconst (v := (0 : Int32)) X dX11_isName_50 (by decide) ?_
          obtain ⟨rfl, rfl, rfl, rfl⟩ := jret hf
          exact wa_iret X dX11_isName_51 rfl (by omega) (by omega)
        · rw [if_neg h24] at hf
          refine wa_iconst (v := (1 : Int32)) X dX11_isName_46 (by decide) ?_
          refine wa_goto (tgt := 51) X dX11_isName_47 (by decide) ?_
          obtain ⟨rfl, rfl, rfl, rfl⟩ := jret hf
          exact wa_iret X dX11_isName_51 rfl (by omega) (by omega)
    · rw [if_neg h3] at hf
      refine wa_aload_n X 0 dX11_isName_17 rfl ?_
      refine wa_iconst (v := (0 : Int32)) X dX11_isName_18 (by decide) ?_
      refine wa_aload_n X 0 dX11_isName_19 rfl ?_
      refine wa_getI X dX11_isName_20 lfX11_185 rfl h1 rfl ?_
      obtain ⟨r25, μ26, c27, m28, c29, m30, e31, hf, h32, h33⟩ := jcl_some hf
      refine wa_rcallV (st2 := [.int r25]) X dX11_isName_23 lmX11_201 lMX11_fails rfl h1 (mX11_fails e31) rfl rfl rfl (va_cats (Nat.le_of_ble_eq_true rfl)) (by decide) (by omega) (by omega) ?_
      obtain ⟨h34, hf⟩ := jck_some hf
      obtain ⟨rfl, rfl, rfl, rfl⟩ := jret hf
      exact wa_iret X dX11_isName_26 (jbl_nar h34) (by omega) (by omega)
  · rw [if_neg h2] at hf
    refine wa_iconst (v := (0 : Int32)) X dX11_isName_7 (by decide) ?_
    obtain ⟨rfl, rfl, rfl, rfl⟩ := jret hf
    exact wa_iret X dX11_isName_8 rfl (by omega) (by omega)
theorem dX11_find_0 : decode cX11_find 0 = .ok (.iconst 0, 1) := by decide +kernel
theorem dX11_find_1 : decode cX11_find 1 = .ok (.istore 4, 2) := by decide +kernel
theorem dX11_find_3 : decode cX11_find 3 = .ok (.iload 4, 2) := by decide +kernel
theorem dX11_find_5 : decode cX11_find 5 = .ok (.iload_n 3, 1) := by decide +kernel
theorem dX11_find_6 : decode cX11_find 6 = .ok (.if_icmp .ge 90, 3) := by decide +kernel
theorem dX11_find_9 : decode cX11_find 9 = .ok (.aload_n 2, 1) := by decide +kernel
theorem dX11_find_10 : decode cX11_find 10 = .ok (.iload 4, 2) := by decide +kernel
theorem dX11_find_12 : decode cX11_find 12 = .ok (.iaload, 1) := by decide +kernel
theorem dX11_find_13 : decode cX11_find 13 = .ok (.aload_n 0, 1) := by decide +kernel
theorem dX11_find_14 : decode cX11_find 14 = .ok (.getfield 188, 3) := by decide +kernel
theorem dX11_find_17 : decode cX11_find 17 = .ok (.if_icmp .ne 7, 3) := by decide +kernel
theorem dX11_find_20 : decode cX11_find 20 = .ok (.iconst 1, 1) := by decide +kernel
theorem dX11_find_21 : decode cX11_find 21 = .ok (.goto 4, 3) := by decide +kernel
theorem dX11_find_24 : decode cX11_find 24 = .ok (.iconst 0, 1) := by decide +kernel
theorem dX11_find_25 : decode cX11_find 25 = .ok (.istore 5, 2) := by decide +kernel
theorem dX11_find_27 : decode cX11_find 27 = .ok (.iconst 0, 1) := by decide +kernel
theorem dX11_find_28 : decode cX11_find 28 = .ok (.istore 6, 2) := by decide +kernel
theorem dX11_find_30 : decode cX11_find 30 = .ok (.iload 5, 2) := by decide +kernel
theorem dX11_find_32 : decode cX11_find 32 = .ok (.ifCond .eq 50, 3) := by decide +kernel
theorem dX11_find_35 : decode cX11_find 35 = .ok (.iload 6, 2) := by decide +kernel
theorem dX11_find_37 : decode cX11_find 37 = .ok (.aload_n 0, 1) := by decide +kernel
theorem dX11_find_38 : decode cX11_find 38 = .ok (.getfield 188, 3) := by decide +kernel
theorem dX11_find_41 : decode cX11_find 41 = .ok (.if_icmp .ge 41, 3) := by decide +kernel
theorem dX11_find_44 : decode cX11_find 44 = .ok (.aload_n 1, 1) := by decide +kernel
theorem dX11_find_45 : decode cX11_find 45 = .ok (.bipush 12, 2) := by decide +kernel
theorem dX11_find_47 : decode cX11_find 47 = .ok (.iload 4, 2) := by decide +kernel
theorem dX11_find_49 : decode cX11_find 49 = .ok (.imul, 1) := by decide +kernel
theorem dX11_find_50 : decode cX11_find 50 = .ok (.iload 6, 2) := by decide +kernel
theorem dX11_find_52 : decode cX11_find 52 = .ok (.iadd, 1) := by decide +kernel
theorem dX11_find_53 : decode cX11_find 53 = .ok (.baload, 1) := by decide +kernel
theorem dX11_find_54 : decode cX11_find 54 = .ok (.aload_n 0, 1) := by decide +kernel
theorem dX11_find_55 : decode cX11_find 55 = .ok (.getfield 36, 3) := by decide +kernel
theorem dX11_find_58 : decode cX11_find 58 = .ok (.aload_n 0, 1) := by decide +kernel
theorem dX11_find_59 : decode cX11_find 59 = .ok (.getfield 185, 3) := by decide +kernel
theorem dX11_find_62 : decode cX11_find 62 = .ok (.iload 6, 2) := by decide +kernel
theorem dX11_find_64 : decode cX11_find 64 = .ok (.iadd, 1) := by decide +kernel
theorem dX11_find_65 : decode cX11_find 65 = .ok (.baload, 1) := by decide +kernel
theorem dX11_find_66 : decode cX11_find 66 = .ok (.if_icmp .ne 7, 3) := by decide +kernel
theorem dX11_find_69 : decode cX11_find 69 = .ok (.iconst 1, 1) := by decide +kernel
theorem dX11_find_70 : decode cX11_find 70 = .ok (.goto 4, 3) := by decide +kernel
theorem dX11_find_73 : decode cX11_find 73 = .ok (.iconst 0, 1) := by decide +kernel
theorem dX11_find_74 : decode cX11_find 74 = .ok (.istore 5, 2) := by decide +kernel
theorem dX11_find_76 : decode cX11_find 76 = .ok (.iinc 6 1, 3) := by decide +kernel
theorem dX11_find_79 : decode cX11_find 79 = .ok (.goto (-49), 3) := by decide +kernel
theorem dX11_find_82 : decode cX11_find 82 = .ok (.iload 5, 2) := by decide +kernel
theorem dX11_find_84 : decode cX11_find 84 = .ok (.ifCond .eq 6, 3) := by decide +kernel
theorem dX11_find_87 : decode cX11_find 87 = .ok (.iload 4, 2) := by decide +kernel
theorem dX11_find_89 : decode cX11_find 89 = .ok (.ireturn, 1) := by decide +kernel
theorem dX11_find_90 : decode cX11_find 90 = .ok (.iinc 4 1, 3) := by decide +kernel
theorem dX11_find_93 : decode cX11_find 93 = .ok (.goto (-90), 3) := by decide +kernel
theorem dX11_find_96 : decode cX11_find 96 = .ok (.iconst (-1), 1) := by decide +kernel
theorem dX11_find_97 : decode cX11_find 97 = .ok (.ireturn, 1) := by decide +kernel
def fX11_find_b74 (rec3 : Nat → Option Nat → Option Nat → Int32 → Int32 → JM → JO (Int32)) (rec30 : Nat → Option Nat → Option Nat → Int32 → Int32 → Int32 → Int32 → JM → JO (Int32)) (a : Nat) (p1 : Option Nat) (p2 : Option Nat) (x3 : Int32) (x4 : Int32) (x6 : Int32) (s0 : Int32) (μ : JM) : JO (Int32) := rec30 a p1 p2 x3 x4 s0 (x6 + (1 : Int32)) μ
set_option maxHeartbeats 4000000 in
set_option maxRecDepth 100000 in
theorem gX11_find_b74 {b : Nat} {Θ : JE} {RC RS : Nat} {r : Int32} {ν : JM} (X : jX b Θ RX11 cX11_find 7 (some .int) 0 0 RC RS) {rec3 : Nat → Option Nat → Option Nat → Int32 → Int32 → JM → JO (Int32)} (hrec3 : ∀ (a : Nat) (p1 : Option Nat) (p2 : Option Nat) (x3 : Int32) (x4 : Int32) (μ : JM) (c m k n : Nat), rec3 a p1 p2 x3 x4 μ = some (r, ν, c, m) → k + c = RC → n + m = RS → WA b Θ 7 (jE b Θ (some (.int r)) ν RC RS) μ k n 3 [(0, va_rf (some a)), (1, va_rf p1), (2, va_rf p2), (3, .int x3), (4, .int x4)] []) {rec30 : Nat → Option Nat → Option Nat → Int32 → Int32 → Int32 → Int32 → JM → JO (Int32)} (hrec30 : ∀ (a : Nat) (p1 : Option Nat) (p2 : Option Nat) (x3 : Int32) (x4 : Int32) (x5 : Int32) (x6 : Int32) (μ : JM) (c m k n : Nat), rec30 a p1 p2 x3 x4 x5 x6 μ = some (r, ν, c, m) → k + c = RC → n + m = RS → WA b Θ 7 (jE b Θ (some (.int r)) ν RC RS) μ k n 30 [(0, va_rf (some a)), (1, va_rf p1), (2, va_rf p2), (3, .int x3), (4, .int x4), (5, .int x5), (6, .int x6)] []) (a : Nat) (p1 : Option Nat) (p2 : Option Nat) (x3 : Int32) (x4 : Int32) (x6 : Int32) (s0 : Int32) (μ : JM) (c m k n : Nat) (hf : fX11_find_b74 rec3 rec30 a p1 p2 x3 x4 x6 s0 μ = some (r, ν, c, m)) (hk : k + c = RC) (hn : n + m = RS) : WA b Θ 7 (jE b Θ (some (.int r)) ν RC RS) μ k n 74 [(0, va_rf (some a)), (1, va_rf p1), (2, va_rf p2), (3, .int x3), (4, .int x4), (6, .int x6)] [.int s0] := by
  rw [fX11_find_b74] at hf
  refine wa_istore (L2 := [(5, .int s0), (0, va_rf (some a)), (1, va_rf p1), (2, va_rf p2), (3, .int x3), (4, .int x4), (6, .int x6)]) X dX11_find_74 (by decide) (by first | rfl | (show (5, _) :: List.filter (fun q : Nat × Value => !(q.1 == 5) && !(q.1 + 1 == 5 && q.2.category == 2)) _ = _; simp [va_rf_cat, cat_i, cat_l])) ?_
  refine wa_iinc (v := (x6 + (1 : Int32))) (L2 := [(6, .int (x6 + (1 : Int32))), (5, .int s0), (0, va_rf (some a)), (1, va_rf p1), (2, va_rf p2), (3, .int x3), (4, .int x4)]) X 6 dX11_find_76 rfl rfl (by decide) (by first | rfl | simp [va_rf_cat, cat_i, cat_l]) ?_
  refine wa_goto (tgt := 30) X dX11_find_79 (by decide) ?_
  refine wa_sub (L2 := [(0, va_rf (some a)), (1, va_rf p1), (2, va_rf p2), (3, .int x3), (4, .int x4), (5, .int s0), (6, .int (x6 + (1 : Int32)))]) [2, 3, 4, 5, 6, 1, 0] rfl ?_
  exact hrec30 a p1 p2 x3 x4 s0 (x6 + (1 : Int32)) μ _ _ _ _ hf (by omega) (by omega)
def fX11_find_b82 (rec3 : Nat → Option Nat → Option Nat → Int32 → Int32 → JM → JO (Int32)) (a : Nat) (p1 : Option Nat) (p2 : Option Nat) (x3 : Int32) (x4 : Int32) (x5 : Int32) (μ : JM) : JO (Int32) := if x5 = 0 then (rec3 a p1 p2 x3 (x4 + (1 : Int32)) μ) else (some (x4, μ, 0, 0))
set_option maxHeartbeats 4000000 in
set_option maxRecDepth 100000 in
theorem gX11_find_b82 {b : Nat} {Θ : JE} {RC RS : Nat} {r : Int32} {ν : JM} (X : jX b Θ RX11 cX11_find 7 (some .int) 0 0 RC RS) {rec3 : Nat → Option Nat → Option Nat → Int32 → Int32 → JM → JO (Int32)} (hrec3 : ∀ (a : Nat) (p1 : Option Nat) (p2 : Option Nat) (x3 : Int32) (x4 : Int32) (μ : JM) (c m k n : Nat), rec3 a p1 p2 x3 x4 μ = some (r, ν, c, m) → k + c = RC → n + m = RS → WA b Θ 7 (jE b Θ (some (.int r)) ν RC RS) μ k n 3 [(0, va_rf (some a)), (1, va_rf p1), (2, va_rf p2), (3, .int x3), (4, .int x4)] []) (a : Nat) (p1 : Option Nat) (p2 : Option Nat) (x3 : Int32) (x4 : Int32) (x5 : Int32) (μ : JM) (c m k n : Nat) (hf : fX11_find_b82 rec3 a p1 p2 x3 x4 x5 μ = some (r, ν, c, m)) (hk : k + c = RC) (hn : n + m = RS) : WA b Θ 7 (jE b Θ (some (.int r)) ν RC RS) μ k n 82 [(0, va_rf (some a)), (1, va_rf p1), (2, va_rf p2), (3, .int x3), (4, .int x4), (5, .int x5)] [] := by
  rw [fX11_find_b82] at hf
  refine wa_iload X 5 dX11_find_82 rfl ?_
  refine wa_ifeq (tgt := 90) X dX11_find_84 (by decide) (fun h20 => ?_) (fun h20 => ?_)
  · rw [if_pos h20] at hf
    refine wa_iinc (v := (x4 + (1 : Int32))) (L2 := [(4, .int (x4 + (1 : Int32))), (0, va_rf (some a)), (1, va_rf p1), (2, va_rf p2), (3, .int x3), (5, .int x5)]) X 4 dX11_find_90 rfl rfl (by decide) (by first | rfl | simp [va_rf_cat, cat_i, cat_l]) ?_
    refine wa_goto (tgt := 3) X dX11_find_93 (by decide) ?_
    refine wa_sub (L2 := [(0, va_rf (some a)), (1, va_rf p1), (2, va_rf p2), (3, .int x3), (4, .int (x4 + (1 : Int32)))]) [1, 2, 3, 4, 0] rfl ?_
    exact hrec3 a p1 p2 x3 (x4 + (1 : Int32)) μ _ _ _ _ hf (by omega) (by omega)
  · rw [if_neg h20] at hf
    refine wa_iload X 4 dX11_find_87 rfl ?_
    obtain ⟨rfl, rfl, rfl, rfl⟩ := jret hf
    exact wa_iret X dX11_find_89 rfl (by omega) (by omega)
def fX11_find_b30 (rec3 : Nat → Option Nat → Option Nat → Int32 → Int32 → JM → JO (Int32)) : Nat → Nat → Option Nat → Option Nat → Int32 → Int32 → Int32 → Int32 → JM → JO (Int32)
  | 0, _, _, _, _, _, _, _, _ => none
  | fu + 1, a, p1, p2, x3, x4, x5, x6, μ => if x5 = 0 then (fX11_find_b82 rec3 a p1 p2 x3 x4 x5 μ) else (jck ((jT μ a).1 == 12) <| if (jI μ a 16) ≤ x6 then (fX11_find_b82 rec3 a p1 p2 x3 x4 x5 μ) else (jde p1 fun q11 => jck ((jT μ q11).1 == 100) <| jck (jin (((12 : Int32) * x4) + x6) (jT μ q11).2) <| jde (jP μ a 11) fun q15 => jck ((jT μ q15).1 == 100) <| jck (jin ((jI μ a 15) + x6) (jT μ q15).2) <| if (jI μ q11 ((((12 : Int32) * x4) + x6)).toNatClampNeg) = (jI μ q15 (((jI μ a 15) + x6)).toNatClampNeg) then (fX11_find_b74 rec3 (fX11_find_b30 rec3 fu) a p1 p2 x3 x4 x6 (1 : Int32) μ) else (fX11_find_b74 rec3 (fX11_find_b30 rec3 fu) a p1 p2 x3 x4 x6 (0 : Int32) μ)))
set_option maxHeartbeats 4000000 in
set_option maxRecDepth 100000 in
theorem gX11_find_b30 {b : Nat} {Θ : JE} {RC RS : Nat} {r : Int32} {ν : JM} (X : jX b Θ RX11 cX11_find 7 (some .int) 0 0 RC RS) {rec3 : Nat → Option Nat → Option Nat → Int32 → Int32 → JM → JO (Int32)} (hrec3 : ∀ (a : Nat) (p1 : Option Nat) (p2 : Option Nat) (x3 : Int32) (x4 : Int32) (μ : JM) (c m k n : Nat), rec3 a p1 p2 x3 x4 μ = some (r, ν, c, m) → k + c = RC → n + m = RS → WA b Θ 7 (jE b Θ (some (.int r)) ν RC RS) μ k n 3 [(0, va_rf (some a)), (1, va_rf p1), (2, va_rf p2), (3, .int x3), (4, .int x4)] []) : ∀ (fu : Nat) (a : Nat) (p1 : Option Nat) (p2 : Option Nat) (x3 : Int32) (x4 : Int32) (x5 : Int32) (x6 : Int32) (μ : JM) (c m k n : Nat), fX11_find_b30 rec3 fu a p1 p2 x3 x4 x5 x6 μ = some (r, ν, c, m) → k + c = RC → n + m = RS → WA b Θ 7 (jE b Θ (some (.int r)) ν RC RS) μ k n 30 [(0, va_rf (some a)), (1, va_rf p1), (2, va_rf p2), (3, .int x3), (4, .int x4), (5, .int x5), (6, .int x6)] [] := by
  intro fu
  induction fu with
  | zero => intro a p1 p2 x3 x4 x5 x6 μ c m k n hf; cases hf
  | succ fu ih =>
    intro a p1 p2 x3 x4 x5 x6 μ c m k n hf hk hn
    rw [fX11_find_b30] at hf
    refine wa_iload X 5 dX11_find_30 rfl ?_
    refine wa_ifeq (tgt := 82) X dX11_find_32 (by decide) (fun h8 => ?_) (fun h8 => ?_)
    · rw [if_pos h8] at hf
      refine wa_sub (L2 := [(0, va_rf (some a)), (1, va_rf p1), (2, va_rf p2), (3, .int x3), (4, .int x4), (5, .int x5)]) [0, 1, 2, 3, 4, 5] rfl ?_
      exact gX11_find_b82 X hrec3 a p1 p2 x3 x4 x5 μ _ _ _ _ hf (by omega) (by omega)
    · rw [if_neg h8] at hf
      refine wa_iload X 6 dX11_find_35 rfl ?_
      refine wa_aload_n X 0 dX11_find_37 rfl ?_
      obtain ⟨h9, hf⟩ := jckT hf
      refine wa_getI X dX11_find_38 lfX11_188 rfl h9 rfl ?_
      refine wa_icge (tgt := 82) X dX11_find_41 (by decide) (fun h10 => ?_) (fun h10 => ?_)
      · rw [if_pos h10] at hf
        refine wa_sub (L2 := [(0, va_rf (some a)), (1, va_rf p1), (2, va_rf p2), (3, .int x3), (4, .int x4), (5, .int x5)]) [0, 1, 2, 3, 4, 5] rfl ?_
        exact gX11_find_b82 X hrec3 a p1 p2 x3 x4 x5 μ _ _ _ _ hf (by omega) (by omega)
      · rw [if_neg h10] at hf
        refine wa_aload_n X 1 dX11_find_44 rfl ?_
        refine wa_bipush (v := (12 : Int32)) X dX11_find_45 (by decide) ?_
        refine wa_iload X 4 dX11_find_47 rfl ?_
        refine wa_imul X dX11_find_49 ?_
        refine wa_iload X 6 dX11_find_50 rfl ?_
        refine wa_iadd X dX11_find_52 ?_
        obtain ⟨q11, h12, hf⟩ := jde_some hf
        obtain ⟨h13, hf⟩ := jckT hf
        obtain ⟨h14, hf⟩ := jck_some hf
        refine wa_rbald X dX11_find_53 h12 h13 h14 ?_
        refine wa_aload_n X 0 dX11_find_54 rfl ?_
        refine wa_getP X dX11_find_55 lfX11_36 rfl h9 rfl ?_
        refine wa_aload_n X 0 dX11_find_58 rfl ?_
        refine wa_getI X dX11_find_59 lfX11_185 rfl h9 rfl ?_
        refine wa_iload X 6 dX11_find_62 rfl ?_
        refine wa_iadd X dX11_find_64 ?_
        obtain ⟨q15, h16, hf⟩ := jde_some hf
        obtain ⟨h17, hf⟩ := jckT hf
        obtain ⟨h18, hf⟩ := jck_some hf
        refine wa_rbald X dX11_find_65 h16 h17 h18 ?_
        refine wa_icne (tgt := 73) X dX11_find_66 (by decide) (fun h19 => ?_) (fun h19 => ?_)
        · rw [if_neg h19] at hf
          refine wa_iconst (v := (0 : Int32)) X dX11_find_73 (by decide) ?_
          refine wa_sub (L2 := [(0, va_rf (some a)), (1, va_rf p1), (2, va_rf p2), (3, .int x3), (4, .int x4), (6, .int x6)]) [0, 1, 2, 3, 4, 6] rfl ?_
          exact gX11_find_b74 X hrec3 ih a p1 p2 x3 x4 x6 (0 : Int32) μ _ _ _ _ hf (by omega) (by omega)
        · rw [if_pos h19] at hf
          refine wa_iconst (v := (1 : Int32)) X dX11_find_69 (by decide) ?_
          refine wa_goto (tgt := 74) X dX11_find_70 (by decide) ?_
          refine wa_sub (L2 := [(0, va_rf (some a)), (1, va_rf p1), (2, va_rf p2), (3, .int x3), (4, .int x4), (6, .int x6)]) [0, 1, 2, 3, 4, 6] rfl ?_
          exact gX11_find_b74 X hrec3 ih a p1 p2 x3 x4 x6 (1 : Int32) μ _ _ _ _ hf (by omega) (by omega)
def fX11_find_b25 (rec3 : Nat → Option Nat → Option Nat → Int32 → Int32 → JM → JO (Int32)) (a : Nat) (p1 : Option Nat) (p2 : Option Nat) (x3 : Int32) (x4 : Int32) (s0 : Int32) (μ : JM) : JO (Int32) := fX11_find_b30 rec3 jfuel a p1 p2 x3 x4 s0 (0 : Int32) μ
set_option maxHeartbeats 4000000 in
set_option maxRecDepth 100000 in
theorem gX11_find_b25 {b : Nat} {Θ : JE} {RC RS : Nat} {r : Int32} {ν : JM} (X : jX b Θ RX11 cX11_find 7 (some .int) 0 0 RC RS) {rec3 : Nat → Option Nat → Option Nat → Int32 → Int32 → JM → JO (Int32)} (hrec3 : ∀ (a : Nat) (p1 : Option Nat) (p2 : Option Nat) (x3 : Int32) (x4 : Int32) (μ : JM) (c m k n : Nat), rec3 a p1 p2 x3 x4 μ = some (r, ν, c, m) → k + c = RC → n + m = RS → WA b Θ 7 (jE b Θ (some (.int r)) ν RC RS) μ k n 3 [(0, va_rf (some a)), (1, va_rf p1), (2, va_rf p2), (3, .int x3), (4, .int x4)] []) (a : Nat) (p1 : Option Nat) (p2 : Option Nat) (x3 : Int32) (x4 : Int32) (s0 : Int32) (μ : JM) (c m k n : Nat) (hf : fX11_find_b25 rec3 a p1 p2 x3 x4 s0 μ = some (r, ν, c, m)) (hk : k + c = RC) (hn : n + m = RS) : WA b Θ 7 (jE b Θ (some (.int r)) ν RC RS) μ k n 25 [(0, va_rf (some a)), (1, va_rf p1), (2, va_rf p2), (3, .int x3), (4, .int x4)] [.int s0] := by
  rw [fX11_find_b25] at hf
  refine wa_istore (L2 := [(5, .int s0), (0, va_rf (some a)), (1, va_rf p1), (2, va_rf p2), (3, .int x3), (4, .int x4)]) X dX11_find_25 (by decide) (by first | rfl | (show (5, _) :: List.filter (fun q : Nat × Value => !(q.1 == 5) && !(q.1 + 1 == 5 && q.2.category == 2)) _ = _; simp [va_rf_cat, cat_i, cat_l])) ?_
  refine wa_iconst (v := (0 : Int32)) X dX11_find_27 (by decide) ?_
  refine wa_istore (L2 := [(6, .int (0 : Int32)), (5, .int s0), (0, va_rf (some a)), (1, va_rf p1), (2, va_rf p2), (3, .int x3), (4, .int x4)]) X dX11_find_28 (by decide) (by first | rfl | (show (6, _) :: List.filter (fun q : Nat × Value => !(q.1 == 6) && !(q.1 + 1 == 6 && q.2.category == 2)) _ = _; simp [va_rf_cat, cat_i, cat_l])) ?_
  refine wa_sub (L2 := [(0, va_rf (some a)), (1, va_rf p1), (2, va_rf p2), (3, .int x3), (4, .int x4), (5, .int s0), (6, .int (0 : Int32))]) [2, 3, 4, 5, 6, 1, 0] rfl ?_
  exact gX11_find_b30 X hrec3 jfuel a p1 p2 x3 x4 s0 (0 : Int32) μ _ _ _ _ hf (by omega) (by omega)
def fX11_find_b3 : Nat → Nat → Option Nat → Option Nat → Int32 → Int32 → JM → JO (Int32)
  | 0, _, _, _, _, _, _ => none
  | fu + 1, a, p1, p2, x3, x4, μ => if x3 ≤ x4 then (some ((-1 : Int32), μ, 0, 0)) else (jde p2 fun q2 => jck ((jT μ q2).1 == 101) <| jck (jin x4 (jT μ q2).2) <| jck ((jT μ a).1 == 12) <| if (jI μ q2 (x4).toNatClampNeg) = (jI μ a 16) then (fX11_find_b25 (fX11_find_b3 fu) a p1 p2 x3 x4 (1 : Int32) μ) else (fX11_find_b25 (fX11_find_b3 fu) a p1 p2 x3 x4 (0 : Int32) μ))
set_option maxHeartbeats 4000000 in
set_option maxRecDepth 100000 in
theorem gX11_find_b3 {b : Nat} {Θ : JE} {RC RS : Nat} {r : Int32} {ν : JM} (X : jX b Θ RX11 cX11_find 7 (some .int) 0 0 RC RS) : ∀ (fu : Nat) (a : Nat) (p1 : Option Nat) (p2 : Option Nat) (x3 : Int32) (x4 : Int32) (μ : JM) (c m k n : Nat), fX11_find_b3 fu a p1 p2 x3 x4 μ = some (r, ν, c, m) → k + c = RC → n + m = RS → WA b Θ 7 (jE b Θ (some (.int r)) ν RC RS) μ k n 3 [(0, va_rf (some a)), (1, va_rf p1), (2, va_rf p2), (3, .int x3), (4, .int x4)] [] := by
  intro fu
  induction fu with
  | zero => intro a p1 p2 x3 x4 μ c m k n hf; cases hf
  | succ fu ih =>
    intro a p1 p2 x3 x4 μ c m k n hf hk hn
    rw [fX11_find_b3] at hf
    refine wa_iload X 4 dX11_find_3 rfl ?_
    refine wa_iload_n X 3 dX11_find_5 rfl ?_
    refine wa_icge (tgt := 96) X dX11_find_6 (by decide) (fun h1 => ?_) (fun h1 => ?_)
    · rw [if_pos h1] at hf
      refine wa_iconst (v := (-1 : Int32)) X dX11_find_96 (by decide) ?_
      obtain ⟨rfl, rfl, rfl, rfl⟩ := jret hf
      exact wa_iret X dX11_find_97 rfl (by omega) (by omega)
    · rw [if_neg h1] at hf
      refine wa_aload_n X 2 dX11_find_9 rfl ?_
      refine wa_iload X 4 dX11_find_10 rfl ?_
      obtain ⟨q2, h3, hf⟩ := jde_some hf
      obtain ⟨h4, hf⟩ := jckT hf
      obtain ⟨h5, hf⟩ := jck_some hf
      refine wa_riald X dX11_find_12 h3 h4 h5 ?_
      refine wa_aload_n X 0 dX11_find_13 rfl ?_
      obtain ⟨h6, hf⟩ := jckT hf
      refine wa_getI X dX11_find_14 lfX11_188 rfl h6 rfl ?_
      refine wa_icne (tgt := 24) X dX11_find_17 (by decide) (fun h7 => ?_) (fun h7 => ?_)
      · rw [if_neg h7] at hf
        refine wa_iconst (v := (0 : Int32)) X dX11_find_24 (by decide) ?_
        refine wa_sub (L2 := [(0, va_rf (some a)), (1, va_rf p1), (2, va_rf p2), (3, .int x3), (4, .int x4)]) [0, 1, 2, 3, 4] rfl ?_
        exact gX11_find_b25 X ih a p1 p2 x3 x4 (0 : Int32) μ _ _ _ _ hf (by omega) (by omega)
      · rw [if_pos h7] at hf
        refine wa_iconst (v := (1 : Int32)) X dX11_find_20 (by decide) ?_
        refine wa_goto (tgt := 25) X dX11_find_21 (by decide) ?_
        refine wa_sub (L2 := [(0, va_rf (some a)), (1, va_rf p1), (2, va_rf p2), (3, .int x3), (4, .int x4)]) [0, 1, 2, 3, 4] rfl ?_
        exact gX11_find_b25 X ih a p1 p2 x3 x4 (1 : Int32) μ _ _ _ _ hf (by omega) (by omega)
def fX11_find (a : Nat) (p1 : Option Nat) (p2 : Option Nat) (x3 : Int32) (μ : JM) : JO (Int32) := fX11_find_b3  jfuel a p1 p2 x3 (0 : Int32) μ
set_option maxHeartbeats 4000000 in
set_option maxRecDepth 100000 in
theorem mX11_find {b : Nat} {a : Nat} {p1 : Option Nat} {p2 : Option Nat} {x3 : Int32} {μ : JM} {r : Int32} {ν : JM} {c m : Nat} (hf : fX11_find a p1 p2 x3 μ = some (r, ν, c, m)) : JMet b yX11_find cX11_find 7 (some .int) 0 0 [va_rf (some a), va_rf p1, va_rf p2, .int x3] μ (some (.int r)) ν c m := by
  refine JMet.of (by decide) (lg_sl_le (by simp only [List.map_cons, List.map_nil, List.sum_cons, List.sum_nil, va_rf_cat]; exact Nat.le_of_ble_eq_true rfl)) (fun Θ X hin => ?_)
  refine wa_eq (L2 := [(0, va_rf (some a)), (1, va_rf p1), (2, va_rf p2), (3, .int x3)]) ?_ rfl (by first | rfl | simp [lv_args, va_rf_cat, cat_i, cat_l]) rfl
  obtain ⟨k, hk0⟩ : ∃ k : Nat, k = 0 := ⟨0, rfl⟩
  obtain ⟨n, hn0⟩ : ∃ n : Nat, n = 0 := ⟨0, rfl⟩
  have hk : k + c = c := by omega
  have hn : n + m = m := by omega
  refine wa_costs hk0.symm hn0.symm ?_
  rw [fX11_find] at hf
  refine wa_iconst (v := (0 : Int32)) X dX11_find_0 (by decide) ?_
  refine wa_istore (L2 := [(4, .int (0 : Int32)), (0, va_rf (some a)), (1, va_rf p1), (2, va_rf p2), (3, .int x3)]) X dX11_find_1 (by decide) (by first | rfl | (show (4, _) :: List.filter (fun q : Nat × Value => !(q.1 == 4) && !(q.1 + 1 == 4 && q.2.category == 2)) _ = _; simp [va_rf_cat, cat_i, cat_l])) ?_
  refine wa_sub (L2 := [(0, va_rf (some a)), (1, va_rf p1), (2, va_rf p2), (3, .int x3), (4, .int (0 : Int32))]) [1, 2, 3, 4, 0] rfl ?_
  exact gX11_find_b3 X jfuel a p1 p2 x3 (0 : Int32) μ _ _ _ _ hf (by omega) (by omega)
theorem dX11_name_0 : decode cX11_name 0 = .ok (.aload_n 2, 1) := by decide +kernel
theorem dX11_name_1 : decode cX11_name 1 = .ok (.iload_n 3, 1) := by decide +kernel
theorem dX11_name_2 : decode cX11_name 2 = .ok (.aload_n 0, 1) := by decide +kernel
theorem dX11_name_3 : decode cX11_name 3 = .ok (.getfield 188, 3) := by decide +kernel
theorem dX11_name_6 : decode cX11_name 6 = .ok (.iastore, 1) := by decide +kernel
theorem dX11_name_7 : decode cX11_name 7 = .ok (.iconst 0, 1) := by decide +kernel
theorem dX11_name_8 : decode cX11_name 8 = .ok (.istore 4, 2) := by decide +kernel
theorem dX11_name_10 : decode cX11_name 10 = .ok (.iload 4, 2) := by decide +kernel
theorem dX11_name_12 : decode cX11_name 12 = .ok (.aload_n 0, 1) := by decide +kernel
theorem dX11_name_13 : decode cX11_name 13 = .ok (.getfield 188, 3) := by decide +kernel
theorem dX11_name_16 : decode cX11_name 16 = .ok (.if_icmp .ge 30, 3) := by decide +kernel
theorem dX11_name_19 : decode cX11_name 19 = .ok (.aload_n 1, 1) := by decide +kernel
theorem dX11_name_20 : decode cX11_name 20 = .ok (.bipush 12, 2) := by decide +kernel
theorem dX11_name_22 : decode cX11_name 22 = .ok (.iload_n 3, 1) := by decide +kernel
theorem dX11_name_23 : decode cX11_name 23 = .ok (.imul, 1) := by decide +kernel
theorem dX11_name_24 : decode cX11_name 24 = .ok (.iload 4, 2) := by decide +kernel
theorem dX11_name_26 : decode cX11_name 26 = .ok (.iadd, 1) := by decide +kernel
theorem dX11_name_27 : decode cX11_name 27 = .ok (.aload_n 0, 1) := by decide +kernel
theorem dX11_name_28 : decode cX11_name 28 = .ok (.getfield 36, 3) := by decide +kernel
theorem dX11_name_31 : decode cX11_name 31 = .ok (.aload_n 0, 1) := by decide +kernel
theorem dX11_name_32 : decode cX11_name 32 = .ok (.getfield 185, 3) := by decide +kernel
theorem dX11_name_35 : decode cX11_name 35 = .ok (.iload 4, 2) := by decide +kernel
theorem dX11_name_37 : decode cX11_name 37 = .ok (.iadd, 1) := by decide +kernel
theorem dX11_name_38 : decode cX11_name 38 = .ok (.baload, 1) := by decide +kernel
theorem dX11_name_39 : decode cX11_name 39 = .ok (.bastore, 1) := by decide +kernel
theorem dX11_name_40 : decode cX11_name 40 = .ok (.iinc 4 1, 3) := by decide +kernel
theorem dX11_name_43 : decode cX11_name 43 = .ok (.goto (-33), 3) := by decide +kernel
theorem dX11_name_46 : decode cX11_name 46 = .ok (.return_, 1) := by decide +kernel
def fX11_name_b10 : Nat → Nat → Option Nat → Int32 → Int32 → JM → JO (Unit)
  | 0, _, _, _, _, _ => none
  | fu + 1, a, p1, x3, x4, μ => jck ((jT μ a).1 == 12) <| if (jI μ a 16) ≤ x4 then (some ((), μ, 0, 0)) else (jde (jP μ a 11) fun q11 => jck ((jT μ q11).1 == 100) <| jck (jin ((jI μ a 15) + x4) (jT μ q11).2) <| jde p1 fun q15 => jck ((jT μ q15).1 == 100) <| jck (jin (((12 : Int32) * x3) + x4) (jT μ q15).2) <| jlt (jsI μ q15 ((((12 : Int32) * x3) + x4)).toNatClampNeg (vp_nar .byte (jI μ q11 (((jI μ a 15) + x4)).toNatClampNeg))) fun μ19 => fX11_name_b10 fu a p1 x3 (x4 + (1 : Int32)) μ19)
set_option maxHeartbeats 4000000 in
set_option maxRecDepth 100000 in
theorem gX11_name_b10 {b : Nat} {Θ : JE} {RC RS : Nat} {r : Unit} {ν : JM} (X : jX b Θ RX11 cX11_name 5 none 0 0 RC RS) : ∀ (fu : Nat) (a : Nat) (p1 : Option Nat) (x3 : Int32) (x4 : Int32) (μ : JM) (c m k n : Nat), fX11_name_b10 fu a p1 x3 x4 μ = some (r, ν, c, m) → k + c = RC → n + m = RS → WA b Θ 5 (jE b Θ (none) ν RC RS) μ k n 10 [(0, va_rf (some a)), (1, va_rf p1), (3, .int x3), (4, .int x4)] [] := by
  intro fu
  induction fu with
  | zero => intro a p1 x3 x4 μ c m k n hf; cases hf
  | succ fu ih =>
    intro a p1 x3 x4 μ c m k n hf hk hn
    rw [fX11_name_b10] at hf
    refine wa_iload X 3 dX11_name_10 rfl ?_
    refine wa_aload_n X 0 dX11_name_12 rfl ?_
    obtain ⟨h9, hf⟩ := jckT hf
    refine wa_getI X dX11_name_13 lfX11_188 rfl h9 rfl ?_
    refine wa_icge (tgt := 46) X dX11_name_16 (by decide) (fun h10 => ?_) (fun h10 => ?_)
    · rw [if_pos h10] at hf
      obtain ⟨rfl, rfl, rfl, rfl⟩ := jret hf
      exact wa_vret X dX11_name_46 (by omega) (by omega)
    · rw [if_neg h10] at hf
      refine wa_aload_n X 1 dX11_name_19 rfl ?_
      refine wa_bipush (v := (12 : Int32)) X dX11_name_20 (by decide) ?_
      refine wa_iload_n X 2 dX11_name_22 rfl ?_
      refine wa_imul X dX11_name_23 ?_
      refine wa_iload X 3 dX11_name_24 rfl ?_
      refine wa_iadd X dX11_name_26 ?_
      refine wa_aload_n X 0 dX11_name_27 rfl ?_
      refine wa_getP X dX11_name_28 lfX11_36 rfl h9 rfl ?_
      refine wa_aload_n X 0 dX11_name_31 rfl ?_
      refine wa_getI X dX11_name_32 lfX11_185 rfl h9 rfl ?_
      refine wa_iload X 3 dX11_name_35 rfl ?_
      refine wa_iadd X dX11_name_37 ?_
      obtain ⟨q11, h12, hf⟩ := jde_some hf
      obtain ⟨h13, hf⟩ := jckT hf
      obtain ⟨h14, hf⟩ := jck_some hf
      refine wa_rbald X dX11_name_38 h12 h13 h14 ?_
      obtain ⟨q15, h16, hf⟩ := jde_some hf
      obtain ⟨h17, hf⟩ := jckT hf
      obtain ⟨h18, hf⟩ := jck_some hf
      obtain ⟨μ19, hm20, hf⟩ := jlt_e hf
      have e21 : jT μ19 = jT μ := by rw [hm20]; rfl
      refine wa_rbast (ν := μ19) X dX11_name_39 h16 h17 h18 hm20 ?_
      refine wa_iinc (v := (x4 + (1 : Int32))) (L2 := [(4, .int (x4 + (1 : Int32))), (0, va_rf (some a)), (1, va_rf p1), (3, .int x3)]) X 3 dX11_name_40 rfl rfl (by decide) (by first | rfl | simp [va_rf_cat, cat_i, cat_l]) ?_
      refine wa_goto (tgt := 10) X dX11_name_43 (by decide) ?_
      refine wa_sub (L2 := [(0, va_rf (some a)), (1, va_rf p1), (3, .int x3), (4, .int (x4 + (1 : Int32)))]) [1, 2, 3, 0] rfl ?_
      exact ih a p1 x3 (x4 + (1 : Int32)) μ19 _ _ _ _ hf (by omega) (by omega)
def fX11_name (a : Nat) (p1 : Option Nat) (p2 : Option Nat) (x3 : Int32) (μ : JM) : JO (Unit) := jck ((jT μ a).1 == 12) <| jde p2 fun q2 => jck ((jT μ q2).1 == 101) <| jck (jin x3 (jT μ q2).2) <| jlt (jsI μ q2 (x3).toNatClampNeg (jI μ a 16)) fun μ6 => fX11_name_b10  jfuel a p1 x3 (0 : Int32) μ6
set_option maxHeartbeats 4000000 in
set_option maxRecDepth 100000 in
theorem mX11_name {b : Nat} {a : Nat} {p1 : Option Nat} {p2 : Option Nat} {x3 : Int32} {μ : JM} {r : Unit} {ν : JM} {c m : Nat} (hf : fX11_name a p1 p2 x3 μ = some (r, ν, c, m)) : JMet b yX11_name cX11_name 5 none 0 0 [va_rf (some a), va_rf p1, va_rf p2, .int x3] μ (none) ν c m := by
  refine JMet.of (by decide) (lg_sl_le (by simp only [List.map_cons, List.map_nil, List.sum_cons, List.sum_nil, va_rf_cat]; exact Nat.le_of_ble_eq_true rfl)) (fun Θ X hin => ?_)
  refine wa_eq (L2 := [(0, va_rf (some a)), (1, va_rf p1), (2, va_rf p2), (3, .int x3)]) ?_ rfl (by first | rfl | simp [lv_args, va_rf_cat, cat_i, cat_l]) rfl
  obtain ⟨k, hk0⟩ : ∃ k : Nat, k = 0 := ⟨0, rfl⟩
  obtain ⟨n, hn0⟩ : ∃ n : Nat, n = 0 := ⟨0, rfl⟩
  have hk : k + c = c := by omega
  have hn : n + m = m := by omega
  refine wa_costs hk0.symm hn0.symm ?_
  rw [fX11_name] at hf
  refine wa_aload_n X 2 dX11_name_0 rfl ?_
  refine wa_iload_n X 3 dX11_name_1 rfl ?_
  refine wa_aload_n X 0 dX11_name_2 rfl ?_
  obtain ⟨h1, hf⟩ := jckT hf
  refine wa_getI X dX11_name_3 lfX11_188 rfl h1 rfl ?_
  obtain ⟨q2, h3, hf⟩ := jde_some hf
  obtain ⟨h4, hf⟩ := jckT hf
  obtain ⟨h5, hf⟩ := jck_some hf
  obtain ⟨μ6, hm7, hf⟩ := jlt_e hf
  have e8 : jT μ6 = jT μ := by rw [hm7]; rfl
  refine wa_riast (ν := μ6) X dX11_name_6 h3 h4 h5 hm7 ?_
  refine wa_iconst (v := (0 : Int32)) X dX11_name_7 (by decide) ?_
  refine wa_istore (L2 := [(4, .int (0 : Int32)), (0, va_rf (some a)), (1, va_rf p1), (2, va_rf p2), (3, .int x3)]) X dX11_name_8 (by decide) (by first | rfl | (show (4, _) :: List.filter (fun q : Nat × Value => !(q.1 == 4) && !(q.1 + 1 == 4 && q.2.category == 2)) _ = _; simp [va_rf_cat, cat_i, cat_l])) ?_
  refine wa_sub (L2 := [(0, va_rf (some a)), (1, va_rf p1), (3, .int x3), (4, .int (0 : Int32))]) [1, 2, 4, 0] rfl ?_
  exact gX11_name_b10 X jfuel a p1 x3 (0 : Int32) μ6 _ _ _ _ hf (by omega) (by omega)
theorem dX11_facts_0 : decode cX11_facts 0 = .ok (.aload_n 0, 1) := by decide +kernel
theorem dX11_facts_1 : decode cX11_facts 1 = .ok (.invokevirtual 264, 3) := by decide +kernel
theorem dX11_facts_4 : decode cX11_facts 4 = .ok (.aload_n 0, 1) := by decide +kernel
theorem dX11_facts_5 : decode cX11_facts 5 = .ok (.getfield 13, 3) := by decide +kernel
theorem dX11_facts_8 : decode cX11_facts 8 = .ok (.ifCond .lt 5, 3) := by decide +kernel
theorem dX11_facts_11 : decode cX11_facts 11 = .ok (.iconst (-1), 1) := by decide +kernel
theorem dX11_facts_12 : decode cX11_facts 12 = .ok (.ireturn, 1) := by decide +kernel
theorem dX11_facts_13 : decode cX11_facts 13 = .ok (.iconst 0, 1) := by decide +kernel
theorem dX11_facts_14 : decode cX11_facts 14 = .ok (.istore_n 1, 1) := by decide +kernel
theorem dX11_facts_15 : decode cX11_facts 15 = .ok (.aload_n 0, 1) := by decide +kernel
theorem dX11_facts_16 : decode cX11_facts 16 = .ok (.getfield 163, 3) := by decide +kernel
theorem dX11_facts_19 : decode cX11_facts 19 = .ok (.ifCond .ne 7, 3) := by decide +kernel
theorem dX11_facts_22 : decode cX11_facts 22 = .ok (.iconst 1, 1) := by decide +kernel
theorem dX11_facts_23 : decode cX11_facts 23 = .ok (.goto 4, 3) := by decide +kernel
theorem dX11_facts_26 : decode cX11_facts 26 = .ok (.iconst 0, 1) := by decide +kernel
theorem dX11_facts_27 : decode cX11_facts 27 = .ok (.istore_n 2, 1) := by decide +kernel
theorem dX11_facts_28 : decode cX11_facts 28 = .ok (.iload_n 2, 1) := by decide +kernel
theorem dX11_facts_29 : decode cX11_facts 29 = .ok (.ifCond .eq 105, 3) := by decide +kernel
theorem dX11_facts_32 : decode cX11_facts 32 = .ok (.aload_n 0, 1) := by decide +kernel
theorem dX11_facts_33 : decode cX11_facts 33 = .ok (.getfield 194, 3) := by decide +kernel
theorem dX11_facts_36 : decode cX11_facts 36 = .ok (.ifCond .ne 7, 3) := by decide +kernel
theorem dX11_facts_39 : decode cX11_facts 39 = .ok (.iload_n 1, 1) := by decide +kernel
theorem dX11_facts_40 : decode cX11_facts 40 = .ok (.ifCond .ne 94, 3) := by decide +kernel
theorem dX11_facts_43 : decode cX11_facts 43 = .ok (.aload_n 0, 1) := by decide +kernel
theorem dX11_facts_44 : decode cX11_facts 44 = .ok (.invokevirtual 267, 3) := by decide +kernel
theorem dX11_facts_47 : decode cX11_facts 47 = .ok (.ifCond .eq 54, 3) := by decide +kernel
theorem dX11_facts_50 : decode cX11_facts 50 = .ok (.aload_n 0, 1) := by decide +kernel
theorem dX11_facts_51 : decode cX11_facts 51 = .ok (.aload_n 0, 1) := by decide +kernel
theorem dX11_facts_52 : decode cX11_facts 52 = .ok (.getfield 17, 3) := by decide +kernel
theorem dX11_facts_55 : decode cX11_facts 55 = .ok (.aload_n 0, 1) := by decide +kernel
theorem dX11_facts_56 : decode cX11_facts 56 = .ok (.getfield 20, 3) := by decide +kernel
theorem dX11_facts_59 : decode cX11_facts 59 = .ok (.iload_n 1, 1) := by decide +kernel
theorem dX11_facts_60 : decode cX11_facts 60 = .ok (.invokevirtual 270, 3) := by decide +kernel
theorem dX11_facts_63 : decode cX11_facts 63 = .ok (.ifCond .lt 15, 3) := by decide +kernel
theorem dX11_facts_66 : decode cX11_facts 66 = .ok (.aload_n 0, 1) := by decide +kernel
theorem dX11_facts_67 : decode cX11_facts 67 = .ok (.iconst 2, 1) := by decide +kernel
theorem dX11_facts_68 : decode cX11_facts 68 = .ok (.aload_n 0, 1) := by decide +kernel
theorem dX11_facts_69 : decode cX11_facts 69 = .ok (.getfield 185, 3) := by decide +kernel
theorem dX11_facts_72 : decode cX11_facts 72 = .ok (.invokevirtual 201, 3) := by decide +kernel
theorem dX11_facts_75 : decode cX11_facts 75 = .ok (.ifCond .eq 26, 3) := by decide +kernel
theorem dX11_facts_78 : decode cX11_facts 78 = .ok (.iload_n 1, 1) := by decide +kernel
theorem dX11_facts_79 : decode cX11_facts 79 = .ok (.bipush 8, 2) := by decide +kernel
theorem dX11_facts_81 : decode cX11_facts 81 = .ok (.if_icmp .lt 16, 3) := by decide +kernel
theorem dX11_facts_84 : decode cX11_facts 84 = .ok (.aload_n 0, 1) := by decide +kernel
theorem dX11_facts_85 : decode cX11_facts 85 = .ok (.bipush 6, 2) := by decide +kernel
theorem dX11_facts_87 : decode cX11_facts 87 = .ok (.aload_n 0, 1) := by decide +kernel
theorem dX11_facts_88 : decode cX11_facts 88 = .ok (.getfield 185, 3) := by decide +kernel
theorem dX11_facts_91 : decode cX11_facts 91 = .ok (.invokevirtual 201, 3) := by decide +kernel
theorem dX11_facts_94 : decode cX11_facts 94 = .ok (.ifCond .eq 7, 3) := by decide +kernel
theorem dX11_facts_97 : decode cX11_facts 97 = .ok (.iconst 1, 1) := by decide +kernel
theorem dX11_facts_98 : decode cX11_facts 98 = .ok (.goto 4, 3) := by decide +kernel
theorem dX11_facts_101 : decode cX11_facts 101 = .ok (.iconst 0, 1) := by decide +kernel
theorem dX11_facts_102 : decode cX11_facts 102 = .ok (.istore_n 2, 1) := by decide +kernel
theorem dX11_facts_103 : decode cX11_facts 103 = .ok (.iload_n 2, 1) := by decide +kernel
theorem dX11_facts_104 : decode cX11_facts 104 = .ok (.ifCond .ne 6, 3) := by decide +kernel
theorem dX11_facts_107 : decode cX11_facts 107 = .ok (.goto 27, 3) := by decide +kernel
theorem dX11_facts_110 : decode cX11_facts 110 = .ok (.aload_n 0, 1) := by decide +kernel
theorem dX11_facts_111 : decode cX11_facts 111 = .ok (.aload_n 0, 1) := by decide +kernel
theorem dX11_facts_112 : decode cX11_facts 112 = .ok (.getfield 17, 3) := by decide +kernel
theorem dX11_facts_115 : decode cX11_facts 115 = .ok (.aload_n 0, 1) := by decide +kernel
theorem dX11_facts_116 : decode cX11_facts 116 = .ok (.getfield 20, 3) := by decide +kernel
theorem dX11_facts_119 : decode cX11_facts 119 = .ok (.iload_n 1, 1) := by decide +kernel
theorem dX11_facts_120 : decode cX11_facts 120 = .ok (.invokevirtual 274, 3) := by decide +kernel
theorem dX11_facts_123 : decode cX11_facts 123 = .ok (.iinc 1 1, 3) := by decide +kernel
theorem dX11_facts_126 : decode cX11_facts 126 = .ok (.aload_n 0, 1) := by decide +kernel
theorem dX11_facts_127 : decode cX11_facts 127 = .ok (.invokevirtual 255, 3) := by decide +kernel
theorem dX11_facts_130 : decode cX11_facts 130 = .ok (.istore_n 2, 1) := by decide +kernel
theorem dX11_facts_131 : decode cX11_facts 131 = .ok (.goto (-103), 3) := by decide +kernel
theorem dX11_facts_134 : decode cX11_facts 134 = .ok (.iload_n 2, 1) := by decide +kernel
theorem dX11_facts_135 : decode cX11_facts 135 = .ok (.ifCond .ne 11, 3) := by decide +kernel
theorem dX11_facts_138 : decode cX11_facts 138 = .ok (.bipush (-2), 2) := by decide +kernel
theorem dX11_facts_140 : decode cX11_facts 140 = .ok (.aload_n 0, 1) := by decide +kernel
theorem dX11_facts_141 : decode cX11_facts 141 = .ok (.getfield 163, 3) := by decide +kernel
theorem dX11_facts_144 : decode cX11_facts 144 = .ok (.isub, 1) := by decide +kernel
theorem dX11_facts_145 : decode cX11_facts 145 = .ok (.ireturn, 1) := by decide +kernel
theorem dX11_facts_146 : decode cX11_facts 146 = .ok (.aload_n 0, 1) := by decide +kernel
theorem dX11_facts_147 : decode cX11_facts 147 = .ok (.iload_n 1, 1) := by decide +kernel
theorem dX11_facts_148 : decode cX11_facts 148 = .ok (.putfield 13, 3) := by decide +kernel
theorem dX11_facts_151 : decode cX11_facts 151 = .ok (.iconst 0, 1) := by decide +kernel
theorem dX11_facts_152 : decode cX11_facts 152 = .ok (.istore_n 3, 1) := by decide +kernel
theorem dX11_facts_153 : decode cX11_facts 153 = .ok (.iload_n 3, 1) := by decide +kernel
theorem dX11_facts_154 : decode cX11_facts 154 = .ok (.iconst 4, 1) := by decide +kernel
theorem dX11_facts_155 : decode cX11_facts 155 = .ok (.if_icmp .ge 70, 3) := by decide +kernel
theorem dX11_facts_158 : decode cX11_facts 158 = .ok (.aload_n 0, 1) := by decide +kernel
theorem dX11_facts_159 : decode cX11_facts 159 = .ok (.getfield 42, 3) := by decide +kernel
theorem dX11_facts_162 : decode cX11_facts 162 = .ok (.iload_n 3, 1) := by decide +kernel
theorem dX11_facts_163 : decode cX11_facts 163 = .ok (.lconst 0, 1) := by decide +kernel
theorem dX11_facts_164 : decode cX11_facts 164 = .ok (.lastore, 1) := by decide +kernel
theorem dX11_facts_165 : decode cX11_facts 165 = .ok (.iconst 0, 1) := by decide +kernel
theorem dX11_facts_166 : decode cX11_facts 166 = .ok (.istore 4, 2) := by decide +kernel
theorem dX11_facts_168 : decode cX11_facts 168 = .ok (.iload 4, 2) := by decide +kernel
theorem dX11_facts_170 : decode cX11_facts 170 = .ok (.bipush 64, 2) := by decide +kernel
theorem dX11_facts_172 : decode cX11_facts 172 = .ok (.if_icmp .ge 35, 3) := by decide +kernel
theorem dX11_facts_175 : decode cX11_facts 175 = .ok (.bipush 64, 2) := by decide +kernel
theorem dX11_facts_177 : decode cX11_facts 177 = .ok (.iload_n 3, 1) := by decide +kernel
theorem dX11_facts_178 : decode cX11_facts 178 = .ok (.imul, 1) := by decide +kernel
theorem dX11_facts_179 : decode cX11_facts 179 = .ok (.iload 4, 2) := by decide +kernel
theorem dX11_facts_181 : decode cX11_facts 181 = .ok (.iadd, 1) := by decide +kernel
theorem dX11_facts_182 : decode cX11_facts 182 = .ok (.iconst 1, 1) := by decide +kernel
theorem dX11_facts_183 : decode cX11_facts 183 = .ok (.iload_n 1, 1) := by decide +kernel
theorem dX11_facts_184 : decode cX11_facts 184 = .ok (.ishl, 1) := by decide +kernel
theorem dX11_facts_185 : decode cX11_facts 185 = .ok (.if_icmp .ge 16, 3) := by decide +kernel
theorem dX11_facts_188 : decode cX11_facts 188 = .ok (.aload_n 0, 1) := by decide +kernel
theorem dX11_facts_189 : decode cX11_facts 189 = .ok (.getfield 42, 3) := by decide +kernel
theorem dX11_facts_192 : decode cX11_facts 192 = .ok (.iload_n 3, 1) := by decide +kernel
theorem dX11_facts_193 : decode cX11_facts 193 = .ok (.dup2, 1) := by decide +kernel
theorem dX11_facts_194 : decode cX11_facts 194 = .ok (.laload, 1) := by decide +kernel
theorem dX11_facts_195 : decode cX11_facts 195 = .ok (.lconst 1, 1) := by decide +kernel
theorem dX11_facts_196 : decode cX11_facts 196 = .ok (.iload 4, 2) := by decide +kernel
theorem dX11_facts_198 : decode cX11_facts 198 = .ok (.lshl, 1) := by decide +kernel
theorem dX11_facts_199 : decode cX11_facts 199 = .ok (.lor, 1) := by decide +kernel
theorem dX11_facts_200 : decode cX11_facts 200 = .ok (.lastore, 1) := by decide +kernel
theorem dX11_facts_201 : decode cX11_facts 201 = .ok (.iinc 4 1, 3) := by decide +kernel
theorem dX11_facts_204 : decode cX11_facts 204 = .ok (.goto (-36), 3) := by decide +kernel
theorem dX11_facts_207 : decode cX11_facts 207 = .ok (.aload_n 0, 1) := by decide +kernel
theorem dX11_facts_208 : decode cX11_facts 208 = .ok (.getfield 46, 3) := by decide +kernel
theorem dX11_facts_211 : decode cX11_facts 211 = .ok (.iload_n 3, 1) := by decide +kernel
theorem dX11_facts_212 : decode cX11_facts 212 = .ok (.aload_n 0, 1) := by decide +kernel
theorem dX11_facts_213 : decode cX11_facts 213 = .ok (.getfield 42, 3) := by decide +kernel
theorem dX11_facts_216 : decode cX11_facts 216 = .ok (.iload_n 3, 1) := by decide +kernel
theorem dX11_facts_217 : decode cX11_facts 217 = .ok (.laload, 1) := by decide +kernel
theorem dX11_facts_218 : decode cX11_facts 218 = .ok (.lastore, 1) := by decide +kernel
theorem dX11_facts_219 : decode cX11_facts 219 = .ok (.iinc 3 1, 3) := by decide +kernel
theorem dX11_facts_222 : decode cX11_facts 222 = .ok (.goto (-69), 3) := by decide +kernel
theorem dX11_facts_225 : decode cX11_facts 225 = .ok (.iconst 0, 1) := by decide +kernel
theorem dX11_facts_226 : decode cX11_facts 226 = .ok (.istore_n 3, 1) := by decide +kernel
theorem dX11_facts_227 : decode cX11_facts 227 = .ok (.iload_n 3, 1) := by decide +kernel
theorem dX11_facts_228 : decode cX11_facts 228 = .ok (.iload_n 1, 1) := by decide +kernel
theorem dX11_facts_229 : decode cX11_facts 229 = .ok (.if_icmp .ge 60, 3) := by decide +kernel
theorem dX11_facts_232 : decode cX11_facts 232 = .ok (.iconst 0, 1) := by decide +kernel
theorem dX11_facts_233 : decode cX11_facts 233 = .ok (.istore 4, 2) := by decide +kernel
theorem dX11_facts_235 : decode cX11_facts 235 = .ok (.iload 4, 2) := by decide +kernel
theorem dX11_facts_237 : decode cX11_facts 237 = .ok (.iconst 1, 1) := by decide +kernel
theorem dX11_facts_238 : decode cX11_facts 238 = .ok (.iload_n 1, 1) := by decide +kernel
theorem dX11_facts_239 : decode cX11_facts 239 = .ok (.ishl, 1) := by decide +kernel
theorem dX11_facts_240 : decode cX11_facts 240 = .ok (.if_icmp .ge 43, 3) := by decide +kernel
theorem dX11_facts_243 : decode cX11_facts 243 = .ok (.iload 4, 2) := by decide +kernel
theorem dX11_facts_245 : decode cX11_facts 245 = .ok (.iload_n 3, 1) := by decide +kernel
theorem dX11_facts_246 : decode cX11_facts 246 = .ok (.ishr, 1) := by decide +kernel
theorem dX11_facts_247 : decode cX11_facts 247 = .ok (.iconst 1, 1) := by decide +kernel
theorem dX11_facts_248 : decode cX11_facts 248 = .ok (.iand, 1) := by decide +kernel
theorem dX11_facts_249 : decode cX11_facts 249 = .ok (.iconst 1, 1) := by decide +kernel
theorem dX11_facts_250 : decode cX11_facts 250 = .ok (.if_icmp .ne 27, 3) := by decide +kernel
theorem dX11_facts_253 : decode cX11_facts 253 = .ok (.aload_n 0, 1) := by decide +kernel
theorem dX11_facts_254 : decode cX11_facts 254 = .ok (.getfield 49, 3) := by decide +kernel
theorem dX11_facts_257 : decode cX11_facts 257 = .ok (.iconst 4, 1) := by decide +kernel
theorem dX11_facts_258 : decode cX11_facts 258 = .ok (.iload_n 3, 1) := by decide +kernel
theorem dX11_facts_259 : decode cX11_facts 259 = .ok (.imul, 1) := by decide +kernel
theorem dX11_facts_260 : decode cX11_facts 260 = .ok (.iload 4, 2) := by decide +kernel
theorem dX11_facts_262 : decode cX11_facts 262 = .ok (.bipush 64, 2) := by decide +kernel
theorem dX11_facts_264 : decode cX11_facts 264 = .ok (.idiv, 1) := by decide +kernel
theorem dX11_facts_265 : decode cX11_facts 265 = .ok (.iadd, 1) := by decide +kernel
theorem dX11_facts_266 : decode cX11_facts 266 = .ok (.dup2, 1) := by decide +kernel
theorem dX11_facts_267 : decode cX11_facts 267 = .ok (.laload, 1) := by decide +kernel
theorem dX11_facts_268 : decode cX11_facts 268 = .ok (.lconst 1, 1) := by decide +kernel
theorem dX11_facts_269 : decode cX11_facts 269 = .ok (.iload 4, 2) := by decide +kernel
theorem dX11_facts_271 : decode cX11_facts 271 = .ok (.bipush 64, 2) := by decide +kernel
theorem dX11_facts_273 : decode cX11_facts 273 = .ok (.irem, 1) := by decide +kernel
theorem dX11_facts_274 : decode cX11_facts 274 = .ok (.lshl, 1) := by decide +kernel
theorem dX11_facts_275 : decode cX11_facts 275 = .ok (.lor, 1) := by decide +kernel
theorem dX11_facts_276 : decode cX11_facts 276 = .ok (.lastore, 1) := by decide +kernel
theorem dX11_facts_277 : decode cX11_facts 277 = .ok (.iinc 4 1, 3) := by decide +kernel
theorem dX11_facts_280 : decode cX11_facts 280 = .ok (.goto (-45), 3) := by decide +kernel
theorem dX11_facts_283 : decode cX11_facts 283 = .ok (.iinc 3 1, 3) := by decide +kernel
theorem dX11_facts_286 : decode cX11_facts 286 = .ok (.goto (-59), 3) := by decide +kernel
theorem dX11_facts_289 : decode cX11_facts 289 = .ok (.iload_n 1, 1) := by decide +kernel
theorem dX11_facts_290 : decode cX11_facts 290 = .ok (.ireturn, 1) := by decide +kernel
def fX11_facts_b201 (rec153 : Nat → Int32 → Int32 → JM → JO (Int32)) (rec168 : Nat → Int32 → Int32 → Int32 → JM → JO (Int32)) (a : Nat) (x1 : Int32) (x3 : Int32) (x4 : Int32) (μ : JM) : JO (Int32) := rec168 a x1 x3 (x4 + (1 : Int32)) μ
set_option maxHeartbeats 4000000 in
set_option maxRecDepth 100000 in
theorem gX11_facts_b201 {b : Nat} {Θ : JE} {RC RS : Nat} {r : Int32} {ν : JM} (X : jX b Θ RX11 cX11_facts 5 (some .int) 4 85 RC RS) {rec153 : Nat → Int32 → Int32 → JM → JO (Int32)} (hrec153 : ∀ (a : Nat) (x1 : Int32) (x3 : Int32) (μ : JM) (c m k n : Nat), rec153 a x1 x3 μ = some (r, ν, c, m) → k + c = RC → n + m = RS → WA b Θ 5 (jE b Θ (some (.int r)) ν RC RS) μ k n 153 [(0, va_rf (some a)), (1, .int x1), (3, .int x3)] []) {rec168 : Nat → Int32 → Int32 → Int32 → JM → JO (Int32)} (hrec168 : ∀ (a : Nat) (x1 : Int32) (x3 : Int32) (x4 : Int32) (μ : JM) (c m k n : Nat), rec168 a x1 x3 x4 μ = some (r, ν, c, m) → k + c = RC → n + m = RS → WA b Θ 5 (jE b Θ (some (.int r)) ν RC RS) μ k n 168 [(0, va_rf (some a)), (1, .int x1), (3, .int x3), (4, .int x4)] []) (a : Nat) (x1 : Int32) (x3 : Int32) (x4 : Int32) (μ : JM) (c m k n : Nat) (hf : fX11_facts_b201 rec153 rec168 a x1 x3 x4 μ = some (r, ν, c, m)) (hk : k + c = RC) (hn : n + m = RS) : WA b Θ 5 (jE b Θ (some (.int r)) ν RC RS) μ k n 201 [(0, va_rf (some a)), (1, .int x1), (3, .int x3), (4, .int x4)] [] := by
  rw [fX11_facts_b201] at hf
  refine wa_iinc (v := (x4 + (1 : Int32))) (L2 := [(4, .int (x4 + (1 : Int32))), (0, va_rf (some a)), (1, .int x1), (3, .int x3)]) X 3 dX11_facts_201 rfl rfl (by decide) (by first | rfl | simp [va_rf_cat, cat_i, cat_l]) ?_
  refine wa_goto (tgt := 168) X dX11_facts_204 (by decide) ?_
  refine wa_sub (L2 := [(0, va_rf (some a)), (1, .int x1), (3, .int x3), (4, .int (x4 + (1 : Int32)))]) [1, 2, 3, 0] rfl ?_
  exact hrec168 a x1 x3 (x4 + (1 : Int32)) μ _ _ _ _ hf (by omega) (by omega)
def fX11_facts_b168 (rec153 : Nat → Int32 → Int32 → JM → JO (Int32)) : Nat → Nat → Int32 → Int32 → Int32 → JM → JO (Int32)
  | 0, _, _, _, _, _ => none
  | fu + 1, a, x1, x3, x4, μ => if (64 : Int32) ≤ x4 then (jck ((jT μ a).1 == 12) <| jde (jP μ a 22) fun q101 => jck ((jT μ q101).1 == 102) <| jck (jin x3 (jT μ q101).2) <| jde (jP μ a 23) fun q105 => jck ((jT μ q105).1 == 102) <| jck (jin x3 (jT μ q105).2) <| jlt (jsJ μ q105 (x3).toNatClampNeg (jJ μ q101 (x3).toNatClampNeg)) fun μ109 => rec153 a x1 (x3 + (1 : Int32)) μ109) else (if (jshl (1 : Int32) x1) ≤ (((64 : Int32) * x3) + x4) then (fX11_facts_b201 rec153 (fX11_facts_b168 rec153 fu) a x1 x3 x4 μ) else (jck ((jT μ a).1 == 12) <| jde (jP μ a 22) fun q114 => jck ((jT μ q114).1 == 102) <| jck (jin x3 (jT μ q114).2) <| jlt (jsJ μ q114 (x3).toNatClampNeg ((jJ μ q114 (x3).toNatClampNeg) ||| (jlshl (1 : Int64) x4))) fun μ118 => fX11_facts_b201 rec153 (fX11_facts_b168 rec153 fu) a x1 x3 x4 μ118))
set_option maxHeartbeats 4000000 in
set_option maxRecDepth 100000 in
theorem gX11_facts_b168 {b : Nat} {Θ : JE} {RC RS : Nat} {r : Int32} {ν : JM} (X : jX b Θ RX11 cX11_facts 5 (some .int) 4 85 RC RS) {rec153 : Nat → Int32 → Int32 → JM → JO (Int32)} (hrec153 : ∀ (a : Nat) (x1 : Int32) (x3 : Int32) (μ : JM) (c m k n : Nat), rec153 a x1 x3 μ = some (r, ν, c, m) → k + c = RC → n + m = RS → WA b Θ 5 (jE b Θ (some (.int r)) ν RC RS) μ k n 153 [(0, va_rf (some a)), (1, .int x1), (3, .int x3)] []) : ∀ (fu : Nat) (a : Nat) (x1 : Int32) (x3 : Int32) (x4 : Int32) (μ : JM) (c m k n : Nat), fX11_facts_b168 rec153 fu a x1 x3 x4 μ = some (r, ν, c, m) → k + c = RC → n + m = RS → WA b Θ 5 (jE b Θ (some (.int r)) ν RC RS) μ k n 168 [(0, va_rf (some a)), (1, .int x1), (3, .int x3), (4, .int x4)] [] := by
  intro fu
  induction fu with
  | zero => intro a x1 x3 x4 μ c m k n hf; cases hf
  | succ fu ih =>
    intro a x1 x3 x4 μ c m k n hf hk hn
    rw [fX11_facts_b168] at hf
    refine wa_iload X 3 dX11_facts_168 rfl ?_
    refine wa_bipush (v := (64 : Int32)) X dX11_facts_170 (by decide) ?_
    refine wa_icge (tgt := 207) X dX11_facts_172 (by decide) (fun h99 => ?_) (fun h99 => ?_)
    · rw [if_pos h99] at hf
      refine wa_aload_n X 0 dX11_facts_207 rfl ?_
      obtain ⟨h100, hf⟩ := jckT hf
      refine wa_getP X dX11_facts_208 lfX11_46 rfl h100 rfl ?_
      refine wa_iload_n X 2 dX11_facts_211 rfl ?_
      refine wa_aload_n X 0 dX11_facts_212 rfl ?_
      refine wa_getP X dX11_facts_213 lfX11_42 rfl h100 rfl ?_
      refine wa_iload_n X 2 dX11_facts_216 rfl ?_
      obtain ⟨q101, h102, hf⟩ := jde_some hf
      obtain ⟨h103, hf⟩ := jckT hf
      obtain ⟨h104, hf⟩ := jck_some hf
      refine wa_rlald X dX11_facts_217 h102 h103 h104 ?_
      obtain ⟨q105, h106, hf⟩ := jde_some hf
      obtain ⟨h107, hf⟩ := jckT hf
      obtain ⟨h108, hf⟩ := jck_some hf
      obtain ⟨μ109, hm110, hf⟩ := jlt_e hf
      have e111 : jT μ109 = jT μ := by rw [hm110]; rfl
      refine wa_rlast (ν := μ109) X dX11_facts_218 h106 h107 h108 hm110 ?_
      refine wa_iinc (v := (x3 + (1 : Int32))) (L2 := [(3, .int (x3 + (1 : Int32))), (0, va_rf (some a)), (1, .int x1), (4, .int x4)]) X 2 dX11_facts_219 rfl rfl (by decide) (by first | rfl | simp [va_rf_cat, cat_i, cat_l]) ?_
      refine wa_goto (tgt := 153) X dX11_facts_222 (by decide) ?_
      refine wa_sub (L2 := [(0, va_rf (some a)), (1, .int x1), (3, .int (x3 + (1 : Int32)))]) [1, 2, 0] rfl ?_
      exact hrec153 a x1 (x3 + (1 : Int32)) μ109 _ _ _ _ hf (by omega) (by omega)
    · rw [if_neg h99] at hf
      refine wa_bipush (v := (64 : Int32)) X dX11_facts_175 (by decide) ?_
      refine wa_iload_n X 2 dX11_facts_177 rfl ?_
      refine wa_imul X dX11_facts_178 ?_
      refine wa_iload X 3 dX11_facts_179 rfl ?_
      refine wa_iadd X dX11_facts_181 ?_
      refine wa_iconst (v := (1 : Int32)) X dX11_facts_182 (by decide) ?_
      refine wa_iload_n X 1 dX11_facts_183 rfl ?_
      refine wa_ishl X dX11_facts_184 ?_
      refine wa_icge (tgt := 201) X dX11_facts_185 (by decide) (fun h112 => ?_) (fun h112 => ?_)
      · rw [if_pos h112] at hf
        refine wa_sub (L2 := [(0, va_rf (some a)), (1, .int x1), (3, .int x3), (4, .int x4)]) [0, 1, 2, 3] rfl ?_
        exact gX11_facts_b201 X hrec153 ih a x1 x3 x4 μ _ _ _ _ hf (by omega) (by omega)
      · rw [if_neg h112] at hf
        refine wa_aload_n X 0 dX11_facts_188 rfl ?_
        obtain ⟨h113, hf⟩ := jckT hf
        refine wa_getP X dX11_facts_189 lfX11_42 rfl h113 rfl ?_
        refine wa_iload_n X 2 dX11_facts_192 rfl ?_
        refine wa_dup2 X dX11_facts_193 rfl (va_rf_cat _) ?_
        obtain ⟨q114, h115, hf⟩ := jde_some hf
        obtain ⟨h116, hf⟩ := jckT hf
        obtain ⟨h117, hf⟩ := jck_some hf
        refine wa_rlald X dX11_facts_194 h115 h116 h117 ?_
        refine wa_lconst (v := (1 : Int64)) X dX11_facts_195 (by decide) ?_
        refine wa_iload X 3 dX11_facts_196 rfl ?_
        refine wa_lshl X dX11_facts_198 ?_
        refine wa_lor X dX11_facts_199 ?_
        obtain ⟨μ118, hm119, hf⟩ := jlt_e hf
        have e120 : jT μ118 = jT μ := by rw [hm119]; rfl
        refine wa_rlast (ν := μ118) X dX11_facts_200 h115 h116 h117 hm119 ?_
        refine wa_sub (L2 := [(0, va_rf (some a)), (1, .int x1), (3, .int x3), (4, .int x4)]) [0, 1, 2, 3] rfl ?_
        exact gX11_facts_b201 X hrec153 ih a x1 x3 x4 μ118 _ _ _ _ hf (by omega) (by omega)
def fX11_facts_b277 (rec227 : Nat → Int32 → Int32 → JM → JO (Int32)) (rec235 : Nat → Int32 → Int32 → Int32 → JM → JO (Int32)) (a : Nat) (x1 : Int32) (x3 : Int32) (x4 : Int32) (μ : JM) : JO (Int32) := rec235 a x1 x3 (x4 + (1 : Int32)) μ
set_option maxHeartbeats 4000000 in
set_option maxRecDepth 100000 in
theorem gX11_facts_b277 {b : Nat} {Θ : JE} {RC RS : Nat} {r : Int32} {ν : JM} (X : jX b Θ RX11 cX11_facts 5 (some .int) 4 85 RC RS) {rec227 : Nat → Int32 → Int32 → JM → JO (Int32)} (hrec227 : ∀ (a : Nat) (x1 : Int32) (x3 : Int32) (μ : JM) (c m k n : Nat), rec227 a x1 x3 μ = some (r, ν, c, m) → k + c = RC → n + m = RS → WA b Θ 5 (jE b Θ (some (.int r)) ν RC RS) μ k n 227 [(0, va_rf (some a)), (1, .int x1), (3, .int x3)] []) {rec235 : Nat → Int32 → Int32 → Int32 → JM → JO (Int32)} (hrec235 : ∀ (a : Nat) (x1 : Int32) (x3 : Int32) (x4 : Int32) (μ : JM) (c m k n : Nat), rec235 a x1 x3 x4 μ = some (r, ν, c, m) → k + c = RC → n + m = RS → WA b Θ 5 (jE b Θ (some (.int r)) ν RC RS) μ k n 235 [(0, va_rf (some a)), (1, .int x1), (3, .int x3), (4, .int x4)] []) (a : Nat) (x1 : Int32) (x3 : Int32) (x4 : Int32) (μ : JM) (c m k n : Nat) (hf : fX11_facts_b277 rec227 rec235 a x1 x3 x4 μ = some (r, ν, c, m)) (hk : k + c = RC) (hn : n + m = RS) : WA b Θ 5 (jE b Θ (some (.int r)) ν RC RS) μ k n 277 [(0, va_rf (some a)), (1, .int x1), (3, .int x3), (4, .int x4)] [] := by
  rw [fX11_facts_b277] at hf
  refine wa_iinc (v := (x4 + (1 : Int32))) (L2 := [(4, .int (x4 + (1 : Int32))), (0, va_rf (some a)), (1, .int x1), (3, .int x3)]) X 3 dX11_facts_277 rfl rfl (by decide) (by first | rfl | simp [va_rf_cat, cat_i, cat_l]) ?_
  refine wa_goto (tgt := 235) X dX11_facts_280 (by decide) ?_
  refine wa_sub (L2 := [(0, va_rf (some a)), (1, .int x1), (3, .int x3), (4, .int (x4 + (1 : Int32)))]) [1, 2, 3, 0] rfl ?_
  exact hrec235 a x1 x3 (x4 + (1 : Int32)) μ _ _ _ _ hf (by omega) (by omega)
def fX11_facts_b235 (rec227 : Nat → Int32 → Int32 → JM → JO (Int32)) : Nat → Nat → Int32 → Int32 → Int32 → JM → JO (Int32)
  | 0, _, _, _, _, _ => none
  | fu + 1, a, x1, x3, x4, μ => if (jshl (1 : Int32) x1) ≤ x4 then (rec227 a x1 (x3 + (1 : Int32)) μ) else (if ((jshr x4 x3) &&& (1 : Int32)) = (1 : Int32) then (jck ((jT μ a).1 == 12) <| jde (jP μ a 24) fun q125 => jck ((jT μ q125).1 == 102) <| jck (jin (((4 : Int32) * x3) + (x4 / (64 : Int32))) (jT μ q125).2) <| jlt (jsJ μ q125 ((((4 : Int32) * x3) + (x4 / (64 : Int32)))).toNatClampNeg ((jJ μ q125 ((((4 : Int32) * x3) + (x4 / (64 : Int32)))).toNatClampNeg) ||| (jlshl (1 : Int64) (jrem x4 (64 : Int32))))) fun μ129 => fX11_facts_b277 rec227 (fX11_facts_b235 rec227 fu) a x1 x3 x4 μ129) else (fX11_facts_b277 rec227 (fX11_facts_b235 rec227 fu) a x1 x3 x4 μ))
set_option maxHeartbeats 4000000 in
set_option maxRecDepth 100000 in
theorem gX11_facts_b235 {b : Nat} {Θ : JE} {RC RS : Nat} {r : Int32} {ν : JM} (X : jX b Θ RX11 cX11_facts 5 (some .int) 4 85 RC RS) {rec227 : Nat → Int32 → Int32 → JM → JO (Int32)} (hrec227 : ∀ (a : Nat) (x1 : Int32) (x3 : Int32) (μ : JM) (c m k n : Nat), rec227 a x1 x3 μ = some (r, ν, c, m) → k + c = RC → n + m = RS → WA b Θ 5 (jE b Θ (some (.int r)) ν RC RS) μ k n 227 [(0, va_rf (some a)), (1, .int x1), (3, .int x3)] []) : ∀ (fu : Nat) (a : Nat) (x1 : Int32) (x3 : Int32) (x4 : Int32) (μ : JM) (c m k n : Nat), fX11_facts_b235 rec227 fu a x1 x3 x4 μ = some (r, ν, c, m) → k + c = RC → n + m = RS → WA b Θ 5 (jE b Θ (some (.int r)) ν RC RS) μ k n 235 [(0, va_rf (some a)), (1, .int x1), (3, .int x3), (4, .int x4)] [] := by
  intro fu
  induction fu with
  | zero => intro a x1 x3 x4 μ c m k n hf; cases hf
  | succ fu ih =>
    intro a x1 x3 x4 μ c m k n hf hk hn
    rw [fX11_facts_b235] at hf
    refine wa_iload X 3 dX11_facts_235 rfl ?_
    refine wa_iconst (v := (1 : Int32)) X dX11_facts_237 (by decide) ?_
    refine wa_iload_n X 1 dX11_facts_238 rfl ?_
    refine wa_ishl X dX11_facts_239 ?_
    refine wa_icge (tgt := 283) X dX11_facts_240 (by decide) (fun h122 => ?_) (fun h122 => ?_)
    · rw [if_pos h122] at hf
      refine wa_iinc (v := (x3 + (1 : Int32))) (L2 := [(3, .int (x3 + (1 : Int32))), (0, va_rf (some a)), (1, .int x1), (4, .int x4)]) X 2 dX11_facts_283 rfl rfl (by decide) (by first | rfl | simp [va_rf_cat, cat_i, cat_l]) ?_
      refine wa_goto (tgt := 227) X dX11_facts_286 (by decide) ?_
      refine wa_sub (L2 := [(0, va_rf (some a)), (1, .int x1), (3, .int (x3 + (1 : Int32)))]) [1, 2, 0] rfl ?_
      exact hrec227 a x1 (x3 + (1 : Int32)) μ _ _ _ _ hf (by omega) (by omega)
    · rw [if_neg h122] at hf
      refine wa_iload X 3 dX11_facts_243 rfl ?_
      refine wa_iload_n X 2 dX11_facts_245 rfl ?_
      refine wa_ishr X dX11_facts_246 ?_
      refine wa_iconst (v := (1 : Int32)) X dX11_facts_247 (by decide) ?_
      refine wa_iand X dX11_facts_248 ?_
      refine wa_iconst (v := (1 : Int32)) X dX11_facts_249 (by decide) ?_
      refine wa_icne (tgt := 277) X dX11_facts_250 (by decide) (fun h123 => ?_) (fun h123 => ?_)
      · rw [if_neg h123] at hf
        refine wa_sub (L2 := [(0, va_rf (some a)), (1, .int x1), (3, .int x3), (4, .int x4)]) [0, 1, 2, 3] rfl ?_
        exact gX11_facts_b277 X hrec227 ih a x1 x3 x4 μ _ _ _ _ hf (by omega) (by omega)
      · rw [if_pos h123] at hf
        refine wa_aload_n X 0 dX11_facts_253 rfl ?_
        obtain ⟨h124, hf⟩ := jckT hf
        refine wa_getP X dX11_facts_254 lfX11_49 rfl h124 rfl ?_
        refine wa_iconst (v := (4 : Int32)) X dX11_facts_257 (by decide) ?_
        refine wa_iload_n X 2 dX11_facts_258 rfl ?_
        refine wa_imul X dX11_facts_259 ?_
        refine wa_iload X 3 dX11_facts_260 rfl ?_
        refine wa_bipush (v := (64 : Int32)) X dX11_facts_262 (by decide) ?_
        refine wa_idiv X dX11_facts_264 (by decide) ?_
        refine wa_iadd X dX11_facts_265 ?_
        refine wa_dup2 X dX11_facts_266 rfl (va_rf_cat _) ?_
        obtain ⟨q125, h126, hf⟩ := jde_some hf
        obtain ⟨h127, hf⟩ := jckT hf
        obtain ⟨h128, hf⟩ := jck_some hf
        refine wa_rlald X dX11_facts_267 h126 h127 h128 ?_
        refine wa_lconst (v := (1 : Int64)) X dX11_facts_268 (by decide) ?_
        refine wa_iload X 3 dX11_facts_269 rfl ?_
        refine wa_bipush (v := (64 : Int32)) X dX11_facts_271 (by decide) ?_
        refine wa_irem X dX11_facts_273 (by decide) ?_
        refine wa_lshl X dX11_facts_274 ?_
        refine wa_lor X dX11_facts_275 ?_
        obtain ⟨μ129, hm130, hf⟩ := jlt_e hf
        have e131 : jT μ129 = jT μ := by rw [hm130]; rfl
        refine wa_rlast (ν := μ129) X dX11_facts_276 h126 h127 h128 hm130 ?_
        refine wa_sub (L2 := [(0, va_rf (some a)), (1, .int x1), (3, .int x3), (4, .int x4)]) [0, 1, 2, 3] rfl ?_
        exact gX11_facts_b277 X hrec227 ih a x1 x3 x4 μ129 _ _ _ _ hf (by omega) (by omega)
def fX11_facts_b227 : Nat → Nat → Int32 → Int32 → JM → JO (Int32)
  | 0, _, _, _, _ => none
  | fu + 1, a, x1, x3, μ => if x1 ≤ x3 then (some (x1, μ, 0, 0)) else (fX11_facts_b235 (fX11_facts_b227 fu) jfuel a x1 x3 (0 : Int32) μ)
set_option maxHeartbeats 4000000 in
set_option maxRecDepth 100000 in
theorem gX11_facts_b227 {b : Nat} {Θ : JE} {RC RS : Nat} {r : Int32} {ν : JM} (X : jX b Θ RX11 cX11_facts 5 (some .int) 4 85 RC RS) : ∀ (fu : Nat) (a : Nat) (x1 : Int32) (x3 : Int32) (μ : JM) (c m k n : Nat), fX11_facts_b227 fu a x1 x3 μ = some (r, ν, c, m) → k + c = RC → n + m = RS → WA b Θ 5 (jE b Θ (some (.int r)) ν RC RS) μ k n 227 [(0, va_rf (some a)), (1, .int x1), (3, .int x3)] [] := by
  intro fu
  induction fu with
  | zero => intro a x1 x3 μ c m k n hf; cases hf
  | succ fu ih =>
    intro a x1 x3 μ c m k n hf hk hn
    rw [fX11_facts_b227] at hf
    refine wa_iload_n X 2 dX11_facts_227 rfl ?_
    refine wa_iload_n X 1 dX11_facts_228 rfl ?_
    refine wa_icge (tgt := 289) X dX11_facts_229 (by decide) (fun h121 => ?_) (fun h121 => ?_)
    · rw [if_pos h121] at hf
      refine wa_iload_n X 1 dX11_facts_289 rfl ?_
      obtain ⟨rfl, rfl, rfl, rfl⟩ := jret hf
      exact wa_iret X dX11_facts_290 rfl (by omega) (by omega)
    · rw [if_neg h121] at hf
      refine wa_iconst (v := (0 : Int32)) X dX11_facts_232 (by decide) ?_
      refine wa_istore (L2 := [(4, .int (0 : Int32)), (0, va_rf (some a)), (1, .int x1), (3, .int x3)]) X dX11_facts_233 (by decide) (by first | rfl | (show (4, _) :: List.filter (fun q : Nat × Value => !(q.1 == 4) && !(q.1 + 1 == 4 && q.2.category == 2)) _ = _; simp [va_rf_cat, cat_i, cat_l])) ?_
      refine wa_sub (L2 := [(0, va_rf (some a)), (1, .int x1), (3, .int x3), (4, .int (0 : Int32))]) [1, 2, 3, 0] rfl ?_
      exact gX11_facts_b235 X ih jfuel a x1 x3 (0 : Int32) μ _ _ _ _ hf (by omega) (by omega)
def fX11_facts_b153 : Nat → Nat → Int32 → Int32 → JM → JO (Int32)
  | 0, _, _, _, _ => none
  | fu + 1, a, x1, x3, μ => if (4 : Int32) ≤ x3 then (fX11_facts_b227  jfuel a x1 (0 : Int32) μ) else (jck ((jT μ a).1 == 12) <| jde (jP μ a 22) fun q92 => jck ((jT μ q92).1 == 102) <| jck (jin x3 (jT μ q92).2) <| jlt (jsJ μ q92 (x3).toNatClampNeg (0 : Int64)) fun μ96 => fX11_facts_b168 (fX11_facts_b153 fu) jfuel a x1 x3 (0 : Int32) μ96)
set_option maxHeartbeats 4000000 in
set_option maxRecDepth 100000 in
theorem gX11_facts_b153 {b : Nat} {Θ : JE} {RC RS : Nat} {r : Int32} {ν : JM} (X : jX b Θ RX11 cX11_facts 5 (some .int) 4 85 RC RS) : ∀ (fu : Nat) (a : Nat) (x1 : Int32) (x3 : Int32) (μ : JM) (c m k n : Nat), fX11_facts_b153 fu a x1 x3 μ = some (r, ν, c, m) → k + c = RC → n + m = RS → WA b Θ 5 (jE b Θ (some (.int r)) ν RC RS) μ k n 153 [(0, va_rf (some a)), (1, .int x1), (3, .int x3)] [] := by
  intro fu
  induction fu with
  | zero => intro a x1 x3 μ c m k n hf; cases hf
  | succ fu ih =>
    intro a x1 x3 μ c m k n hf hk hn
    rw [fX11_facts_b153] at hf
    refine wa_iload_n X 2 dX11_facts_153 rfl ?_
    refine wa_iconst (v := (4 : Int32)) X dX11_facts_154 (by decide) ?_
    refine wa_icge (tgt := 225) X dX11_facts_155 (by decide) (fun h90 => ?_) (fun h90 => ?_)
    · rw [if_pos h90] at hf
      refine wa_iconst (v := (0 : Int32)) X dX11_facts_225 (by decide) ?_
      refine wa_istore_n (L2 := [(3, .int (0 : Int32)), (0, va_rf (some a)), (1, .int x1)]) X dX11_facts_226 (by decide) (by first | rfl | (show (3, _) :: List.filter (fun q : Nat × Value => !(q.1 == 3) && !(q.1 + 1 == 3 && q.2.category == 2)) _ = _; simp [va_rf_cat, cat_i, cat_l])) ?_
      refine wa_sub (L2 := [(0, va_rf (some a)), (1, .int x1), (3, .int (0 : Int32))]) [1, 2, 0] rfl ?_
      exact gX11_facts_b227 X jfuel a x1 (0 : Int32) μ _ _ _ _ hf (by omega) (by omega)
    · rw [if_neg h90] at hf
      refine wa_aload_n X 0 dX11_facts_158 rfl ?_
      obtain ⟨h91, hf⟩ := jckT hf
      refine wa_getP X dX11_facts_159 lfX11_42 rfl h91 rfl ?_
      refine wa_iload_n X 2 dX11_facts_162 rfl ?_
      refine wa_lconst (v := (0 : Int64)) X dX11_facts_163 (by decide) ?_
      obtain ⟨q92, h93, hf⟩ := jde_some hf
      obtain ⟨h94, hf⟩ := jckT hf
      obtain ⟨h95, hf⟩ := jck_some hf
      obtain ⟨μ96, hm97, hf⟩ := jlt_e hf
      have e98 : jT μ96 = jT μ := by rw [hm97]; rfl
      refine wa_rlast (ν := μ96) X dX11_facts_164 h93 h94 h95 hm97 ?_
      refine wa_iconst (v := (0 : Int32)) X dX11_facts_165 (by decide) ?_
      refine wa_istore (L2 := [(4, .int (0 : Int32)), (0, va_rf (some a)), (1, .int x1), (3, .int x3)]) X dX11_facts_166 (by decide) (by first | rfl | (show (4, _) :: List.filter (fun q : Nat × Value => !(q.1 == 4) && !(q.1 + 1 == 4 && q.2.category == 2)) _ = _; simp [va_rf_cat, cat_i, cat_l])) ?_
      refine wa_sub (L2 := [(0, va_rf (some a)), (1, .int x1), (3, .int x3), (4, .int (0 : Int32))]) [1, 2, 3, 0] rfl ?_
      exact gX11_facts_b168 X ih jfuel a x1 x3 (0 : Int32) μ96 _ _ _ _ hf (by omega) (by omega)
def fX11_facts_b134 (a : Nat) (x1 : Int32) (x2 : Int32) (μ : JM) : JO (Int32) := if x2 = 0 then (jck ((jT μ a).1 == 12) <| some (((-2 : Int32) - (jI μ a 18)), μ, 0, 0)) else (jck ((jT μ a).1 == 12) <| jlt (jsI μ a 2 x1) fun μ86 => fX11_facts_b153  jfuel a x1 (0 : Int32) μ86)
set_option maxHeartbeats 4000000 in
set_option maxRecDepth 100000 in
theorem gX11_facts_b134 {b : Nat} {Θ : JE} {RC RS : Nat} {r : Int32} {ν : JM} (X : jX b Θ RX11 cX11_facts 5 (some .int) 4 85 RC RS) (a : Nat) (x1 : Int32) (x2 : Int32) (μ : JM) (c m k n : Nat) (hf : fX11_facts_b134 a x1 x2 μ = some (r, ν, c, m)) (hk : k + c = RC) (hn : n + m = RS) : WA b Θ 5 (jE b Θ (some (.int r)) ν RC RS) μ k n 134 [(0, va_rf (some a)), (1, .int x1), (2, .int x2)] [] := by
  rw [fX11_facts_b134] at hf
  refine wa_iload_n X 2 dX11_facts_134 rfl ?_
  refine wa_ifne (tgt := 146) X dX11_facts_135 (by decide) (fun h84 => ?_) (fun h84 => ?_)
  · rw [if_neg h84] at hf
    refine wa_aload_n X 0 dX11_facts_146 rfl ?_
    refine wa_iload_n X 1 dX11_facts_147 rfl ?_
    obtain ⟨h85, hf⟩ := jckT hf
    obtain ⟨μ86, hm87, hf⟩ := jlt_e hf
    have e88 : jT μ86 = jT μ := by rw [hm87]; rfl
    refine wa_rputI (ν := μ86) X dX11_facts_148 lfX11_13 rfl h85 rfl rfl hm87 ?_
    refine wa_iconst (v := (0 : Int32)) X dX11_facts_151 (by decide) ?_
    refine wa_istore_n (L2 := [(3, .int (0 : Int32)), (0, va_rf (some a)), (1, .int x1), (2, .int x2)]) X dX11_facts_152 (by decide) (by first | rfl | (show (3, _) :: List.filter (fun q : Nat × Value => !(q.1 == 3) && !(q.1 + 1 == 3 && q.2.category == 2)) _ = _; simp [va_rf_cat, cat_i, cat_l])) ?_
    refine wa_sub (L2 := [(0, va_rf (some a)), (1, .int x1), (3, .int (0 : Int32))]) [1, 2, 0] rfl ?_
    exact gX11_facts_b153 X jfuel a x1 (0 : Int32) μ86 _ _ _ _ hf (by omega) (by omega)
  · rw [if_pos h84] at hf
    refine wa_bipush (v := (-2 : Int32)) X dX11_facts_138 (by decide) ?_
    refine wa_aload_n X 0 dX11_facts_140 rfl ?_
    obtain ⟨h89, hf⟩ := jckT hf
    refine wa_getI X dX11_facts_141 lfX11_163 rfl h89 rfl ?_
    refine wa_isub X dX11_facts_144 ?_
    obtain ⟨rfl, rfl, rfl, rfl⟩ := jret hf
    exact wa_iret X dX11_facts_145 rfl (by omega) (by omega)
def fX11_facts_b102 (rec28 : Nat → Int32 → Int32 → JM → JO (Int32)) (a : Nat) (x1 : Int32) (s0 : Int32) (μ : JM) : JO (Int32) := if s0 = 0 then (fX11_facts_b134  a x1 s0 μ) else (jck ((jT μ a).1 == 12) <| jcl (fX11_name a (jP μ a 3) (jP μ a 4) x1 μ) fun u65 μ66 => jck ((jT μ66 a).1 == 12) <| jcl (fX11_takes a μ66) fun r75 μ76 => rec28 a (x1 + (1 : Int32)) r75 μ76)
set_option maxHeartbeats 4000000 in
set_option maxRecDepth 100000 in
theorem gX11_facts_b102 {b : Nat} {Θ : JE} {RC RS : Nat} {r : Int32} {ν : JM} (X : jX b Θ RX11 cX11_facts 5 (some .int) 4 85 RC RS) {rec28 : Nat → Int32 → Int32 → JM → JO (Int32)} (hrec28 : ∀ (a : Nat) (x1 : Int32) (x2 : Int32) (μ : JM) (c m k n : Nat), rec28 a x1 x2 μ = some (r, ν, c, m) → k + c = RC → n + m = RS → WA b Θ 5 (jE b Θ (some (.int r)) ν RC RS) μ k n 28 [(0, va_rf (some a)), (1, .int x1), (2, .int x2)] []) (a : Nat) (x1 : Int32) (s0 : Int32) (μ : JM) (c m k n : Nat) (hf : fX11_facts_b102 rec28 a x1 s0 μ = some (r, ν, c, m)) (hk : k + c = RC) (hn : n + m = RS) : WA b Θ 5 (jE b Θ (some (.int r)) ν RC RS) μ k n 102 [(0, va_rf (some a)), (1, .int x1)] [.int s0] := by
  rw [fX11_facts_b102] at hf
  refine wa_istore_n (L2 := [(2, .int s0), (0, va_rf (some a)), (1, .int x1)]) X dX11_facts_102 (by decide) (by first | rfl | (show (2, _) :: List.filter (fun q : Nat × Value => !(q.1 == 2) && !(q.1 + 1 == 2 && q.2.category == 2)) _ = _; simp [va_rf_cat, cat_i, cat_l])) ?_
  refine wa_iload_n X 0 dX11_facts_103 rfl ?_
  refine wa_ifne (tgt := 110) X dX11_facts_104 (by decide) (fun h63 => ?_) (fun h63 => ?_)
  · rw [if_neg h63] at hf
    refine wa_aload_n X 1 dX11_facts_110 rfl ?_
    refine wa_aload_n X 1 dX11_facts_111 rfl ?_
    obtain ⟨h64, hf⟩ := jckT hf
    refine wa_getP X dX11_facts_112 lfX11_17 rfl h64 rfl ?_
    refine wa_aload_n X 1 dX11_facts_115 rfl ?_
    refine wa_getP X dX11_facts_116 lfX11_20 rfl h64 rfl ?_
    refine wa_iload_n X 2 dX11_facts_119 rfl ?_
    obtain ⟨u65, μ66, c67, m68, c69, m70, e71, hf, h72, h73⟩ := jcl_some hf
    refine wa_rcallV (st2 := []) X dX11_facts_120 lmX11_274 lMX11_name rfl h64 (mX11_name e71) rfl rfl rfl (va_cats (Nat.le_of_ble_eq_true rfl)) (by decide) (by omega) (by omega) ?_
    refine wa_iinc (v := (x1 + (1 : Int32))) (L2 := [(1, .int (x1 + (1 : Int32))), (2, .int s0), (0, va_rf (some a))]) X 2 dX11_facts_123 rfl rfl (by decide) (by first | rfl | simp [va_rf_cat, cat_i, cat_l]) ?_
    refine wa_aload_n X 2 dX11_facts_126 rfl ?_
    obtain ⟨h74, hf⟩ := jckT hf
    obtain ⟨r75, μ76, c77, m78, c79, m80, e81, hf, h82, h83⟩ := jcl_some hf
    refine wa_rcallV (st2 := [.int r75]) X dX11_facts_127 lmX11_255 lMX11_takes rfl h74 (mX11_takes e81) rfl rfl rfl (va_cats (Nat.le_of_ble_eq_true rfl)) (by decide) (by omega) (by omega) ?_
    refine wa_istore_n (L2 := [(2, .int r75), (1, .int (x1 + (1 : Int32))), (0, va_rf (some a))]) X dX11_facts_130 (by decide) (by first | rfl | (show (2, _) :: List.filter (fun q : Nat × Value => !(q.1 == 2) && !(q.1 + 1 == 2 && q.2.category == 2)) _ = _; simp [va_rf_cat, cat_i, cat_l])) ?_
    refine wa_goto (tgt := 28) X dX11_facts_131 (by decide) ?_
    refine wa_sub (L2 := [(0, va_rf (some a)), (1, .int (x1 + (1 : Int32))), (2, .int r75)]) [2, 1, 0] rfl ?_
    exact hrec28 a (x1 + (1 : Int32)) r75 μ76 _ _ _ _ hf (by omega) (by omega)
  · rw [if_pos h63] at hf
    refine wa_goto (tgt := 134) X dX11_facts_107 (by decide) ?_
    refine wa_sub (L2 := [(0, va_rf (some a)), (1, .int x1), (2, .int s0)]) [1, 2, 0] rfl ?_
    exact gX11_facts_b134 X a x1 s0 μ _ _ _ _ hf (by omega) (by omega)
def fX11_facts_b97 (rec28 : Nat → Int32 → Int32 → JM → JO (Int32)) (a : Nat) (x1 : Int32) (μ : JM) : JO (Int32) := fX11_facts_b102 rec28 a x1 (1 : Int32) μ
set_option maxHeartbeats 4000000 in
set_option maxRecDepth 100000 in
theorem gX11_facts_b97 {b : Nat} {Θ : JE} {RC RS : Nat} {r : Int32} {ν : JM} (X : jX b Θ RX11 cX11_facts 5 (some .int) 4 85 RC RS) {rec28 : Nat → Int32 → Int32 → JM → JO (Int32)} (hrec28 : ∀ (a : Nat) (x1 : Int32) (x2 : Int32) (μ : JM) (c m k n : Nat), rec28 a x1 x2 μ = some (r, ν, c, m) → k + c = RC → n + m = RS → WA b Θ 5 (jE b Θ (some (.int r)) ν RC RS) μ k n 28 [(0, va_rf (some a)), (1, .int x1), (2, .int x2)] []) (a : Nat) (x1 : Int32) (μ : JM) (c m k n : Nat) (hf : fX11_facts_b97 rec28 a x1 μ = some (r, ν, c, m)) (hk : k + c = RC) (hn : n + m = RS) : WA b Θ 5 (jE b Θ (some (.int r)) ν RC RS) μ k n 97 [(0, va_rf (some a)), (1, .int x1)] [] := by
  rw [fX11_facts_b97] at hf
  refine wa_iconst (v := (1 : Int32)) X dX11_facts_97 (by decide) ?_
  refine wa_goto (tgt := 102) X dX11_facts_98 (by decide) ?_
  refine wa_sub (L2 := [(0, va_rf (some a)), (1, .int x1)]) [0, 1] rfl ?_
  exact gX11_facts_b102 X hrec28 a x1 (1 : Int32) μ _ _ _ _ hf (by omega) (by omega)
def fX11_facts_b101 (rec28 : Nat → Int32 → Int32 → JM → JO (Int32)) (a : Nat) (x1 : Int32) (μ : JM) : JO (Int32) := fX11_facts_b102 rec28 a x1 (0 : Int32) μ
set_option maxHeartbeats 4000000 in
set_option maxRecDepth 100000 in
theorem gX11_facts_b101 {b : Nat} {Θ : JE} {RC RS : Nat} {r : Int32} {ν : JM} (X : jX b Θ RX11 cX11_facts 5 (some .int) 4 85 RC RS) {rec28 : Nat → Int32 → Int32 → JM → JO (Int32)} (hrec28 : ∀ (a : Nat) (x1 : Int32) (x2 : Int32) (μ : JM) (c m k n : Nat), rec28 a x1 x2 μ = some (r, ν, c, m) → k + c = RC → n + m = RS → WA b Θ 5 (jE b Θ (some (.int r)) ν RC RS) μ k n 28 [(0, va_rf (some a)), (1, .int x1), (2, .int x2)] []) (a : Nat) (x1 : Int32) (μ : JM) (c m k n : Nat) (hf : fX11_facts_b101 rec28 a x1 μ = some (r, ν, c, m)) (hk : k + c = RC) (hn : n + m = RS) : WA b Θ 5 (jE b Θ (some (.int r)) ν RC RS) μ k n 101 [(0, va_rf (some a)), (1, .int x1)] [] := by
  rw [fX11_facts_b101] at hf
  refine wa_iconst (v := (0 : Int32)) X dX11_facts_101 (by decide) ?_
  refine wa_sub (L2 := [(0, va_rf (some a)), (1, .int x1)]) [0, 1] rfl ?_
  exact gX11_facts_b102 X hrec28 a x1 (0 : Int32) μ _ _ _ _ hf (by omega) (by omega)
def fX11_facts_b78 (rec28 : Nat → Int32 → Int32 → JM → JO (Int32)) (a : Nat) (x1 : Int32) (μ : JM) : JO (Int32) := if x1 < (8 : Int32) then (fX11_facts_b97 rec28 a x1 μ) else (jck ((jT μ a).1 == 12) <| jcl (fX11_fails a (6 : Int32) (jI μ a 15) μ) fun r53 μ54 => if r53 = 0 then (fX11_facts_b101 rec28 a x1 μ54) else (fX11_facts_b97 rec28 a x1 μ54))
set_option maxHeartbeats 4000000 in
set_option maxRecDepth 100000 in
theorem gX11_facts_b78 {b : Nat} {Θ : JE} {RC RS : Nat} {r : Int32} {ν : JM} (X : jX b Θ RX11 cX11_facts 5 (some .int) 4 85 RC RS) {rec28 : Nat → Int32 → Int32 → JM → JO (Int32)} (hrec28 : ∀ (a : Nat) (x1 : Int32) (x2 : Int32) (μ : JM) (c m k n : Nat), rec28 a x1 x2 μ = some (r, ν, c, m) → k + c = RC → n + m = RS → WA b Θ 5 (jE b Θ (some (.int r)) ν RC RS) μ k n 28 [(0, va_rf (some a)), (1, .int x1), (2, .int x2)] []) (a : Nat) (x1 : Int32) (μ : JM) (c m k n : Nat) (hf : fX11_facts_b78 rec28 a x1 μ = some (r, ν, c, m)) (hk : k + c = RC) (hn : n + m = RS) : WA b Θ 5 (jE b Θ (some (.int r)) ν RC RS) μ k n 78 [(0, va_rf (some a)), (1, .int x1)] [] := by
  rw [fX11_facts_b78] at hf
  refine wa_iload_n X 1 dX11_facts_78 rfl ?_
  refine wa_bipush (v := (8 : Int32)) X dX11_facts_79 (by decide) ?_
  refine wa_iclt (tgt := 97) X dX11_facts_81 (by decide) (fun h51 => ?_) (fun h51 => ?_)
  · rw [if_pos h51] at hf
    refine wa_sub (L2 := [(0, va_rf (some a)), (1, .int x1)]) [0, 1] rfl ?_
    exact gX11_facts_b97 X hrec28 a x1 μ _ _ _ _ hf (by omega) (by omega)
  · rw [if_neg h51] at hf
    refine wa_aload_n X 0 dX11_facts_84 rfl ?_
    refine wa_bipush (v := (6 : Int32)) X dX11_facts_85 (by decide) ?_
    refine wa_aload_n X 0 dX11_facts_87 rfl ?_
    obtain ⟨h52, hf⟩ := jckT hf
    refine wa_getI X dX11_facts_88 lfX11_185 rfl h52 rfl ?_
    obtain ⟨r53, μ54, c55, m56, c57, m58, e59, hf, h60, h61⟩ := jcl_some hf
    refine wa_rcallV (st2 := [.int r53]) X dX11_facts_91 lmX11_201 lMX11_fails rfl h52 (mX11_fails e59) rfl rfl rfl (va_cats (Nat.le_of_ble_eq_true rfl)) (by decide) (by omega) (by omega) ?_
    refine wa_ifeq (tgt := 101) X dX11_facts_94 (by decide) (fun h62 => ?_) (fun h62 => ?_)
    · rw [if_pos h62] at hf
      refine wa_sub (L2 := [(0, va_rf (some a)), (1, .int x1)]) [0, 1] rfl ?_
      exact gX11_facts_b101 X hrec28 a x1 μ54 _ _ _ _ hf (by omega) (by omega)
    · rw [if_neg h62] at hf
      refine wa_sub (L2 := [(0, va_rf (some a)), (1, .int x1)]) [0, 1] rfl ?_
      exact gX11_facts_b97 X hrec28 a x1 μ54 _ _ _ _ hf (by omega) (by omega)
def fX11_facts_b43 (rec28 : Nat → Int32 → Int32 → JM → JO (Int32)) (a : Nat) (x1 : Int32) (μ : JM) : JO (Int32) := jck ((jT μ a).1 == 12) <| jcl (fX11_isName a μ) fun r19 μ20 => if r19 = 0 then (fX11_facts_b101 rec28 a x1 μ20) else (jck ((jT μ20 a).1 == 12) <| jcl (fX11_find a (jP μ20 a 3) (jP μ20 a 4) x1 μ20) fun r30 μ31 => if r30 < 0 then (fX11_facts_b78 rec28 a x1 μ31) else (jck ((jT μ31 a).1 == 12) <| jcl (fX11_fails a (2 : Int32) (jI μ31 a 15) μ31) fun r41 μ42 => if r41 = 0 then (fX11_facts_b101 rec28 a x1 μ42) else (fX11_facts_b78 rec28 a x1 μ42)))
set_option maxHeartbeats 4000000 in
set_option maxRecDepth 100000 in
theorem gX11_facts_b43 {b : Nat} {Θ : JE} {RC RS : Nat} {r : Int32} {ν : JM} (X : jX b Θ RX11 cX11_facts 5 (some .int) 4 85 RC RS) {rec28 : Nat → Int32 → Int32 → JM → JO (Int32)} (hrec28 : ∀ (a : Nat) (x1 : Int32) (x2 : Int32) (μ : JM) (c m k n : Nat), rec28 a x1 x2 μ = some (r, ν, c, m) → k + c = RC → n + m = RS → WA b Θ 5 (jE b Θ (some (.int r)) ν RC RS) μ k n 28 [(0, va_rf (some a)), (1, .int x1), (2, .int x2)] []) (a : Nat) (x1 : Int32) (μ : JM) (c m k n : Nat) (hf : fX11_facts_b43 rec28 a x1 μ = some (r, ν, c, m)) (hk : k + c = RC) (hn : n + m = RS) : WA b Θ 5 (jE b Θ (some (.int r)) ν RC RS) μ k n 43 [(0, va_rf (some a)), (1, .int x1)] [] := by
  rw [fX11_facts_b43] at hf
  refine wa_aload_n X 0 dX11_facts_43 rfl ?_
  obtain ⟨h18, hf⟩ := jckT hf
  obtain ⟨r19, μ20, c21, m22, c23, m24, e25, hf, h26, h27⟩ := jcl_some hf
  refine wa_rcallV (st2 := [.int r19]) X dX11_facts_44 lmX11_267 lMX11_isName rfl h18 (mX11_isName e25) rfl rfl rfl (va_cats (Nat.le_of_ble_eq_true rfl)) (by decide) (by omega) (by omega) ?_
  refine wa_ifeq (tgt := 101) X dX11_facts_47 (by decide) (fun h28 => ?_) (fun h28 => ?_)
  · rw [if_pos h28] at hf
    refine wa_sub (L2 := [(0, va_rf (some a)), (1, .int x1)]) [0, 1] rfl ?_
    exact gX11_facts_b101 X hrec28 a x1 μ20 _ _ _ _ hf (by omega) (by omega)
  · rw [if_neg h28] at hf
    refine wa_aload_n X 0 dX11_facts_50 rfl ?_
    refine wa_aload_n X 0 dX11_facts_51 rfl ?_
    obtain ⟨h29, hf⟩ := jckT hf
    refine wa_getP X dX11_facts_52 lfX11_17 rfl h29 rfl ?_
    refine wa_aload_n X 0 dX11_facts_55 rfl ?_
    refine wa_getP X dX11_facts_56 lfX11_20 rfl h29 rfl ?_
    refine wa_iload_n X 1 dX11_facts_59 rfl ?_
    obtain ⟨r30, μ31, c32, m33, c34, m35, e36, hf, h37, h38⟩ := jcl_some hf
    refine wa_rcallV (st2 := [.int r30]) X dX11_facts_60 lmX11_270 lMX11_find rfl h29 (mX11_find e36) rfl rfl rfl (va_cats (Nat.le_of_ble_eq_true rfl)) (by decide) (by omega) (by omega) ?_
    refine wa_iflt (tgt := 78) X dX11_facts_63 (by decide) (fun h39 => ?_) (fun h39 => ?_)
    · rw [if_pos h39] at hf
      refine wa_sub (L2 := [(0, va_rf (some a)), (1, .int x1)]) [0, 1] rfl ?_
      exact gX11_facts_b78 X hrec28 a x1 μ31 _ _ _ _ hf (by omega) (by omega)
    · rw [if_neg h39] at hf
      refine wa_aload_n X 0 dX11_facts_66 rfl ?_
      refine wa_iconst (v := (2 : Int32)) X dX11_facts_67 (by decide) ?_
      refine wa_aload_n X 0 dX11_facts_68 rfl ?_
      obtain ⟨h40, hf⟩ := jckT hf
      refine wa_getI X dX11_facts_69 lfX11_185 rfl h40 rfl ?_
      obtain ⟨r41, μ42, c43, m44, c45, m46, e47, hf, h48, h49⟩ := jcl_some hf
      refine wa_rcallV (st2 := [.int r41]) X dX11_facts_72 lmX11_201 lMX11_fails rfl h40 (mX11_fails e47) rfl rfl rfl (va_cats (Nat.le_of_ble_eq_true rfl)) (by decide) (by omega) (by omega) ?_
      refine wa_ifeq (tgt := 101) X dX11_facts_75 (by decide) (fun h50 => ?_) (fun h50 => ?_)
      · rw [if_pos h50] at hf
        refine wa_sub (L2 := [(0, va_rf (some a)), (1, .int x1)]) [0, 1] rfl ?_
        exact gX11_facts_b101 X hrec28 a x1 μ42 _ _ _ _ hf (by omega) (by omega)
      · rw [if_neg h50] at hf
        refine wa_sub (L2 := [(0, va_rf (some a)), (1, .int x1)]) [0, 1] rfl ?_
        exact gX11_facts_b78 X hrec28 a x1 μ42 _ _ _ _ hf (by omega) (by omega)
def fX11_facts_b28 : Nat → Nat → Int32 → Int32 → JM → JO (Int32)
  | 0, _, _, _, _ => none
  | fu + 1, a, x1, x2, μ => if x2 = 0 then (fX11_facts_b134  a x1 x2 μ) else (jck ((jT μ a).1 == 12) <| if (jI μ a 14) = 0 then (if x1 = 0 then (fX11_facts_b43 (fX11_facts_b28 fu) a x1 μ) else (fX11_facts_b134  a x1 x2 μ)) else (fX11_facts_b43 (fX11_facts_b28 fu) a x1 μ))
set_option maxHeartbeats 4000000 in
set_option maxRecDepth 100000 in
theorem gX11_facts_b28 {b : Nat} {Θ : JE} {RC RS : Nat} {r : Int32} {ν : JM} (X : jX b Θ RX11 cX11_facts 5 (some .int) 4 85 RC RS) : ∀ (fu : Nat) (a : Nat) (x1 : Int32) (x2 : Int32) (μ : JM) (c m k n : Nat), fX11_facts_b28 fu a x1 x2 μ = some (r, ν, c, m) → k + c = RC → n + m = RS → WA b Θ 5 (jE b Θ (some (.int r)) ν RC RS) μ k n 28 [(0, va_rf (some a)), (1, .int x1), (2, .int x2)] [] := by
  intro fu
  induction fu with
  | zero => intro a x1 x2 μ c m k n hf; cases hf
  | succ fu ih =>
    intro a x1 x2 μ c m k n hf hk hn
    rw [fX11_facts_b28] at hf
    refine wa_iload_n X 2 dX11_facts_28 rfl ?_
    refine wa_ifeq (tgt := 134) X dX11_facts_29 (by decide) (fun h14 => ?_) (fun h14 => ?_)
    · rw [if_pos h14] at hf
      refine wa_sub (L2 := [(0, va_rf (some a)), (1, .int x1), (2, .int x2)]) [0, 1, 2] rfl ?_
      exact gX11_facts_b134 X a x1 x2 μ _ _ _ _ hf (by omega) (by omega)
    · rw [if_neg h14] at hf
      refine wa_aload_n X 0 dX11_facts_32 rfl ?_
      obtain ⟨h15, hf⟩ := jckT hf
      refine wa_getI X dX11_facts_33 lfX11_194 rfl h15 rfl ?_
      refine wa_ifne (tgt := 43) X dX11_facts_36 (by decide) (fun h16 => ?_) (fun h16 => ?_)
      · rw [if_neg h16] at hf
        refine wa_sub (L2 := [(0, va_rf (some a)), (1, .int x1)]) [0, 1] rfl ?_
        exact gX11_facts_b43 X ih a x1 μ _ _ _ _ hf (by omega) (by omega)
      · rw [if_pos h16] at hf
        refine wa_iload_n X 1 dX11_facts_39 rfl ?_
        refine wa_ifne (tgt := 134) X dX11_facts_40 (by decide) (fun h17 => ?_) (fun h17 => ?_)
        · rw [if_neg h17] at hf
          refine wa_sub (L2 := [(0, va_rf (some a)), (1, .int x1), (2, .int x2)]) [0, 1, 2] rfl ?_
          exact gX11_facts_b134 X a x1 x2 μ _ _ _ _ hf (by omega) (by omega)
        · rw [if_pos h17] at hf
          refine wa_sub (L2 := [(0, va_rf (some a)), (1, .int x1)]) [0, 1] rfl ?_
          exact gX11_facts_b43 X ih a x1 μ _ _ _ _ hf (by omega) (by omega)
def fX11_facts_b27 (a : Nat) (x1 : Int32) (s0 : Int32) (μ : JM) : JO (Int32) := fX11_facts_b28  jfuel a x1 s0 μ
set_option maxHeartbeats 4000000 in
set_option maxRecDepth 100000 in
theorem gX11_facts_b27 {b : Nat} {Θ : JE} {RC RS : Nat} {r : Int32} {ν : JM} (X : jX b Θ RX11 cX11_facts 5 (some .int) 4 85 RC RS) (a : Nat) (x1 : Int32) (s0 : Int32) (μ : JM) (c m k n : Nat) (hf : fX11_facts_b27 a x1 s0 μ = some (r, ν, c, m)) (hk : k + c = RC) (hn : n + m = RS) : WA b Θ 5 (jE b Θ (some (.int r)) ν RC RS) μ k n 27 [(0, va_rf (some a)), (1, .int x1)] [.int s0] := by
  rw [fX11_facts_b27] at hf
  refine wa_istore_n (L2 := [(2, .int s0), (0, va_rf (some a)), (1, .int x1)]) X dX11_facts_27 (by decide) (by first | rfl | (show (2, _) :: List.filter (fun q : Nat × Value => !(q.1 == 2) && !(q.1 + 1 == 2 && q.2.category == 2)) _ = _; simp [va_rf_cat, cat_i, cat_l])) ?_
  refine wa_sub (L2 := [(0, va_rf (some a)), (1, .int x1), (2, .int s0)]) [1, 2, 0] rfl ?_
  exact gX11_facts_b28 X jfuel a x1 s0 μ _ _ _ _ hf (by omega) (by omega)
def fX11_facts (a : Nat) (μ : JM) : JO (Int32) := jck ((jT μ a).1 == 12) <| jcl (fX11_takesTape a μ) fun u2 μ3 => jck ((jT μ3 a).1 == 12) <| if (jI μ3 a 2) < 0 then (if (jI μ3 a 18) = 0 then (fX11_facts_b27  a (0 : Int32) (1 : Int32) μ3) else (fX11_facts_b27  a (0 : Int32) (0 : Int32) μ3)) else (some ((-1 : Int32), μ3, 0, 0))
set_option maxHeartbeats 4000000 in
set_option maxRecDepth 100000 in
theorem mX11_facts {b : Nat} {a : Nat} {μ : JM} {r : Int32} {ν : JM} {c m : Nat} (hf : fX11_facts a μ = some (r, ν, c, m)) : JMet b yX11_facts cX11_facts 5 (some .int) 4 85 [va_rf (some a)] μ (some (.int r)) ν c m := by
  refine JMet.of (by decide) (lg_sl_le (by simp only [List.map_cons, List.map_nil, List.sum_cons, List.sum_nil, va_rf_cat]; exact Nat.le_of_ble_eq_true rfl)) (fun Θ X hin => ?_)
  refine wa_eq (L2 := [(0, va_rf (some a))]) ?_ rfl (by first | rfl | simp [lv_args, va_rf_cat, cat_i, cat_l]) rfl
  obtain ⟨k, hk0⟩ : ∃ k : Nat, k = 0 := ⟨0, rfl⟩
  obtain ⟨n, hn0⟩ : ∃ n : Nat, n = 0 := ⟨0, rfl⟩
  have hk : k + c = c := by omega
  have hn : n + m = m := by omega
  refine wa_costs hk0.symm hn0.symm ?_
  rw [fX11_facts] at hf
  refine wa_aload_n X 0 dX11_facts_0 rfl ?_
  obtain ⟨h1, hf⟩ := jckT hf
  obtain ⟨u2, μ3, c4, m5, c6, m7, e8, hf, h9, h10⟩ := jcl_some hf
  refine wa_rcallV (st2 := []) X dX11_facts_1 lmX11_264 lMX11_takesTape rfl h1 (mX11_takesTape e8) rfl rfl rfl (va_cats (Nat.le_of_ble_eq_true rfl)) (by decide) (by omega) (by omega) ?_
  refine wa_aload_n X 0 dX11_facts_4 rfl ?_
  obtain ⟨h11, hf⟩ := jckT hf
  refine wa_getI X dX11_facts_5 lfX11_13 rfl h11 rfl ?_
  refine wa_iflt (tgt := 13) X dX11_facts_8 (by decide) (fun h12 => ?_) (fun h12 => ?_)
  · rw [if_pos h12] at hf
    refine wa_iconst (v := (0 : Int32)) X dX11_facts_13 (by decide) ?_
    refine wa_istore_n (L2 := [(1, .int (0 : Int32)), (0, va_rf (some a))]) X dX11_facts_14 (by decide) (by first | rfl | (show (1, _) :: List.filter (fun q : Nat × Value => !(q.1 == 1) && !(q.1 + 1 == 1 && q.2.category == 2)) _ = _; simp [va_rf_cat, cat_i, cat_l])) ?_
    refine wa_aload_n X 1 dX11_facts_15 rfl ?_
    refine wa_getI X dX11_facts_16 lfX11_163 rfl h11 rfl ?_
    refine wa_ifne (tgt := 26) X dX11_facts_19 (by decide) (fun h13 => ?_) (fun h13 => ?_)
    · rw [if_neg h13] at hf
      refine wa_iconst (v := (0 : Int32)) X dX11_facts_26 (by decide) ?_
      refine wa_sub (L2 := [(0, va_rf (some a)), (1, .int (0 : Int32))]) [1, 0] rfl ?_
      exact gX11_facts_b27 X a (0 : Int32) (0 : Int32) μ3 _ _ _ _ hf (by omega) (by omega)
    · rw [if_pos h13] at hf
      refine wa_iconst (v := (1 : Int32)) X dX11_facts_22 (by decide) ?_
      refine wa_goto (tgt := 27) X dX11_facts_23 (by decide) ?_
      refine wa_sub (L2 := [(0, va_rf (some a)), (1, .int (0 : Int32))]) [1, 0] rfl ?_
      exact gX11_facts_b27 X a (0 : Int32) (1 : Int32) μ3 _ _ _ _ hf (by omega) (by omega)
  · rw [if_neg h12] at hf
    refine wa_iconst (v := (-1 : Int32)) X dX11_facts_11 (by decide) ?_
    obtain ⟨rfl, rfl, rfl, rfl⟩ := jret hf
    exact wa_iret X dX11_facts_12 rfl (by omega) (by omega)
theorem dX11_opens_0 : decode cX11_opens 0 = .ok (.iconst 0, 1) := by decide +kernel
theorem dX11_opens_1 : decode cX11_opens 1 = .ok (.istore_n 2, 1) := by decide +kernel
theorem dX11_opens_2 : decode cX11_opens 2 = .ok (.iload_n 2, 1) := by decide +kernel
theorem dX11_opens_3 : decode cX11_opens 3 = .ok (.iconst 4, 1) := by decide +kernel
theorem dX11_opens_4 : decode cX11_opens 4 = .ok (.if_icmp .ge 36, 3) := by decide +kernel
theorem dX11_opens_7 : decode cX11_opens 7 = .ok (.aload_n 0, 1) := by decide +kernel
theorem dX11_opens_8 : decode cX11_opens 8 = .ok (.getfield 52, 3) := by decide +kernel
theorem dX11_opens_11 : decode cX11_opens 11 = .ok (.iconst 4, 1) := by decide +kernel
theorem dX11_opens_12 : decode cX11_opens 12 = .ok (.iload_n 1, 1) := by decide +kernel
theorem dX11_opens_13 : decode cX11_opens 13 = .ok (.imul, 1) := by decide +kernel
theorem dX11_opens_14 : decode cX11_opens 14 = .ok (.iload_n 2, 1) := by decide +kernel
theorem dX11_opens_15 : decode cX11_opens 15 = .ok (.iadd, 1) := by decide +kernel
theorem dX11_opens_16 : decode cX11_opens 16 = .ok (.lconst 0, 1) := by decide +kernel
theorem dX11_opens_17 : decode cX11_opens 17 = .ok (.lastore, 1) := by decide +kernel
theorem dX11_opens_18 : decode cX11_opens 18 = .ok (.aload_n 0, 1) := by decide +kernel
theorem dX11_opens_19 : decode cX11_opens 19 = .ok (.getfield 55, 3) := by decide +kernel
theorem dX11_opens_22 : decode cX11_opens 22 = .ok (.iconst 4, 1) := by decide +kernel
theorem dX11_opens_23 : decode cX11_opens 23 = .ok (.iload_n 1, 1) := by decide +kernel
theorem dX11_opens_24 : decode cX11_opens 24 = .ok (.imul, 1) := by decide +kernel
theorem dX11_opens_25 : decode cX11_opens 25 = .ok (.iload_n 2, 1) := by decide +kernel
theorem dX11_opens_26 : decode cX11_opens 26 = .ok (.iadd, 1) := by decide +kernel
theorem dX11_opens_27 : decode cX11_opens 27 = .ok (.aload_n 0, 1) := by decide +kernel
theorem dX11_opens_28 : decode cX11_opens 28 = .ok (.getfield 42, 3) := by decide +kernel
theorem dX11_opens_31 : decode cX11_opens 31 = .ok (.iload_n 2, 1) := by decide +kernel
theorem dX11_opens_32 : decode cX11_opens 32 = .ok (.laload, 1) := by decide +kernel
theorem dX11_opens_33 : decode cX11_opens 33 = .ok (.lastore, 1) := by decide +kernel
theorem dX11_opens_34 : decode cX11_opens 34 = .ok (.iinc 2 1, 3) := by decide +kernel
theorem dX11_opens_37 : decode cX11_opens 37 = .ok (.goto (-35), 3) := by decide +kernel
theorem dX11_opens_40 : decode cX11_opens 40 = .ok (.aload_n 0, 1) := by decide +kernel
theorem dX11_opens_41 : decode cX11_opens 41 = .ok (.getfield 58, 3) := by decide +kernel
theorem dX11_opens_44 : decode cX11_opens 44 = .ok (.iload_n 1, 1) := by decide +kernel
theorem dX11_opens_45 : decode cX11_opens 45 = .ok (.iconst 0, 1) := by decide +kernel
theorem dX11_opens_46 : decode cX11_opens 46 = .ok (.iastore, 1) := by decide +kernel
theorem dX11_opens_47 : decode cX11_opens 47 = .ok (.return_, 1) := by decide +kernel
def fX11_opens_b2 : Nat → Nat → Int32 → Int32 → JM → JO (Unit)
  | 0, _, _, _, _ => none
  | fu + 1, a, x1, x2, μ => if (4 : Int32) ≤ x2 then (jck ((jT μ a).1 == 12) <| jde (jP μ a 27) fun q3 => jck ((jT μ q3).1 == 101) <| jck (jin x1 (jT μ q3).2) <| jlt (jsI μ q3 (x1).toNatClampNeg (0 : Int32)) fun μ7 => some ((), μ7, 0, 0)) else (jck ((jT μ a).1 == 12) <| jde (jP μ a 25) fun q11 => jck ((jT μ q11).1 == 102) <| jck (jin (((4 : Int32) * x1) + x2) (jT μ q11).2) <| jlt (jsJ μ q11 ((((4 : Int32) * x1) + x2)).toNatClampNeg (0 : Int64)) fun μ15 => jde (jP μ15 a 22) fun q18 => jck ((jT μ q18).1 == 102) <| jck (jin x2 (jT μ q18).2) <| jde (jP μ15 a 26) fun q22 => jck ((jT μ q22).1 == 102) <| jck (jin (((4 : Int32) * x1) + x2) (jT μ q22).2) <| jlt (jsJ μ15 q22 ((((4 : Int32) * x1) + x2)).toNatClampNeg (jJ μ15 q18 (x2).toNatClampNeg)) fun μ26 => fX11_opens_b2 fu a x1 (x2 + (1 : Int32)) μ26)
set_option maxHeartbeats 4000000 in
set_option maxRecDepth 100000 in
theorem gX11_opens_b2 {b : Nat} {Θ : JE} {RC RS : Nat} {r : Unit} {ν : JM} (X : jX b Θ RX11 cX11_opens 3 none 0 0 RC RS) : ∀ (fu : Nat) (a : Nat) (x1 : Int32) (x2 : Int32) (μ : JM) (c m k n : Nat), fX11_opens_b2 fu a x1 x2 μ = some (r, ν, c, m) → k + c = RC → n + m = RS → WA b Θ 3 (jE b Θ (none) ν RC RS) μ k n 2 [(0, va_rf (some a)), (1, .int x1), (2, .int x2)] [] := by
  intro fu
  induction fu with
  | zero => intro a x1 x2 μ c m k n hf; cases hf
  | succ fu ih =>
    intro a x1 x2 μ c m k n hf hk hn
    rw [fX11_opens_b2] at hf
    refine wa_iload_n X 2 dX11_opens_2 rfl ?_
    refine wa_iconst (v := (4 : Int32)) X dX11_opens_3 (by decide) ?_
    refine wa_icge (tgt := 40) X dX11_opens_4 (by decide) (fun h1 => ?_) (fun h1 => ?_)
    · rw [if_pos h1] at hf
      refine wa_aload_n X 0 dX11_opens_40 rfl ?_
      obtain ⟨h2, hf⟩ := jckT hf
      refine wa_getP X dX11_opens_41 lfX11_58 rfl h2 rfl ?_
      refine wa_iload_n X 1 dX11_opens_44 rfl ?_
      refine wa_iconst (v := (0 : Int32)) X dX11_opens_45 (by decide) ?_
      obtain ⟨q3, h4, hf⟩ := jde_some hf
      obtain ⟨h5, hf⟩ := jckT hf
      obtain ⟨h6, hf⟩ := jck_some hf
      obtain ⟨μ7, hm8, hf⟩ := jlt_e hf
      have e9 : jT μ7 = jT μ := by rw [hm8]; rfl
      refine wa_riast (ν := μ7) X dX11_opens_46 h4 h5 h6 hm8 ?_
      obtain ⟨rfl, rfl, rfl, rfl⟩ := jret hf
      exact wa_vret X dX11_opens_47 (by omega) (by omega)
    · rw [if_neg h1] at hf
      refine wa_aload_n X 0 dX11_opens_7 rfl ?_
      obtain ⟨h10, hf⟩ := jckT hf
      refine wa_getP X dX11_opens_8 lfX11_52 rfl h10 rfl ?_
      refine wa_iconst (v := (4 : Int32)) X dX11_opens_11 (by decide) ?_
      refine wa_iload_n X 1 dX11_opens_12 rfl ?_
      refine wa_imul X dX11_opens_13 ?_
      refine wa_iload_n X 2 dX11_opens_14 rfl ?_
      refine wa_iadd X dX11_opens_15 ?_
      refine wa_lconst (v := (0 : Int64)) X dX11_opens_16 (by decide) ?_
      obtain ⟨q11, h12, hf⟩ := jde_some hf
      obtain ⟨h13, hf⟩ := jckT hf
      obtain ⟨h14, hf⟩ := jck_some hf
      obtain ⟨μ15, hm16, hf⟩ := jlt_e hf
      have e17 : jT μ15 = jT μ := by rw [hm16]; rfl
      refine wa_rlast (ν := μ15) X dX11_opens_17 h12 h13 h14 hm16 ?_
      refine wa_aload_n X 0 dX11_opens_18 rfl ?_
      refine wa_getP X dX11_opens_19 lfX11_55 rfl (by rw [e17]; exact h10) rfl ?_
      refine wa_iconst (v := (4 : Int32)) X dX11_opens_22 (by decide) ?_
      refine wa_iload_n X 1 dX11_opens_23 rfl ?_
      refine wa_imul X dX11_opens_24 ?_
      refine wa_iload_n X 2 dX11_opens_25 rfl ?_
      refine wa_iadd X dX11_opens_26 ?_
      refine wa_aload_n X 0 dX11_opens_27 rfl ?_
      refine wa_getP X dX11_opens_28 lfX11_42 rfl (by rw [e17]; exact h10) rfl ?_
      refine wa_iload_n X 2 dX11_opens_31 rfl ?_
      obtain ⟨q18, h19, hf⟩ := jde_some hf
      obtain ⟨h20, hf⟩ := jckT hf
      obtain ⟨h21, hf⟩ := jck_some hf
      refine wa_rlald X dX11_opens_32 h19 (by rw [e17]; exact h20) (by rw [e17]; exact h21) ?_
      obtain ⟨q22, h23, hf⟩ := jde_some hf
      obtain ⟨h24, hf⟩ := jckT hf
      obtain ⟨h25, hf⟩ := jck_some hf
      obtain ⟨μ26, hm27, hf⟩ := jlt_e hf
      have e28 : jT μ26 = jT μ := by rw [hm27]; exact e17
      refine wa_rlast (ν := μ26) X dX11_opens_33 h23 (by rw [e17]; exact h24) (by rw [e17]; exact h25) hm27 ?_
      refine wa_iinc (v := (x2 + (1 : Int32))) (L2 := [(2, .int (x2 + (1 : Int32))), (0, va_rf (some a)), (1, .int x1)]) X 2 dX11_opens_34 rfl rfl (by decide) (by first | rfl | simp [va_rf_cat, cat_i, cat_l]) ?_
      refine wa_goto (tgt := 2) X dX11_opens_37 (by decide) ?_
      refine wa_sub (L2 := [(0, va_rf (some a)), (1, .int x1), (2, .int (x2 + (1 : Int32)))]) [1, 2, 0] rfl ?_
      exact ih a x1 (x2 + (1 : Int32)) μ26 _ _ _ _ hf (by omega) (by omega)
def fX11_opens (a : Nat) (x1 : Int32) (μ : JM) : JO (Unit) := fX11_opens_b2  jfuel a x1 (0 : Int32) μ
set_option maxHeartbeats 4000000 in
set_option maxRecDepth 100000 in
theorem mX11_opens {b : Nat} {a : Nat} {x1 : Int32} {μ : JM} {r : Unit} {ν : JM} {c m : Nat} (hf : fX11_opens a x1 μ = some (r, ν, c, m)) : JMet b yX11_opens cX11_opens 3 none 0 0 [va_rf (some a), .int x1] μ (none) ν c m := by
  refine JMet.of (by decide) (lg_sl_le (by simp only [List.map_cons, List.map_nil, List.sum_cons, List.sum_nil, va_rf_cat]; exact Nat.le_of_ble_eq_true rfl)) (fun Θ X hin => ?_)
  refine wa_eq (L2 := [(0, va_rf (some a)), (1, .int x1)]) ?_ rfl (by first | rfl | simp [lv_args, va_rf_cat, cat_i, cat_l]) rfl
  obtain ⟨k, hk0⟩ : ∃ k : Nat, k = 0 := ⟨0, rfl⟩
  obtain ⟨n, hn0⟩ : ∃ n : Nat, n = 0 := ⟨0, rfl⟩
  have hk : k + c = c := by omega
  have hn : n + m = m := by omega
  refine wa_costs hk0.symm hn0.symm ?_
  rw [fX11_opens] at hf
  refine wa_iconst (v := (0 : Int32)) X dX11_opens_0 (by decide) ?_
  refine wa_istore_n (L2 := [(2, .int (0 : Int32)), (0, va_rf (some a)), (1, .int x1)]) X dX11_opens_1 (by decide) (by first | rfl | (show (2, _) :: List.filter (fun q : Nat × Value => !(q.1 == 2) && !(q.1 + 1 == 2 && q.2.category == 2)) _ = _; simp [va_rf_cat, cat_i, cat_l])) ?_
  refine wa_sub (L2 := [(0, va_rf (some a)), (1, .int x1), (2, .int (0 : Int32))]) [1, 2, 0] rfl ?_
  exact gX11_opens_b2 X jfuel a x1 (0 : Int32) μ _ _ _ _ hf (by omega) (by omega)
theorem dX11_joins_0 : decode cX11_joins 0 = .ok (.iconst 0, 1) := by decide +kernel
theorem dX11_joins_1 : decode cX11_joins 1 = .ok (.istore_n 2, 1) := by decide +kernel
theorem dX11_joins_2 : decode cX11_joins 2 = .ok (.iload_n 2, 1) := by decide +kernel
theorem dX11_joins_3 : decode cX11_joins 3 = .ok (.iconst 4, 1) := by decide +kernel
theorem dX11_joins_4 : decode cX11_joins 4 = .ok (.if_icmp .ge 62, 3) := by decide +kernel
theorem dX11_joins_7 : decode cX11_joins 7 = .ok (.aload_n 0, 1) := by decide +kernel
theorem dX11_joins_8 : decode cX11_joins 8 = .ok (.getfield 58, 3) := by decide +kernel
theorem dX11_joins_11 : decode cX11_joins 11 = .ok (.iload_n 1, 1) := by decide +kernel
theorem dX11_joins_12 : decode cX11_joins 12 = .ok (.iaload, 1) := by decide +kernel
theorem dX11_joins_13 : decode cX11_joins 13 = .ok (.iconst 2, 1) := by decide +kernel
theorem dX11_joins_14 : decode cX11_joins 14 = .ok (.irem, 1) := by decide +kernel
theorem dX11_joins_15 : decode cX11_joins 15 = .ok (.iconst 1, 1) := by decide +kernel
theorem dX11_joins_16 : decode cX11_joins 16 = .ok (.if_icmp .ne 23, 3) := by decide +kernel
theorem dX11_joins_19 : decode cX11_joins 19 = .ok (.aload_n 0, 1) := by decide +kernel
theorem dX11_joins_20 : decode cX11_joins 20 = .ok (.getfield 61, 3) := by decide +kernel
theorem dX11_joins_23 : decode cX11_joins 23 = .ok (.iload_n 2, 1) := by decide +kernel
theorem dX11_joins_24 : decode cX11_joins 24 = .ok (.laload, 1) := by decide +kernel
theorem dX11_joins_25 : decode cX11_joins 25 = .ok (.ldc2_w 278, 3) := by decide +kernel
theorem dX11_joins_28 : decode cX11_joins 28 = .ok (.lxor, 1) := by decide +kernel
theorem dX11_joins_29 : decode cX11_joins 29 = .ok (.aload_n 0, 1) := by decide +kernel
theorem dX11_joins_30 : decode cX11_joins 30 = .ok (.getfield 42, 3) := by decide +kernel
theorem dX11_joins_33 : decode cX11_joins 33 = .ok (.iload_n 2, 1) := by decide +kernel
theorem dX11_joins_34 : decode cX11_joins 34 = .ok (.laload, 1) := by decide +kernel
theorem dX11_joins_35 : decode cX11_joins 35 = .ok (.land, 1) := by decide +kernel
theorem dX11_joins_36 : decode cX11_joins 36 = .ok (.goto 9, 3) := by decide +kernel
theorem dX11_joins_39 : decode cX11_joins 39 = .ok (.aload_n 0, 1) := by decide +kernel
theorem dX11_joins_40 : decode cX11_joins 40 = .ok (.getfield 61, 3) := by decide +kernel
theorem dX11_joins_43 : decode cX11_joins 43 = .ok (.iload_n 2, 1) := by decide +kernel
theorem dX11_joins_44 : decode cX11_joins 44 = .ok (.laload, 1) := by decide +kernel
theorem dX11_joins_45 : decode cX11_joins 45 = .ok (.lstore_n 3, 1) := by decide +kernel
theorem dX11_joins_46 : decode cX11_joins 46 = .ok (.aload_n 0, 1) := by decide +kernel
theorem dX11_joins_47 : decode cX11_joins 47 = .ok (.getfield 55, 3) := by decide +kernel
theorem dX11_joins_50 : decode cX11_joins 50 = .ok (.iconst 4, 1) := by decide +kernel
theorem dX11_joins_51 : decode cX11_joins 51 = .ok (.iload_n 1, 1) := by decide +kernel
theorem dX11_joins_52 : decode cX11_joins 52 = .ok (.imul, 1) := by decide +kernel
theorem dX11_joins_53 : decode cX11_joins 53 = .ok (.iload_n 2, 1) := by decide +kernel
theorem dX11_joins_54 : decode cX11_joins 54 = .ok (.iadd, 1) := by decide +kernel
theorem dX11_joins_55 : decode cX11_joins 55 = .ok (.dup2, 1) := by decide +kernel
theorem dX11_joins_56 : decode cX11_joins 56 = .ok (.laload, 1) := by decide +kernel
theorem dX11_joins_57 : decode cX11_joins 57 = .ok (.lload_n 3, 1) := by decide +kernel
theorem dX11_joins_58 : decode cX11_joins 58 = .ok (.land, 1) := by decide +kernel
theorem dX11_joins_59 : decode cX11_joins 59 = .ok (.lastore, 1) := by decide +kernel
theorem dX11_joins_60 : decode cX11_joins 60 = .ok (.iinc 2 1, 3) := by decide +kernel
theorem dX11_joins_63 : decode cX11_joins 63 = .ok (.goto (-61), 3) := by decide +kernel
theorem dX11_joins_66 : decode cX11_joins 66 = .ok (.aload_n 0, 1) := by decide +kernel
theorem dX11_joins_67 : decode cX11_joins 67 = .ok (.getfield 58, 3) := by decide +kernel
theorem dX11_joins_70 : decode cX11_joins 70 = .ok (.iload_n 1, 1) := by decide +kernel
theorem dX11_joins_71 : decode cX11_joins 71 = .ok (.iconst 0, 1) := by decide +kernel
theorem dX11_joins_72 : decode cX11_joins 72 = .ok (.iastore, 1) := by decide +kernel
theorem dX11_joins_73 : decode cX11_joins 73 = .ok (.return_, 1) := by decide +kernel
def fX11_joins_b45 (rec2 : Nat → Int32 → Int32 → JM → JO (Unit)) (a : Nat) (x1 : Int32) (x2 : Int32) (s0 : Int64) (μ : JM) : JO (Unit) := jck ((jT μ a).1 == 12) <| jde (jP μ a 26) fun q29 => jck ((jT μ q29).1 == 102) <| jck (jin (((4 : Int32) * x1) + x2) (jT μ q29).2) <| jlt (jsJ μ q29 ((((4 : Int32) * x1) + x2)).toNatClampNeg ((jJ μ q29 ((((4 : Int32) * x1) + x2)).toNatClampNeg) &&& s0)) fun μ33 => rec2 a x1 (x2 + (1 : Int32)) μ33
set_option maxHeartbeats 4000000 in
set_option maxRecDepth 100000 in
theorem gX11_joins_b45 {b : Nat} {Θ : JE} {RC RS : Nat} {r : Unit} {ν : JM} (X : jX b Θ RX11 cX11_joins 5 none 0 0 RC RS) {rec2 : Nat → Int32 → Int32 → JM → JO (Unit)} (hrec2 : ∀ (a : Nat) (x1 : Int32) (x2 : Int32) (μ : JM) (c m k n : Nat), rec2 a x1 x2 μ = some (r, ν, c, m) → k + c = RC → n + m = RS → WA b Θ 5 (jE b Θ (none) ν RC RS) μ k n 2 [(0, va_rf (some a)), (1, .int x1), (2, .int x2)] []) (a : Nat) (x1 : Int32) (x2 : Int32) (s0 : Int64) (μ : JM) (c m k n : Nat) (hf : fX11_joins_b45 rec2 a x1 x2 s0 μ = some (r, ν, c, m)) (hk : k + c = RC) (hn : n + m = RS) : WA b Θ 5 (jE b Θ (none) ν RC RS) μ k n 45 [(0, va_rf (some a)), (1, .int x1), (2, .int x2)] [.long s0] := by
  rw [fX11_joins_b45] at hf
  refine wa_lstore_n (L2 := [(3, .long s0), (0, va_rf (some a)), (1, .int x1), (2, .int x2)]) X dX11_joins_45 (by decide) (by first | rfl | (show (3, _) :: List.filter (fun q : Nat × Value => !(q.1 == 3) && (!(q.1 == 4) && !(q.1 + 1 == 3 && q.2.category == 2))) _ = _; simp [va_rf_cat, cat_i, cat_l])) ?_
  refine wa_aload_n X 1 dX11_joins_46 rfl ?_
  obtain ⟨h28, hf⟩ := jckT hf
  refine wa_getP X dX11_joins_47 lfX11_55 rfl h28 rfl ?_
  refine wa_iconst (v := (4 : Int32)) X dX11_joins_50 (by decide) ?_
  refine wa_iload_n X 2 dX11_joins_51 rfl ?_
  refine wa_imul X dX11_joins_52 ?_
  refine wa_iload_n X 3 dX11_joins_53 rfl ?_
  refine wa_iadd X dX11_joins_54 ?_
  refine wa_dup2 X dX11_joins_55 rfl (va_rf_cat _) ?_
  obtain ⟨q29, h30, hf⟩ := jde_some hf
  obtain ⟨h31, hf⟩ := jckT hf
  obtain ⟨h32, hf⟩ := jck_some hf
  refine wa_rlald X dX11_joins_56 h30 h31 h32 ?_
  refine wa_lload_n X 0 dX11_joins_57 rfl ?_
  refine wa_land X dX11_joins_58 ?_
  obtain ⟨μ33, hm34, hf⟩ := jlt_e hf
  have e35 : jT μ33 = jT μ := by rw [hm34]; rfl
  refine wa_rlast (ν := μ33) X dX11_joins_59 h30 h31 h32 hm34 ?_
  refine wa_iinc (v := (x2 + (1 : Int32))) (L2 := [(2, .int (x2 + (1 : Int32))), (3, .long s0), (0, va_rf (some a)), (1, .int x1)]) X 3 dX11_joins_60 rfl rfl (by decide) (by first | rfl | simp [va_rf_cat, cat_i, cat_l]) ?_
  refine wa_goto (tgt := 2) X dX11_joins_63 (by decide) ?_
  refine wa_sub (L2 := [(0, va_rf (some a)), (1, .int x1), (2, .int (x2 + (1 : Int32)))]) [2, 3, 0] rfl ?_
  exact hrec2 a x1 (x2 + (1 : Int32)) μ33 _ _ _ _ hf (by omega) (by omega)
def fX11_joins_b2 : Nat → Nat → Int32 → Int32 → JM → JO (Unit)
  | 0, _, _, _, _ => none
  | fu + 1, a, x1, x2, μ => if (4 : Int32) ≤ x2 then (jck ((jT μ a).1 == 12) <| jde (jP μ a 27) fun q3 => jck ((jT μ q3).1 == 101) <| jck (jin x1 (jT μ q3).2) <| jlt (jsI μ q3 (x1).toNatClampNeg (0 : Int32)) fun μ7 => some ((), μ7, 0, 0)) else (jck ((jT μ a).1 == 12) <| jde (jP μ a 27) fun q11 => jck ((jT μ q11).1 == 101) <| jck (jin x1 (jT μ q11).2) <| if (jrem (jI μ q11 (x1).toNatClampNeg) (2 : Int32)) = (1 : Int32) then (jde (jP μ a 28) fun q20 => jck ((jT μ q20).1 == 102) <| jck (jin x2 (jT μ q20).2) <| jde (jP μ a 22) fun q24 => jck ((jT μ q24).1 == 102) <| jck (jin x2 (jT μ q24).2) <| fX11_joins_b45 (fX11_joins_b2 fu) a x1 x2 (((jJ μ q20 (x2).toNatClampNeg) ^^^ (-1 : Int64)) &&& (jJ μ q24 (x2).toNatClampNeg)) μ) else (jde (jP μ a 28) fun q16 => jck ((jT μ q16).1 == 102) <| jck (jin x2 (jT μ q16).2) <| fX11_joins_b45 (fX11_joins_b2 fu) a x1 x2 (jJ μ q16 (x2).toNatClampNeg) μ))
set_option maxHeartbeats 4000000 in
set_option maxRecDepth 100000 in
theorem gX11_joins_b2 {b : Nat} {Θ : JE} {RC RS : Nat} {r : Unit} {ν : JM} (X : jX b Θ RX11 cX11_joins 5 none 0 0 RC RS) : ∀ (fu : Nat) (a : Nat) (x1 : Int32) (x2 : Int32) (μ : JM) (c m k n : Nat), fX11_joins_b2 fu a x1 x2 μ = some (r, ν, c, m) → k + c = RC → n + m = RS → WA b Θ 5 (jE b Θ (none) ν RC RS) μ k n 2 [(0, va_rf (some a)), (1, .int x1), (2, .int x2)] [] := by
  intro fu
  induction fu with
  | zero => intro a x1 x2 μ c m k n hf; cases hf
  | succ fu ih =>
    intro a x1 x2 μ c m k n hf hk hn
    rw [fX11_joins_b2] at hf
    refine wa_iload_n X 2 dX11_joins_2 rfl ?_
    refine wa_iconst (v := (4 : Int32)) X dX11_joins_3 (by decide) ?_
    refine wa_icge (tgt := 66) X dX11_joins_4 (by decide) (fun h1 => ?_) (fun h1 => ?_)
    · rw [if_pos h1] at hf
      refine wa_aload_n X 0 dX11_joins_66 rfl ?_
      obtain ⟨h2, hf⟩ := jckT hf
      refine wa_getP X dX11_joins_67 lfX11_58 rfl h2 rfl ?_
      refine wa_iload_n X 1 dX11_joins_70 rfl ?_
      refine wa_iconst (v := (0 : Int32)) X dX11_joins_71 (by decide) ?_
      obtain ⟨q3, h4, hf⟩ := jde_some hf
      obtain ⟨h5, hf⟩ := jckT hf
      obtain ⟨h6, hf⟩ := jck_some hf
      obtain ⟨μ7, hm8, hf⟩ := jlt_e hf
      have e9 : jT μ7 = jT μ := by rw [hm8]; rfl
      refine wa_riast (ν := μ7) X dX11_joins_72 h4 h5 h6 hm8 ?_
      obtain ⟨rfl, rfl, rfl, rfl⟩ := jret hf
      exact wa_vret X dX11_joins_73 (by omega) (by omega)
    · rw [if_neg h1] at hf
      refine wa_aload_n X 0 dX11_joins_7 rfl ?_
      obtain ⟨h10, hf⟩ := jckT hf
      refine wa_getP X dX11_joins_8 lfX11_58 rfl h10 rfl ?_
      refine wa_iload_n X 1 dX11_joins_11 rfl ?_
      obtain ⟨q11, h12, hf⟩ := jde_some hf
      obtain ⟨h13, hf⟩ := jckT hf
      obtain ⟨h14, hf⟩ := jck_some hf
      refine wa_riald X dX11_joins_12 h12 h13 h14 ?_
      refine wa_iconst (v := (2 : Int32)) X dX11_joins_13 (by decide) ?_
      refine wa_irem X dX11_joins_14 (by decide) ?_
      refine wa_iconst (v := (1 : Int32)) X dX11_joins_15 (by decide) ?_
      refine wa_icne (tgt := 39) X dX11_joins_16 (by decide) (fun h15 => ?_) (fun h15 => ?_)
      · rw [if_neg h15] at hf
        refine wa_aload_n X 0 dX11_joins_39 rfl ?_
        refine wa_getP X dX11_joins_40 lfX11_61 rfl h10 rfl ?_
        refine wa_iload_n X 2 dX11_joins_43 rfl ?_
        obtain ⟨q16, h17, hf⟩ := jde_some hf
        obtain ⟨h18, hf⟩ := jckT hf
        obtain ⟨h19, hf⟩ := jck_some hf
        refine wa_rlald X dX11_joins_44 h17 h18 h19 ?_
        refine wa_sub (L2 := [(0, va_rf (some a)), (1, .int x1), (2, .int x2)]) [0, 1, 2] rfl ?_
        exact gX11_joins_b45 X ih a x1 x2 (jJ μ q16 (x2).toNatClampNeg) μ _ _ _ _ hf (by omega) (by omega)
      · rw [if_pos h15] at hf
        refine wa_aload_n X 0 dX11_joins_19 rfl ?_
        refine wa_getP X dX11_joins_20 lfX11_61 rfl h10 rfl ?_
        refine wa_iload_n X 2 dX11_joins_23 rfl ?_
        obtain ⟨q20, h21, hf⟩ := jde_some hf
        obtain ⟨h22, hf⟩ := jckT hf
        obtain ⟨h23, hf⟩ := jck_some hf
        refine wa_rlald X dX11_joins_24 h21 h22 h23 ?_
        refine wa_ldc2 (v := (-1 : Int64)) X dX11_joins_25 lkX11_278 ?_
        refine wa_lxor X dX11_joins_28 ?_
        refine wa_aload_n X 0 dX11_joins_29 rfl ?_
        refine wa_getP X dX11_joins_30 lfX11_42 rfl h10 rfl ?_
        refine wa_iload_n X 2 dX11_joins_33 rfl ?_
        obtain ⟨q24, h25, hf⟩ := jde_some hf
        obtain ⟨h26, hf⟩ := jckT hf
        obtain ⟨h27, hf⟩ := jck_some hf
        refine wa_rlald X dX11_joins_34 h25 h26 h27 ?_
        refine wa_land X dX11_joins_35 ?_
        refine wa_goto (tgt := 45) X dX11_joins_36 (by decide) ?_
        refine wa_sub (L2 := [(0, va_rf (some a)), (1, .int x1), (2, .int x2)]) [0, 1, 2] rfl ?_
        exact gX11_joins_b45 X ih a x1 x2 (((jJ μ q20 (x2).toNatClampNeg) ^^^ (-1 : Int64)) &&& (jJ μ q24 (x2).toNatClampNeg)) μ _ _ _ _ hf (by omega) (by omega)
def fX11_joins (a : Nat) (x1 : Int32) (μ : JM) : JO (Unit) := fX11_joins_b2  jfuel a x1 (0 : Int32) μ
set_option maxHeartbeats 4000000 in
set_option maxRecDepth 100000 in
theorem mX11_joins {b : Nat} {a : Nat} {x1 : Int32} {μ : JM} {r : Unit} {ν : JM} {c m : Nat} (hf : fX11_joins a x1 μ = some (r, ν, c, m)) : JMet b yX11_joins cX11_joins 5 none 0 0 [va_rf (some a), .int x1] μ (none) ν c m := by
  refine JMet.of (by decide) (lg_sl_le (by simp only [List.map_cons, List.map_nil, List.sum_cons, List.sum_nil, va_rf_cat]; exact Nat.le_of_ble_eq_true rfl)) (fun Θ X hin => ?_)
  refine wa_eq (L2 := [(0, va_rf (some a)), (1, .int x1)]) ?_ rfl (by first | rfl | simp [lv_args, va_rf_cat, cat_i, cat_l]) rfl
  obtain ⟨k, hk0⟩ : ∃ k : Nat, k = 0 := ⟨0, rfl⟩
  obtain ⟨n, hn0⟩ : ∃ n : Nat, n = 0 := ⟨0, rfl⟩
  have hk : k + c = c := by omega
  have hn : n + m = m := by omega
  refine wa_costs hk0.symm hn0.symm ?_
  rw [fX11_joins] at hf
  refine wa_iconst (v := (0 : Int32)) X dX11_joins_0 (by decide) ?_
  refine wa_istore_n (L2 := [(2, .int (0 : Int32)), (0, va_rf (some a)), (1, .int x1)]) X dX11_joins_1 (by decide) (by first | rfl | (show (2, _) :: List.filter (fun q : Nat × Value => !(q.1 == 2) && !(q.1 + 1 == 2 && q.2.category == 2)) _ = _; simp [va_rf_cat, cat_i, cat_l])) ?_
  refine wa_sub (L2 := [(0, va_rf (some a)), (1, .int x1), (2, .int (0 : Int32))]) [1, 2, 0] rfl ?_
  exact gX11_joins_b2 X jfuel a x1 (0 : Int32) μ _ _ _ _ hf (by omega) (by omega)
theorem dX11_ors_0 : decode cX11_ors 0 = .ok (.iconst 0, 1) := by decide +kernel
theorem dX11_ors_1 : decode cX11_ors 1 = .ok (.istore_n 2, 1) := by decide +kernel
theorem dX11_ors_2 : decode cX11_ors 2 = .ok (.iload_n 2, 1) := by decide +kernel
theorem dX11_ors_3 : decode cX11_ors 3 = .ok (.iconst 4, 1) := by decide +kernel
theorem dX11_ors_4 : decode cX11_ors 4 = .ok (.if_icmp .ge 48, 3) := by decide +kernel
theorem dX11_ors_7 : decode cX11_ors 7 = .ok (.aload_n 0, 1) := by decide +kernel
theorem dX11_ors_8 : decode cX11_ors 8 = .ok (.getfield 52, 3) := by decide +kernel
theorem dX11_ors_11 : decode cX11_ors 11 = .ok (.iconst 4, 1) := by decide +kernel
theorem dX11_ors_12 : decode cX11_ors 12 = .ok (.iload_n 1, 1) := by decide +kernel
theorem dX11_ors_13 : decode cX11_ors 13 = .ok (.imul, 1) := by decide +kernel
theorem dX11_ors_14 : decode cX11_ors 14 = .ok (.iload_n 2, 1) := by decide +kernel
theorem dX11_ors_15 : decode cX11_ors 15 = .ok (.iadd, 1) := by decide +kernel
theorem dX11_ors_16 : decode cX11_ors 16 = .ok (.dup2, 1) := by decide +kernel
theorem dX11_ors_17 : decode cX11_ors 17 = .ok (.laload, 1) := by decide +kernel
theorem dX11_ors_18 : decode cX11_ors 18 = .ok (.aload_n 0, 1) := by decide +kernel
theorem dX11_ors_19 : decode cX11_ors 19 = .ok (.getfield 55, 3) := by decide +kernel
theorem dX11_ors_22 : decode cX11_ors 22 = .ok (.iconst 4, 1) := by decide +kernel
theorem dX11_ors_23 : decode cX11_ors 23 = .ok (.iload_n 1, 1) := by decide +kernel
theorem dX11_ors_24 : decode cX11_ors 24 = .ok (.imul, 1) := by decide +kernel
theorem dX11_ors_25 : decode cX11_ors 25 = .ok (.iload_n 2, 1) := by decide +kernel
theorem dX11_ors_26 : decode cX11_ors 26 = .ok (.iadd, 1) := by decide +kernel
theorem dX11_ors_27 : decode cX11_ors 27 = .ok (.laload, 1) := by decide +kernel
theorem dX11_ors_28 : decode cX11_ors 28 = .ok (.lor, 1) := by decide +kernel
theorem dX11_ors_29 : decode cX11_ors 29 = .ok (.lastore, 1) := by decide +kernel
theorem dX11_ors_30 : decode cX11_ors 30 = .ok (.aload_n 0, 1) := by decide +kernel
theorem dX11_ors_31 : decode cX11_ors 31 = .ok (.getfield 55, 3) := by decide +kernel
theorem dX11_ors_34 : decode cX11_ors 34 = .ok (.iconst 4, 1) := by decide +kernel
theorem dX11_ors_35 : decode cX11_ors 35 = .ok (.iload_n 1, 1) := by decide +kernel
theorem dX11_ors_36 : decode cX11_ors 36 = .ok (.imul, 1) := by decide +kernel
theorem dX11_ors_37 : decode cX11_ors 37 = .ok (.iload_n 2, 1) := by decide +kernel
theorem dX11_ors_38 : decode cX11_ors 38 = .ok (.iadd, 1) := by decide +kernel
theorem dX11_ors_39 : decode cX11_ors 39 = .ok (.aload_n 0, 1) := by decide +kernel
theorem dX11_ors_40 : decode cX11_ors 40 = .ok (.getfield 42, 3) := by decide +kernel
theorem dX11_ors_43 : decode cX11_ors 43 = .ok (.iload_n 2, 1) := by decide +kernel
theorem dX11_ors_44 : decode cX11_ors 44 = .ok (.laload, 1) := by decide +kernel
theorem dX11_ors_45 : decode cX11_ors 45 = .ok (.lastore, 1) := by decide +kernel
theorem dX11_ors_46 : decode cX11_ors 46 = .ok (.iinc 2 1, 3) := by decide +kernel
theorem dX11_ors_49 : decode cX11_ors 49 = .ok (.goto (-47), 3) := by decide +kernel
theorem dX11_ors_52 : decode cX11_ors 52 = .ok (.return_, 1) := by decide +kernel
def fX11_ors_b2 : Nat → Nat → Int32 → Int32 → JM → JO (Unit)
  | 0, _, _, _, _ => none
  | fu + 1, a, x1, x2, μ => if (4 : Int32) ≤ x2 then (some ((), μ, 0, 0)) else (jck ((jT μ a).1 == 12) <| jde (jP μ a 25) fun q3 => jck ((jT μ q3).1 == 102) <| jck (jin (((4 : Int32) * x1) + x2) (jT μ q3).2) <| jde (jP μ a 26) fun q7 => jck ((jT μ q7).1 == 102) <| jck (jin (((4 : Int32) * x1) + x2) (jT μ q7).2) <| jlt (jsJ μ q3 ((((4 : Int32) * x1) + x2)).toNatClampNeg ((jJ μ q3 ((((4 : Int32) * x1) + x2)).toNatClampNeg) ||| (jJ μ q7 ((((4 : Int32) * x1) + x2)).toNatClampNeg))) fun μ11 => jde (jP μ11 a 22) fun q14 => jck ((jT μ q14).1 == 102) <| jck (jin x2 (jT μ q14).2) <| jde (jP μ11 a 26) fun q18 => jck ((jT μ q18).1 == 102) <| jck (jin (((4 : Int32) * x1) + x2) (jT μ q18).2) <| jlt (jsJ μ11 q18 ((((4 : Int32) * x1) + x2)).toNatClampNeg (jJ μ11 q14 (x2).toNatClampNeg)) fun μ22 => fX11_ors_b2 fu a x1 (x2 + (1 : Int32)) μ22)
set_option maxHeartbeats 4000000 in
set_option maxRecDepth 100000 in
theorem gX11_ors_b2 {b : Nat} {Θ : JE} {RC RS : Nat} {r : Unit} {ν : JM} (X : jX b Θ RX11 cX11_ors 3 none 0 0 RC RS) : ∀ (fu : Nat) (a : Nat) (x1 : Int32) (x2 : Int32) (μ : JM) (c m k n : Nat), fX11_ors_b2 fu a x1 x2 μ = some (r, ν, c, m) → k + c = RC → n + m = RS → WA b Θ 3 (jE b Θ (none) ν RC RS) μ k n 2 [(0, va_rf (some a)), (1, .int x1), (2, .int x2)] [] := by
  intro fu
  induction fu with
  | zero => intro a x1 x2 μ c m k n hf; cases hf
  | succ fu ih =>
    intro a x1 x2 μ c m k n hf hk hn
    rw [fX11_ors_b2] at hf
    refine wa_iload_n X 2 dX11_ors_2 rfl ?_
    refine wa_iconst (v := (4 : Int32)) X dX11_ors_3 (by decide) ?_
    refine wa_icge (tgt := 52) X dX11_ors_4 (by decide) (fun h1 => ?_) (fun h1 => ?_)
    · rw [if_pos h1] at hf
      obtain ⟨rfl, rfl, rfl, rfl⟩ := jret hf
      exact wa_vret X dX11_ors_52 (by omega) (by omega)
    · rw [if_neg h1] at hf
      refine wa_aload_n X 0 dX11_ors_7 rfl ?_
      obtain ⟨h2, hf⟩ := jckT hf
      refine wa_getP X dX11_ors_8 lfX11_52 rfl h2 rfl ?_
      refine wa_iconst (v := (4 : Int32)) X dX11_ors_11 (by decide) ?_
      refine wa_iload_n X 1 dX11_ors_12 rfl ?_
      refine wa_imul X dX11_ors_13 ?_
      refine wa_iload_n X 2 dX11_ors_14 rfl ?_
      refine wa_iadd X dX11_ors_15 ?_
      refine wa_dup2 X dX11_ors_16 rfl (va_rf_cat _) ?_
      obtain ⟨q3, h4, hf⟩ := jde_some hf
      obtain ⟨h5, hf⟩ := jckT hf
      obtain ⟨h6, hf⟩ := jck_some hf
      refine wa_rlald X dX11_ors_17 h4 h5 h6 ?_
      refine wa_aload_n X 0 dX11_ors_18 rfl ?_
      refine wa_getP X dX11_ors_19 lfX11_55 rfl h2 rfl ?_
      refine wa_iconst (v := (4 : Int32)) X dX11_ors_22 (by decide) ?_
      refine wa_iload_n X 1 dX11_ors_23 rfl ?_
      refine wa_imul X dX11_ors_24 ?_
      refine wa_iload_n X 2 dX11_ors_25 rfl ?_
      refine wa_iadd X dX11_ors_26 ?_
      obtain ⟨q7, h8, hf⟩ := jde_some hf
      obtain ⟨h9, hf⟩ := jckT hf
      obtain ⟨h10, hf⟩ := jck_some hf
      refine wa_rlald X dX11_ors_27 h8 h9 h10 ?_
      refine wa_lor X dX11_ors_28 ?_
      obtain ⟨μ11, hm12, hf⟩ := jlt_e hf
      have e13 : jT μ11 = jT μ := by rw [hm12]; rfl
      refine wa_rlast (ν := μ11) X dX11_ors_29 h4 h5 h6 hm12 ?_
      refine wa_aload_n X 0 dX11_ors_30 rfl ?_
      refine wa_getP X dX11_ors_31 lfX11_55 rfl (by rw [e13]; exact h2) rfl ?_
      refine wa_iconst (v := (4 : Int32)) X dX11_ors_34 (by decide) ?_
      refine wa_iload_n X 1 dX11_ors_35 rfl ?_
      refine wa_imul X dX11_ors_36 ?_
      refine wa_iload_n X 2 dX11_ors_37 rfl ?_
      refine wa_iadd X dX11_ors_38 ?_
      refine wa_aload_n X 0 dX11_ors_39 rfl ?_
      refine wa_getP X dX11_ors_40 lfX11_42 rfl (by rw [e13]; exact h2) rfl ?_
      refine wa_iload_n X 2 dX11_ors_43 rfl ?_
      obtain ⟨q14, h15, hf⟩ := jde_some hf
      obtain ⟨h16, hf⟩ := jckT hf
      obtain ⟨h17, hf⟩ := jck_some hf
      refine wa_rlald X dX11_ors_44 h15 (by rw [e13]; exact h16) (by rw [e13]; exact h17) ?_
      obtain ⟨q18, h19, hf⟩ := jde_some hf
      obtain ⟨h20, hf⟩ := jckT hf
      obtain ⟨h21, hf⟩ := jck_some hf
      obtain ⟨μ22, hm23, hf⟩ := jlt_e hf
      have e24 : jT μ22 = jT μ := by rw [hm23]; exact e13
      refine wa_rlast (ν := μ22) X dX11_ors_45 h19 (by rw [e13]; exact h20) (by rw [e13]; exact h21) hm23 ?_
      refine wa_iinc (v := (x2 + (1 : Int32))) (L2 := [(2, .int (x2 + (1 : Int32))), (0, va_rf (some a)), (1, .int x1)]) X 2 dX11_ors_46 rfl rfl (by decide) (by first | rfl | simp [va_rf_cat, cat_i, cat_l]) ?_
      refine wa_goto (tgt := 2) X dX11_ors_49 (by decide) ?_
      refine wa_sub (L2 := [(0, va_rf (some a)), (1, .int x1), (2, .int (x2 + (1 : Int32)))]) [1, 2, 0] rfl ?_
      exact ih a x1 (x2 + (1 : Int32)) μ22 _ _ _ _ hf (by omega) (by omega)
def fX11_ors (a : Nat) (x1 : Int32) (μ : JM) : JO (Unit) := fX11_ors_b2  jfuel a x1 (0 : Int32) μ
set_option maxHeartbeats 4000000 in
set_option maxRecDepth 100000 in
theorem mX11_ors {b : Nat} {a : Nat} {x1 : Int32} {μ : JM} {r : Unit} {ν : JM} {c m : Nat} (hf : fX11_ors a x1 μ = some (r, ν, c, m)) : JMet b yX11_ors cX11_ors 3 none 0 0 [va_rf (some a), .int x1] μ (none) ν c m := by
  refine JMet.of (by decide) (lg_sl_le (by simp only [List.map_cons, List.map_nil, List.sum_cons, List.sum_nil, va_rf_cat]; exact Nat.le_of_ble_eq_true rfl)) (fun Θ X hin => ?_)
  refine wa_eq (L2 := [(0, va_rf (some a)), (1, .int x1)]) ?_ rfl (by first | rfl | simp [lv_args, va_rf_cat, cat_i, cat_l]) rfl
  obtain ⟨k, hk0⟩ : ∃ k : Nat, k = 0 := ⟨0, rfl⟩
  obtain ⟨n, hn0⟩ : ∃ n : Nat, n = 0 := ⟨0, rfl⟩
  have hk : k + c = c := by omega
  have hn : n + m = m := by omega
  refine wa_costs hk0.symm hn0.symm ?_
  rw [fX11_ors] at hf
  refine wa_iconst (v := (0 : Int32)) X dX11_ors_0 (by decide) ?_
  refine wa_istore_n (L2 := [(2, .int (0 : Int32)), (0, va_rf (some a)), (1, .int x1)]) X dX11_ors_1 (by decide) (by first | rfl | (show (2, _) :: List.filter (fun q : Nat × Value => !(q.1 == 2) && !(q.1 + 1 == 2 && q.2.category == 2)) _ = _; simp [va_rf_cat, cat_i, cat_l])) ?_
  refine wa_sub (L2 := [(0, va_rf (some a)), (1, .int x1), (2, .int (0 : Int32))]) [1, 2, 0] rfl ?_
  exact gX11_ors_b2 X jfuel a x1 (0 : Int32) μ _ _ _ _ hf (by omega) (by omega)
