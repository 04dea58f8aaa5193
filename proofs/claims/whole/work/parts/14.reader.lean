/-! functions and walks, by program -/
theorem dX3_init_0 : decode cX3_init 0 = .ok (.aload_n 0, 1) := by decide +kernel
theorem dX3_init_1 : decode cX3_init 1 = .ok (.invokespecial 3, 3) := by decide +kernel
theorem dX3_init_4 : decode cX3_init 4 = .ok (.aload_n 0, 1) := by decide +kernel
theorem dX3_init_5 : decode cX3_init 5 = .ok (.aload_n 1, 1) := by decide +kernel
theorem dX3_init_6 : decode cX3_init 6 = .ok (.putfield 9, 3) := by decide +kernel
theorem dX3_init_9 : decode cX3_init 9 = .ok (.aload_n 0, 1) := by decide +kernel
theorem dX3_init_10 : decode cX3_init 10 = .ok (.aload_n 2, 1) := by decide +kernel
theorem dX3_init_11 : decode cX3_init 11 = .ok (.putfield 15, 3) := by decide +kernel
theorem dX3_init_14 : decode cX3_init 14 = .ok (.aload_n 0, 1) := by decide +kernel
theorem dX3_init_15 : decode cX3_init 15 = .ok (.bipush 11, 2) := by decide +kernel
theorem dX3_init_17 : decode cX3_init 17 = .ok (.anewarray 19, 3) := by decide +kernel
theorem dX3_init_20 : decode cX3_init 20 = .ok (.putfield 21, 3) := by decide +kernel
theorem dX3_init_23 : decode cX3_init 23 = .ok (.aload_n 0, 1) := by decide +kernel
theorem dX3_init_24 : decode cX3_init 24 = .ok (.bipush 11, 2) := by decide +kernel
theorem dX3_init_26 : decode cX3_init 26 = .ok (.anewarray 19, 3) := by decide +kernel
theorem dX3_init_29 : decode cX3_init 29 = .ok (.putfield 25, 3) := by decide +kernel
theorem dX3_init_32 : decode cX3_init 32 = .ok (.iconst 0, 1) := by decide +kernel
theorem dX3_init_33 : decode cX3_init 33 = .ok (.istore_n 3, 1) := by decide +kernel
theorem dX3_init_34 : decode cX3_init 34 = .ok (.iload_n 3, 1) := by decide +kernel
theorem dX3_init_35 : decode cX3_init 35 = .ok (.bipush 10, 2) := by decide +kernel
theorem dX3_init_37 : decode cX3_init 37 = .ok (.if_icmp .gt 35, 3) := by decide +kernel
theorem dX3_init_40 : decode cX3_init 40 = .ok (.aload_n 0, 1) := by decide +kernel
theorem dX3_init_41 : decode cX3_init 41 = .ok (.getfield 21, 3) := by decide +kernel
theorem dX3_init_44 : decode cX3_init 44 = .ok (.iload_n 3, 1) := by decide +kernel
theorem dX3_init_45 : decode cX3_init 45 = .ok (.new 19, 3) := by decide +kernel
theorem dX3_init_48 : decode cX3_init 48 = .ok (.dup, 1) := by decide +kernel
theorem dX3_init_49 : decode cX3_init 49 = .ok (.invokespecial 28, 3) := by decide +kernel
theorem dX3_init_52 : decode cX3_init 52 = .ok (.aastore, 1) := by decide +kernel
theorem dX3_init_53 : decode cX3_init 53 = .ok (.aload_n 0, 1) := by decide +kernel
theorem dX3_init_54 : decode cX3_init 54 = .ok (.getfield 25, 3) := by decide +kernel
theorem dX3_init_57 : decode cX3_init 57 = .ok (.iload_n 3, 1) := by decide +kernel
theorem dX3_init_58 : decode cX3_init 58 = .ok (.new 19, 3) := by decide +kernel
theorem dX3_init_61 : decode cX3_init 61 = .ok (.dup, 1) := by decide +kernel
theorem dX3_init_62 : decode cX3_init 62 = .ok (.invokespecial 28, 3) := by decide +kernel
theorem dX3_init_65 : decode cX3_init 65 = .ok (.aastore, 1) := by decide +kernel
theorem dX3_init_66 : decode cX3_init 66 = .ok (.iinc 3 1, 3) := by decide +kernel
theorem dX3_init_69 : decode cX3_init 69 = .ok (.goto (-35), 3) := by decide +kernel
theorem dX3_init_72 : decode cX3_init 72 = .ok (.aload_n 0, 1) := by decide +kernel
theorem dX3_init_73 : decode cX3_init 73 = .ok (.bipush 11, 2) := by decide +kernel
theorem dX3_init_75 : decode cX3_init 75 = .ok (.newarray .boolean, 2) := by decide +kernel
theorem dX3_init_77 : decode cX3_init 77 = .ok (.putfield 29, 3) := by decide +kernel
theorem dX3_init_80 : decode cX3_init 80 = .ok (.aload_n 0, 1) := by decide +kernel
theorem dX3_init_81 : decode cX3_init 81 = .ok (.new 19, 3) := by decide +kernel
theorem dX3_init_84 : decode cX3_init 84 = .ok (.dup, 1) := by decide +kernel
theorem dX3_init_85 : decode cX3_init 85 = .ok (.invokespecial 28, 3) := by decide +kernel
theorem dX3_init_88 : decode cX3_init 88 = .ok (.putfield 33, 3) := by decide +kernel
theorem dX3_init_91 : decode cX3_init 91 = .ok (.return_, 1) := by decide +kernel
def fX3_init_b34 : Nat → Nat → Int32 → JM → JO (Unit)
  | 0, _, _, _ => none
  | fu + 1, a, x3, μ => if (10 : Int32) < x3 then (jnw μ 103 11 fun q35 μ36 => jck ((jT μ36 a).1 == 4) <| jlt (jsP μ36 a 4 (some q35)) fun μ45 => jnwo μ45 2 1 fun q48 μ49 => jcl (fX1_init q48 μ49) fun u57 μ58 => jck ((jT μ58 a).1 == 4) <| jlt (jsP μ58 a 7 (some q48)) fun μ67 => some ((), μ67, 0, 0)) else (jck ((jT μ a).1 == 4) <| jnwo μ 2 1 fun q71 μ72 => jcl (fX1_init q71 μ72) fun u80 μ81 => jde (jP μ a 2) fun q89 => jck ((jT μ81 q89).1 == 104) <| jck (jin x3 (jT μ81 q89).2) <| jck ((jT μ81 q71).1 == 2) <| jlt (jsP μ81 q89 (x3).toNatClampNeg (some q71)) fun μ94 => jck ((jT μ81 a).1 == 4) <| jnwo μ94 2 1 fun q98 μ99 => jcl (fX1_init q98 μ99) fun u107 μ108 => jde (jP μ94 a 3) fun q116 => jck ((jT μ108 q116).1 == 104) <| jck (jin x3 (jT μ108 q116).2) <| jck ((jT μ108 q98).1 == 2) <| jlt (jsP μ108 q116 (x3).toNatClampNeg (some q98)) fun μ121 => fX3_init_b34 fu a (x3 + (1 : Int32)) μ121)
set_option maxHeartbeats 4000000 in
set_option maxRecDepth 100000 in
theorem gX3_init_b34 {b : Nat} {Θ : JE} {RC RS : Nat} {r : Unit} {ν : JM} (X : jX b Θ RX3 cX3_init 4 none 2 40 RC RS) (hin : (eH Θ).name = "<init>") : ∀ (fu : Nat) (a : Nat) (x3 : Int32) (μ : JM) (c m k n : Nat), fX3_init_b34 fu a x3 μ = some (r, ν, c, m) → k + c = RC → n + m = RS → WA b Θ 4 (jE b Θ (none) ν RC RS) μ k n 34 [(0, va_rf (some a)), (3, .int x3)] [] := by
  intro fu
  induction fu with
  | zero => intro a x3 μ c m k n hf; cases hf
  | succ fu ih =>
    intro a x3 μ c m k n hf hk hn
    rw [fX3_init_b34] at hf
    refine wa_iload_n X 1 dX3_init_34 rfl ?_
    refine wa_bipush (v := (10 : Int32)) X dX3_init_35 (by decide) ?_
    refine wa_icgt (tgt := 72) X dX3_init_37 (by decide) (fun h34 => ?_) (fun h34 => ?_)
    · rw [if_pos h34] at hf
      refine wa_aload_n X 0 dX3_init_72 rfl ?_
      refine wa_bipush (v := (11 : Int32)) X dX3_init_73 (by decide) ?_
      obtain ⟨q35, μ36, c39, m40, h37, hm38, hf, h41, h42⟩ := jnw_some hf
      refine wa_newa (t := 103) (N := 11) X dX3_init_75 (by decide) rfl la_103 (by decide) (by decide) (by decide) (by omega) (by omega) ?_
      rw [← h37, ← hm38]
      have h43 : (jT μ36 q35).1 = 103 := by rw [jT_at h37 hm38]
      obtain ⟨h44, hf⟩ := jckT hf
      obtain ⟨μ45, hm46, hf⟩ := jlt_e hf
      have e47 : jT μ45 = jT μ36 := by rw [hm46]; rfl
      refine wa_rputFP (ν := μ45) X hin dX3_init_77 lfX3_29 rfl h44 (by first | exact Or.inl ⟨_, rfl⟩ | exact Or.inr ⟨_, rfl⟩) rfl rfl hm46 ?_
      refine wa_aload_n X 0 dX3_init_80 rfl ?_
      obtain ⟨q48, μ49, c52, m53, h50, hm51, hf, h54, h55⟩ := jnwo_some hf
      refine wa_new (t := 2) (N := 1) X dX3_init_81 (by decide) rfl lcX3_19 li_RX1 ln_RX1 (by omega) (by omega) ?_
      rw [← h50, ← hm51]
      have h56 : (jT μ49 q48).1 = 2 := by rw [jT_at h50 hm51]
      refine wa_dup X dX3_init_84 (va_rf_cat _) ?_
      obtain ⟨u57, μ58, c59, m60, c61, m62, e63, hf, h64, h65⟩ := jcl_some hf
      refine wa_rcallI (st2 := [va_rf (some q48), va_rf (some a)]) X dX3_init_85 lmX3_28 lMX1_init rfl (mX1_init e63) rfl rfl rfl (va_cats (Nat.le_of_ble_eq_true rfl)) (by decide) (by omega) (by omega) ?_
      obtain ⟨h66, hf⟩ := jckT hf
      obtain ⟨μ67, hm68, hf⟩ := jlt_e hf
      have e69 : jT μ67 = jT μ58 := by rw [hm68]; rfl
      refine wa_rputFP (ν := μ67) X hin dX3_init_88 lfX3_33 rfl h66 (by first | exact Or.inl ⟨_, rfl⟩ | exact Or.inr ⟨_, rfl⟩) rfl rfl hm68 ?_
      obtain ⟨rfl, rfl, rfl, rfl⟩ := jret hf
      exact wa_vret X dX3_init_91 (by omega) (by omega)
    · rw [if_neg h34] at hf
      refine wa_aload_n X 0 dX3_init_40 rfl ?_
      obtain ⟨h70, hf⟩ := jckT hf
      refine wa_getP X dX3_init_41 lfX3_21 rfl h70 rfl ?_
      refine wa_iload_n X 1 dX3_init_44 rfl ?_
      obtain ⟨q71, μ72, c75, m76, h73, hm74, hf, h77, h78⟩ := jnwo_some hf
      refine wa_new (t := 2) (N := 1) X dX3_init_45 (by decide) rfl lcX3_19 li_RX1 ln_RX1 (by omega) (by omega) ?_
      rw [← h73, ← hm74]
      have h79 : (jT μ72 q71).1 = 2 := by rw [jT_at h73 hm74]
      refine wa_dup X dX3_init_48 (va_rf_cat _) ?_
      obtain ⟨u80, μ81, c82, m83, c84, m85, e86, hf, h87, h88⟩ := jcl_some hf
      refine wa_rcallI (st2 := [va_rf (some q71), .int x3, va_rf (jP μ a 2)]) X dX3_init_49 lmX3_28 lMX1_init rfl (mX1_init e86) rfl rfl rfl (va_cats (Nat.le_of_ble_eq_true rfl)) (by decide) (by omega) (by omega) ?_
      obtain ⟨q89, h90, hf⟩ := jde_some hf
      obtain ⟨h91, hf⟩ := jckT hf
      obtain ⟨h92, hf⟩ := jck_some hf
      obtain ⟨h93, hf⟩ := jckT hf
      obtain ⟨μ94, hm95, hf⟩ := jlt_e hf
      have e96 : jT μ94 = jT μ81 := by rw [hm95]; rfl
      refine wa_raast (ν := μ94) (t := 104) (tc := 2) X dX3_init_52 h90 h91 (by decide) (by decide) rfl (fun _ => rfl) (fun z hz => by cases hz; exact h93) h92 hm95 ?_
      refine wa_aload_n X 0 dX3_init_53 rfl ?_
      obtain ⟨h97, hf⟩ := jckT hf
      refine wa_getP X dX3_init_54 lfX3_25 rfl (by rw [e96]; exact h97) rfl ?_
      refine wa_iload_n X 1 dX3_init_57 rfl ?_
      obtain ⟨q98, μ99, c102, m103, h100, hm101, hf, h104, h105⟩ := jnwo_some hf
      refine wa_new (t := 2) (N := 1) X dX3_init_58 (by decide) rfl lcX3_19 li_RX1 ln_RX1 (by omega) (by omega) ?_
      rw [← h100, ← hm101]
      have h106 : (jT μ99 q98).1 = 2 := by rw [jT_at h100 hm101]
      refine wa_dup X dX3_init_61 (va_rf_cat _) ?_
      obtain ⟨u107, μ108, c109, m110, c111, m112, e113, hf, h114, h115⟩ := jcl_some hf
      refine wa_rcallI (st2 := [va_rf (some q98), .int x3, va_rf (jP μ94 a 3)]) X dX3_init_62 lmX3_28 lMX1_init rfl (mX1_init e113) rfl rfl rfl (va_cats (Nat.le_of_ble_eq_true rfl)) (by decide) (by omega) (by omega) ?_
      obtain ⟨q116, h117, hf⟩ := jde_some hf
      obtain ⟨h118, hf⟩ := jckT hf
      obtain ⟨h119, hf⟩ := jck_some hf
      obtain ⟨h120, hf⟩ := jckT hf
      obtain ⟨μ121, hm122, hf⟩ := jlt_e hf
      have e123 : jT μ121 = jT μ108 := by rw [hm122]; rfl
      refine wa_raast (ν := μ121) (t := 104) (tc := 2) X dX3_init_65 h117 h118 (by decide) (by decide) rfl (fun _ => rfl) (fun z hz => by cases hz; exact h120) h119 hm122 ?_
      refine wa_iinc (v := (x3 + (1 : Int32))) (L2 := [(3, .int (x3 + (1 : Int32))), (0, va_rf (some a))]) X 1 dX3_init_66 rfl rfl (by decide) (by first | rfl | simp [va_rf_cat, cat_i, cat_l]) ?_
      refine wa_goto (tgt := 34) X dX3_init_69 (by decide) ?_
      refine wa_sub (L2 := [(0, va_rf (some a)), (3, .int (x3 + (1 : Int32)))]) [1, 0] rfl ?_
      exact ih a (x3 + (1 : Int32)) μ121 _ _ _ _ hf (by omega) (by omega)
def fX3_init (a : Nat) (p1 : Option Nat) (p2 : Option Nat) (μ : JM) : JO (Unit) := jck ((jT μ a).1 == 4) <| jlt (jsP μ a 0 p1) fun μ2 => jlt (jsP μ2 a 1 p2) fun μ5 => jnw μ5 104 11 fun q8 μ9 => jck ((jT μ9 a).1 == 4) <| jlt (jsP μ9 a 2 (some q8)) fun μ18 => jnw μ18 104 11 fun q21 μ22 => jck ((jT μ22 a).1 == 4) <| jlt (jsP μ22 a 3 (some q21)) fun μ31 => fX3_init_b34  jfuel a (0 : Int32) μ31
set_option maxHeartbeats 4000000 in
set_option maxRecDepth 100000 in
theorem mX3_init {b : Nat} {a : Nat} {p1 : Option Nat} {p2 : Option Nat} {μ : JM} {r : Unit} {ν : JM} {c m : Nat} (hf : fX3_init a p1 p2 μ = some (r, ν, c, m)) : JMet b yX3_init cX3_init 4 none 2 40 [va_rf (some a), va_rf p1, va_rf p2] μ (none) ν c m := by
  refine JMet.of (by decide) (lg_sl_le (by simp only [List.map_cons, List.map_nil, List.sum_cons, List.sum_nil, va_rf_cat]; exact Nat.le_of_ble_eq_true rfl)) (fun Θ X hin => ?_)
  have hin := hin rfl
  refine wa_eq (L2 := [(0, va_rf (some a)), (1, va_rf p1), (2, va_rf p2)]) ?_ rfl (by first | rfl | simp [lv_args, va_rf_cat, cat_i, cat_l]) rfl
  obtain ⟨k, hk0⟩ : ∃ k : Nat, k = 0 := ⟨0, rfl⟩
  obtain ⟨n, hn0⟩ : ∃ n : Nat, n = 0 := ⟨0, rfl⟩
  have hk : k + c = c := by omega
  have hn : n + m = m := by omega
  refine wa_costs hk0.symm hn0.symm ?_
  rw [fX3_init] at hf
  refine wa_aload_n X 0 dX3_init_0 rfl ?_
  refine wa_robj X dX3_init_1 lmX3_3 lo_inst lo_code (by decide) (Nat.le_trans (Nat.add_le_add_right (va_cats (m := 8) (Nat.le_of_ble_eq_true rfl)) 12) (by decide)) rfl ?_
  refine wa_aload_n X 0 dX3_init_4 rfl ?_
  refine wa_aload_n X 1 dX3_init_5 rfl ?_
  obtain ⟨h1, hf⟩ := jckT hf
  obtain ⟨μ2, hm3, hf⟩ := jlt_e hf
  have e4 : jT μ2 = jT μ := by rw [hm3]; rfl
  refine wa_rputFP (ν := μ2) X hin dX3_init_6 lfX3_9 rfl h1 (by first | exact Or.inl ⟨_, rfl⟩ | exact Or.inr ⟨_, rfl⟩) rfl rfl hm3 ?_
  refine wa_aload_n X 0 dX3_init_9 rfl ?_
  refine wa_aload_n X 2 dX3_init_10 rfl ?_
  obtain ⟨μ5, hm6, hf⟩ := jlt_e hf
  have e7 : jT μ5 = jT μ := by rw [hm6]; exact e4
  refine wa_rputFP (ν := μ5) X hin dX3_init_11 lfX3_15 rfl (by rw [e4]; exact h1) (by first | exact Or.inl ⟨_, rfl⟩ | exact Or.inr ⟨_, rfl⟩) rfl rfl hm6 ?_
  refine wa_aload_n X 0 dX3_init_14 rfl ?_
  refine wa_bipush (v := (11 : Int32)) X dX3_init_15 (by decide) ?_
  obtain ⟨q8, μ9, c12, m13, h10, hm11, hf, h14, h15⟩ := jnw_some hf
  refine wa_anew (t := 104) (N := 11) (C := RX1) X dX3_init_17 (by decide) rfl (fun _ _ => rfl) lcX3_19 (by decide +kernel) (by decide) (by decide) (by decide) (by omega) (by omega) ?_
  rw [← h10, ← hm11]
  have h16 : (jT μ9 q8).1 = 104 := by rw [jT_at h10 hm11]
  obtain ⟨h17, hf⟩ := jckT hf
  obtain ⟨μ18, hm19, hf⟩ := jlt_e hf
  have e20 : jT μ18 = jT μ9 := by rw [hm19]; rfl
  refine wa_rputFP (ν := μ18) X hin dX3_init_20 lfX3_21 rfl h17 (by first | exact Or.inl ⟨_, rfl⟩ | exact Or.inr ⟨_, rfl⟩) rfl rfl hm19 ?_
  refine wa_aload_n X 0 dX3_init_23 rfl ?_
  refine wa_bipush (v := (11 : Int32)) X dX3_init_24 (by decide) ?_
  obtain ⟨q21, μ22, c25, m26, h23, hm24, hf, h27, h28⟩ := jnw_some hf
  refine wa_anew (t := 104) (N := 11) (C := RX1) X dX3_init_26 (by decide) rfl (fun _ _ => rfl) lcX3_19 (by decide +kernel) (by decide) (by decide) (by decide) (by omega) (by omega) ?_
  rw [← h23, ← hm24]
  have h29 : (jT μ22 q21).1 = 104 := by rw [jT_at h23 hm24]
  obtain ⟨h30, hf⟩ := jckT hf
  obtain ⟨μ31, hm32, hf⟩ := jlt_e hf
  have e33 : jT μ31 = jT μ22 := by rw [hm32]; rfl
  refine wa_rputFP (ν := μ31) X hin dX3_init_29 lfX3_25 rfl h30 (by first | exact Or.inl ⟨_, rfl⟩ | exact Or.inr ⟨_, rfl⟩) rfl rfl hm32 ?_
  refine wa_iconst (v := (0 : Int32)) X dX3_init_32 (by decide) ?_
  refine wa_istore_n (L2 := [(3, .int (0 : Int32)), (0, va_rf (some a)), (1, va_rf p1), (2, va_rf p2)]) X dX3_init_33 (by decide) (by first | rfl | (show (3, _) :: List.filter (fun q : Nat × Value => !(q.1 == 3) && !(q.1 + 1 == 3 && q.2.category == 2)) _ = _; simp [va_rf_cat, cat_i, cat_l])) ?_
  refine wa_sub (L2 := [(0, va_rf (some a)), (3, .int (0 : Int32))]) [1, 0] rfl ?_
  exact gX3_init_b34 X hin jfuel a (0 : Int32) μ31 _ _ _ _ hf (by omega) (by omega)
theorem dX3_readOpenings_0 : decode cX3_readOpenings 0 = .ok (.iconst 0, 1) := by decide +kernel
theorem dX3_readOpenings_1 : decode cX3_readOpenings 1 = .ok (.istore_n 1, 1) := by decide +kernel
theorem dX3_readOpenings_2 : decode cX3_readOpenings 2 = .ok (.iload_n 1, 1) := by decide +kernel
theorem dX3_readOpenings_3 : decode cX3_readOpenings 3 = .ok (.bipush 10, 2) := by decide +kernel
theorem dX3_readOpenings_5 : decode cX3_readOpenings 5 = .ok (.if_icmp .gt 117, 3) := by decide +kernel
theorem dX3_readOpenings_8 : decode cX3_readOpenings 8 = .ok (.aload_n 0, 1) := by decide +kernel
theorem dX3_readOpenings_9 : decode cX3_readOpenings 9 = .ok (.getfield 9, 3) := by decide +kernel
theorem dX3_readOpenings_12 : decode cX3_readOpenings 12 = .ok (.invokevirtual 61, 3) := by decide +kernel
theorem dX3_readOpenings_15 : decode cX3_readOpenings 15 = .ok (.lstore_n 2, 1) := by decide +kernel
theorem dX3_readOpenings_16 : decode cX3_readOpenings 16 = .ok (.lload_n 2, 1) := by decide +kernel
theorem dX3_readOpenings_17 : decode cX3_readOpenings 17 = .ok (.ldc2_w 85, 3) := by decide +kernel
theorem dX3_readOpenings_20 : decode cX3_readOpenings 20 = .ok (.lcmp, 1) := by decide +kernel
theorem dX3_readOpenings_21 : decode cX3_readOpenings 21 = .ok (.ifCond .eq 13, 3) := by decide +kernel
theorem dX3_readOpenings_24 : decode cX3_readOpenings 24 = .ok (.lload_n 2, 1) := by decide +kernel
theorem dX3_readOpenings_25 : decode cX3_readOpenings 25 = .ok (.ldc2_w 87, 3) := by decide +kernel
theorem dX3_readOpenings_28 : decode cX3_readOpenings 28 = .ok (.lcmp, 1) := by decide +kernel
theorem dX3_readOpenings_29 : decode cX3_readOpenings 29 = .ok (.ifCond .eq 5, 3) := by decide +kernel
theorem dX3_readOpenings_32 : decode cX3_readOpenings 32 = .ok (.iconst 1, 1) := by decide +kernel
theorem dX3_readOpenings_33 : decode cX3_readOpenings 33 = .ok (.ireturn, 1) := by decide +kernel
theorem dX3_readOpenings_34 : decode cX3_readOpenings 34 = .ok (.aload_n 0, 1) := by decide +kernel
theorem dX3_readOpenings_35 : decode cX3_readOpenings 35 = .ok (.getfield 37, 3) := by decide +kernel
theorem dX3_readOpenings_38 : decode cX3_readOpenings 38 = .ok (.bipush 10, 2) := by decide +kernel
theorem dX3_readOpenings_40 : decode cX3_readOpenings 40 = .ok (.if_icmp .lt 13, 3) := by decide +kernel
theorem dX3_readOpenings_43 : decode cX3_readOpenings 43 = .ok (.aload_n 0, 1) := by decide +kernel
theorem dX3_readOpenings_44 : decode cX3_readOpenings 44 = .ok (.getfield 9, 3) := by decide +kernel
theorem dX3_readOpenings_47 : decode cX3_readOpenings 47 = .ok (.bipush 6, 2) := by decide +kernel
theorem dX3_readOpenings_49 : decode cX3_readOpenings 49 = .ok (.invokevirtual 81, 3) := by decide +kernel
theorem dX3_readOpenings_52 : decode cX3_readOpenings 52 = .ok (.ireturn, 1) := by decide +kernel
theorem dX3_readOpenings_53 : decode cX3_readOpenings 53 = .ok (.aload_n 0, 1) := by decide +kernel
theorem dX3_readOpenings_54 : decode cX3_readOpenings 54 = .ok (.dup, 1) := by decide +kernel
theorem dX3_readOpenings_55 : decode cX3_readOpenings 55 = .ok (.getfield 37, 3) := by decide +kernel
theorem dX3_readOpenings_58 : decode cX3_readOpenings 58 = .ok (.iconst 1, 1) := by decide +kernel
theorem dX3_readOpenings_59 : decode cX3_readOpenings 59 = .ok (.iadd, 1) := by decide +kernel
theorem dX3_readOpenings_60 : decode cX3_readOpenings 60 = .ok (.putfield 37, 3) := by decide +kernel
theorem dX3_readOpenings_63 : decode cX3_readOpenings 63 = .ok (.aload_n 0, 1) := by decide +kernel
theorem dX3_readOpenings_64 : decode cX3_readOpenings 64 = .ok (.getfield 29, 3) := by decide +kernel
theorem dX3_readOpenings_67 : decode cX3_readOpenings 67 = .ok (.aload_n 0, 1) := by decide +kernel
theorem dX3_readOpenings_68 : decode cX3_readOpenings 68 = .ok (.getfield 37, 3) := by decide +kernel
theorem dX3_readOpenings_71 : decode cX3_readOpenings 71 = .ok (.lload_n 2, 1) := by decide +kernel
theorem dX3_readOpenings_72 : decode cX3_readOpenings 72 = .ok (.ldc2_w 85, 3) := by decide +kernel
theorem dX3_readOpenings_75 : decode cX3_readOpenings 75 = .ok (.lcmp, 1) := by decide +kernel
theorem dX3_readOpenings_76 : decode cX3_readOpenings 76 = .ok (.ifCond .ne 7, 3) := by decide +kernel
theorem dX3_readOpenings_79 : decode cX3_readOpenings 79 = .ok (.iconst 1, 1) := by decide +kernel
theorem dX3_readOpenings_80 : decode cX3_readOpenings 80 = .ok (.goto 4, 3) := by decide +kernel
theorem dX3_readOpenings_83 : decode cX3_readOpenings 83 = .ok (.iconst 0, 1) := by decide +kernel
theorem dX3_readOpenings_84 : decode cX3_readOpenings 84 = .ok (.bastore, 1) := by decide +kernel
theorem dX3_readOpenings_85 : decode cX3_readOpenings 85 = .ok (.aload_n 0, 1) := by decide +kernel
theorem dX3_readOpenings_86 : decode cX3_readOpenings 86 = .ok (.getfield 21, 3) := by decide +kernel
theorem dX3_readOpenings_89 : decode cX3_readOpenings 89 = .ok (.aload_n 0, 1) := by decide +kernel
theorem dX3_readOpenings_90 : decode cX3_readOpenings 90 = .ok (.getfield 37, 3) := by decide +kernel
theorem dX3_readOpenings_93 : decode cX3_readOpenings 93 = .ok (.aaload, 1) := by decide +kernel
theorem dX3_readOpenings_94 : decode cX3_readOpenings 94 = .ok (.invokevirtual 44, 3) := by decide +kernel
theorem dX3_readOpenings_97 : decode cX3_readOpenings 97 = .ok (.aload_n 0, 1) := by decide +kernel
theorem dX3_readOpenings_98 : decode cX3_readOpenings 98 = .ok (.getfield 25, 3) := by decide +kernel
theorem dX3_readOpenings_101 : decode cX3_readOpenings 101 = .ok (.aload_n 0, 1) := by decide +kernel
theorem dX3_readOpenings_102 : decode cX3_readOpenings 102 = .ok (.getfield 37, 3) := by decide +kernel
theorem dX3_readOpenings_105 : decode cX3_readOpenings 105 = .ok (.aaload, 1) := by decide +kernel
theorem dX3_readOpenings_106 : decode cX3_readOpenings 106 = .ok (.invokevirtual 47, 3) := by decide +kernel
theorem dX3_readOpenings_109 : decode cX3_readOpenings 109 = .ok (.aload_n 0, 1) := by decide +kernel
theorem dX3_readOpenings_110 : decode cX3_readOpenings 110 = .ok (.getfield 9, 3) := by decide +kernel
theorem dX3_readOpenings_113 : decode cX3_readOpenings 113 = .ok (.invokevirtual 78, 3) := by decide +kernel
theorem dX3_readOpenings_116 : decode cX3_readOpenings 116 = .ok (.iinc 1 1, 3) := by decide +kernel
theorem dX3_readOpenings_119 : decode cX3_readOpenings 119 = .ok (.goto (-117), 3) := by decide +kernel
theorem dX3_readOpenings_122 : decode cX3_readOpenings 122 = .ok (.aload_n 0, 1) := by decide +kernel
theorem dX3_readOpenings_123 : decode cX3_readOpenings 123 = .ok (.getfield 9, 3) := by decide +kernel
theorem dX3_readOpenings_126 : decode cX3_readOpenings 126 = .ok (.bipush 6, 2) := by decide +kernel
theorem dX3_readOpenings_128 : decode cX3_readOpenings 128 = .ok (.invokevirtual 81, 3) := by decide +kernel
theorem dX3_readOpenings_131 : decode cX3_readOpenings 131 = .ok (.ireturn, 1) := by decide +kernel
def fX3_readOpenings_b84 (rec2 : Nat → Int32 → JM → JO (Int32)) (a : Nat) (x1 : Int32) (s0 : Int32) (s1 : Int32) (s2 : Option Nat) (μ : JM) : JO (Int32) := jde s2 fun q50 => jck ((jT μ q50).1 == 103) <| jck (jin s1 (jT μ q50).2) <| jlt (jsI μ q50 (s1).toNatClampNeg (vp_nar .boolean s0)) fun μ54 => jck ((jT μ a).1 == 4) <| jde (jP μ54 a 2) fun q58 => jck ((jT μ q58).1 == 104) <| jck (jin (jI μ54 a 5) (jT μ q58).2) <| jde (jP μ54 q58 ((jI μ54 a 5)).toNatClampNeg) fun q62 => jck ((jT μ q62).1 == 2) <| jcl (fX1_clear q62 μ54) fun u65 μ66 => jck ((jT μ66 a).1 == 4) <| jde (jP μ66 a 3) fun q75 => jck ((jT μ66 q75).1 == 104) <| jck (jin (jI μ66 a 5) (jT μ66 q75).2) <| jde (jP μ66 q75 ((jI μ66 a 5)).toNatClampNeg) fun q79 => jck ((jT μ66 q79).1 == 2) <| jcl (fX1_fill q79 μ66) fun u82 μ83 => jck ((jT μ83 a).1 == 4) <| jde (jP μ83 a 0) fun q92 => jck ((jT μ83 q92).1 == 8) <| jcl (fX7_step q92 μ83) fun u95 μ96 => rec2 a (x1 + (1 : Int32)) μ96
set_option maxHeartbeats 4000000 in
set_option maxRecDepth 100000 in
theorem gX3_readOpenings_b84 {b : Nat} {Θ : JE} {RC RS : Nat} {r : Int32} {ν : JM} (X : jX b Θ RX3 cX3_readOpenings 4 (some .boolean) 1 22 RC RS) {rec2 : Nat → Int32 → JM → JO (Int32)} (hrec2 : ∀ (a : Nat) (x1 : Int32) (μ : JM) (c m k n : Nat), rec2 a x1 μ = some (r, ν, c, m) → k + c = RC → n + m = RS → WA b Θ 4 (jE b Θ (some (.int r)) ν RC RS) μ k n 2 [(0, va_rf (some a)), (1, .int x1)] []) (a : Nat) (x1 : Int32) (s0 : Int32) (s1 : Int32) (s2 : Option Nat) (μ : JM) (c m k n : Nat) (hf : fX3_readOpenings_b84 rec2 a x1 s0 s1 s2 μ = some (r, ν, c, m)) (hk : k + c = RC) (hn : n + m = RS) : WA b Θ 4 (jE b Θ (some (.int r)) ν RC RS) μ k n 84 [(0, va_rf (some a)), (1, .int x1)] [.int s0, .int s1, va_rf s2] := by
  rw [fX3_readOpenings_b84] at hf
  obtain ⟨q50, h51, hf⟩ := jde_some hf
  obtain ⟨h52, hf⟩ := jckT hf
  obtain ⟨h53, hf⟩ := jck_some hf
  obtain ⟨μ54, hm55, hf⟩ := jlt_e hf
  have e56 : jT μ54 = jT μ := by rw [hm55]; rfl
  refine wa_rzast (ν := μ54) X dX3_readOpenings_84 h51 h52 h53 hm55 ?_
  refine wa_aload_n X 0 dX3_readOpenings_85 rfl ?_
  obtain ⟨h57, hf⟩ := jckT hf
  refine wa_getP X dX3_readOpenings_86 lfX3_21 rfl (by rw [e56]; exact h57) rfl ?_
  refine wa_aload_n X 0 dX3_readOpenings_89 rfl ?_
  refine wa_getI X dX3_readOpenings_90 lfX3_37 rfl (by rw [e56]; exact h57) rfl ?_
  obtain ⟨q58, h59, hf⟩ := jde_some hf
  obtain ⟨h60, hf⟩ := jckT hf
  obtain ⟨h61, hf⟩ := jck_some hf
  refine wa_raald (t := 104) X dX3_readOpenings_93 h59 (by rw [e56]; exact h60) (by decide) rfl rfl (by rw [e56]; exact h61) ?_
  obtain ⟨q62, h63, hf⟩ := jde_some hf
  obtain ⟨h64, hf⟩ := jckT hf
  obtain ⟨u65, μ66, c67, m68, c69, m70, e71, hf, h72, h73⟩ := jcl_some hf
  refine wa_rcallV (st2 := []) X dX3_readOpenings_94 lmX3_44 lMX1_clear h63 (by rw [e56]; exact h64) (mX1_clear e71) rfl rfl rfl (va_cats (Nat.le_of_ble_eq_true rfl)) (by decide) (by omega) (by omega) ?_
  refine wa_aload_n X 0 dX3_readOpenings_97 rfl ?_
  obtain ⟨h74, hf⟩ := jckT hf
  refine wa_getP X dX3_readOpenings_98 lfX3_25 rfl h74 rfl ?_
  refine wa_aload_n X 0 dX3_readOpenings_101 rfl ?_
  refine wa_getI X dX3_readOpenings_102 lfX3_37 rfl h74 rfl ?_
  obtain ⟨q75, h76, hf⟩ := jde_some hf
  obtain ⟨h77, hf⟩ := jckT hf
  obtain ⟨h78, hf⟩ := jck_some hf
  refine wa_raald (t := 104) X dX3_readOpenings_105 h76 h77 (by decide) rfl rfl h78 ?_
  obtain ⟨q79, h80, hf⟩ := jde_some hf
  obtain ⟨h81, hf⟩ := jckT hf
  obtain ⟨u82, μ83, c84, m85, c86, m87, e88, hf, h89, h90⟩ := jcl_some hf
  refine wa_rcallV (st2 := []) X dX3_readOpenings_106 lmX3_47 lMX1_fill h80 h81 (mX1_fill e88) rfl rfl rfl (va_cats (Nat.le_of_ble_eq_true rfl)) (by decide) (by omega) (by omega) ?_
  refine wa_aload_n X 0 dX3_readOpenings_109 rfl ?_
  obtain ⟨h91, hf⟩ := jckT hf
  refine wa_getP X dX3_readOpenings_110 lfX3_9 rfl h91 rfl ?_
  obtain ⟨q92, h93, hf⟩ := jde_some hf
  obtain ⟨h94, hf⟩ := jckT hf
  obtain ⟨u95, μ96, c97, m98, c99, m100, e101, hf, h102, h103⟩ := jcl_some hf
  refine wa_rcallV (st2 := []) X dX3_readOpenings_113 lmX3_78 lMX7_step h93 h94 (mX7_step e101) rfl rfl rfl (va_cats (Nat.le_of_ble_eq_true rfl)) (by decide) (by omega) (by omega) ?_
  refine wa_iinc (v := (x1 + (1 : Int32))) (L2 := [(1, .int (x1 + (1 : Int32))), (0, va_rf (some a))]) X 1 dX3_readOpenings_116 rfl rfl (by decide) (by first | rfl | simp [va_rf_cat, cat_i, cat_l]) ?_
  refine wa_goto (tgt := 2) X dX3_readOpenings_119 (by decide) ?_
  refine wa_sub (L2 := [(0, va_rf (some a)), (1, .int (x1 + (1 : Int32)))]) [1, 0] rfl ?_
  exact hrec2 a (x1 + (1 : Int32)) μ96 _ _ _ _ hf (by omega) (by omega)
def fX3_readOpenings_b34 (rec2 : Nat → Int32 → JM → JO (Int32)) (a : Nat) (x1 : Int32) (y2 : Int64) (μ : JM) : JO (Int32) := jck ((jT μ a).1 == 4) <| if (jI μ a 5) < (10 : Int32) then (jlt (jsI μ a 5 ((jI μ a 5) + (1 : Int32))) fun μ33 => if (lg_cmp y2 (-3014 : Int64)) = 0 then (fX3_readOpenings_b84 rec2 a x1 (1 : Int32) (jI μ33 a 5) (jP μ33 a 4) μ33) else (fX3_readOpenings_b84 rec2 a x1 (0 : Int32) (jI μ33 a 5) (jP μ33 a 4) μ33)) else (jde (jP μ a 0) fun q37 => jck ((jT μ q37).1 == 8) <| jcl (fX7_fail q37 (6 : Int32) μ) fun r40 μ41 => jck (jbl r40) <| some (r40, μ41, 0, 0))
set_option maxHeartbeats 4000000 in
set_option maxRecDepth 100000 in
theorem gX3_readOpenings_b34 {b : Nat} {Θ : JE} {RC RS : Nat} {r : Int32} {ν : JM} (X : jX b Θ RX3 cX3_readOpenings 4 (some .boolean) 1 22 RC RS) {rec2 : Nat → Int32 → JM → JO (Int32)} (hrec2 : ∀ (a : Nat) (x1 : Int32) (μ : JM) (c m k n : Nat), rec2 a x1 μ = some (r, ν, c, m) → k + c = RC → n + m = RS → WA b Θ 4 (jE b Θ (some (.int r)) ν RC RS) μ k n 2 [(0, va_rf (some a)), (1, .int x1)] []) (a : Nat) (x1 : Int32) (y2 : Int64) (μ : JM) (c m k n : Nat) (hf : fX3_readOpenings_b34 rec2 a x1 y2 μ = some (r, ν, c, m)) (hk : k + c = RC) (hn : n + m = RS) : WA b Θ 4 (jE b Θ (some (.int r)) ν RC RS) μ k n 34 [(0, va_rf (some a)), (1, .int x1), (2, .long y2)] [] := by
  rw [fX3_readOpenings_b34] at hf
  refine wa_aload_n X 0 dX3_readOpenings_34 rfl ?_
  obtain ⟨h31, hf⟩ := jckT hf
  refine wa_getI X dX3_readOpenings_35 lfX3_37 rfl h31 rfl ?_
  refine wa_bipush (v := (10 : Int32)) X dX3_readOpenings_38 (by decide) ?_
  refine wa_iclt (tgt := 53) X dX3_readOpenings_40 (by decide) (fun h32 => ?_) (fun h32 => ?_)
  · rw [if_pos h32] at hf
    refine wa_aload_n X 0 dX3_readOpenings_53 rfl ?_
    refine wa_dup X dX3_readOpenings_54 (va_rf_cat _) ?_
    refine wa_getI X dX3_readOpenings_55 lfX3_37 rfl h31 rfl ?_
    refine wa_iconst (v := (1 : Int32)) X dX3_readOpenings_58 (by decide) ?_
    refine wa_iadd X dX3_readOpenings_59 ?_
    obtain ⟨μ33, hm34, hf⟩ := jlt_e hf
    have e35 : jT μ33 = jT μ := by rw [hm34]; rfl
    refine wa_rputI (ν := μ33) X dX3_readOpenings_60 lfX3_37 rfl h31 rfl rfl hm34 ?_
    refine wa_aload_n X 0 dX3_readOpenings_63 rfl ?_
    refine wa_getP X dX3_readOpenings_64 lfX3_29 rfl (by rw [e35]; exact h31) rfl ?_
    refine wa_aload_n X 0 dX3_readOpenings_67 rfl ?_
    refine wa_getI X dX3_readOpenings_68 lfX3_37 rfl (by rw [e35]; exact h31) rfl ?_
    refine wa_lload_n X 2 dX3_readOpenings_71 rfl ?_
    refine wa_ldc2 (v := (-3014 : Int64)) X dX3_readOpenings_72 lkX3_85 ?_
    refine wa_lcmp X dX3_readOpenings_75 ?_
    refine wa_ifne (tgt := 83) X dX3_readOpenings_76 (by decide) (fun h36 => ?_) (fun h36 => ?_)
    · rw [if_neg h36] at hf
      refine wa_iconst (v := (0 : Int32)) X dX3_readOpenings_83 (by decide) ?_
      refine wa_sub (L2 := [(0, va_rf (some a)), (1, .int x1)]) [0, 1] rfl ?_
      exact gX3_readOpenings_b84 X hrec2 a x1 (0 : Int32) (jI μ33 a 5) (jP μ33 a 4) μ33 _ _ _ _ hf (by omega) (by omega)
    · rw [if_pos h36] at hf
      refine wa_iconst (v := (1 : Int32)) X dX3_readOpenings_79 (by decide) ?_
      refine wa_goto (tgt := 84) X dX3_readOpenings_80 (by decide) ?_
      refine wa_sub (L2 := [(0, va_rf (some a)), (1, .int x1)]) [0, 1] rfl ?_
      exact gX3_readOpenings_b84 X hrec2 a x1 (1 : Int32) (jI μ33 a 5) (jP μ33 a 4) μ33 _ _ _ _ hf (by omega) (by omega)
  · rw [if_neg h32] at hf
    refine wa_aload_n X 0 dX3_readOpenings_43 rfl ?_
    refine wa_getP X dX3_readOpenings_44 lfX3_9 rfl h31 rfl ?_
    refine wa_bipush (v := (6 : Int32)) X dX3_readOpenings_47 (by decide) ?_
    obtain ⟨q37, h38, hf⟩ := jde_some hf
    obtain ⟨h39, hf⟩ := jckT hf
    obtain ⟨r40, μ41, c42, m43, c44, m45, e46, hf, h47, h48⟩ := jcl_some hf
    refine wa_rcallV (st2 := [.int r40]) X dX3_readOpenings_49 lmX3_81 lMX7_fail h38 h39 (mX7_fail e46) rfl rfl rfl (va_cats (Nat.le_of_ble_eq_true rfl)) (by decide) (by omega) (by omega) ?_
    obtain ⟨h49, hf⟩ := jck_some hf
    obtain ⟨rfl, rfl, rfl, rfl⟩ := jret hf
    exact wa_iret X dX3_readOpenings_52 (jbl_nar h49) (by omega) (by omega)
def fX3_readOpenings_b2 : Nat → Nat → Int32 → JM → JO (Int32)
  | 0, _, _, _ => none
  | fu + 1, a, x1, μ => if (10 : Int32) < x1 then (jck ((jT μ a).1 == 4) <| jde (jP μ a 0) fun q3 => jck ((jT μ q3).1 == 8) <| jcl (fX7_fail q3 (6 : Int32) μ) fun r6 μ7 => jck (jbl r6) <| some (r6, μ7, 0, 0)) else (jck ((jT μ a).1 == 4) <| jde (jP μ a 0) fun q17 => jck ((jT μ q17).1 == 8) <| jcl (fX7_token q17 μ) fun r20 μ21 => if (lg_cmp r20 (-3014 : Int64)) = 0 then (fX3_readOpenings_b34 (fX3_readOpenings_b2 fu) a x1 r20 μ21) else (if (lg_cmp r20 (-41 : Int64)) = 0 then (fX3_readOpenings_b34 (fX3_readOpenings_b2 fu) a x1 r20 μ21) else (some ((1 : Int32), μ21, 0, 0))))
set_option maxHeartbeats 4000000 in
set_option maxRecDepth 100000 in
theorem gX3_readOpenings_b2 {b : Nat} {Θ : JE} {RC RS : Nat} {r : Int32} {ν : JM} (X : jX b Θ RX3 cX3_readOpenings 4 (some .boolean) 1 22 RC RS) : ∀ (fu : Nat) (a : Nat) (x1 : Int32) (μ : JM) (c m k n : Nat), fX3_readOpenings_b2 fu a x1 μ = some (r, ν, c, m) → k + c = RC → n + m = RS → WA b Θ 4 (jE b Θ (some (.int r)) ν RC RS) μ k n 2 [(0, va_rf (some a)), (1, .int x1)] [] := by
  intro fu
  induction fu with
  | zero => intro a x1 μ c m k n hf; cases hf
  | succ fu ih =>
    intro a x1 μ c m k n hf hk hn
    rw [fX3_readOpenings_b2] at hf
    refine wa_iload_n X 1 dX3_readOpenings_2 rfl ?_
    refine wa_bipush (v := (10 : Int32)) X dX3_readOpenings_3 (by decide) ?_
    refine wa_icgt (tgt := 122) X dX3_readOpenings_5 (by decide) (fun h1 => ?_) (fun h1 => ?_)
    · rw [if_pos h1] at hf
      refine wa_aload_n X 0 dX3_readOpenings_122 rfl ?_
      obtain ⟨h2, hf⟩ := jckT hf
      refine wa_getP X dX3_readOpenings_123 lfX3_9 rfl h2 rfl ?_
      refine wa_bipush (v := (6 : Int32)) X dX3_readOpenings_126 (by decide) ?_
      obtain ⟨q3, h4, hf⟩ := jde_some hf
      obtain ⟨h5, hf⟩ := jckT hf
      obtain ⟨r6, μ7, c8, m9, c10, m11, e12, hf, h13, h14⟩ := jcl_some hf
      refine wa_rcallV (st2 := [.int r6]) X dX3_readOpenings_128 lmX3_81 lMX7_fail h4 h5 (mX7_fail e12) rfl rfl rfl (va_cats (Nat.le_of_ble_eq_true rfl)) (by decide) (by omega) (by omega) ?_
      obtain ⟨h15, hf⟩ := jck_some hf
      obtain ⟨rfl, rfl, rfl, rfl⟩ := jret hf
      exact wa_iret X dX3_readOpenings_131 (jbl_nar h15) (by omega) (by omega)
    · rw [if_neg h1] at hf
      refine wa_aload_n X 0 dX3_readOpenings_8 rfl ?_
      obtain ⟨h16, hf⟩ := jckT hf
      refine wa_getP X dX3_readOpenings_9 lfX3_9 rfl h16 rfl ?_
      obtain ⟨q17, h18, hf⟩ := jde_some hf
      obtain ⟨h19, hf⟩ := jckT hf
      obtain ⟨r20, μ21, c22, m23, c24, m25, e26, hf, h27, h28⟩ := jcl_some hf
      refine wa_rcallV (st2 := [.long r20]) X dX3_readOpenings_12 lmX3_61 lMX7_token h18 h19 (mX7_token e26) rfl rfl rfl (va_cats (Nat.le_of_ble_eq_true rfl)) (by decide) (by omega) (by omega) ?_
      refine wa_lstore_n (L2 := [(2, .long r20), (0, va_rf (some a)), (1, .int x1)]) X dX3_readOpenings_15 (by decide) (by first | rfl | (show (2, _) :: List.filter (fun q : Nat × Value => !(q.1 == 2) && (!(q.1 == 3) && !(q.1 + 1 == 2 && q.2.category == 2))) _ = _; simp [va_rf_cat, cat_i, cat_l])) ?_
      refine wa_lload_n X 0 dX3_readOpenings_16 rfl ?_
      refine wa_ldc2 (v := (-3014 : Int64)) X dX3_readOpenings_17 lkX3_85 ?_
      refine wa_lcmp X dX3_readOpenings_20 ?_
      refine wa_ifeq (tgt := 34) X dX3_readOpenings_21 (by decide) (fun h29 => ?_) (fun h29 => ?_)
      · rw [if_pos h29] at hf
        refine wa_sub (L2 := [(0, va_rf (some a)), (1, .int x1), (2, .long r20)]) [1, 2, 0] rfl ?_
        exact gX3_readOpenings_b34 X ih a x1 r20 μ21 _ _ _ _ hf (by omega) (by omega)
      · rw [if_neg h29] at hf
        refine wa_lload_n X 0 dX3_readOpenings_24 rfl ?_
        refine wa_ldc2 (v := (-41 : Int64)) X dX3_readOpenings_25 lkX3_87 ?_
        refine wa_lcmp X dX3_readOpenings_28 ?_
        refine wa_ifeq (tgt := 34) X dX3_readOpenings_29 (by decide) (fun h30 => ?_) (fun h30 => ?_)
        · rw [if_pos h30] at hf
          refine wa_sub (L2 := [(0, va_rf (some a)), (1, .int x1), (2, .long r20)]) [1, 2, 0] rfl ?_
          exact gX3_readOpenings_b34 X ih a x1 r20 μ21 _ _ _ _ hf (by omega) (by omega)
        · rw [if_neg h30] at hf
          refine wa_iconst (v := (1 : Int32)) X dX3_readOpenings_32 (by decide) ?_
          obtain ⟨rfl, rfl, rfl, rfl⟩ := jret hf
          exact wa_iret X dX3_readOpenings_33 rfl (by omega) (by omega)
def fX3_readOpenings (a : Nat) (μ : JM) : JO (Int32) := fX3_readOpenings_b2  jfuel a (0 : Int32) μ
set_option maxHeartbeats 4000000 in
set_option maxRecDepth 100000 in
theorem mX3_readOpenings {b : Nat} {a : Nat} {μ : JM} {r : Int32} {ν : JM} {c m : Nat} (hf : fX3_readOpenings a μ = some (r, ν, c, m)) : JMet b yX3_readOpenings cX3_readOpenings 4 (some .boolean) 1 22 [va_rf (some a)] μ (some (.int r)) ν c m := by
  refine JMet.of (by decide) (lg_sl_le (by simp only [List.map_cons, List.map_nil, List.sum_cons, List.sum_nil, va_rf_cat]; exact Nat.le_of_ble_eq_true rfl)) (fun Θ X hin => ?_)
  refine wa_eq (L2 := [(0, va_rf (some a))]) ?_ rfl (by first | rfl | simp [lv_args, va_rf_cat, cat_i, cat_l]) rfl
  obtain ⟨k, hk0⟩ : ∃ k : Nat, k = 0 := ⟨0, rfl⟩
  obtain ⟨n, hn0⟩ : ∃ n : Nat, n = 0 := ⟨0, rfl⟩
  have hk : k + c = c := by omega
  have hn : n + m = m := by omega
  refine wa_costs hk0.symm hn0.symm ?_
  rw [fX3_readOpenings] at hf
  refine wa_iconst (v := (0 : Int32)) X dX3_readOpenings_0 (by decide) ?_
  refine wa_istore_n (L2 := [(1, .int (0 : Int32)), (0, va_rf (some a))]) X dX3_readOpenings_1 (by decide) (by first | rfl | (show (1, _) :: List.filter (fun q : Nat × Value => !(q.1 == 1) && !(q.1 + 1 == 1 && q.2.category == 2)) _ = _; simp [va_rf_cat, cat_i, cat_l])) ?_
  refine wa_sub (L2 := [(0, va_rf (some a)), (1, .int (0 : Int32))]) [1, 0] rfl ?_
  exact gX3_readOpenings_b2 X jfuel a (0 : Int32) μ _ _ _ _ hf (by omega) (by omega)
theorem dX3_readOperand_0 : decode cX3_readOperand 0 = .ok (.aload_n 0, 1) := by decide +kernel
theorem dX3_readOperand_1 : decode cX3_readOperand 1 = .ok (.getfield 9, 3) := by decide +kernel
theorem dX3_readOperand_4 : decode cX3_readOperand 4 = .ok (.invokevirtual 61, 3) := by decide +kernel
theorem dX3_readOperand_7 : decode cX3_readOperand 7 = .ok (.lstore_n 3, 1) := by decide +kernel
theorem dX3_readOperand_8 : decode cX3_readOperand 8 = .ok (.lload_n 3, 1) := by decide +kernel
theorem dX3_readOperand_9 : decode cX3_readOperand 9 = .ok (.invokestatic 89, 3) := by decide +kernel
theorem dX3_readOperand_12 : decode cX3_readOperand 12 = .ok (.ifCond .ne 12, 3) := by decide +kernel
theorem dX3_readOperand_15 : decode cX3_readOperand 15 = .ok (.aload_n 0, 1) := by decide +kernel
theorem dX3_readOperand_16 : decode cX3_readOperand 16 = .ok (.getfield 9, 3) := by decide +kernel
theorem dX3_readOperand_19 : decode cX3_readOperand 19 = .ok (.iconst 0, 1) := by decide +kernel
theorem dX3_readOperand_20 : decode cX3_readOperand 20 = .ok (.invokevirtual 81, 3) := by decide +kernel
theorem dX3_readOperand_23 : decode cX3_readOperand 23 = .ok (.ireturn, 1) := by decide +kernel
theorem dX3_readOperand_24 : decode cX3_readOperand 24 = .ok (.aload_n 0, 1) := by decide +kernel
theorem dX3_readOperand_25 : decode cX3_readOperand 25 = .ok (.getfield 15, 3) := by decide +kernel
theorem dX3_readOperand_28 : decode cX3_readOperand 28 = .ok (.lload_n 3, 1) := by decide +kernel
theorem dX3_readOperand_29 : decode cX3_readOperand 29 = .ok (.invokevirtual 93, 3) := by decide +kernel
theorem dX3_readOperand_32 : decode cX3_readOperand 32 = .ok (.istore 5, 2) := by decide +kernel
theorem dX3_readOperand_34 : decode cX3_readOperand 34 = .ok (.aload_n 1, 1) := by decide +kernel
theorem dX3_readOperand_35 : decode cX3_readOperand 35 = .ok (.ifnonnull 7, 3) := by decide +kernel
theorem dX3_readOperand_38 : decode cX3_readOperand 38 = .ok (.aconst_null, 1) := by decide +kernel
theorem dX3_readOperand_39 : decode cX3_readOperand 39 = .ok (.goto 13, 3) := by decide +kernel
theorem dX3_readOperand_42 : decode cX3_readOperand 42 = .ok (.aload_n 1, 1) := by decide +kernel
theorem dX3_readOperand_43 : decode cX3_readOperand 43 = .ok (.aload_n 1, 1) := by decide +kernel
theorem dX3_readOperand_44 : decode cX3_readOperand 44 = .ok (.lload_n 3, 1) := by decide +kernel
theorem dX3_readOperand_45 : decode cX3_readOperand 45 = .ok (.iconst 1, 1) := by decide +kernel
theorem dX3_readOperand_46 : decode cX3_readOperand 46 = .ok (.invokevirtual 99, 3) := by decide +kernel
theorem dX3_readOperand_49 : decode cX3_readOperand 49 = .ok (.invokevirtual 104, 3) := by decide +kernel
theorem dX3_readOperand_52 : decode cX3_readOperand 52 = .ok (.astore 6, 2) := by decide +kernel
theorem dX3_readOperand_54 : decode cX3_readOperand 54 = .ok (.iload 5, 2) := by decide +kernel
theorem dX3_readOperand_56 : decode cX3_readOperand 56 = .ok (.iconst (-1), 1) := by decide +kernel
theorem dX3_readOperand_57 : decode cX3_readOperand 57 = .ok (.if_icmp .ne 21, 3) := by decide +kernel
theorem dX3_readOperand_60 : decode cX3_readOperand 60 = .ok (.aload 6, 2) := by decide +kernel
theorem dX3_readOperand_62 : decode cX3_readOperand 62 = .ok (.ifnonnull 16, 3) := by decide +kernel
theorem dX3_readOperand_65 : decode cX3_readOperand 65 = .ok (.iload_n 2, 1) := by decide +kernel
theorem dX3_readOperand_66 : decode cX3_readOperand 66 = .ok (.ifCond .ne 12, 3) := by decide +kernel
theorem dX3_readOperand_69 : decode cX3_readOperand 69 = .ok (.aload_n 0, 1) := by decide +kernel
theorem dX3_readOperand_70 : decode cX3_readOperand 70 = .ok (.getfield 9, 3) := by decide +kernel
theorem dX3_readOperand_73 : decode cX3_readOperand 73 = .ok (.iconst 3, 1) := by decide +kernel
theorem dX3_readOperand_74 : decode cX3_readOperand 74 = .ok (.invokevirtual 81, 3) := by decide +kernel
theorem dX3_readOperand_77 : decode cX3_readOperand 77 = .ok (.ireturn, 1) := by decide +kernel
theorem dX3_readOperand_78 : decode cX3_readOperand 78 = .ok (.aload_n 0, 1) := by decide +kernel
theorem dX3_readOperand_79 : decode cX3_readOperand 79 = .ok (.getfield 41, 3) := by decide +kernel
theorem dX3_readOperand_82 : decode cX3_readOperand 82 = .ok (.bipush 60, 2) := by decide +kernel
theorem dX3_readOperand_84 : decode cX3_readOperand 84 = .ok (.if_icmp .lt 13, 3) := by decide +kernel
theorem dX3_readOperand_87 : decode cX3_readOperand 87 = .ok (.aload_n 0, 1) := by decide +kernel
theorem dX3_readOperand_88 : decode cX3_readOperand 88 = .ok (.getfield 9, 3) := by decide +kernel
theorem dX3_readOperand_91 : decode cX3_readOperand 91 = .ok (.bipush 6, 2) := by decide +kernel
theorem dX3_readOperand_93 : decode cX3_readOperand 93 = .ok (.invokevirtual 81, 3) := by decide +kernel
theorem dX3_readOperand_96 : decode cX3_readOperand 96 = .ok (.ireturn, 1) := by decide +kernel
theorem dX3_readOperand_97 : decode cX3_readOperand 97 = .ok (.aload_n 0, 1) := by decide +kernel
theorem dX3_readOperand_98 : decode cX3_readOperand 98 = .ok (.dup, 1) := by decide +kernel
theorem dX3_readOperand_99 : decode cX3_readOperand 99 = .ok (.getfield 41, 3) := by decide +kernel
theorem dX3_readOperand_102 : decode cX3_readOperand 102 = .ok (.iconst 1, 1) := by decide +kernel
theorem dX3_readOperand_103 : decode cX3_readOperand 103 = .ok (.iadd, 1) := by decide +kernel
theorem dX3_readOperand_104 : decode cX3_readOperand 104 = .ok (.putfield 41, 3) := by decide +kernel
theorem dX3_readOperand_107 : decode cX3_readOperand 107 = .ok (.iload 5, 2) := by decide +kernel
theorem dX3_readOperand_109 : decode cX3_readOperand 109 = .ok (.iconst (-1), 1) := by decide +kernel
theorem dX3_readOperand_110 : decode cX3_readOperand 110 = .ok (.if_icmp .eq 15, 3) := by decide +kernel
theorem dX3_readOperand_113 : decode cX3_readOperand 113 = .ok (.aload_n 0, 1) := by decide +kernel
theorem dX3_readOperand_114 : decode cX3_readOperand 114 = .ok (.getfield 33, 3) := by decide +kernel
theorem dX3_readOperand_117 : decode cX3_readOperand 117 = .ok (.iload 5, 2) := by decide +kernel
theorem dX3_readOperand_119 : decode cX3_readOperand 119 = .ok (.invokevirtual 108, 3) := by decide +kernel
theorem dX3_readOperand_122 : decode cX3_readOperand 122 = .ok (.goto 20, 3) := by decide +kernel
theorem dX3_readOperand_125 : decode cX3_readOperand 125 = .ok (.aload 6, 2) := by decide +kernel
theorem dX3_readOperand_127 : decode cX3_readOperand 127 = .ok (.ifnull 15, 3) := by decide +kernel
theorem dX3_readOperand_130 : decode cX3_readOperand 130 = .ok (.aload_n 0, 1) := by decide +kernel
theorem dX3_readOperand_131 : decode cX3_readOperand 131 = .ok (.getfield 33, 3) := by decide +kernel
theorem dX3_readOperand_134 : decode cX3_readOperand 134 = .ok (.aload 6, 2) := by decide +kernel
theorem dX3_readOperand_136 : decode cX3_readOperand 136 = .ok (.getfield 112, 3) := by decide +kernel
theorem dX3_readOperand_139 : decode cX3_readOperand 139 = .ok (.invokevirtual 117, 3) := by decide +kernel
theorem dX3_readOperand_142 : decode cX3_readOperand 142 = .ok (.aload_n 0, 1) := by decide +kernel
theorem dX3_readOperand_143 : decode cX3_readOperand 143 = .ok (.getfield 9, 3) := by decide +kernel
theorem dX3_readOperand_146 : decode cX3_readOperand 146 = .ok (.invokevirtual 78, 3) := by decide +kernel
theorem dX3_readOperand_149 : decode cX3_readOperand 149 = .ok (.iconst 1, 1) := by decide +kernel
theorem dX3_readOperand_150 : decode cX3_readOperand 150 = .ok (.ireturn, 1) := by decide +kernel
def fX3_readOperand_b142 (a : Nat) (μ : JM) : JO (Int32) := jck ((jT μ a).1 == 4) <| jde (jP μ a 0) fun q139 => jck ((jT μ q139).1 == 8) <| jcl (fX7_step q139 μ) fun u142 μ143 => some ((1 : Int32), μ143, 0, 0)
set_option maxHeartbeats 4000000 in
set_option maxRecDepth 100000 in
theorem gX3_readOperand_b142 {b : Nat} {Θ : JE} {RC RS : Nat} {r : Int32} {ν : JM} (X : jX b Θ RX3 cX3_readOperand 7 (some .boolean) 1 24 RC RS) (a : Nat) (μ : JM) (c m k n : Nat) (hf : fX3_readOperand_b142 a μ = some (r, ν, c, m)) (hk : k + c = RC) (hn : n + m = RS) : WA b Θ 7 (jE b Θ (some (.int r)) ν RC RS) μ k n 142 [(0, va_rf (some a))] [] := by
  rw [fX3_readOperand_b142] at hf
  refine wa_aload_n X 0 dX3_readOperand_142 rfl ?_
  obtain ⟨h138, hf⟩ := jckT hf
  refine wa_getP X dX3_readOperand_143 lfX3_9 rfl h138 rfl ?_
  obtain ⟨q139, h140, hf⟩ := jde_some hf
  obtain ⟨h141, hf⟩ := jckT hf
  obtain ⟨u142, μ143, c144, m145, c146, m147, e148, hf, h149, h150⟩ := jcl_some hf
  refine wa_rcallV (st2 := []) X dX3_readOperand_146 lmX3_78 lMX7_step h140 h141 (mX7_step e148) rfl rfl rfl (va_cats (Nat.le_of_ble_eq_true rfl)) (by decide) (by omega) (by omega) ?_
  refine wa_iconst (v := (1 : Int32)) X dX3_readOperand_149 (by decide) ?_
  obtain ⟨rfl, rfl, rfl, rfl⟩ := jret hf
  exact wa_iret X dX3_readOperand_150 rfl (by omega) (by omega)
def fX3_readOperand_b78 (a : Nat) (x5 : Int32) (p6 : Option Nat) (μ : JM) : JO (Int32) := jck ((jT μ a).1 == 4) <| if (jI μ a 6) < (60 : Int32) then (jlt (jsI μ a 6 ((jI μ a 6) + (1 : Int32))) fun μ93 => if x5 = (-1 : Int32) then (if p6 = none then (fX3_readOperand_b142  a μ93) else (jde p6 fun q98 => jck ((jT μ q98).1 == 3) <| jde (jP μ93 a 7) fun q101 => jck ((jT μ q101).1 == 2) <| jcl (fX1_copy q101 (jP μ93 q98 8) μ93) fun u104 μ105 => fX3_readOperand_b142  a μ105)) else (jde (jP μ93 a 7) fun q113 => jck ((jT μ q113).1 == 2) <| jcl (fX1_setFact q113 x5 μ93) fun u116 μ117 => fX3_readOperand_b142  a μ117)) else (jde (jP μ a 0) fun q125 => jck ((jT μ q125).1 == 8) <| jcl (fX7_fail q125 (6 : Int32) μ) fun r128 μ129 => jck (jbl r128) <| some (r128, μ129, 0, 0))
set_option maxHeartbeats 4000000 in
set_option maxRecDepth 100000 in
theorem gX3_readOperand_b78 {b : Nat} {Θ : JE} {RC RS : Nat} {r : Int32} {ν : JM} (X : jX b Θ RX3 cX3_readOperand 7 (some .boolean) 1 24 RC RS) (a : Nat) (x5 : Int32) (p6 : Option Nat) (μ : JM) (c m k n : Nat) (hf : fX3_readOperand_b78 a x5 p6 μ = some (r, ν, c, m)) (hk : k + c = RC) (hn : n + m = RS) : WA b Θ 7 (jE b Θ (some (.int r)) ν RC RS) μ k n 78 [(0, va_rf (some a)), (5, .int x5), (6, va_rf p6)] [] := by
  rw [fX3_readOperand_b78] at hf
  refine wa_aload_n X 0 dX3_readOperand_78 rfl ?_
  obtain ⟨h91, hf⟩ := jckT hf
  refine wa_getI X dX3_readOperand_79 lfX3_41 rfl h91 rfl ?_
  refine wa_bipush (v := (60 : Int32)) X dX3_readOperand_82 (by decide) ?_
  refine wa_iclt (tgt := 97) X dX3_readOperand_84 (by decide) (fun h92 => ?_) (fun h92 => ?_)
  · rw [if_pos h92] at hf
    refine wa_aload_n X 0 dX3_readOperand_97 rfl ?_
    refine wa_dup X dX3_readOperand_98 (va_rf_cat _) ?_
    refine wa_getI X dX3_readOperand_99 lfX3_41 rfl h91 rfl ?_
    refine wa_iconst (v := (1 : Int32)) X dX3_readOperand_102 (by decide) ?_
    refine wa_iadd X dX3_readOperand_103 ?_
    obtain ⟨μ93, hm94, hf⟩ := jlt_e hf
    have e95 : jT μ93 = jT μ := by rw [hm94]; rfl
    refine wa_rputI (ν := μ93) X dX3_readOperand_104 lfX3_41 rfl h91 rfl rfl hm94 ?_
    refine wa_iload X 1 dX3_readOperand_107 rfl ?_
    refine wa_iconst (v := (-1 : Int32)) X dX3_readOperand_109 (by decide) ?_
    refine wa_iceq (tgt := 125) X dX3_readOperand_110 (by decide) (fun h96 => ?_) (fun h96 => ?_)
    · rw [if_pos h96] at hf
      refine wa_aload X 2 dX3_readOperand_125 rfl ?_
      refine wa_ifnull (tgt := 142) X dX3_readOperand_127 (by decide) (fun h97 => ?_) (fun h97 => ?_)
      · rw [if_pos h97] at hf
        refine wa_sub (L2 := [(0, va_rf (some a))]) [0] rfl ?_
        exact gX3_readOperand_b142 X a μ93 _ _ _ _ hf (by omega) (by omega)
      · rw [if_neg h97] at hf
        refine wa_aload_n X 0 dX3_readOperand_130 rfl ?_
        refine wa_getP X dX3_readOperand_131 lfX3_33 rfl (by rw [e95]; exact h91) rfl ?_
        refine wa_aload X 2 dX3_readOperand_134 rfl ?_
        obtain ⟨q98, h99, hf⟩ := jde_some hf
        obtain ⟨h100, hf⟩ := jckT hf
        refine wa_getP X dX3_readOperand_136 lfX3_112 h99 (by rw [e95]; exact h100) rfl ?_
        obtain ⟨q101, h102, hf⟩ := jde_some hf
        obtain ⟨h103, hf⟩ := jckT hf
        obtain ⟨u104, μ105, c106, m107, c108, m109, e110, hf, h111, h112⟩ := jcl_some hf
        refine wa_rcallV (st2 := []) X dX3_readOperand_139 lmX3_117 lMX1_copy h102 (by rw [e95]; exact h103) (mX1_copy e110) rfl rfl rfl (va_cats (Nat.le_of_ble_eq_true rfl)) (by decide) (by omega) (by omega) ?_
        refine wa_sub (L2 := [(0, va_rf (some a))]) [0] rfl ?_
        exact gX3_readOperand_b142 X a μ105 _ _ _ _ hf (by omega) (by omega)
    · rw [if_neg h96] at hf
      refine wa_aload_n X 0 dX3_readOperand_113 rfl ?_
      refine wa_getP X dX3_readOperand_114 lfX3_33 rfl (by rw [e95]; exact h91) rfl ?_
      refine wa_iload X 1 dX3_readOperand_117 rfl ?_
      obtain ⟨q113, h114, hf⟩ := jde_some hf
      obtain ⟨h115, hf⟩ := jckT hf
      obtain ⟨u116, μ117, c118, m119, c120, m121, e122, hf, h123, h124⟩ := jcl_some hf
      refine wa_rcallV (st2 := []) X dX3_readOperand_119 lmX3_108 lMX1_setFact h114 (by rw [e95]; exact h115) (mX1_setFact e122) rfl rfl rfl (va_cats (Nat.le_of_ble_eq_true rfl)) (by decide) (by omega) (by omega) ?_
      refine wa_goto (tgt := 142) X dX3_readOperand_122 (by decide) ?_
      refine wa_sub (L2 := [(0, va_rf (some a))]) [0] rfl ?_
      exact gX3_readOperand_b142 X a μ117 _ _ _ _ hf (by omega) (by omega)
  · rw [if_neg h92] at hf
    refine wa_aload_n X 0 dX3_readOperand_87 rfl ?_
    refine wa_getP X dX3_readOperand_88 lfX3_9 rfl h91 rfl ?_
    refine wa_bipush (v := (6 : Int32)) X dX3_readOperand_91 (by decide) ?_
    obtain ⟨q125, h126, hf⟩ := jde_some hf
    obtain ⟨h127, hf⟩ := jckT hf
    obtain ⟨r128, μ129, c130, m131, c132, m133, e134, hf, h135, h136⟩ := jcl_some hf
    refine wa_rcallV (st2 := [.int r128]) X dX3_readOperand_93 lmX3_81 lMX7_fail h126 h127 (mX7_fail e134) rfl rfl rfl (va_cats (Nat.le_of_ble_eq_true rfl)) (by decide) (by omega) (by omega) ?_
    obtain ⟨h137, hf⟩ := jck_some hf
    obtain ⟨rfl, rfl, rfl, rfl⟩ := jret hf
    exact wa_iret X dX3_readOperand_96 (jbl_nar h137) (by omega) (by omega)
def fX3_readOperand_b52 (a : Nat) (x2 : Int32) (x5 : Int32) (s0 : Option Nat) (μ : JM) : JO (Int32) := if x5 = (-1 : Int32) then (if s0 = none then (if x2 = 0 then (jck ((jT μ a).1 == 4) <| jde (jP μ a 0) fun q78 => jck ((jT μ q78).1 == 8) <| jcl (fX7_fail q78 (3 : Int32) μ) fun r81 μ82 => jck (jbl r81) <| some (r81, μ82, 0, 0)) else (fX3_readOperand_b78  a x5 s0 μ)) else (fX3_readOperand_b78  a x5 s0 μ)) else (fX3_readOperand_b78  a x5 s0 μ)
set_option maxHeartbeats 4000000 in
set_option maxRecDepth 100000 in
theorem gX3_readOperand_b52 {b : Nat} {Θ : JE} {RC RS : Nat} {r : Int32} {ν : JM} (X : jX b Θ RX3 cX3_readOperand 7 (some .boolean) 1 24 RC RS) (a : Nat) (x2 : Int32) (x5 : Int32) (s0 : Option Nat) (μ : JM) (c m k n : Nat) (hf : fX3_readOperand_b52 a x2 x5 s0 μ = some (r, ν, c, m)) (hk : k + c = RC) (hn : n + m = RS) : WA b Θ 7 (jE b Θ (some (.int r)) ν RC RS) μ k n 52 [(0, va_rf (some a)), (2, .int x2), (5, .int x5)] [va_rf s0] := by
  rw [fX3_readOperand_b52] at hf
  refine wa_astore (L2 := [(6, va_rf s0), (0, va_rf (some a)), (2, .int x2), (5, .int x5)]) X dX3_readOperand_52 (by decide) (by first | rfl | (show (6, _) :: List.filter (fun q : Nat × Value => !(q.1 == 6) && !(q.1 + 1 == 6 && q.2.category == 2)) _ = _; simp [va_rf_cat, cat_i, cat_l])) ?_
  refine wa_iload X 3 dX3_readOperand_54 rfl ?_
  refine wa_iconst (v := (-1 : Int32)) X dX3_readOperand_56 (by decide) ?_
  refine wa_icne (tgt := 78) X dX3_readOperand_57 (by decide) (fun h74 => ?_) (fun h74 => ?_)
  · rw [if_neg h74] at hf
    refine wa_sub (L2 := [(0, va_rf (some a)), (5, .int x5), (6, va_rf s0)]) [1, 3, 0] rfl ?_
    exact gX3_readOperand_b78 X a x5 s0 μ _ _ _ _ hf (by omega) (by omega)
  · rw [if_pos h74] at hf
    refine wa_aload X 0 dX3_readOperand_60 rfl ?_
    refine wa_ifnonnull (tgt := 78) X dX3_readOperand_62 (by decide) (fun h75 => ?_) (fun h75 => ?_)
    · rw [if_neg h75] at hf
      refine wa_sub (L2 := [(0, va_rf (some a)), (5, .int x5), (6, va_rf s0)]) [1, 3, 0] rfl ?_
      exact gX3_readOperand_b78 X a x5 s0 μ _ _ _ _ hf (by omega) (by omega)
    · rw [if_pos h75] at hf
      refine wa_iload_n X 2 dX3_readOperand_65 rfl ?_
      refine wa_ifne (tgt := 78) X dX3_readOperand_66 (by decide) (fun h76 => ?_) (fun h76 => ?_)
      · rw [if_neg h76] at hf
        refine wa_sub (L2 := [(0, va_rf (some a)), (5, .int x5), (6, va_rf s0)]) [1, 3, 0] rfl ?_
        exact gX3_readOperand_b78 X a x5 s0 μ _ _ _ _ hf (by omega) (by omega)
      · rw [if_pos h76] at hf
        refine wa_aload_n X 1 dX3_readOperand_69 rfl ?_
        obtain ⟨h77, hf⟩ := jckT hf
        refine wa_getP X dX3_readOperand_70 lfX3_9 rfl h77 rfl ?_
        refine wa_iconst (v := (3 : Int32)) X dX3_readOperand_73 (by decide) ?_
        obtain ⟨q78, h79, hf⟩ := jde_some hf
        obtain ⟨h80, hf⟩ := jckT hf
        obtain ⟨r81, μ82, c83, m84, c85, m86, e87, hf, h88, h89⟩ := jcl_some hf
        refine wa_rcallV (st2 := [.int r81]) X dX3_readOperand_74 lmX3_81 lMX7_fail h79 h80 (mX7_fail e87) rfl rfl rfl (va_cats (Nat.le_of_ble_eq_true rfl)) (by decide) (by omega) (by omega) ?_
        obtain ⟨h90, hf⟩ := jck_some hf
        obtain ⟨rfl, rfl, rfl, rfl⟩ := jret hf
        exact wa_iret X dX3_readOperand_77 (jbl_nar h90) (by omega) (by omega)
def fX3_readOperand (a : Nat) (p1 : Option Nat) (x2 : Int32) (μ : JM) : JO (Int32) := jck ((jT μ a).1 == 4) <| jde (jP μ a 0) fun q2 => jck ((jT μ q2).1 == 8) <| jcl (fX7_token q2 μ) fun r5 μ6 => jcl (fX10_isFreeWord r5 μ6) fun r14 μ15 => if r14 = 0 then (jck ((jT μ15 a).1 == 4) <| jde (jP μ15 a 0) fun q61 => jck ((jT μ15 q61).1 == 8) <| jcl (fX7_fail q61 (0 : Int32) μ15) fun r64 μ65 => jck (jbl r64) <| some (r64, μ65, 0, 0)) else (jck ((jT μ15 a).1 == 4) <| jde (jP μ15 a 1) fun q25 => jck ((jT μ15 q25).1 == 10) <| jcl (fX9_find q25 r5 μ15) fun r28 μ29 => if p1 = none then (fX3_readOperand_b52  a x2 r28 none μ29) else (jde p1 fun q38 => jck ((jT μ29 q38).1 == 9) <| jcl (fX8_find q38 r5 (1 : Int32) μ29) fun r41 μ42 => jck ((jT μ42 q38).1 == 9) <| jcl (fX8_at q38 r41 μ42) fun r51 μ52 => fX3_readOperand_b52  a x2 r28 r51 μ52))
set_option maxHeartbeats 4000000 in
set_option maxRecDepth 100000 in
theorem mX3_readOperand {b : Nat} {a : Nat} {p1 : Option Nat} {x2 : Int32} {μ : JM} {r : Int32} {ν : JM} {c m : Nat} (hf : fX3_readOperand a p1 x2 μ = some (r, ν, c, m)) : JMet b yX3_readOperand cX3_readOperand 7 (some .boolean) 1 24 [va_rf (some a), va_rf p1, .int x2] μ (some (.int r)) ν c m := by
  refine JMet.of (by decide) (lg_sl_le (by simp only [List.map_cons, List.map_nil, List.sum_cons, List.sum_nil, va_rf_cat]; exact Nat.le_of_ble_eq_true rfl)) (fun Θ X hin => ?_)
  refine wa_eq (L2 := [(0, va_rf (some a)), (1, va_rf p1), (2, .int x2)]) ?_ rfl (by first | rfl | simp [lv_args, va_rf_cat, cat_i, cat_l]) rfl
  obtain ⟨k, hk0⟩ : ∃ k : Nat, k = 0 := ⟨0, rfl⟩
  obtain ⟨n, hn0⟩ : ∃ n : Nat, n = 0 := ⟨0, rfl⟩
  have hk : k + c = c := by omega
  have hn : n + m = m := by omega
  refine wa_costs hk0.symm hn0.symm ?_
  rw [fX3_readOperand] at hf
  refine wa_aload_n X 0 dX3_readOperand_0 rfl ?_
  obtain ⟨h1, hf⟩ := jckT hf
  refine wa_getP X dX3_readOperand_1 lfX3_9 rfl h1 rfl ?_
  obtain ⟨q2, h3, hf⟩ := jde_some hf
  obtain ⟨h4, hf⟩ := jckT hf
  obtain ⟨r5, μ6, c7, m8, c9, m10, e11, hf, h12, h13⟩ := jcl_some hf
  refine wa_rcallV (st2 := [.long r5]) X dX3_readOperand_4 lmX3_61 lMX7_token h3 h4 (mX7_token e11) rfl rfl rfl (va_cats (Nat.le_of_ble_eq_true rfl)) (by decide) (by omega) (by omega) ?_
  refine wa_lstore_n (L2 := [(3, .long r5), (0, va_rf (some a)), (1, va_rf p1), (2, .int x2)]) X dX3_readOperand_7 (by decide) (by first | rfl | (show (3, _) :: List.filter (fun q : Nat × Value => !(q.1 == 3) && (!(q.1 == 4) && !(q.1 + 1 == 3 && q.2.category == 2))) _ = _; simp [va_rf_cat, cat_i, cat_l])) ?_
  refine wa_lload_n X 0 dX3_readOperand_8 rfl ?_
  obtain ⟨r14, μ15, c16, m17, c18, m19, e20, hf, h21, h22⟩ := jcl_some hf
  refine wa_rcallSN (st2 := [.int r14]) X dX3_readOperand_9 lNX3_89 lMX10_isFreeWord (mX10_isFreeWord e20) rfl rfl rfl (va_cats (Nat.le_of_ble_eq_true rfl)) (by decide) (by omega) (by omega) ?_
  refine wa_ifne (tgt := 24) X dX3_readOperand_12 (by decide) (fun h23 => ?_) (fun h23 => ?_)
  · rw [if_neg h23] at hf
    refine wa_aload_n X 1 dX3_readOperand_24 rfl ?_
    obtain ⟨h24, hf⟩ := jckT hf
    refine wa_getP X dX3_readOperand_25 lfX3_15 rfl h24 rfl ?_
    refine wa_lload_n X 0 dX3_readOperand_28 rfl ?_
    obtain ⟨q25, h26, hf⟩ := jde_some hf
    obtain ⟨h27, hf⟩ := jckT hf
    obtain ⟨r28, μ29, c30, m31, c32, m33, e34, hf, h35, h36⟩ := jcl_some hf
    refine wa_rcallV (st2 := [.int r28]) X dX3_readOperand_29 lmX3_93 lMX9_find h26 h27 (mX9_find e34) rfl rfl rfl (va_cats (Nat.le_of_ble_eq_true rfl)) (by decide) (by omega) (by omega) ?_
    refine wa_istore (L2 := [(5, .int r28), (3, .long r5), (0, va_rf (some a)), (1, va_rf p1), (2, .int x2)]) X dX3_readOperand_32 (by decide) (by first | rfl | (show (5, _) :: List.filter (fun q : Nat × Value => !(q.1 == 5) && !(q.1 + 1 == 5 && q.2.category == 2)) _ = _; simp [va_rf_cat, cat_i, cat_l])) ?_
    refine wa_aload_n X 3 dX3_readOperand_34 rfl ?_
    refine wa_ifnonnull (tgt := 42) X dX3_readOperand_35 (by decide) (fun h37 => ?_) (fun h37 => ?_)
    · rw [if_neg h37] at hf
      refine wa_aload_n X 3 dX3_readOperand_42 rfl ?_
      refine wa_aload_n X 3 dX3_readOperand_43 rfl ?_
      refine wa_lload_n X 1 dX3_readOperand_44 rfl ?_
      refine wa_iconst (v := (1 : Int32)) X dX3_readOperand_45 (by decide) ?_
      obtain ⟨q38, h39, hf⟩ := jde_some hf
      obtain ⟨h40, hf⟩ := jckT hf
      obtain ⟨r41, μ42, c43, m44, c45, m46, e47, hf, h48, h49⟩ := jcl_some hf
      refine wa_rcallV (st2 := [.int r41, va_rf p1]) X dX3_readOperand_46 lmX3_99 lMX8_find h39 h40 (mX8_find e47) rfl rfl rfl (va_cats (Nat.le_of_ble_eq_true rfl)) (by decide) (by omega) (by omega) ?_
      obtain ⟨h50, hf⟩ := jckT hf
      obtain ⟨r51, μ52, c53, m54, c55, m56, e57, hf, h58, h59⟩ := jcl_some hf
      refine wa_rcallV (st2 := [va_rf r51]) X dX3_readOperand_49 lmX3_104 lMX8_at h39 h50 (mX8_at e57) rfl rfl rfl (va_cats (Nat.le_of_ble_eq_true rfl)) (by decide) (by omega) (by omega) ?_
      refine wa_sub (L2 := [(0, va_rf (some a)), (2, .int x2), (5, .int r28)]) [2, 4, 0] rfl ?_
      exact gX3_readOperand_b52 X a x2 r28 r51 μ52 _ _ _ _ hf (by omega) (by omega)
    · rw [if_pos h37] at hf
      refine wa_null X dX3_readOperand_38 ?_
      refine wa_goto (tgt := 52) X dX3_readOperand_39 (by decide) ?_
      refine wa_sub (L2 := [(0, va_rf (some a)), (2, .int x2), (5, .int r28)]) [2, 4, 0] rfl ?_
      exact gX3_readOperand_b52 X a x2 r28 none μ29 _ _ _ _ hf (by omega) (by omega)
  · rw [if_pos h23] at hf
    refine wa_aload_n X 1 dX3_readOperand_15 rfl ?_
    obtain ⟨h60, hf⟩ := jckT hf
    refine wa_getP X dX3_readOperand_16 lfX3_9 rfl h60 rfl ?_
    refine wa_iconst (v := (0 : Int32)) X dX3_readOperand_19 (by decide) ?_
    obtain ⟨q61, h62, hf⟩ := jde_some hf
    obtain ⟨h63, hf⟩ := jckT hf
    obtain ⟨r64, μ65, c66, m67, c68, m69, e70, hf, h71, h72⟩ := jcl_some hf
    refine wa_rcallV (st2 := [.int r64]) X dX3_readOperand_20 lmX3_81 lMX7_fail h62 h63 (mX7_fail e70) rfl rfl rfl (va_cats (Nat.le_of_ble_eq_true rfl)) (by decide) (by omega) (by omega) ?_
    obtain ⟨h73, hf⟩ := jck_some hf
    obtain ⟨rfl, rfl, rfl, rfl⟩ := jret hf
    exact wa_iret X dX3_readOperand_23 (jbl_nar h73) (by omega) (by omega)
theorem dX3_closeLevels_0 : decode cX3_closeLevels 0 = .ok (.iconst 0, 1) := by decide +kernel
theorem dX3_closeLevels_1 : decode cX3_closeLevels 1 = .ok (.istore_n 1, 1) := by decide +kernel
theorem dX3_closeLevels_2 : decode cX3_closeLevels 2 = .ok (.iload_n 1, 1) := by decide +kernel
theorem dX3_closeLevels_3 : decode cX3_closeLevels 3 = .ok (.bipush 10, 2) := by decide +kernel
theorem dX3_closeLevels_5 : decode cX3_closeLevels 5 = .ok (.if_icmp .gt 133, 3) := by decide +kernel
theorem dX3_closeLevels_8 : decode cX3_closeLevels 8 = .ok (.aload_n 0, 1) := by decide +kernel
theorem dX3_closeLevels_9 : decode cX3_closeLevels 9 = .ok (.getfield 29, 3) := by decide +kernel
theorem dX3_closeLevels_12 : decode cX3_closeLevels 12 = .ok (.aload_n 0, 1) := by decide +kernel
theorem dX3_closeLevels_13 : decode cX3_closeLevels 13 = .ok (.getfield 37, 3) := by decide +kernel
theorem dX3_closeLevels_16 : decode cX3_closeLevels 16 = .ok (.baload, 1) := by decide +kernel
theorem dX3_closeLevels_17 : decode cX3_closeLevels 17 = .ok (.ifCond .eq 23, 3) := by decide +kernel
theorem dX3_closeLevels_20 : decode cX3_closeLevels 20 = .ok (.aload_n 0, 1) := by decide +kernel
theorem dX3_closeLevels_21 : decode cX3_closeLevels 21 = .ok (.getfield 33, 3) := by decide +kernel
theorem dX3_closeLevels_24 : decode cX3_closeLevels 24 = .ok (.invokevirtual 120, 3) := by decide +kernel
theorem dX3_closeLevels_27 : decode cX3_closeLevels 27 = .ok (.aload_n 0, 1) := by decide +kernel
theorem dX3_closeLevels_28 : decode cX3_closeLevels 28 = .ok (.dup, 1) := by decide +kernel
theorem dX3_closeLevels_29 : decode cX3_closeLevels 29 = .ok (.getfield 37, 3) := by decide +kernel
theorem dX3_closeLevels_32 : decode cX3_closeLevels 32 = .ok (.iconst 1, 1) := by decide +kernel
theorem dX3_closeLevels_33 : decode cX3_closeLevels 33 = .ok (.isub, 1) := by decide +kernel
theorem dX3_closeLevels_34 : decode cX3_closeLevels 34 = .ok (.putfield 37, 3) := by decide +kernel
theorem dX3_closeLevels_37 : decode cX3_closeLevels 37 = .ok (.goto 95, 3) := by decide +kernel
theorem dX3_closeLevels_40 : decode cX3_closeLevels 40 = .ok (.aload_n 0, 1) := by decide +kernel
theorem dX3_closeLevels_41 : decode cX3_closeLevels 41 = .ok (.getfield 25, 3) := by decide +kernel
theorem dX3_closeLevels_44 : decode cX3_closeLevels 44 = .ok (.aload_n 0, 1) := by decide +kernel
theorem dX3_closeLevels_45 : decode cX3_closeLevels 45 = .ok (.getfield 37, 3) := by decide +kernel
theorem dX3_closeLevels_48 : decode cX3_closeLevels 48 = .ok (.aaload, 1) := by decide +kernel
theorem dX3_closeLevels_49 : decode cX3_closeLevels 49 = .ok (.aload_n 0, 1) := by decide +kernel
theorem dX3_closeLevels_50 : decode cX3_closeLevels 50 = .ok (.getfield 33, 3) := by decide +kernel
theorem dX3_closeLevels_53 : decode cX3_closeLevels 53 = .ok (.invokevirtual 123, 3) := by decide +kernel
theorem dX3_closeLevels_56 : decode cX3_closeLevels 56 = .ok (.aload_n 0, 1) := by decide +kernel
theorem dX3_closeLevels_57 : decode cX3_closeLevels 57 = .ok (.getfield 37, 3) := by decide +kernel
theorem dX3_closeLevels_60 : decode cX3_closeLevels 60 = .ok (.ifCond .eq 17, 3) := by decide +kernel
theorem dX3_closeLevels_63 : decode cX3_closeLevels 63 = .ok (.aload_n 0, 1) := by decide +kernel
theorem dX3_closeLevels_64 : decode cX3_closeLevels 64 = .ok (.getfield 9, 3) := by decide +kernel
theorem dX3_closeLevels_67 : decode cX3_closeLevels 67 = .ok (.invokevirtual 61, 3) := by decide +kernel
theorem dX3_closeLevels_70 : decode cX3_closeLevels 70 = .ok (.ldc2_w 126, 3) := by decide +kernel
theorem dX3_closeLevels_73 : decode cX3_closeLevels 73 = .ok (.lcmp, 1) := by decide +kernel
theorem dX3_closeLevels_74 : decode cX3_closeLevels 74 = .ok (.ifCond .eq 4, 3) := by decide +kernel
theorem dX3_closeLevels_77 : decode cX3_closeLevels 77 = .ok (.return_, 1) := by decide +kernel
theorem dX3_closeLevels_78 : decode cX3_closeLevels 78 = .ok (.aload_n 0, 1) := by decide +kernel
theorem dX3_closeLevels_79 : decode cX3_closeLevels 79 = .ok (.getfield 21, 3) := by decide +kernel
theorem dX3_closeLevels_82 : decode cX3_closeLevels 82 = .ok (.aload_n 0, 1) := by decide +kernel
theorem dX3_closeLevels_83 : decode cX3_closeLevels 83 = .ok (.getfield 37, 3) := by decide +kernel
theorem dX3_closeLevels_86 : decode cX3_closeLevels 86 = .ok (.aaload, 1) := by decide +kernel
theorem dX3_closeLevels_87 : decode cX3_closeLevels 87 = .ok (.aload_n 0, 1) := by decide +kernel
theorem dX3_closeLevels_88 : decode cX3_closeLevels 88 = .ok (.getfield 25, 3) := by decide +kernel
theorem dX3_closeLevels_91 : decode cX3_closeLevels 91 = .ok (.aload_n 0, 1) := by decide +kernel
theorem dX3_closeLevels_92 : decode cX3_closeLevels 92 = .ok (.getfield 37, 3) := by decide +kernel
theorem dX3_closeLevels_95 : decode cX3_closeLevels 95 = .ok (.aaload, 1) := by decide +kernel
theorem dX3_closeLevels_96 : decode cX3_closeLevels 96 = .ok (.invokevirtual 74, 3) := by decide +kernel
theorem dX3_closeLevels_99 : decode cX3_closeLevels 99 = .ok (.aload_n 0, 1) := by decide +kernel
theorem dX3_closeLevels_100 : decode cX3_closeLevels 100 = .ok (.getfield 33, 3) := by decide +kernel
theorem dX3_closeLevels_103 : decode cX3_closeLevels 103 = .ok (.aload_n 0, 1) := by decide +kernel
theorem dX3_closeLevels_104 : decode cX3_closeLevels 104 = .ok (.getfield 21, 3) := by decide +kernel
theorem dX3_closeLevels_107 : decode cX3_closeLevels 107 = .ok (.aload_n 0, 1) := by decide +kernel
theorem dX3_closeLevels_108 : decode cX3_closeLevels 108 = .ok (.getfield 37, 3) := by decide +kernel
theorem dX3_closeLevels_111 : decode cX3_closeLevels 111 = .ok (.aaload, 1) := by decide +kernel
theorem dX3_closeLevels_112 : decode cX3_closeLevels 112 = .ok (.invokevirtual 117, 3) := by decide +kernel
theorem dX3_closeLevels_115 : decode cX3_closeLevels 115 = .ok (.aload_n 0, 1) := by decide +kernel
theorem dX3_closeLevels_116 : decode cX3_closeLevels 116 = .ok (.dup, 1) := by decide +kernel
theorem dX3_closeLevels_117 : decode cX3_closeLevels 117 = .ok (.getfield 37, 3) := by decide +kernel
theorem dX3_closeLevels_120 : decode cX3_closeLevels 120 = .ok (.iconst 1, 1) := by decide +kernel
theorem dX3_closeLevels_121 : decode cX3_closeLevels 121 = .ok (.isub, 1) := by decide +kernel
theorem dX3_closeLevels_122 : decode cX3_closeLevels 122 = .ok (.putfield 37, 3) := by decide +kernel
theorem dX3_closeLevels_125 : decode cX3_closeLevels 125 = .ok (.aload_n 0, 1) := by decide +kernel
theorem dX3_closeLevels_126 : decode cX3_closeLevels 126 = .ok (.getfield 9, 3) := by decide +kernel
theorem dX3_closeLevels_129 : decode cX3_closeLevels 129 = .ok (.invokevirtual 78, 3) := by decide +kernel
theorem dX3_closeLevels_132 : decode cX3_closeLevels 132 = .ok (.iinc 1 1, 3) := by decide +kernel
theorem dX3_closeLevels_135 : decode cX3_closeLevels 135 = .ok (.goto (-133), 3) := by decide +kernel
theorem dX3_closeLevels_138 : decode cX3_closeLevels 138 = .ok (.return_, 1) := by decide +kernel
def fX3_closeLevels_b132 (rec2 : Nat → Int32 → JM → JO (Unit)) (a : Nat) (x1 : Int32) (μ : JM) : JO (Unit) := rec2 a (x1 + (1 : Int32)) μ
set_option maxHeartbeats 4000000 in
set_option maxRecDepth 100000 in
theorem gX3_closeLevels_b132 {b : Nat} {Θ : JE} {RC RS : Nat} {r : Unit} {ν : JM} (X : jX b Θ RX3 cX3_closeLevels 2 none 1 22 RC RS) {rec2 : Nat → Int32 → JM → JO (Unit)} (hrec2 : ∀ (a : Nat) (x1 : Int32) (μ : JM) (c m k n : Nat), rec2 a x1 μ = some (r, ν, c, m) → k + c = RC → n + m = RS → WA b Θ 2 (jE b Θ (none) ν RC RS) μ k n 2 [(0, va_rf (some a)), (1, .int x1)] []) (a : Nat) (x1 : Int32) (μ : JM) (c m k n : Nat) (hf : fX3_closeLevels_b132 rec2 a x1 μ = some (r, ν, c, m)) (hk : k + c = RC) (hn : n + m = RS) : WA b Θ 2 (jE b Θ (none) ν RC RS) μ k n 132 [(0, va_rf (some a)), (1, .int x1)] [] := by
  rw [fX3_closeLevels_b132] at hf
  refine wa_iinc (v := (x1 + (1 : Int32))) (L2 := [(1, .int (x1 + (1 : Int32))), (0, va_rf (some a))]) X 1 dX3_closeLevels_132 rfl rfl (by decide) (by first | rfl | simp [va_rf_cat, cat_i, cat_l]) ?_
  refine wa_goto (tgt := 2) X dX3_closeLevels_135 (by decide) ?_
  refine wa_sub (L2 := [(0, va_rf (some a)), (1, .int (x1 + (1 : Int32)))]) [1, 0] rfl ?_
  exact hrec2 a (x1 + (1 : Int32)) μ _ _ _ _ hf (by omega) (by omega)
def fX3_closeLevels_b2 : Nat → Nat → Int32 → JM → JO (Unit)
  | 0, _, _, _ => none
  | fu + 1, a, x1, μ => if (10 : Int32) < x1 then (some ((), μ, 0, 0)) else (jck ((jT μ a).1 == 4) <| jde (jP μ a 4) fun q3 => jck ((jT μ q3).1 == 103) <| jck (jin (jI μ a 5) (jT μ q3).2) <| if (jI μ q3 ((jI μ a 5)).toNatClampNeg) = 0 then (jde (jP μ a 3) fun q8 => jck ((jT μ q8).1 == 104) <| jck (jin (jI μ a 5) (jT μ q8).2) <| jde (jP μ q8 ((jI μ a 5)).toNatClampNeg) fun q12 => jck ((jT μ q12).1 == 2) <| jcl (fX1_and q12 (jP μ a 7) μ) fun u15 μ16 => jck ((jT μ16 a).1 == 4) <| if (jI μ16 a 5) = 0 then (some ((), μ16, 0, 0)) else (jde (jP μ16 a 0) fun q26 => jck ((jT μ16 q26).1 == 8) <| jcl (fX7_token q26 μ16) fun r29 μ30 => if (lg_cmp r29 (-42 : Int64)) = 0 then (jck ((jT μ30 a).1 == 4) <| jde (jP μ30 a 2) fun q40 => jck ((jT μ30 q40).1 == 104) <| jck (jin (jI μ30 a 5) (jT μ30 q40).2) <| jde (jP μ30 a 3) fun q44 => jck ((jT μ30 q44).1 == 104) <| jck (jin (jI μ30 a 5) (jT μ30 q44).2) <| jde (jP μ30 q40 ((jI μ30 a 5)).toNatClampNeg) fun q48 => jck ((jT μ30 q48).1 == 2) <| jcl (fX1_or q48 (jP μ30 q44 ((jI μ30 a 5)).toNatClampNeg) μ30) fun u51 μ52 => jck ((jT μ52 a).1 == 4) <| jde (jP μ52 a 2) fun q61 => jck ((jT μ52 q61).1 == 104) <| jck (jin (jI μ52 a 5) (jT μ52 q61).2) <| jde (jP μ52 a 7) fun q65 => jck ((jT μ52 q65).1 == 2) <| jcl (fX1_copy q65 (jP μ52 q61 ((jI μ52 a 5)).toNatClampNeg) μ52) fun u68 μ69 => jck ((jT μ69 a).1 == 4) <| jlt (jsI μ69 a 5 ((jI μ69 a 5) - (1 : Int32))) fun μ78 => jde (jP μ78 a 0) fun q81 => jck ((jT μ69 q81).1 == 8) <| jcl (fX7_step q81 μ78) fun u84 μ85 => fX3_closeLevels_b132 (fX3_closeLevels_b2 fu) a x1 μ85) else (some ((), μ30, 0, 0)))) else (jde (jP μ a 7) fun q93 => jck ((jT μ q93).1 == 2) <| jcl (fX1_flip q93 μ) fun u96 μ97 => jck ((jT μ97 a).1 == 4) <| jlt (jsI μ97 a 5 ((jI μ97 a 5) - (1 : Int32))) fun μ106 => fX3_closeLevels_b132 (fX3_closeLevels_b2 fu) a x1 μ106))
set_option maxHeartbeats 4000000 in
set_option maxRecDepth 100000 in
theorem gX3_closeLevels_b2 {b : Nat} {Θ : JE} {RC RS : Nat} {r : Unit} {ν : JM} (X : jX b Θ RX3 cX3_closeLevels 2 none 1 22 RC RS) : ∀ (fu : Nat) (a : Nat) (x1 : Int32) (μ : JM) (c m k n : Nat), fX3_closeLevels_b2 fu a x1 μ = some (r, ν, c, m) → k + c = RC → n + m = RS → WA b Θ 2 (jE b Θ (none) ν RC RS) μ k n 2 [(0, va_rf (some a)), (1, .int x1)] [] := by
  intro fu
  induction fu with
  | zero => intro a x1 μ c m k n hf; cases hf
  | succ fu ih =>
    intro a x1 μ c m k n hf hk hn
    rw [fX3_closeLevels_b2] at hf
    refine wa_iload_n X 1 dX3_closeLevels_2 rfl ?_
    refine wa_bipush (v := (10 : Int32)) X dX3_closeLevels_3 (by decide) ?_
    refine wa_icgt (tgt := 138) X dX3_closeLevels_5 (by decide) (fun h1 => ?_) (fun h1 => ?_)
    · rw [if_pos h1] at hf
      obtain ⟨rfl, rfl, rfl, rfl⟩ := jret hf
      exact wa_vret X dX3_closeLevels_138 (by omega) (by omega)
    · rw [if_neg h1] at hf
      refine wa_aload_n X 0 dX3_closeLevels_8 rfl ?_
      obtain ⟨h2, hf⟩ := jckT hf
      refine wa_getP X dX3_closeLevels_9 lfX3_29 rfl h2 rfl ?_
      refine wa_aload_n X 0 dX3_closeLevels_12 rfl ?_
      refine wa_getI X dX3_closeLevels_13 lfX3_37 rfl h2 rfl ?_
      obtain ⟨q3, h4, hf⟩ := jde_some hf
      obtain ⟨h5, hf⟩ := jckT hf
      obtain ⟨h6, hf⟩ := jck_some hf
      refine wa_rzald X dX3_closeLevels_16 h4 h5 h6 ?_
      refine wa_ifeq (tgt := 40) X dX3_closeLevels_17 (by decide) (fun h7 => ?_) (fun h7 => ?_)
      · rw [if_pos h7] at hf
        refine wa_aload_n X 0 dX3_closeLevels_40 rfl ?_
        refine wa_getP X dX3_closeLevels_41 lfX3_25 rfl h2 rfl ?_
        refine wa_aload_n X 0 dX3_closeLevels_44 rfl ?_
        refine wa_getI X dX3_closeLevels_45 lfX3_37 rfl h2 rfl ?_
        obtain ⟨q8, h9, hf⟩ := jde_some hf
        obtain ⟨h10, hf⟩ := jckT hf
        obtain ⟨h11, hf⟩ := jck_some hf
        refine wa_raald (t := 104) X dX3_closeLevels_48 h9 h10 (by decide) rfl rfl h11 ?_
        refine wa_aload_n X 0 dX3_closeLevels_49 rfl ?_
        refine wa_getP X dX3_closeLevels_50 lfX3_33 rfl h2 rfl ?_
        obtain ⟨q12, h13, hf⟩ := jde_some hf
        obtain ⟨h14, hf⟩ := jckT hf
        obtain ⟨u15, μ16, c17, m18, c19, m20, e21, hf, h22, h23⟩ := jcl_some hf
        refine wa_rcallV (st2 := []) X dX3_closeLevels_53 lmX3_123 lMX1_and h13 h14 (mX1_and e21) rfl rfl rfl (va_cats (Nat.le_of_ble_eq_true rfl)) (by decide) (by omega) (by omega) ?_
        refine wa_aload_n X 0 dX3_closeLevels_56 rfl ?_
        obtain ⟨h24, hf⟩ := jckT hf
        refine wa_getI X dX3_closeLevels_57 lfX3_37 rfl h24 rfl ?_
        refine wa_ifeq (tgt := 77) X dX3_closeLevels_60 (by decide) (fun h25 => ?_) (fun h25 => ?_)
        · rw [if_pos h25] at hf
          obtain ⟨rfl, rfl, rfl, rfl⟩ := jret hf
          exact wa_vret X dX3_closeLevels_77 (by omega) (by omega)
        · rw [if_neg h25] at hf
          refine wa_aload_n X 0 dX3_closeLevels_63 rfl ?_
          refine wa_getP X dX3_closeLevels_64 lfX3_9 rfl h24 rfl ?_
          obtain ⟨q26, h27, hf⟩ := jde_some hf
          obtain ⟨h28, hf⟩ := jckT hf
          obtain ⟨r29, μ30, c31, m32, c33, m34, e35, hf, h36, h37⟩ := jcl_some hf
          refine wa_rcallV (st2 := [.long r29]) X dX3_closeLevels_67 lmX3_61 lMX7_token h27 h28 (mX7_token e35) rfl rfl rfl (va_cats (Nat.le_of_ble_eq_true rfl)) (by decide) (by omega) (by omega) ?_
          refine wa_ldc2 (v := (-42 : Int64)) X dX3_closeLevels_70 lkX3_126 ?_
          refine wa_lcmp X dX3_closeLevels_73 ?_
          refine wa_ifeq (tgt := 78) X dX3_closeLevels_74 (by decide) (fun h38 => ?_) (fun h38 => ?_)
          · rw [if_pos h38] at hf
            refine wa_aload_n X 0 dX3_closeLevels_78 rfl ?_
            obtain ⟨h39, hf⟩ := jckT hf
            refine wa_getP X dX3_closeLevels_79 lfX3_21 rfl h39 rfl ?_
            refine wa_aload_n X 0 dX3_closeLevels_82 rfl ?_
            refine wa_getI X dX3_closeLevels_83 lfX3_37 rfl h39 rfl ?_
            obtain ⟨q40, h41, hf⟩ := jde_some hf
            obtain ⟨h42, hf⟩ := jckT hf
            obtain ⟨h43, hf⟩ := jck_some hf
            refine wa_raald (t := 104) X dX3_closeLevels_86 h41 h42 (by decide) rfl rfl h43 ?_
            refine wa_aload_n X 0 dX3_closeLevels_87 rfl ?_
            refine wa_getP X dX3_closeLevels_88 lfX3_25 rfl h39 rfl ?_
            refine wa_aload_n X 0 dX3_closeLevels_91 rfl ?_
            refine wa_getI X dX3_closeLevels_92 lfX3_37 rfl h39 rfl ?_
            obtain ⟨q44, h45, hf⟩ := jde_some hf
            obtain ⟨h46, hf⟩ := jckT hf
            obtain ⟨h47, hf⟩ := jck_some hf
            refine wa_raald (t := 104) X dX3_closeLevels_95 h45 h46 (by decide) rfl rfl h47 ?_
            obtain ⟨q48, h49, hf⟩ := jde_some hf
            obtain ⟨h50, hf⟩ := jckT hf
            obtain ⟨u51, μ52, c53, m54, c55, m56, e57, hf, h58, h59⟩ := jcl_some hf
            refine wa_rcallV (st2 := []) X dX3_closeLevels_96 lmX3_74 lMX1_or h49 h50 (mX1_or e57) rfl rfl rfl (va_cats (Nat.le_of_ble_eq_true rfl)) (by decide) (by omega) (by omega) ?_
            refine wa_aload_n X 0 dX3_closeLevels_99 rfl ?_
            obtain ⟨h60, hf⟩ := jckT hf
            refine wa_getP X dX3_closeLevels_100 lfX3_33 rfl h60 rfl ?_
            refine wa_aload_n X 0 dX3_closeLevels_103 rfl ?_
            refine wa_getP X dX3_closeLevels_104 lfX3_21 rfl h60 rfl ?_
            refine wa_aload_n X 0 dX3_closeLevels_107 rfl ?_
            refine wa_getI X dX3_closeLevels_108 lfX3_37 rfl h60 rfl ?_
            obtain ⟨q61, h62, hf⟩ := jde_some hf
            obtain ⟨h63, hf⟩ := jckT hf
            obtain ⟨h64, hf⟩ := jck_some hf
            refine wa_raald (t := 104) X dX3_closeLevels_111 h62 h63 (by decide) rfl rfl h64 ?_
            obtain ⟨q65, h66, hf⟩ := jde_some hf
            obtain ⟨h67, hf⟩ := jckT hf
            obtain ⟨u68, μ69, c70, m71, c72, m73, e74, hf, h75, h76⟩ := jcl_some hf
            refine wa_rcallV (st2 := []) X dX3_closeLevels_112 lmX3_117 lMX1_copy h66 h67 (mX1_copy e74) rfl rfl rfl (va_cats (Nat.le_of_ble_eq_true rfl)) (by decide) (by omega) (by omega) ?_
            refine wa_aload_n X 0 dX3_closeLevels_115 rfl ?_
            refine wa_dup X dX3_closeLevels_116 (va_rf_cat _) ?_
            obtain ⟨h77, hf⟩ := jckT hf
            refine wa_getI X dX3_closeLevels_117 lfX3_37 rfl h77 rfl ?_
            refine wa_iconst (v := (1 : Int32)) X dX3_closeLevels_120 (by decide) ?_
            refine wa_isub X dX3_closeLevels_121 ?_
            obtain ⟨μ78, hm79, hf⟩ := jlt_e hf
            have e80 : jT μ78 = jT μ69 := by rw [hm79]; rfl
            refine wa_rputI (ν := μ78) X dX3_closeLevels_122 lfX3_37 rfl h77 rfl rfl hm79 ?_
            refine wa_aload_n X 0 dX3_closeLevels_125 rfl ?_
            refine wa_getP X dX3_closeLevels_126 lfX3_9 rfl (by rw [e80]; exact h77) rfl ?_
            obtain ⟨q81, h82, hf⟩ := jde_some hf
            obtain ⟨h83, hf⟩ := jckT hf
            obtain ⟨u84, μ85, c86, m87, c88, m89, e90, hf, h91, h92⟩ := jcl_some hf
            refine wa_rcallV (st2 := []) X dX3_closeLevels_129 lmX3_78 lMX7_step h82 (by rw [e80]; exact h83) (mX7_step e90) rfl rfl rfl (va_cats (Nat.le_of_ble_eq_true rfl)) (by decide) (by omega) (by omega) ?_
            refine wa_sub (L2 := [(0, va_rf (some a)), (1, .int x1)]) [0, 1] rfl ?_
            exact gX3_closeLevels_b132 X ih a x1 μ85 _ _ _ _ hf (by omega) (by omega)
          · rw [if_neg h38] at hf
            obtain ⟨rfl, rfl, rfl, rfl⟩ := jret hf
            exact wa_vret X dX3_closeLevels_77 (by omega) (by omega)
      · rw [if_neg h7] at hf
        refine wa_aload_n X 0 dX3_closeLevels_20 rfl ?_
        refine wa_getP X dX3_closeLevels_21 lfX3_33 rfl h2 rfl ?_
        obtain ⟨q93, h94, hf⟩ := jde_some hf
        obtain ⟨h95, hf⟩ := jckT hf
        obtain ⟨u96, μ97, c98, m99, c100, m101, e102, hf, h103, h104⟩ := jcl_some hf
        refine wa_rcallV (st2 := []) X dX3_closeLevels_24 lmX3_120 lMX1_flip h94 h95 (mX1_flip e102) rfl rfl rfl (va_cats (Nat.le_of_ble_eq_true rfl)) (by decide) (by omega) (by omega) ?_
        refine wa_aload_n X 0 dX3_closeLevels_27 rfl ?_
        refine wa_dup X dX3_closeLevels_28 (va_rf_cat _) ?_
        obtain ⟨h105, hf⟩ := jckT hf
        refine wa_getI X dX3_closeLevels_29 lfX3_37 rfl h105 rfl ?_
        refine wa_iconst (v := (1 : Int32)) X dX3_closeLevels_32 (by decide) ?_
        refine wa_isub X dX3_closeLevels_33 ?_
        obtain ⟨μ106, hm107, hf⟩ := jlt_e hf
        have e108 : jT μ106 = jT μ97 := by rw [hm107]; rfl
        refine wa_rputI (ν := μ106) X dX3_closeLevels_34 lfX3_37 rfl h105 rfl rfl hm107 ?_
        refine wa_goto (tgt := 132) X dX3_closeLevels_37 (by decide) ?_
        refine wa_sub (L2 := [(0, va_rf (some a)), (1, .int x1)]) [0, 1] rfl ?_
        exact gX3_closeLevels_b132 X ih a x1 μ106 _ _ _ _ hf (by omega) (by omega)
def fX3_closeLevels (a : Nat) (μ : JM) : JO (Unit) := fX3_closeLevels_b2  jfuel a (0 : Int32) μ
set_option maxHeartbeats 4000000 in
set_option maxRecDepth 100000 in
theorem mX3_closeLevels {b : Nat} {a : Nat} {μ : JM} {r : Unit} {ν : JM} {c m : Nat} (hf : fX3_closeLevels a μ = some (r, ν, c, m)) : JMet b yX3_closeLevels cX3_closeLevels 2 none 1 22 [va_rf (some a)] μ (none) ν c m := by
  refine JMet.of (by decide) (lg_sl_le (by simp only [List.map_cons, List.map_nil, List.sum_cons, List.sum_nil, va_rf_cat]; exact Nat.le_of_ble_eq_true rfl)) (fun Θ X hin => ?_)
  refine wa_eq (L2 := [(0, va_rf (some a))]) ?_ rfl (by first | rfl | simp [lv_args, va_rf_cat, cat_i, cat_l]) rfl
  obtain ⟨k, hk0⟩ : ∃ k : Nat, k = 0 := ⟨0, rfl⟩
  obtain ⟨n, hn0⟩ : ∃ n : Nat, n = 0 := ⟨0, rfl⟩
  have hk : k + c = c := by omega
  have hn : n + m = m := by omega
  refine wa_costs hk0.symm hn0.symm ?_
  rw [fX3_closeLevels] at hf
  refine wa_iconst (v := (0 : Int32)) X dX3_closeLevels_0 (by decide) ?_
  refine wa_istore_n (L2 := [(1, .int (0 : Int32)), (0, va_rf (some a))]) X dX3_closeLevels_1 (by decide) (by first | rfl | (show (1, _) :: List.filter (fun q : Nat × Value => !(q.1 == 1) && !(q.1 + 1 == 1 && q.2.category == 2)) _ = _; simp [va_rf_cat, cat_i, cat_l])) ?_
  refine wa_sub (L2 := [(0, va_rf (some a)), (1, .int (0 : Int32))]) [1, 0] rfl ?_
  exact gX3_closeLevels_b2 X jfuel a (0 : Int32) μ _ _ _ _ hf (by omega) (by omega)
theorem dX3_finish_0 : decode cX3_finish 0 = .ok (.aload_n 0, 1) := by decide +kernel
theorem dX3_finish_1 : decode cX3_finish 1 = .ok (.getfield 37, 3) := by decide +kernel
theorem dX3_finish_4 : decode cX3_finish 4 = .ok (.ifCond .le 12, 3) := by decide +kernel
theorem dX3_finish_7 : decode cX3_finish 7 = .ok (.aload_n 0, 1) := by decide +kernel
theorem dX3_finish_8 : decode cX3_finish 8 = .ok (.getfield 9, 3) := by decide +kernel
theorem dX3_finish_11 : decode cX3_finish 11 = .ok (.iconst 0, 1) := by decide +kernel
theorem dX3_finish_12 : decode cX3_finish 12 = .ok (.invokevirtual 81, 3) := by decide +kernel
theorem dX3_finish_15 : decode cX3_finish 15 = .ok (.ireturn, 1) := by decide +kernel
theorem dX3_finish_16 : decode cX3_finish 16 = .ok (.aload_n 0, 1) := by decide +kernel
theorem dX3_finish_17 : decode cX3_finish 17 = .ok (.getfield 21, 3) := by decide +kernel
theorem dX3_finish_20 : decode cX3_finish 20 = .ok (.iconst 0, 1) := by decide +kernel
theorem dX3_finish_21 : decode cX3_finish 21 = .ok (.aaload, 1) := by decide +kernel
theorem dX3_finish_22 : decode cX3_finish 22 = .ok (.aload_n 0, 1) := by decide +kernel
theorem dX3_finish_23 : decode cX3_finish 23 = .ok (.getfield 25, 3) := by decide +kernel
theorem dX3_finish_26 : decode cX3_finish 26 = .ok (.iconst 0, 1) := by decide +kernel
theorem dX3_finish_27 : decode cX3_finish 27 = .ok (.aaload, 1) := by decide +kernel
theorem dX3_finish_28 : decode cX3_finish 28 = .ok (.invokevirtual 74, 3) := by decide +kernel
theorem dX3_finish_31 : decode cX3_finish 31 = .ok (.aload_n 0, 1) := by decide +kernel
theorem dX3_finish_32 : decode cX3_finish 32 = .ok (.getfield 33, 3) := by decide +kernel
theorem dX3_finish_35 : decode cX3_finish 35 = .ok (.aload_n 0, 1) := by decide +kernel
theorem dX3_finish_36 : decode cX3_finish 36 = .ok (.getfield 21, 3) := by decide +kernel
theorem dX3_finish_39 : decode cX3_finish 39 = .ok (.iconst 0, 1) := by decide +kernel
theorem dX3_finish_40 : decode cX3_finish 40 = .ok (.aaload, 1) := by decide +kernel
theorem dX3_finish_41 : decode cX3_finish 41 = .ok (.invokevirtual 117, 3) := by decide +kernel
theorem dX3_finish_44 : decode cX3_finish 44 = .ok (.iconst 1, 1) := by decide +kernel
theorem dX3_finish_45 : decode cX3_finish 45 = .ok (.ireturn, 1) := by decide +kernel
def fX3_finish (a : Nat) (μ : JM) : JO (Int32) := jck ((jT μ a).1 == 4) <| if (jI μ a 5) ≤ 0 then (jde (jP μ a 2) fun q3 => jck ((jT μ q3).1 == 104) <| jck (jin (0 : Int32) (jT μ q3).2) <| jde (jP μ a 3) fun q7 => jck ((jT μ q7).1 == 104) <| jck (jin (0 : Int32) (jT μ q7).2) <| jde (jP μ q3 ((0 : Int32)).toNatClampNeg) fun q11 => jck ((jT μ q11).1 == 2) <| jcl (fX1_or q11 (jP μ q7 ((0 : Int32)).toNatClampNeg) μ) fun u14 μ15 => jck ((jT μ15 a).1 == 4) <| jde (jP μ15 a 2) fun q24 => jck ((jT μ15 q24).1 == 104) <| jck (jin (0 : Int32) (jT μ15 q24).2) <| jde (jP μ15 a 7) fun q28 => jck ((jT μ15 q28).1 == 2) <| jcl (fX1_copy q28 (jP μ15 q24 ((0 : Int32)).toNatClampNeg) μ15) fun u31 μ32 => some ((1 : Int32), μ32, 0, 0)) else (jde (jP μ a 0) fun q40 => jck ((jT μ q40).1 == 8) <| jcl (fX7_fail q40 (0 : Int32) μ) fun r43 μ44 => jck (jbl r43) <| some (r43, μ44, 0, 0))
set_option maxHeartbeats 4000000 in
set_option maxRecDepth 100000 in
theorem mX3_finish {b : Nat} {a : Nat} {μ : JM} {r : Int32} {ν : JM} {c m : Nat} (hf : fX3_finish a μ = some (r, ν, c, m)) : JMet b yX3_finish cX3_finish 1 (some .boolean) 1 22 [va_rf (some a)] μ (some (.int r)) ν c m := by
  refine JMet.of (by decide) (lg_sl_le (by simp only [List.map_cons, List.map_nil, List.sum_cons, List.sum_nil, va_rf_cat]; exact Nat.le_of_ble_eq_true rfl)) (fun Θ X hin => ?_)
  refine wa_eq (L2 := [(0, va_rf (some a))]) ?_ rfl (by first | rfl | simp [lv_args, va_rf_cat, cat_i, cat_l]) rfl
  obtain ⟨k, hk0⟩ : ∃ k : Nat, k = 0 := ⟨0, rfl⟩
  obtain ⟨n, hn0⟩ : ∃ n : Nat, n = 0 := ⟨0, rfl⟩
  have hk : k + c = c := by omega
  have hn : n + m = m := by omega
  refine wa_costs hk0.symm hn0.symm ?_
  rw [fX3_finish] at hf
  refine wa_aload_n X 0 dX3_finish_0 rfl ?_
  obtain ⟨h1, hf⟩ := jckT hf
  refine wa_getI X dX3_finish_1 lfX3_37 rfl h1 rfl ?_
  refine wa_ifle (tgt := 16) X dX3_finish_4 (by decide) (fun h2 => ?_) (fun h2 => ?_)
  · rw [if_pos h2] at hf
    refine wa_aload_n X 0 dX3_finish_16 rfl ?_
    refine wa_getP X dX3_finish_17 lfX3_21 rfl h1 rfl ?_
    refine wa_iconst (v := (0 : Int32)) X dX3_finish_20 (by decide) ?_
    obtain ⟨q3, h4, hf⟩ := jde_some hf
    obtain ⟨h5, hf⟩ := jckT hf
    obtain ⟨h6, hf⟩ := jck_some hf
    refine wa_raald (t := 104) X dX3_finish_21 h4 h5 (by decide) rfl rfl h6 ?_
    refine wa_aload_n X 0 dX3_finish_22 rfl ?_
    refine wa_getP X dX3_finish_23 lfX3_25 rfl h1 rfl ?_
    refine wa_iconst (v := (0 : Int32)) X dX3_finish_26 (by decide) ?_
    obtain ⟨q7, h8, hf⟩ := jde_some hf
    obtain ⟨h9, hf⟩ := jckT hf
    obtain ⟨h10, hf⟩ := jck_some hf
    refine wa_raald (t := 104) X dX3_finish_27 h8 h9 (by decide) rfl rfl h10 ?_
    obtain ⟨q11, h12, hf⟩ := jde_some hf
    obtain ⟨h13, hf⟩ := jckT hf
    obtain ⟨u14, μ15, c16, m17, c18, m19, e20, hf, h21, h22⟩ := jcl_some hf
    refine wa_rcallV (st2 := []) X dX3_finish_28 lmX3_74 lMX1_or h12 h13 (mX1_or e20) rfl rfl rfl (va_cats (Nat.le_of_ble_eq_true rfl)) (by decide) (by omega) (by omega) ?_
    refine wa_aload_n X 0 dX3_finish_31 rfl ?_
    obtain ⟨h23, hf⟩ := jckT hf
    refine wa_getP X dX3_finish_32 lfX3_33 rfl h23 rfl ?_
    refine wa_aload_n X 0 dX3_finish_35 rfl ?_
    refine wa_getP X dX3_finish_36 lfX3_21 rfl h23 rfl ?_
    refine wa_iconst (v := (0 : Int32)) X dX3_finish_39 (by decide) ?_
    obtain ⟨q24, h25, hf⟩ := jde_some hf
    obtain ⟨h26, hf⟩ := jckT hf
    obtain ⟨h27, hf⟩ := jck_some hf
    refine wa_raald (t := 104) X dX3_finish_40 h25 h26 (by decide) rfl rfl h27 ?_
    obtain ⟨q28, h29, hf⟩ := jde_some hf
    obtain ⟨h30, hf⟩ := jckT hf
    obtain ⟨u31, μ32, c33, m34, c35, m36, e37, hf, h38, h39⟩ := jcl_some hf
    refine wa_rcallV (st2 := []) X dX3_finish_41 lmX3_117 lMX1_copy h29 h30 (mX1_copy e37) rfl rfl rfl (va_cats (Nat.le_of_ble_eq_true rfl)) (by decide) (by omega) (by omega) ?_
    refine wa_iconst (v := (1 : Int32)) X dX3_finish_44 (by decide) ?_
    obtain ⟨rfl, rfl, rfl, rfl⟩ := jret hf
    exact wa_iret X dX3_finish_45 rfl (by omega) (by omega)
  · rw [if_neg h2] at hf
    refine wa_aload_n X 0 dX3_finish_7 rfl ?_
    refine wa_getP X dX3_finish_8 lfX3_9 rfl h1 rfl ?_
    refine wa_iconst (v := (0 : Int32)) X dX3_finish_11 (by decide) ?_
    obtain ⟨q40, h41, hf⟩ := jde_some hf
    obtain ⟨h42, hf⟩ := jckT hf
    obtain ⟨r43, μ44, c45, m46, c47, m48, e49, hf, h50, h51⟩ := jcl_some hf
    refine wa_rcallV (st2 := [.int r43]) X dX3_finish_12 lmX3_81 lMX7_fail h41 h42 (mX7_fail e49) rfl rfl rfl (va_cats (Nat.le_of_ble_eq_true rfl)) (by decide) (by omega) (by omega) ?_
    obtain ⟨h52, hf⟩ := jck_some hf
    obtain ⟨rfl, rfl, rfl, rfl⟩ := jret hf
    exact wa_iret X dX3_finish_15 (jbl_nar h52) (by omega) (by omega)
theorem dX3_read_0 : decode cX3_read 0 = .ok (.aload_n 0, 1) := by decide +kernel
theorem dX3_read_1 : decode cX3_read 1 = .ok (.iconst 0, 1) := by decide +kernel
theorem dX3_read_2 : decode cX3_read 2 = .ok (.putfield 37, 3) := by decide +kernel
theorem dX3_read_5 : decode cX3_read 5 = .ok (.aload_n 0, 1) := by decide +kernel
theorem dX3_read_6 : decode cX3_read 6 = .ok (.iconst 0, 1) := by decide +kernel
theorem dX3_read_7 : decode cX3_read 7 = .ok (.putfield 41, 3) := by decide +kernel
theorem dX3_read_10 : decode cX3_read 10 = .ok (.aload_n 0, 1) := by decide +kernel
theorem dX3_read_11 : decode cX3_read 11 = .ok (.getfield 21, 3) := by decide +kernel
theorem dX3_read_14 : decode cX3_read 14 = .ok (.iconst 0, 1) := by decide +kernel
theorem dX3_read_15 : decode cX3_read 15 = .ok (.aaload, 1) := by decide +kernel
theorem dX3_read_16 : decode cX3_read 16 = .ok (.invokevirtual 44, 3) := by decide +kernel
theorem dX3_read_19 : decode cX3_read 19 = .ok (.aload_n 0, 1) := by decide +kernel
theorem dX3_read_20 : decode cX3_read 20 = .ok (.getfield 25, 3) := by decide +kernel
theorem dX3_read_23 : decode cX3_read 23 = .ok (.iconst 0, 1) := by decide +kernel
theorem dX3_read_24 : decode cX3_read 24 = .ok (.aaload, 1) := by decide +kernel
theorem dX3_read_25 : decode cX3_read 25 = .ok (.invokevirtual 47, 3) := by decide +kernel
theorem dX3_read_28 : decode cX3_read 28 = .ok (.iconst 0, 1) := by decide +kernel
theorem dX3_read_29 : decode cX3_read 29 = .ok (.istore_n 3, 1) := by decide +kernel
theorem dX3_read_30 : decode cX3_read 30 = .ok (.iload_n 3, 1) := by decide +kernel
theorem dX3_read_31 : decode cX3_read 31 = .ok (.sipush 900, 3) := by decide +kernel
theorem dX3_read_34 : decode cX3_read 34 = .ok (.if_icmp .gt 112, 3) := by decide +kernel
theorem dX3_read_37 : decode cX3_read 37 = .ok (.aload_n 0, 1) := by decide +kernel
theorem dX3_read_38 : decode cX3_read 38 = .ok (.invokevirtual 50, 3) := by decide +kernel
theorem dX3_read_41 : decode cX3_read 41 = .ok (.ifCond .eq 12, 3) := by decide +kernel
theorem dX3_read_44 : decode cX3_read 44 = .ok (.aload_n 0, 1) := by decide +kernel
theorem dX3_read_45 : decode cX3_read 45 = .ok (.aload_n 1, 1) := by decide +kernel
theorem dX3_read_46 : decode cX3_read 46 = .ok (.iload_n 2, 1) := by decide +kernel
theorem dX3_read_47 : decode cX3_read 47 = .ok (.invokevirtual 54, 3) := by decide +kernel
theorem dX3_read_50 : decode cX3_read 50 = .ok (.ifCond .ne 5, 3) := by decide +kernel
theorem dX3_read_53 : decode cX3_read 53 = .ok (.iconst 0, 1) := by decide +kernel
theorem dX3_read_54 : decode cX3_read 54 = .ok (.ireturn, 1) := by decide +kernel
theorem dX3_read_55 : decode cX3_read 55 = .ok (.aload_n 0, 1) := by decide +kernel
theorem dX3_read_56 : decode cX3_read 56 = .ok (.invokevirtual 58, 3) := by decide +kernel
theorem dX3_read_59 : decode cX3_read 59 = .ok (.aload_n 0, 1) := by decide +kernel
theorem dX3_read_60 : decode cX3_read 60 = .ok (.getfield 9, 3) := by decide +kernel
theorem dX3_read_63 : decode cX3_read 63 = .ok (.invokevirtual 61, 3) := by decide +kernel
theorem dX3_read_66 : decode cX3_read 66 = .ok (.lstore 4, 2) := by decide +kernel
theorem dX3_read_68 : decode cX3_read 68 = .ok (.lload 4, 2) := by decide +kernel
theorem dX3_read_70 : decode cX3_read 70 = .ok (.ldc2_w 67, 3) := by decide +kernel
theorem dX3_read_73 : decode cX3_read 73 = .ok (.lcmp, 1) := by decide +kernel
theorem dX3_read_74 : decode cX3_read 74 = .ok (.ifCond .eq 17, 3) := by decide +kernel
theorem dX3_read_77 : decode cX3_read 77 = .ok (.lload 4, 2) := by decide +kernel
theorem dX3_read_79 : decode cX3_read 79 = .ok (.ldc2_w 69, 3) := by decide +kernel
theorem dX3_read_82 : decode cX3_read 82 = .ok (.lcmp, 1) := by decide +kernel
theorem dX3_read_83 : decode cX3_read 83 = .ok (.ifCond .eq 8, 3) := by decide +kernel
theorem dX3_read_86 : decode cX3_read 86 = .ok (.aload_n 0, 1) := by decide +kernel
theorem dX3_read_87 : decode cX3_read 87 = .ok (.invokevirtual 71, 3) := by decide +kernel
theorem dX3_read_90 : decode cX3_read 90 = .ok (.ireturn, 1) := by decide +kernel
theorem dX3_read_91 : decode cX3_read 91 = .ok (.lload 4, 2) := by decide +kernel
theorem dX3_read_93 : decode cX3_read 93 = .ok (.ldc2_w 69, 3) := by decide +kernel
theorem dX3_read_96 : decode cX3_read 96 = .ok (.lcmp, 1) := by decide +kernel
theorem dX3_read_97 : decode cX3_read 97 = .ok (.ifCond .ne 36, 3) := by decide +kernel
theorem dX3_read_100 : decode cX3_read 100 = .ok (.aload_n 0, 1) := by decide +kernel
theorem dX3_read_101 : decode cX3_read 101 = .ok (.getfield 21, 3) := by decide +kernel
theorem dX3_read_104 : decode cX3_read 104 = .ok (.aload_n 0, 1) := by decide +kernel
theorem dX3_read_105 : decode cX3_read 105 = .ok (.getfield 37, 3) := by decide +kernel
theorem dX3_read_108 : decode cX3_read 108 = .ok (.aaload, 1) := by decide +kernel
theorem dX3_read_109 : decode cX3_read 109 = .ok (.aload_n 0, 1) := by decide +kernel
theorem dX3_read_110 : decode cX3_read 110 = .ok (.getfield 25, 3) := by decide +kernel
theorem dX3_read_113 : decode cX3_read 113 = .ok (.aload_n 0, 1) := by decide +kernel
theorem dX3_read_114 : decode cX3_read 114 = .ok (.getfield 37, 3) := by decide +kernel
theorem dX3_read_117 : decode cX3_read 117 = .ok (.aaload, 1) := by decide +kernel
theorem dX3_read_118 : decode cX3_read 118 = .ok (.invokevirtual 74, 3) := by decide +kernel
theorem dX3_read_121 : decode cX3_read 121 = .ok (.aload_n 0, 1) := by decide +kernel
theorem dX3_read_122 : decode cX3_read 122 = .ok (.getfield 25, 3) := by decide +kernel
theorem dX3_read_125 : decode cX3_read 125 = .ok (.aload_n 0, 1) := by decide +kernel
theorem dX3_read_126 : decode cX3_read 126 = .ok (.getfield 37, 3) := by decide +kernel
theorem dX3_read_129 : decode cX3_read 129 = .ok (.aaload, 1) := by decide +kernel
theorem dX3_read_130 : decode cX3_read 130 = .ok (.invokevirtual 47, 3) := by decide +kernel
theorem dX3_read_133 : decode cX3_read 133 = .ok (.aload_n 0, 1) := by decide +kernel
theorem dX3_read_134 : decode cX3_read 134 = .ok (.getfield 9, 3) := by decide +kernel
theorem dX3_read_137 : decode cX3_read 137 = .ok (.invokevirtual 78, 3) := by decide +kernel
theorem dX3_read_140 : decode cX3_read 140 = .ok (.iinc 3 1, 3) := by decide +kernel
theorem dX3_read_143 : decode cX3_read 143 = .ok (.goto (-113), 3) := by decide +kernel
theorem dX3_read_146 : decode cX3_read 146 = .ok (.aload_n 0, 1) := by decide +kernel
theorem dX3_read_147 : decode cX3_read 147 = .ok (.getfield 9, 3) := by decide +kernel
theorem dX3_read_150 : decode cX3_read 150 = .ok (.iconst 0, 1) := by decide +kernel
theorem dX3_read_151 : decode cX3_read 151 = .ok (.invokevirtual 81, 3) := by decide +kernel
theorem dX3_read_154 : decode cX3_read 154 = .ok (.ireturn, 1) := by decide +kernel
def fX3_read_b133 (rec30 : Nat → Option Nat → Int32 → Int32 → JM → JO (Int32)) (a : Nat) (p1 : Option Nat) (x2 : Int32) (x3 : Int32) (μ : JM) : JO (Int32) := jck ((jT μ a).1 == 4) <| jde (jP μ a 0) fun q154 => jck ((jT μ q154).1 == 8) <| jcl (fX7_step q154 μ) fun u157 μ158 => rec30 a p1 x2 (x3 + (1 : Int32)) μ158
set_option maxHeartbeats 4000000 in
set_option maxRecDepth 100000 in
theorem gX3_read_b133 {b : Nat} {Θ : JE} {RC RS : Nat} {r : Int32} {ν : JM} (X : jX b Θ RX3 cX3_read 6 (some .boolean) 2 50 RC RS) {rec30 : Nat → Option Nat → Int32 → Int32 → JM → JO (Int32)} (hrec30 : ∀ (a : Nat) (p1 : Option Nat) (x2 : Int32) (x3 : Int32) (μ : JM) (c m k n : Nat), rec30 a p1 x2 x3 μ = some (r, ν, c, m) → k + c = RC → n + m = RS → WA b Θ 6 (jE b Θ (some (.int r)) ν RC RS) μ k n 30 [(0, va_rf (some a)), (1, va_rf p1), (2, .int x2), (3, .int x3)] []) (a : Nat) (p1 : Option Nat) (x2 : Int32) (x3 : Int32) (μ : JM) (c m k n : Nat) (hf : fX3_read_b133 rec30 a p1 x2 x3 μ = some (r, ν, c, m)) (hk : k + c = RC) (hn : n + m = RS) : WA b Θ 6 (jE b Θ (some (.int r)) ν RC RS) μ k n 133 [(0, va_rf (some a)), (1, va_rf p1), (2, .int x2), (3, .int x3)] [] := by
  rw [fX3_read_b133] at hf
  refine wa_aload_n X 0 dX3_read_133 rfl ?_
  obtain ⟨h153, hf⟩ := jckT hf
  refine wa_getP X dX3_read_134 lfX3_9 rfl h153 rfl ?_
  obtain ⟨q154, h155, hf⟩ := jde_some hf
  obtain ⟨h156, hf⟩ := jckT hf
  obtain ⟨u157, μ158, c159, m160, c161, m162, e163, hf, h164, h165⟩ := jcl_some hf
  refine wa_rcallV (st2 := []) X dX3_read_137 lmX3_78 lMX7_step h155 h156 (mX7_step e163) rfl rfl rfl (va_cats (Nat.le_of_ble_eq_true rfl)) (by decide) (by omega) (by omega) ?_
  refine wa_iinc (v := (x3 + (1 : Int32))) (L2 := [(3, .int (x3 + (1 : Int32))), (0, va_rf (some a)), (1, va_rf p1), (2, .int x2)]) X 3 dX3_read_140 rfl rfl (by decide) (by first | rfl | simp [va_rf_cat, cat_i, cat_l]) ?_
  refine wa_goto (tgt := 30) X dX3_read_143 (by decide) ?_
  refine wa_sub (L2 := [(0, va_rf (some a)), (1, va_rf p1), (2, .int x2), (3, .int (x3 + (1 : Int32)))]) [1, 2, 3, 0] rfl ?_
  exact hrec30 a p1 x2 (x3 + (1 : Int32)) μ158 _ _ _ _ hf (by omega) (by omega)
def fX3_read_b91 (rec30 : Nat → Option Nat → Int32 → Int32 → JM → JO (Int32)) (a : Nat) (p1 : Option Nat) (x2 : Int32) (x3 : Int32) (y4 : Int64) (μ : JM) : JO (Int32) := if (lg_cmp y4 (-3013 : Int64)) = 0 then (jck ((jT μ a).1 == 4) <| jde (jP μ a 2) fun q116 => jck ((jT μ q116).1 == 104) <| jck (jin (jI μ a 5) (jT μ q116).2) <| jde (jP μ a 3) fun q120 => jck ((jT μ q120).1 == 104) <| jck (jin (jI μ a 5) (jT μ q120).2) <| jde (jP μ q116 ((jI μ a 5)).toNatClampNeg) fun q124 => jck ((jT μ q124).1 == 2) <| jcl (fX1_or q124 (jP μ q120 ((jI μ a 5)).toNatClampNeg) μ) fun u127 μ128 => jck ((jT μ128 a).1 == 4) <| jde (jP μ128 a 3) fun q137 => jck ((jT μ128 q137).1 == 104) <| jck (jin (jI μ128 a 5) (jT μ128 q137).2) <| jde (jP μ128 q137 ((jI μ128 a 5)).toNatClampNeg) fun q141 => jck ((jT μ128 q141).1 == 2) <| jcl (fX1_fill q141 μ128) fun u144 μ145 => fX3_read_b133 rec30 a p1 x2 x3 μ145) else (fX3_read_b133 rec30 a p1 x2 x3 μ)
set_option maxHeartbeats 4000000 in
set_option maxRecDepth 100000 in
theorem gX3_read_b91 {b : Nat} {Θ : JE} {RC RS : Nat} {r : Int32} {ν : JM} (X : jX b Θ RX3 cX3_read 6 (some .boolean) 2 50 RC RS) {rec30 : Nat → Option Nat → Int32 → Int32 → JM → JO (Int32)} (hrec30 : ∀ (a : Nat) (p1 : Option Nat) (x2 : Int32) (x3 : Int32) (μ : JM) (c m k n : Nat), rec30 a p1 x2 x3 μ = some (r, ν, c, m) → k + c = RC → n + m = RS → WA b Θ 6 (jE b Θ (some (.int r)) ν RC RS) μ k n 30 [(0, va_rf (some a)), (1, va_rf p1), (2, .int x2), (3, .int x3)] []) (a : Nat) (p1 : Option Nat) (x2 : Int32) (x3 : Int32) (y4 : Int64) (μ : JM) (c m k n : Nat) (hf : fX3_read_b91 rec30 a p1 x2 x3 y4 μ = some (r, ν, c, m)) (hk : k + c = RC) (hn : n + m = RS) : WA b Θ 6 (jE b Θ (some (.int r)) ν RC RS) μ k n 91 [(0, va_rf (some a)), (1, va_rf p1), (2, .int x2), (3, .int x3), (4, .long y4)] [] := by
  rw [fX3_read_b91] at hf
  refine wa_lload X 4 dX3_read_91 rfl ?_
  refine wa_ldc2 (v := (-3013 : Int64)) X dX3_read_93 lkX3_69 ?_
  refine wa_lcmp X dX3_read_96 ?_
  refine wa_ifne (tgt := 133) X dX3_read_97 (by decide) (fun h114 => ?_) (fun h114 => ?_)
  · rw [if_neg h114] at hf
    refine wa_sub (L2 := [(0, va_rf (some a)), (1, va_rf p1), (2, .int x2), (3, .int x3)]) [0, 1, 2, 3] rfl ?_
    exact gX3_read_b133 X hrec30 a p1 x2 x3 μ _ _ _ _ hf (by omega) (by omega)
  · rw [if_pos h114] at hf
    refine wa_aload_n X 0 dX3_read_100 rfl ?_
    obtain ⟨h115, hf⟩ := jckT hf
    refine wa_getP X dX3_read_101 lfX3_21 rfl h115 rfl ?_
    refine wa_aload_n X 0 dX3_read_104 rfl ?_
    refine wa_getI X dX3_read_105 lfX3_37 rfl h115 rfl ?_
    obtain ⟨q116, h117, hf⟩ := jde_some hf
    obtain ⟨h118, hf⟩ := jckT hf
    obtain ⟨h119, hf⟩ := jck_some hf
    refine wa_raald (t := 104) X dX3_read_108 h117 h118 (by decide) rfl rfl h119 ?_
    refine wa_aload_n X 0 dX3_read_109 rfl ?_
    refine wa_getP X dX3_read_110 lfX3_25 rfl h115 rfl ?_
    refine wa_aload_n X 0 dX3_read_113 rfl ?_
    refine wa_getI X dX3_read_114 lfX3_37 rfl h115 rfl ?_
    obtain ⟨q120, h121, hf⟩ := jde_some hf
    obtain ⟨h122, hf⟩ := jckT hf
    obtain ⟨h123, hf⟩ := jck_some hf
    refine wa_raald (t := 104) X dX3_read_117 h121 h122 (by decide) rfl rfl h123 ?_
    obtain ⟨q124, h125, hf⟩ := jde_some hf
    obtain ⟨h126, hf⟩ := jckT hf
    obtain ⟨u127, μ128, c129, m130, c131, m132, e133, hf, h134, h135⟩ := jcl_some hf
    refine wa_rcallV (st2 := []) X dX3_read_118 lmX3_74 lMX1_or h125 h126 (mX1_or e133) rfl rfl rfl (va_cats (Nat.le_of_ble_eq_true rfl)) (by decide) (by omega) (by omega) ?_
    refine wa_aload_n X 0 dX3_read_121 rfl ?_
    obtain ⟨h136, hf⟩ := jckT hf
    refine wa_getP X dX3_read_122 lfX3_25 rfl h136 rfl ?_
    refine wa_aload_n X 0 dX3_read_125 rfl ?_
    refine wa_getI X dX3_read_126 lfX3_37 rfl h136 rfl ?_
    obtain ⟨q137, h138, hf⟩ := jde_some hf
    obtain ⟨h139, hf⟩ := jckT hf
    obtain ⟨h140, hf⟩ := jck_some hf
    refine wa_raald (t := 104) X dX3_read_129 h138 h139 (by decide) rfl rfl h140 ?_
    obtain ⟨q141, h142, hf⟩ := jde_some hf
    obtain ⟨h143, hf⟩ := jckT hf
    obtain ⟨u144, μ145, c146, m147, c148, m149, e150, hf, h151, h152⟩ := jcl_some hf
    refine wa_rcallV (st2 := []) X dX3_read_130 lmX3_47 lMX1_fill h142 h143 (mX1_fill e150) rfl rfl rfl (va_cats (Nat.le_of_ble_eq_true rfl)) (by decide) (by omega) (by omega) ?_
    refine wa_sub (L2 := [(0, va_rf (some a)), (1, va_rf p1), (2, .int x2), (3, .int x3)]) [0, 1, 2, 3] rfl ?_
    exact gX3_read_b133 X hrec30 a p1 x2 x3 μ145 _ _ _ _ hf (by omega) (by omega)
def fX3_read_b30 : Nat → Nat → Option Nat → Int32 → Int32 → JM → JO (Int32)
  | 0, _, _, _, _, _ => none
  | fu + 1, a, p1, x2, x3, μ => if (900 : Int32) < x3 then (jck ((jT μ a).1 == 4) <| jde (jP μ a 0) fun q43 => jck ((jT μ q43).1 == 8) <| jcl (fX7_fail q43 (0 : Int32) μ) fun r46 μ47 => jck (jbl r46) <| some (r46, μ47, 0, 0)) else (jck ((jT μ a).1 == 4) <| jcl (fX3_readOpenings a μ) fun r57 μ58 => if r57 = 0 then (some ((0 : Int32), μ58, 0, 0)) else (jck ((jT μ58 a).1 == 4) <| jcl (fX3_readOperand a p1 x2 μ58) fun r68 μ69 => if r68 = 0 then (some ((0 : Int32), μ69, 0, 0)) else (jck ((jT μ69 a).1 == 4) <| jcl (fX3_closeLevels a μ69) fun u79 μ80 => jck ((jT μ80 a).1 == 4) <| jde (jP μ80 a 0) fun q89 => jck ((jT μ80 q89).1 == 8) <| jcl (fX7_token q89 μ80) fun r92 μ93 => if (lg_cmp r92 (-3012 : Int64)) = 0 then (fX3_read_b91 (fX3_read_b30 fu) a p1 x2 x3 r92 μ93) else (if (lg_cmp r92 (-3013 : Int64)) = 0 then (fX3_read_b91 (fX3_read_b30 fu) a p1 x2 x3 r92 μ93) else (jck ((jT μ93 a).1 == 4) <| jcl (fX3_finish a μ93) fun r104 μ105 => jck (jbl r104) <| some (r104, μ105, 0, 0))))))
set_option maxHeartbeats 4000000 in
set_option maxRecDepth 100000 in
theorem gX3_read_b30 {b : Nat} {Θ : JE} {RC RS : Nat} {r : Int32} {ν : JM} (X : jX b Θ RX3 cX3_read 6 (some .boolean) 2 50 RC RS) : ∀ (fu : Nat) (a : Nat) (p1 : Option Nat) (x2 : Int32) (x3 : Int32) (μ : JM) (c m k n : Nat), fX3_read_b30 fu a p1 x2 x3 μ = some (r, ν, c, m) → k + c = RC → n + m = RS → WA b Θ 6 (jE b Θ (some (.int r)) ν RC RS) μ k n 30 [(0, va_rf (some a)), (1, va_rf p1), (2, .int x2), (3, .int x3)] [] := by
  intro fu
  induction fu with
  | zero => intro a p1 x2 x3 μ c m k n hf; cases hf
  | succ fu ih =>
    intro a p1 x2 x3 μ c m k n hf hk hn
    rw [fX3_read_b30] at hf
    refine wa_iload_n X 3 dX3_read_30 rfl ?_
    refine wa_sipush (v := (900 : Int32)) X dX3_read_31 (by decide) ?_
    refine wa_icgt (tgt := 146) X dX3_read_34 (by decide) (fun h41 => ?_) (fun h41 => ?_)
    · rw [if_pos h41] at hf
      refine wa_aload_n X 0 dX3_read_146 rfl ?_
      obtain ⟨h42, hf⟩ := jckT hf
      refine wa_getP X dX3_read_147 lfX3_9 rfl h42 rfl ?_
      refine wa_iconst (v := (0 : Int32)) X dX3_read_150 (by decide) ?_
      obtain ⟨q43, h44, hf⟩ := jde_some hf
      obtain ⟨h45, hf⟩ := jckT hf
      obtain ⟨r46, μ47, c48, m49, c50, m51, e52, hf, h53, h54⟩ := jcl_some hf
      refine wa_rcallV (st2 := [.int r46]) X dX3_read_151 lmX3_81 lMX7_fail h44 h45 (mX7_fail e52) rfl rfl rfl (va_cats (Nat.le_of_ble_eq_true rfl)) (by decide) (by omega) (by omega) ?_
      obtain ⟨h55, hf⟩ := jck_some hf
      obtain ⟨rfl, rfl, rfl, rfl⟩ := jret hf
      exact wa_iret X dX3_read_154 (jbl_nar h55) (by omega) (by omega)
    · rw [if_neg h41] at hf
      refine wa_aload_n X 0 dX3_read_37 rfl ?_
      obtain ⟨h56, hf⟩ := jckT hf
      obtain ⟨r57, μ58, c59, m60, c61, m62, e63, hf, h64, h65⟩ := jcl_some hf
      refine wa_rcallV (st2 := [.int r57]) X dX3_read_38 lmX3_50 lMX3_readOpenings rfl h56 (mX3_readOpenings e63) rfl rfl rfl (va_cats (Nat.le_of_ble_eq_true rfl)) (by decide) (by omega) (by omega) ?_
      refine wa_ifeq (tgt := 53) X dX3_read_41 (by decide) (fun h66 => ?_) (fun h66 => ?_)
      · rw [if_pos h66] at hf
        refine wa_iconst (v := (0 : Int32)) X dX3_read_53 (by decide) ?_
        obtain ⟨rfl, rfl, rfl, rfl⟩ := jret hf
        exact wa_iret X dX3_read_54 rfl (by omega) (by omega)
      · rw [if_neg h66] at hf
        refine wa_aload_n X 0 dX3_read_44 rfl ?_
        refine wa_aload_n X 1 dX3_read_45 rfl ?_
        refine wa_iload_n X 2 dX3_read_46 rfl ?_
        obtain ⟨h67, hf⟩ := jckT hf
        obtain ⟨r68, μ69, c70, m71, c72, m73, e74, hf, h75, h76⟩ := jcl_some hf
        refine wa_rcallV (st2 := [.int r68]) X dX3_read_47 lmX3_54 lMX3_readOperand rfl h67 (mX3_readOperand e74) rfl rfl rfl (va_cats (Nat.le_of_ble_eq_true rfl)) (by decide) (by omega) (by omega) ?_
        refine wa_ifne (tgt := 55) X dX3_read_50 (by decide) (fun h77 => ?_) (fun h77 => ?_)
        · rw [if_neg h77] at hf
          refine wa_aload_n X 0 dX3_read_55 rfl ?_
          obtain ⟨h78, hf⟩ := jckT hf
          obtain ⟨u79, μ80, c81, m82, c83, m84, e85, hf, h86, h87⟩ := jcl_some hf
          refine wa_rcallV (st2 := []) X dX3_read_56 lmX3_58 lMX3_closeLevels rfl h78 (mX3_closeLevels e85) rfl rfl rfl (va_cats (Nat.le_of_ble_eq_true rfl)) (by decide) (by omega) (by omega) ?_
          refine wa_aload_n X 0 dX3_read_59 rfl ?_
          obtain ⟨h88, hf⟩ := jckT hf
          refine wa_getP X dX3_read_60 lfX3_9 rfl h88 rfl ?_
          obtain ⟨q89, h90, hf⟩ := jde_some hf
          obtain ⟨h91, hf⟩ := jckT hf
          obtain ⟨r92, μ93, c94, m95, c96, m97, e98, hf, h99, h100⟩ := jcl_some hf
          refine wa_rcallV (st2 := [.long r92]) X dX3_read_63 lmX3_61 lMX7_token h90 h91 (mX7_token e98) rfl rfl rfl (va_cats (Nat.le_of_ble_eq_true rfl)) (by decide) (by omega) (by omega) ?_
          refine wa_lstore (L2 := [(4, .long r92), (0, va_rf (some a)), (1, va_rf p1), (2, .int x2), (3, .int x3)]) X dX3_read_66 (by decide) (by first | rfl | (show (4, _) :: List.filter (fun q : Nat × Value => !(q.1 == 4) && (!(q.1 == 5) && !(q.1 + 1 == 4 && q.2.category == 2))) _ = _; simp [va_rf_cat, cat_i, cat_l])) ?_
          refine wa_lload X 0 dX3_read_68 rfl ?_
          refine wa_ldc2 (v := (-3012 : Int64)) X dX3_read_70 lkX3_67 ?_
          refine wa_lcmp X dX3_read_73 ?_
          refine wa_ifeq (tgt := 91) X dX3_read_74 (by decide) (fun h101 => ?_) (fun h101 => ?_)
          · rw [if_pos h101] at hf
            refine wa_sub (L2 := [(0, va_rf (some a)), (1, va_rf p1), (2, .int x2), (3, .int x3), (4, .long r92)]) [1, 2, 3, 4, 0] rfl ?_
            exact gX3_read_b91 X ih a p1 x2 x3 r92 μ93 _ _ _ _ hf (by omega) (by omega)
          · rw [if_neg h101] at hf
            refine wa_lload X 0 dX3_read_77 rfl ?_
            refine wa_ldc2 (v := (-3013 : Int64)) X dX3_read_79 lkX3_69 ?_
            refine wa_lcmp X dX3_read_82 ?_
            refine wa_ifeq (tgt := 91) X dX3_read_83 (by decide) (fun h102 => ?_) (fun h102 => ?_)
            · rw [if_pos h102] at hf
              refine wa_sub (L2 := [(0, va_rf (some a)), (1, va_rf p1), (2, .int x2), (3, .int x3), (4, .long r92)]) [1, 2, 3, 4, 0] rfl ?_
              exact gX3_read_b91 X ih a p1 x2 x3 r92 μ93 _ _ _ _ hf (by omega) (by omega)
            · rw [if_neg h102] at hf
              refine wa_aload_n X 1 dX3_read_86 rfl ?_
              obtain ⟨h103, hf⟩ := jckT hf
              obtain ⟨r104, μ105, c106, m107, c108, m109, e110, hf, h111, h112⟩ := jcl_some hf
              refine wa_rcallV (st2 := [.int r104]) X dX3_read_87 lmX3_71 lMX3_finish rfl h103 (mX3_finish e110) rfl rfl rfl (va_cats (Nat.le_of_ble_eq_true rfl)) (by decide) (by omega) (by omega) ?_
              obtain ⟨h113, hf⟩ := jck_some hf
              obtain ⟨rfl, rfl, rfl, rfl⟩ := jret hf
              exact wa_iret X dX3_read_90 (jbl_nar h113) (by omega) (by omega)
        · rw [if_pos h77] at hf
          refine wa_iconst (v := (0 : Int32)) X dX3_read_53 (by decide) ?_
          obtain ⟨rfl, rfl, rfl, rfl⟩ := jret hf
          exact wa_iret X dX3_read_54 rfl (by omega) (by omega)
def fX3_read (a : Nat) (p1 : Option Nat) (x2 : Int32) (μ : JM) : JO (Int32) := jck ((jT μ a).1 == 4) <| jlt (jsI μ a 5 (0 : Int32)) fun μ2 => jlt (jsI μ2 a 6 (0 : Int32)) fun μ5 => jde (jP μ5 a 2) fun q8 => jck ((jT μ q8).1 == 104) <| jck (jin (0 : Int32) (jT μ q8).2) <| jde (jP μ5 q8 ((0 : Int32)).toNatClampNeg) fun q12 => jck ((jT μ q12).1 == 2) <| jcl (fX1_clear q12 μ5) fun u15 μ16 => jck ((jT μ16 a).1 == 4) <| jde (jP μ16 a 3) fun q25 => jck ((jT μ16 q25).1 == 104) <| jck (jin (0 : Int32) (jT μ16 q25).2) <| jde (jP μ16 q25 ((0 : Int32)).toNatClampNeg) fun q29 => jck ((jT μ16 q29).1 == 2) <| jcl (fX1_fill q29 μ16) fun u32 μ33 => fX3_read_b30  jfuel a p1 x2 (0 : Int32) μ33
set_option maxHeartbeats 4000000 in
set_option maxRecDepth 100000 in
theorem mX3_read {b : Nat} {a : Nat} {p1 : Option Nat} {x2 : Int32} {μ : JM} {r : Int32} {ν : JM} {c m : Nat} (hf : fX3_read a p1 x2 μ = some (r, ν, c, m)) : JMet b yX3_read cX3_read 6 (some .boolean) 2 50 [va_rf (some a), va_rf p1, .int x2] μ (some (.int r)) ν c m := by
  refine JMet.of (by decide) (lg_sl_le (by simp only [List.map_cons, List.map_nil, List.sum_cons, List.sum_nil, va_rf_cat]; exact Nat.le_of_ble_eq_true rfl)) (fun Θ X hin => ?_)
  refine wa_eq (L2 := [(0, va_rf (some a)), (1, va_rf p1), (2, .int x2)]) ?_ rfl (by first | rfl | simp [lv_args, va_rf_cat, cat_i, cat_l]) rfl
  obtain ⟨k, hk0⟩ : ∃ k : Nat, k = 0 := ⟨0, rfl⟩
  obtain ⟨n, hn0⟩ : ∃ n : Nat, n = 0 := ⟨0, rfl⟩
  have hk : k + c = c := by omega
  have hn : n + m = m := by omega
  refine wa_costs hk0.symm hn0.symm ?_
  rw [fX3_read] at hf
  refine wa_aload_n X 0 dX3_read_0 rfl ?_
  refine wa_iconst (v := (0 : Int32)) X dX3_read_1 (by decide) ?_
  obtain ⟨h1, hf⟩ := jckT hf
  obtain ⟨μ2, hm3, hf⟩ := jlt_e hf
  have e4 : jT μ2 = jT μ := by rw [hm3]; rfl
  refine wa_rputI (ν := μ2) X dX3_read_2 lfX3_37 rfl h1 rfl rfl hm3 ?_
  refine wa_aload_n X 0 dX3_read_5 rfl ?_
  refine wa_iconst (v := (0 : Int32)) X dX3_read_6 (by decide) ?_
  obtain ⟨μ5, hm6, hf⟩ := jlt_e hf
  have e7 : jT μ5 = jT μ := by rw [hm6]; exact e4
  refine wa_rputI (ν := μ5) X dX3_read_7 lfX3_41 rfl (by rw [e4]; exact h1) rfl rfl hm6 ?_
  refine wa_aload_n X 0 dX3_read_10 rfl ?_
  refine wa_getP X dX3_read_11 lfX3_21 rfl (by rw [e7]; exact h1) rfl ?_
  refine wa_iconst (v := (0 : Int32)) X dX3_read_14 (by decide) ?_
  obtain ⟨q8, h9, hf⟩ := jde_some hf
  obtain ⟨h10, hf⟩ := jckT hf
  obtain ⟨h11, hf⟩ := jck_some hf
  refine wa_raald (t := 104) X dX3_read_15 h9 (by rw [e7]; exact h10) (by decide) rfl rfl (by rw [e7]; exact h11) ?_
  obtain ⟨q12, h13, hf⟩ := jde_some hf
  obtain ⟨h14, hf⟩ := jckT hf
  obtain ⟨u15, μ16, c17, m18, c19, m20, e21, hf, h22, h23⟩ := jcl_some hf
  refine wa_rcallV (st2 := []) X dX3_read_16 lmX3_44 lMX1_clear h13 (by rw [e7]; exact h14) (mX1_clear e21) rfl rfl rfl (va_cats (Nat.le_of_ble_eq_true rfl)) (by decide) (by omega) (by omega) ?_
  refine wa_aload_n X 0 dX3_read_19 rfl ?_
  obtain ⟨h24, hf⟩ := jckT hf
  refine wa_getP X dX3_read_20 lfX3_25 rfl h24 rfl ?_
  refine wa_iconst (v := (0 : Int32)) X dX3_read_23 (by decide) ?_
  obtain ⟨q25, h26, hf⟩ := jde_some hf
  obtain ⟨h27, hf⟩ := jckT hf
  obtain ⟨h28, hf⟩ := jck_some hf
  refine wa_raald (t := 104) X dX3_read_24 h26 h27 (by decide) rfl rfl h28 ?_
  obtain ⟨q29, h30, hf⟩ := jde_some hf
  obtain ⟨h31, hf⟩ := jckT hf
  obtain ⟨u32, μ33, c34, m35, c36, m37, e38, hf, h39, h40⟩ := jcl_some hf
  refine wa_rcallV (st2 := []) X dX3_read_25 lmX3_47 lMX1_fill h30 h31 (mX1_fill e38) rfl rfl rfl (va_cats (Nat.le_of_ble_eq_true rfl)) (by decide) (by omega) (by omega) ?_
  refine wa_iconst (v := (0 : Int32)) X dX3_read_28 (by decide) ?_
  refine wa_istore_n (L2 := [(3, .int (0 : Int32)), (0, va_rf (some a)), (1, va_rf p1), (2, .int x2)]) X dX3_read_29 (by decide) (by first | rfl | (show (3, _) :: List.filter (fun q : Nat × Value => !(q.1 == 3) && !(q.1 + 1 == 3 && q.2.category == 2)) _ = _; simp [va_rf_cat, cat_i, cat_l])) ?_
  refine wa_sub (L2 := [(0, va_rf (some a)), (1, va_rf p1), (2, .int x2), (3, .int (0 : Int32))]) [1, 2, 3, 0] rfl ?_
  exact gX3_read_b30 X jfuel a p1 x2 (0 : Int32) μ33 _ _ _ _ hf (by omega) (by omega)
theorem dX4_init_0 : decode cX4_init 0 = .ok (.aload_n 0, 1) := by decide +kernel
theorem dX4_init_1 : decode cX4_init 1 = .ok (.invokespecial 3, 3) := by decide +kernel
theorem dX4_init_4 : decode cX4_init 4 = .ok (.aload_n 0, 1) := by decide +kernel
theorem dX4_init_5 : decode cX4_init 5 = .ok (.aload_n 1, 1) := by decide +kernel
theorem dX4_init_6 : decode cX4_init 6 = .ok (.putfield 9, 3) := by decide +kernel
theorem dX4_init_9 : decode cX4_init 9 = .ok (.aload_n 0, 1) := by decide +kernel
theorem dX4_init_10 : decode cX4_init 10 = .ok (.aload_n 2, 1) := by decide +kernel
theorem dX4_init_11 : decode cX4_init 11 = .ok (.putfield 15, 3) := by decide +kernel
theorem dX4_init_14 : decode cX4_init 14 = .ok (.aload_n 0, 1) := by decide +kernel
theorem dX4_init_15 : decode cX4_init 15 = .ok (.aload_n 3, 1) := by decide +kernel
theorem dX4_init_16 : decode cX4_init 16 = .ok (.putfield 19, 3) := by decide +kernel
theorem dX4_init_19 : decode cX4_init 19 = .ok (.aload_n 0, 1) := by decide +kernel
theorem dX4_init_20 : decode cX4_init 20 = .ok (.aload 4, 2) := by decide +kernel
theorem dX4_init_22 : decode cX4_init 22 = .ok (.putfield 22, 3) := by decide +kernel
theorem dX4_init_25 : decode cX4_init 25 = .ok (.aload_n 0, 1) := by decide +kernel
theorem dX4_init_26 : decode cX4_init 26 = .ok (.new 25, 3) := by decide +kernel
theorem dX4_init_29 : decode cX4_init 29 = .ok (.dup, 1) := by decide +kernel
theorem dX4_init_30 : decode cX4_init 30 = .ok (.aload_n 1, 1) := by decide +kernel
theorem dX4_init_31 : decode cX4_init 31 = .ok (.aload_n 2, 1) := by decide +kernel
theorem dX4_init_32 : decode cX4_init 32 = .ok (.invokespecial 27, 3) := by decide +kernel
theorem dX4_init_35 : decode cX4_init 35 = .ok (.putfield 30, 3) := by decide +kernel
theorem dX4_init_38 : decode cX4_init 38 = .ok (.return_, 1) := by decide +kernel
def fX4_init (a : Nat) (p1 : Option Nat) (p2 : Option Nat) (p3 : Option Nat) (p4 : Option Nat) (μ : JM) : JO (Unit) := jck ((jT μ a).1 == 5) <| jlt (jsP μ a 0 p1) fun μ2 => jlt (jsP μ2 a 1 p2) fun μ5 => jlt (jsP μ5 a 2 p3) fun μ8 => jlt (jsP μ8 a 3 p4) fun μ11 => jnwo μ11 4 8 fun q14 μ15 => jcl (fX3_init q14 p1 p2 μ15) fun u23 μ24 => jck ((jT μ24 a).1 == 5) <| jlt (jsP μ24 a 4 (some q14)) fun μ33 => some ((), μ33, 0, 0)
set_option maxHeartbeats 4000000 in
set_option maxRecDepth 100000 in
theorem mX4_init {b : Nat} {a : Nat} {p1 : Option Nat} {p2 : Option Nat} {p3 : Option Nat} {p4 : Option Nat} {μ : JM} {r : Unit} {ν : JM} {c m : Nat} (hf : fX4_init a p1 p2 p3 p4 μ = some (r, ν, c, m)) : JMet b yX4_init cX4_init 5 none 3 63 [va_rf (some a), va_rf p1, va_rf p2, va_rf p3, va_rf p4] μ (none) ν c m := by
  refine JMet.of (by decide) (lg_sl_le (by simp only [List.map_cons, List.map_nil, List.sum_cons, List.sum_nil, va_rf_cat]; exact Nat.le_of_ble_eq_true rfl)) (fun Θ X hin => ?_)
  have hin := hin rfl
  refine wa_eq (L2 := [(0, va_rf (some a)), (1, va_rf p1), (2, va_rf p2), (3, va_rf p3), (4, va_rf p4)]) ?_ rfl (by first | rfl | simp [lv_args, va_rf_cat, cat_i, cat_l]) rfl
  obtain ⟨k, hk0⟩ : ∃ k : Nat, k = 0 := ⟨0, rfl⟩
  obtain ⟨n, hn0⟩ : ∃ n : Nat, n = 0 := ⟨0, rfl⟩
  have hk : k + c = c := by omega
  have hn : n + m = m := by omega
  refine wa_costs hk0.symm hn0.symm ?_
  rw [fX4_init] at hf
  refine wa_aload_n X 0 dX4_init_0 rfl ?_
  refine wa_robj X dX4_init_1 lmX4_3 lo_inst lo_code (by decide) (Nat.le_trans (Nat.add_le_add_right (va_cats (m := 8) (Nat.le_of_ble_eq_true rfl)) 12) (by decide)) rfl ?_
  refine wa_aload_n X 0 dX4_init_4 rfl ?_
  refine wa_aload_n X 1 dX4_init_5 rfl ?_
  obtain ⟨h1, hf⟩ := jckT hf
  obtain ⟨μ2, hm3, hf⟩ := jlt_e hf
  have e4 : jT μ2 = jT μ := by rw [hm3]; rfl
  refine wa_rputFP (ν := μ2) X hin dX4_init_6 lfX4_9 rfl h1 (by first | exact Or.inl ⟨_, rfl⟩ | exact Or.inr ⟨_, rfl⟩) rfl rfl hm3 ?_
  refine wa_aload_n X 0 dX4_init_9 rfl ?_
  refine wa_aload_n X 2 dX4_init_10 rfl ?_
  obtain ⟨μ5, hm6, hf⟩ := jlt_e hf
  have e7 : jT μ5 = jT μ := by rw [hm6]; exact e4
  refine wa_rputFP (ν := μ5) X hin dX4_init_11 lfX4_15 rfl (by rw [e4]; exact h1) (by first | exact Or.inl ⟨_, rfl⟩ | exact Or.inr ⟨_, rfl⟩) rfl rfl hm6 ?_
  refine wa_aload_n X 0 dX4_init_14 rfl ?_
  refine wa_aload_n X 3 dX4_init_15 rfl ?_
  obtain ⟨μ8, hm9, hf⟩ := jlt_e hf
  have e10 : jT μ8 = jT μ := by rw [hm9]; exact e7
  refine wa_rputFP (ν := μ8) X hin dX4_init_16 lfX4_19 rfl (by rw [e7]; exact h1) (by first | exact Or.inl ⟨_, rfl⟩ | exact Or.inr ⟨_, rfl⟩) rfl rfl hm9 ?_
  refine wa_aload_n X 0 dX4_init_19 rfl ?_
  refine wa_aload X 4 dX4_init_20 rfl ?_
  obtain ⟨μ11, hm12, hf⟩ := jlt_e hf
  have e13 : jT μ11 = jT μ := by rw [hm12]; exact e10
  refine wa_rputFP (ν := μ11) X hin dX4_init_22 lfX4_22 rfl (by rw [e10]; exact h1) (by first | exact Or.inl ⟨_, rfl⟩ | exact Or.inr ⟨_, rfl⟩) rfl rfl hm12 ?_
  refine wa_aload_n X 0 dX4_init_25 rfl ?_
  obtain ⟨q14, μ15, c18, m19, h16, hm17, hf, h20, h21⟩ := jnwo_some hf
  refine wa_new (t := 4) (N := 8) X dX4_init_26 (by decide) rfl lcX4_25 li_RX3 ln_RX3 (by omega) (by omega) ?_
  rw [← h16, ← hm17]
  have h22 : (jT μ15 q14).1 = 4 := by rw [jT_at h16 hm17]
  refine wa_dup X dX4_init_29 (va_rf_cat _) ?_
  refine wa_aload_n X 1 dX4_init_30 rfl ?_
  refine wa_aload_n X 2 dX4_init_31 rfl ?_
  obtain ⟨u23, μ24, c25, m26, c27, m28, e29, hf, h30, h31⟩ := jcl_some hf
  refine wa_rcallI (st2 := [va_rf (some q14), va_rf (some a)]) X dX4_init_32 lmX4_27 lMX3_init rfl (mX3_init e29) rfl rfl rfl (va_cats (Nat.le_of_ble_eq_true rfl)) (by decide) (by omega) (by omega) ?_
  obtain ⟨h32, hf⟩ := jckT hf
  obtain ⟨μ33, hm34, hf⟩ := jlt_e hf
  have e35 : jT μ33 = jT μ24 := by rw [hm34]; rfl
  refine wa_rputFP (ν := μ33) X hin dX4_init_35 lfX4_30 rfl h32 (by first | exact Or.inl ⟨_, rfl⟩ | exact Or.inr ⟨_, rfl⟩) rfl rfl hm34 ?_
  obtain ⟨rfl, rfl, rfl, rfl⟩ := jret hf
  exact wa_vret X dX4_init_38 (by omega) (by omega)
theorem dX4_readFact_0 : decode cX4_readFact 0 = .ok (.aload_n 0, 1) := by decide +kernel
theorem dX4_readFact_1 : decode cX4_readFact 1 = .ok (.getfield 9, 3) := by decide +kernel
theorem dX4_readFact_4 : decode cX4_readFact 4 = .ok (.invokevirtual 34, 3) := by decide +kernel
theorem dX4_readFact_7 : decode cX4_readFact 7 = .ok (.lstore_n 1, 1) := by decide +kernel
theorem dX4_readFact_8 : decode cX4_readFact 8 = .ok (.lload_n 1, 1) := by decide +kernel
theorem dX4_readFact_9 : decode cX4_readFact 9 = .ok (.invokestatic 50, 3) := by decide +kernel
theorem dX4_readFact_12 : decode cX4_readFact 12 = .ok (.ifCond .eq 12, 3) := by decide +kernel
theorem dX4_readFact_15 : decode cX4_readFact 15 = .ok (.aload_n 0, 1) := by decide +kernel
theorem dX4_readFact_16 : decode cX4_readFact 16 = .ok (.getfield 9, 3) := by decide +kernel
theorem dX4_readFact_19 : decode cX4_readFact 19 = .ok (.iconst 2, 1) := by decide +kernel
theorem dX4_readFact_20 : decode cX4_readFact 20 = .ok (.invokevirtual 54, 3) := by decide +kernel
theorem dX4_readFact_23 : decode cX4_readFact 23 = .ok (.ireturn, 1) := by decide +kernel
theorem dX4_readFact_24 : decode cX4_readFact 24 = .ok (.lload_n 1, 1) := by decide +kernel
theorem dX4_readFact_25 : decode cX4_readFact 25 = .ok (.invokestatic 58, 3) := by decide +kernel
theorem dX4_readFact_28 : decode cX4_readFact 28 = .ok (.ifCond .ne 12, 3) := by decide +kernel
theorem dX4_readFact_31 : decode cX4_readFact 31 = .ok (.aload_n 0, 1) := by decide +kernel
theorem dX4_readFact_32 : decode cX4_readFact 32 = .ok (.getfield 9, 3) := by decide +kernel
theorem dX4_readFact_35 : decode cX4_readFact 35 = .ok (.iconst 0, 1) := by decide +kernel
theorem dX4_readFact_36 : decode cX4_readFact 36 = .ok (.invokevirtual 54, 3) := by decide +kernel
theorem dX4_readFact_39 : decode cX4_readFact 39 = .ok (.ireturn, 1) := by decide +kernel
theorem dX4_readFact_40 : decode cX4_readFact 40 = .ok (.aload_n 0, 1) := by decide +kernel
theorem dX4_readFact_41 : decode cX4_readFact 41 = .ok (.getfield 15, 3) := by decide +kernel
theorem dX4_readFact_44 : decode cX4_readFact 44 = .ok (.lload_n 1, 1) := by decide +kernel
theorem dX4_readFact_45 : decode cX4_readFact 45 = .ok (.invokevirtual 61, 3) := by decide +kernel
theorem dX4_readFact_48 : decode cX4_readFact 48 = .ok (.iconst (-1), 1) := by decide +kernel
theorem dX4_readFact_49 : decode cX4_readFact 49 = .ok (.if_icmp .eq 12, 3) := by decide +kernel
theorem dX4_readFact_52 : decode cX4_readFact 52 = .ok (.aload_n 0, 1) := by decide +kernel
theorem dX4_readFact_53 : decode cX4_readFact 53 = .ok (.getfield 9, 3) := by decide +kernel
theorem dX4_readFact_56 : decode cX4_readFact 56 = .ok (.iconst 2, 1) := by decide +kernel
theorem dX4_readFact_57 : decode cX4_readFact 57 = .ok (.invokevirtual 54, 3) := by decide +kernel
theorem dX4_readFact_60 : decode cX4_readFact 60 = .ok (.ireturn, 1) := by decide +kernel
theorem dX4_readFact_61 : decode cX4_readFact 61 = .ok (.aload_n 0, 1) := by decide +kernel
theorem dX4_readFact_62 : decode cX4_readFact 62 = .ok (.getfield 15, 3) := by decide +kernel
theorem dX4_readFact_65 : decode cX4_readFact 65 = .ok (.lload_n 1, 1) := by decide +kernel
theorem dX4_readFact_66 : decode cX4_readFact 66 = .ok (.invokevirtual 65, 3) := by decide +kernel
theorem dX4_readFact_69 : decode cX4_readFact 69 = .ok (.iconst (-1), 1) := by decide +kernel
theorem dX4_readFact_70 : decode cX4_readFact 70 = .ok (.if_icmp .ne 13, 3) := by decide +kernel
theorem dX4_readFact_73 : decode cX4_readFact 73 = .ok (.aload_n 0, 1) := by decide +kernel
theorem dX4_readFact_74 : decode cX4_readFact 74 = .ok (.getfield 9, 3) := by decide +kernel
theorem dX4_readFact_77 : decode cX4_readFact 77 = .ok (.bipush 6, 2) := by decide +kernel
theorem dX4_readFact_79 : decode cX4_readFact 79 = .ok (.invokevirtual 54, 3) := by decide +kernel
theorem dX4_readFact_82 : decode cX4_readFact 82 = .ok (.ireturn, 1) := by decide +kernel
theorem dX4_readFact_83 : decode cX4_readFact 83 = .ok (.aload_n 0, 1) := by decide +kernel
theorem dX4_readFact_84 : decode cX4_readFact 84 = .ok (.getfield 9, 3) := by decide +kernel
theorem dX4_readFact_87 : decode cX4_readFact 87 = .ok (.invokevirtual 68, 3) := by decide +kernel
theorem dX4_readFact_90 : decode cX4_readFact 90 = .ok (.iconst 1, 1) := by decide +kernel
theorem dX4_readFact_91 : decode cX4_readFact 91 = .ok (.ireturn, 1) := by decide +kernel
def fX4_readFact (a : Nat) (μ : JM) : JO (Int32) := jck ((jT μ a).1 == 5) <| jde (jP μ a 0) fun q2 => jck ((jT μ q2).1 == 8) <| jcl (fX7_token q2 μ) fun r5 μ6 => jcl (fX10_isOurs r5 μ6) fun r14 μ15 => if r14 = 0 then (jcl (fX10_isFreeWord r5 μ15) fun r24 μ25 => if r24 = 0 then (jck ((jT μ25 a).1 == 5) <| jde (jP μ25 a 0) fun q104 => jck ((jT μ25 q104).1 == 8) <| jcl (fX7_fail q104 (0 : Int32) μ25) fun r107 μ108 => jck (jbl r107) <| some (r107, μ108, 0, 0)) else (jck ((jT μ25 a).1 == 5) <| jde (jP μ25 a 1) fun q35 => jck ((jT μ25 q35).1 == 10) <| jcl (fX9_find q35 r5 μ25) fun r38 μ39 => if r38 = (-1 : Int32) then (jck ((jT μ39 a).1 == 5) <| jde (jP μ39 a 1) fun q49 => jck ((jT μ39 q49).1 == 10) <| jcl (fX9_add q49 r5 μ39) fun r52 μ53 => if r52 = (-1 : Int32) then (jck ((jT μ53 a).1 == 5) <| jde (jP μ53 a 0) fun q76 => jck ((jT μ53 q76).1 == 8) <| jcl (fX7_fail q76 (6 : Int32) μ53) fun r79 μ80 => jck (jbl r79) <| some (r79, μ80, 0, 0)) else (jck ((jT μ53 a).1 == 5) <| jde (jP μ53 a 0) fun q63 => jck ((jT μ53 q63).1 == 8) <| jcl (fX7_step q63 μ53) fun u66 μ67 => some ((1 : Int32), μ67, 0, 0))) else (jck ((jT μ39 a).1 == 5) <| jde (jP μ39 a 0) fun q90 => jck ((jT μ39 q90).1 == 8) <| jcl (fX7_fail q90 (2 : Int32) μ39) fun r93 μ94 => jck (jbl r93) <| some (r93, μ94, 0, 0)))) else (jck ((jT μ15 a).1 == 5) <| jde (jP μ15 a 0) fun q118 => jck ((jT μ15 q118).1 == 8) <| jcl (fX7_fail q118 (2 : Int32) μ15) fun r121 μ122 => jck (jbl r121) <| some (r121, μ122, 0, 0))
set_option maxHeartbeats 4000000 in
set_option maxRecDepth 100000 in
theorem mX4_readFact {b : Nat} {a : Nat} {μ : JM} {r : Int32} {ν : JM} {c m : Nat} (hf : fX4_readFact a μ = some (r, ν, c, m)) : JMet b yX4_readFact cX4_readFact 3 (some .boolean) 1 23 [va_rf (some a)] μ (some (.int r)) ν c m := by
  refine JMet.of (by decide) (lg_sl_le (by simp only [List.map_cons, List.map_nil, List.sum_cons, List.sum_nil, va_rf_cat]; exact Nat.le_of_ble_eq_true rfl)) (fun Θ X hin => ?_)
  refine wa_eq (L2 := [(0, va_rf (some a))]) ?_ rfl (by first | rfl | simp [lv_args, va_rf_cat, cat_i, cat_l]) rfl
  obtain ⟨k, hk0⟩ : ∃ k : Nat, k = 0 := ⟨0, rfl⟩
  obtain ⟨n, hn0⟩ : ∃ n : Nat, n = 0 := ⟨0, rfl⟩
  have hk : k + c = c := by omega
  have hn : n + m = m := by omega
  refine wa_costs hk0.symm hn0.symm ?_
  rw [fX4_readFact] at hf
  refine wa_aload_n X 0 dX4_readFact_0 rfl ?_
  obtain ⟨h1, hf⟩ := jckT hf
  refine wa_getP X dX4_readFact_1 lfX4_9 rfl h1 rfl ?_
  obtain ⟨q2, h3, hf⟩ := jde_some hf
  obtain ⟨h4, hf⟩ := jckT hf
  obtain ⟨r5, μ6, c7, m8, c9, m10, e11, hf, h12, h13⟩ := jcl_some hf
  refine wa_rcallV (st2 := [.long r5]) X dX4_readFact_4 lmX4_34 lMX7_token h3 h4 (mX7_token e11) rfl rfl rfl (va_cats (Nat.le_of_ble_eq_true rfl)) (by decide) (by omega) (by omega) ?_
  refine wa_lstore_n (L2 := [(1, .long r5), (0, va_rf (some a))]) X dX4_readFact_7 (by decide) (by first | rfl | (show (1, _) :: List.filter (fun q : Nat × Value => !(q.1 == 1) && (!(q.1 == 2) && !(q.1 + 1 == 1 && q.2.category == 2))) _ = _; simp [va_rf_cat, cat_i, cat_l])) ?_
  refine wa_lload_n X 0 dX4_readFact_8 rfl ?_
  obtain ⟨r14, μ15, c16, m17, c18, m19, e20, hf, h21, h22⟩ := jcl_some hf
  refine wa_rcallSN (st2 := [.int r14]) X dX4_readFact_9 lNX4_50 lMX10_isOurs (mX10_isOurs e20) rfl rfl rfl (va_cats (Nat.le_of_ble_eq_true rfl)) (by decide) (by omega) (by omega) ?_
  refine wa_ifeq (tgt := 24) X dX4_readFact_12 (by decide) (fun h23 => ?_) (fun h23 => ?_)
  · rw [if_pos h23] at hf
    refine wa_lload_n X 0 dX4_readFact_24 rfl ?_
    obtain ⟨r24, μ25, c26, m27, c28, m29, e30, hf, h31, h32⟩ := jcl_some hf
    refine wa_rcallSN (st2 := [.int r24]) X dX4_readFact_25 lNX4_58 lMX10_isFreeWord (mX10_isFreeWord e30) rfl rfl rfl (va_cats (Nat.le_of_ble_eq_true rfl)) (by decide) (by omega) (by omega) ?_
    refine wa_ifne (tgt := 40) X dX4_readFact_28 (by decide) (fun h33 => ?_) (fun h33 => ?_)
    · rw [if_neg h33] at hf
      refine wa_aload_n X 1 dX4_readFact_40 rfl ?_
      obtain ⟨h34, hf⟩ := jckT hf
      refine wa_getP X dX4_readFact_41 lfX4_15 rfl h34 rfl ?_
      refine wa_lload_n X 0 dX4_readFact_44 rfl ?_
      obtain ⟨q35, h36, hf⟩ := jde_some hf
      obtain ⟨h37, hf⟩ := jckT hf
      obtain ⟨r38, μ39, c40, m41, c42, m43, e44, hf, h45, h46⟩ := jcl_some hf
      refine wa_rcallV (st2 := [.int r38]) X dX4_readFact_45 lmX4_61 lMX9_find h36 h37 (mX9_find e44) rfl rfl rfl (va_cats (Nat.le_of_ble_eq_true rfl)) (by decide) (by omega) (by omega) ?_
      refine wa_iconst (v := (-1 : Int32)) X dX4_readFact_48 (by decide) ?_
      refine wa_iceq (tgt := 61) X dX4_readFact_49 (by decide) (fun h47 => ?_) (fun h47 => ?_)
      · rw [if_pos h47] at hf
        refine wa_aload_n X 1 dX4_readFact_61 rfl ?_
        obtain ⟨h48, hf⟩ := jckT hf
        refine wa_getP X dX4_readFact_62 lfX4_15 rfl h48 rfl ?_
        refine wa_lload_n X 0 dX4_readFact_65 rfl ?_
        obtain ⟨q49, h50, hf⟩ := jde_some hf
        obtain ⟨h51, hf⟩ := jckT hf
        obtain ⟨r52, μ53, c54, m55, c56, m57, e58, hf, h59, h60⟩ := jcl_some hf
        refine wa_rcallV (st2 := [.int r52]) X dX4_readFact_66 lmX4_65 lMX9_add h50 h51 (mX9_add e58) rfl rfl rfl (va_cats (Nat.le_of_ble_eq_true rfl)) (by decide) (by omega) (by omega) ?_
        refine wa_iconst (v := (-1 : Int32)) X dX4_readFact_69 (by decide) ?_
        refine wa_icne (tgt := 83) X dX4_readFact_70 (by decide) (fun h61 => ?_) (fun h61 => ?_)
        · rw [if_neg h61] at hf
          refine wa_aload_n X 1 dX4_readFact_83 rfl ?_
          obtain ⟨h62, hf⟩ := jckT hf
          refine wa_getP X dX4_readFact_84 lfX4_9 rfl h62 rfl ?_
          obtain ⟨q63, h64, hf⟩ := jde_some hf
          obtain ⟨h65, hf⟩ := jckT hf
          obtain ⟨u66, μ67, c68, m69, c70, m71, e72, hf, h73, h74⟩ := jcl_some hf
          refine wa_rcallV (st2 := []) X dX4_readFact_87 lmX4_68 lMX7_step h64 h65 (mX7_step e72) rfl rfl rfl (va_cats (Nat.le_of_ble_eq_true rfl)) (by decide) (by omega) (by omega) ?_
          refine wa_iconst (v := (1 : Int32)) X dX4_readFact_90 (by decide) ?_
          obtain ⟨rfl, rfl, rfl, rfl⟩ := jret hf
          exact wa_iret X dX4_readFact_91 rfl (by omega) (by omega)
        · rw [if_pos h61] at hf
          refine wa_aload_n X 1 dX4_readFact_73 rfl ?_
          obtain ⟨h75, hf⟩ := jckT hf
          refine wa_getP X dX4_readFact_74 lfX4_9 rfl h75 rfl ?_
          refine wa_bipush (v := (6 : Int32)) X dX4_readFact_77 (by decide) ?_
          obtain ⟨q76, h77, hf⟩ := jde_some hf
          obtain ⟨h78, hf⟩ := jckT hf
          obtain ⟨r79, μ80, c81, m82, c83, m84, e85, hf, h86, h87⟩ := jcl_some hf
          refine wa_rcallV (st2 := [.int r79]) X dX4_readFact_79 lmX4_54 lMX7_fail h77 h78 (mX7_fail e85) rfl rfl rfl (va_cats (Nat.le_of_ble_eq_true rfl)) (by decide) (by omega) (by omega) ?_
          obtain ⟨h88, hf⟩ := jck_some hf
          obtain ⟨rfl, rfl, rfl, rfl⟩ := jret hf
          exact wa_iret X dX4_readFact_82 (jbl_nar h88) (by omega) (by omega)
      · rw [if_neg h47] at hf
        refine wa_aload_n X 1 dX4_readFact_52 rfl ?_
        obtain ⟨h89, hf⟩ := jckT hf
        refine wa_getP X dX4_readFact_53 lfX4_9 rfl h89 rfl ?_
        refine wa_iconst (v := (2 : Int32)) X dX4_readFact_56 (by decide) ?_
        obtain ⟨q90, h91, hf⟩ := jde_some hf
        obtain ⟨h92, hf⟩ := jckT hf
        obtain ⟨r93, μ94, c95, m96, c97, m98, e99, hf, h100, h101⟩ := jcl_some hf
        refine wa_rcallV (st2 := [.int r93]) X dX4_readFact_57 lmX4_54 lMX7_fail h91 h92 (mX7_fail e99) rfl rfl rfl (va_cats (Nat.le_of_ble_eq_true rfl)) (by decide) (by omega) (by omega) ?_
        obtain ⟨h102, hf⟩ := jck_some hf
        obtain ⟨rfl, rfl, rfl, rfl⟩ := jret hf
        exact wa_iret X dX4_readFact_60 (jbl_nar h102) (by omega) (by omega)
    · rw [if_pos h33] at hf
      refine wa_aload_n X 1 dX4_readFact_31 rfl ?_
      obtain ⟨h103, hf⟩ := jckT hf
      refine wa_getP X dX4_readFact_32 lfX4_9 rfl h103 rfl ?_
      refine wa_iconst (v := (0 : Int32)) X dX4_readFact_35 (by decide) ?_
      obtain ⟨q104, h105, hf⟩ := jde_some hf
      obtain ⟨h106, hf⟩ := jckT hf
      obtain ⟨r107, μ108, c109, m110, c111, m112, e113, hf, h114, h115⟩ := jcl_some hf
      refine wa_rcallV (st2 := [.int r107]) X dX4_readFact_36 lmX4_54 lMX7_fail h105 h106 (mX7_fail e113) rfl rfl rfl (va_cats (Nat.le_of_ble_eq_true rfl)) (by decide) (by omega) (by omega) ?_
      obtain ⟨h116, hf⟩ := jck_some hf
      obtain ⟨rfl, rfl, rfl, rfl⟩ := jret hf
      exact wa_iret X dX4_readFact_39 (jbl_nar h116) (by omega) (by omega)
  · rw [if_neg h23] at hf
    refine wa_aload_n X 1 dX4_readFact_15 rfl ?_
    obtain ⟨h117, hf⟩ := jckT hf
    refine wa_getP X dX4_readFact_16 lfX4_9 rfl h117 rfl ?_
    refine wa_iconst (v := (2 : Int32)) X dX4_readFact_19 (by decide) ?_
    obtain ⟨q118, h119, hf⟩ := jde_some hf
    obtain ⟨h120, hf⟩ := jckT hf
    obtain ⟨r121, μ122, c123, m124, c125, m126, e127, hf, h128, h129⟩ := jcl_some hf
    refine wa_rcallV (st2 := [.int r121]) X dX4_readFact_20 lmX4_54 lMX7_fail h119 h120 (mX7_fail e127) rfl rfl rfl (va_cats (Nat.le_of_ble_eq_true rfl)) (by decide) (by omega) (by omega) ?_
    obtain ⟨h130, hf⟩ := jck_some hf
    obtain ⟨rfl, rfl, rfl, rfl⟩ := jret hf
    exact wa_iret X dX4_readFact_23 (jbl_nar h130) (by omega) (by omega)
theorem dX4_readFacts_0 : decode cX4_readFacts 0 = .ok (.iconst 0, 1) := by decide +kernel
theorem dX4_readFacts_1 : decode cX4_readFacts 1 = .ok (.istore_n 1, 1) := by decide +kernel
theorem dX4_readFacts_2 : decode cX4_readFacts 2 = .ok (.iload_n 1, 1) := by decide +kernel
theorem dX4_readFacts_3 : decode cX4_readFacts 3 = .ok (.bipush 8, 2) := by decide +kernel
theorem dX4_readFacts_5 : decode cX4_readFacts 5 = .ok (.if_icmp .gt 37, 3) := by decide +kernel
theorem dX4_readFacts_8 : decode cX4_readFacts 8 = .ok (.iload_n 1, 1) := by decide +kernel
theorem dX4_readFacts_9 : decode cX4_readFacts 9 = .ok (.ifCond .le 17, 3) := by decide +kernel
theorem dX4_readFacts_12 : decode cX4_readFacts 12 = .ok (.aload_n 0, 1) := by decide +kernel
theorem dX4_readFacts_13 : decode cX4_readFacts 13 = .ok (.getfield 9, 3) := by decide +kernel
theorem dX4_readFacts_16 : decode cX4_readFacts 16 = .ok (.invokevirtual 34, 3) := by decide +kernel
theorem dX4_readFacts_19 : decode cX4_readFacts 19 = .ok (.lconst 0, 1) := by decide +kernel
theorem dX4_readFacts_20 : decode cX4_readFacts 20 = .ok (.lcmp, 1) := by decide +kernel
theorem dX4_readFacts_21 : decode cX4_readFacts 21 = .ok (.ifCond .ne 5, 3) := by decide +kernel
theorem dX4_readFacts_24 : decode cX4_readFacts 24 = .ok (.iconst 1, 1) := by decide +kernel
theorem dX4_readFacts_25 : decode cX4_readFacts 25 = .ok (.ireturn, 1) := by decide +kernel
theorem dX4_readFacts_26 : decode cX4_readFacts 26 = .ok (.aload_n 0, 1) := by decide +kernel
theorem dX4_readFacts_27 : decode cX4_readFacts 27 = .ok (.invokevirtual 40, 3) := by decide +kernel
theorem dX4_readFacts_30 : decode cX4_readFacts 30 = .ok (.ifCond .ne 6, 3) := by decide +kernel
theorem dX4_readFacts_33 : decode cX4_readFacts 33 = .ok (.goto 9, 3) := by decide +kernel
theorem dX4_readFacts_36 : decode cX4_readFacts 36 = .ok (.iinc 1 1, 3) := by decide +kernel
theorem dX4_readFacts_39 : decode cX4_readFacts 39 = .ok (.goto (-37), 3) := by decide +kernel
theorem dX4_readFacts_42 : decode cX4_readFacts 42 = .ok (.aload_n 0, 1) := by decide +kernel
theorem dX4_readFacts_43 : decode cX4_readFacts 43 = .ok (.getfield 15, 3) := by decide +kernel
theorem dX4_readFacts_46 : decode cX4_readFacts 46 = .ok (.iconst 0, 1) := by decide +kernel
theorem dX4_readFacts_47 : decode cX4_readFacts 47 = .ok (.invokevirtual 44, 3) := by decide +kernel
theorem dX4_readFacts_50 : decode cX4_readFacts 50 = .ok (.iconst 0, 1) := by decide +kernel
theorem dX4_readFacts_51 : decode cX4_readFacts 51 = .ok (.ireturn, 1) := by decide +kernel
def fX4_readFacts_b42 (a : Nat) (μ : JM) : JO (Int32) := jck ((jT μ a).1 == 5) <| jde (jP μ a 1) fun q29 => jck ((jT μ q29).1 == 10) <| jcl (fX9_cut q29 (0 : Int32) μ) fun u32 μ33 => some ((0 : Int32), μ33, 0, 0)
set_option maxHeartbeats 4000000 in
set_option maxRecDepth 100000 in
theorem gX4_readFacts_b42 {b : Nat} {Θ : JE} {RC RS : Nat} {r : Int32} {ν : JM} (X : jX b Θ RX4 cX4_readFacts 2 (some .boolean) 2 45 RC RS) (a : Nat) (μ : JM) (c m k n : Nat) (hf : fX4_readFacts_b42 a μ = some (r, ν, c, m)) (hk : k + c = RC) (hn : n + m = RS) : WA b Θ 2 (jE b Θ (some (.int r)) ν RC RS) μ k n 42 [(0, va_rf (some a))] [] := by
  rw [fX4_readFacts_b42] at hf
  refine wa_aload_n X 0 dX4_readFacts_42 rfl ?_
  obtain ⟨h28, hf⟩ := jckT hf
  refine wa_getP X dX4_readFacts_43 lfX4_15 rfl h28 rfl ?_
  refine wa_iconst (v := (0 : Int32)) X dX4_readFacts_46 (by decide) ?_
  obtain ⟨q29, h30, hf⟩ := jde_some hf
  obtain ⟨h31, hf⟩ := jckT hf
  obtain ⟨u32, μ33, c34, m35, c36, m37, e38, hf, h39, h40⟩ := jcl_some hf
  refine wa_rcallV (st2 := []) X dX4_readFacts_47 lmX4_44 lMX9_cut h30 h31 (mX9_cut e38) rfl rfl rfl (va_cats (Nat.le_of_ble_eq_true rfl)) (by decide) (by omega) (by omega) ?_
  refine wa_iconst (v := (0 : Int32)) X dX4_readFacts_50 (by decide) ?_
  obtain ⟨rfl, rfl, rfl, rfl⟩ := jret hf
  exact wa_iret X dX4_readFacts_51 rfl (by omega) (by omega)
def fX4_readFacts_b26 (rec2 : Nat → Int32 → JM → JO (Int32)) (a : Nat) (x1 : Int32) (μ : JM) : JO (Int32) := jck ((jT μ a).1 == 5) <| jcl (fX4_readFact a μ) fun r18 μ19 => if r18 = 0 then (fX4_readFacts_b42  a μ19) else (rec2 a (x1 + (1 : Int32)) μ19)
set_option maxHeartbeats 4000000 in
set_option maxRecDepth 100000 in
theorem gX4_readFacts_b26 {b : Nat} {Θ : JE} {RC RS : Nat} {r : Int32} {ν : JM} (X : jX b Θ RX4 cX4_readFacts 2 (some .boolean) 2 45 RC RS) {rec2 : Nat → Int32 → JM → JO (Int32)} (hrec2 : ∀ (a : Nat) (x1 : Int32) (μ : JM) (c m k n : Nat), rec2 a x1 μ = some (r, ν, c, m) → k + c = RC → n + m = RS → WA b Θ 2 (jE b Θ (some (.int r)) ν RC RS) μ k n 2 [(0, va_rf (some a)), (1, .int x1)] []) (a : Nat) (x1 : Int32) (μ : JM) (c m k n : Nat) (hf : fX4_readFacts_b26 rec2 a x1 μ = some (r, ν, c, m)) (hk : k + c = RC) (hn : n + m = RS) : WA b Θ 2 (jE b Θ (some (.int r)) ν RC RS) μ k n 26 [(0, va_rf (some a)), (1, .int x1)] [] := by
  rw [fX4_readFacts_b26] at hf
  refine wa_aload_n X 0 dX4_readFacts_26 rfl ?_
  obtain ⟨h17, hf⟩ := jckT hf
  obtain ⟨r18, μ19, c20, m21, c22, m23, e24, hf, h25, h26⟩ := jcl_some hf
  refine wa_rcallV (st2 := [.int r18]) X dX4_readFacts_27 lmX4_40 lMX4_readFact rfl h17 (mX4_readFact e24) rfl rfl rfl (va_cats (Nat.le_of_ble_eq_true rfl)) (by decide) (by omega) (by omega) ?_
  refine wa_ifne (tgt := 36) X dX4_readFacts_30 (by decide) (fun h27 => ?_) (fun h27 => ?_)
  · rw [if_neg h27] at hf
    refine wa_iinc (v := (x1 + (1 : Int32))) (L2 := [(1, .int (x1 + (1 : Int32))), (0, va_rf (some a))]) X 1 dX4_readFacts_36 rfl rfl (by decide) (by first | rfl | simp [va_rf_cat, cat_i, cat_l]) ?_
    refine wa_goto (tgt := 2) X dX4_readFacts_39 (by decide) ?_
    refine wa_sub (L2 := [(0, va_rf (some a)), (1, .int (x1 + (1 : Int32)))]) [1, 0] rfl ?_
    exact hrec2 a (x1 + (1 : Int32)) μ19 _ _ _ _ hf (by omega) (by omega)
  · rw [if_pos h27] at hf
    refine wa_goto (tgt := 42) X dX4_readFacts_33 (by decide) ?_
    refine wa_sub (L2 := [(0, va_rf (some a))]) [0] rfl ?_
    exact gX4_readFacts_b42 X a μ19 _ _ _ _ hf (by omega) (by omega)
def fX4_readFacts_b2 : Nat → Nat → Int32 → JM → JO (Int32)
  | 0, _, _, _ => none
  | fu + 1, a, x1, μ => if (8 : Int32) < x1 then (fX4_readFacts_b42  a μ) else (if x1 ≤ 0 then (fX4_readFacts_b26 (fX4_readFacts_b2 fu) a x1 μ) else (jck ((jT μ a).1 == 5) <| jde (jP μ a 0) fun q4 => jck ((jT μ q4).1 == 8) <| jcl (fX7_token q4 μ) fun r7 μ8 => if (lg_cmp r7 (0 : Int64)) = 0 then (some ((1 : Int32), μ8, 0, 0)) else (fX4_readFacts_b26 (fX4_readFacts_b2 fu) a x1 μ8)))
set_option maxHeartbeats 4000000 in
set_option maxRecDepth 100000 in
theorem gX4_readFacts_b2 {b : Nat} {Θ : JE} {RC RS : Nat} {r : Int32} {ν : JM} (X : jX b Θ RX4 cX4_readFacts 2 (some .boolean) 2 45 RC RS) : ∀ (fu : Nat) (a : Nat) (x1 : Int32) (μ : JM) (c m k n : Nat), fX4_readFacts_b2 fu a x1 μ = some (r, ν, c, m) → k + c = RC → n + m = RS → WA b Θ 2 (jE b Θ (some (.int r)) ν RC RS) μ k n 2 [(0, va_rf (some a)), (1, .int x1)] [] := by
  intro fu
  induction fu with
  | zero => intro a x1 μ c m k n hf; cases hf
  | succ fu ih =>
    intro a x1 μ c m k n hf hk hn
    rw [fX4_readFacts_b2] at hf
    refine wa_iload_n X 1 dX4_readFacts_2 rfl ?_
    refine wa_bipush (v := (8 : Int32)) X dX4_readFacts_3 (by decide) ?_
    refine wa_icgt (tgt := 42) X dX4_readFacts_5 (by decide) (fun h1 => ?_) (fun h1 => ?_)
    · rw [if_pos h1] at hf
      refine wa_sub (L2 := [(0, va_rf (some a))]) [0] rfl ?_
      exact gX4_readFacts_b42 X a μ _ _ _ _ hf (by omega) (by omega)
    · rw [if_neg h1] at hf
      refine wa_iload_n X 1 dX4_readFacts_8 rfl ?_
      refine wa_ifle (tgt := 26) X dX4_readFacts_9 (by decide) (fun h2 => ?_) (fun h2 => ?_)
      · rw [if_pos h2] at hf
        refine wa_sub (L2 := [(0, va_rf (some a)), (1, .int x1)]) [0, 1] rfl ?_
        exact gX4_readFacts_b26 X ih a x1 μ _ _ _ _ hf (by omega) (by omega)
      · rw [if_neg h2] at hf
        refine wa_aload_n X 0 dX4_readFacts_12 rfl ?_
        obtain ⟨h3, hf⟩ := jckT hf
        refine wa_getP X dX4_readFacts_13 lfX4_9 rfl h3 rfl ?_
        obtain ⟨q4, h5, hf⟩ := jde_some hf
        obtain ⟨h6, hf⟩ := jckT hf
        obtain ⟨r7, μ8, c9, m10, c11, m12, e13, hf, h14, h15⟩ := jcl_some hf
        refine wa_rcallV (st2 := [.long r7]) X dX4_readFacts_16 lmX4_34 lMX7_token h5 h6 (mX7_token e13) rfl rfl rfl (va_cats (Nat.le_of_ble_eq_true rfl)) (by decide) (by omega) (by omega) ?_
        refine wa_lconst (v := (0 : Int64)) X dX4_readFacts_19 (by decide) ?_
        refine wa_lcmp X dX4_readFacts_20 ?_
        refine wa_ifne (tgt := 26) X dX4_readFacts_21 (by decide) (fun h16 => ?_) (fun h16 => ?_)
        · rw [if_neg h16] at hf
          refine wa_sub (L2 := [(0, va_rf (some a)), (1, .int x1)]) [0, 1] rfl ?_
          exact gX4_readFacts_b26 X ih a x1 μ8 _ _ _ _ hf (by omega) (by omega)
        · rw [if_pos h16] at hf
          refine wa_iconst (v := (1 : Int32)) X dX4_readFacts_24 (by decide) ?_
          obtain ⟨rfl, rfl, rfl, rfl⟩ := jret hf
          exact wa_iret X dX4_readFacts_25 rfl (by omega) (by omega)
def fX4_readFacts (a : Nat) (μ : JM) : JO (Int32) := fX4_readFacts_b2  jfuel a (0 : Int32) μ
set_option maxHeartbeats 4000000 in
set_option maxRecDepth 100000 in
theorem mX4_readFacts {b : Nat} {a : Nat} {μ : JM} {r : Int32} {ν : JM} {c m : Nat} (hf : fX4_readFacts a μ = some (r, ν, c, m)) : JMet b yX4_readFacts cX4_readFacts 2 (some .boolean) 2 45 [va_rf (some a)] μ (some (.int r)) ν c m := by
  refine JMet.of (by decide) (lg_sl_le (by simp only [List.map_cons, List.map_nil, List.sum_cons, List.sum_nil, va_rf_cat]; exact Nat.le_of_ble_eq_true rfl)) (fun Θ X hin => ?_)
  refine wa_eq (L2 := [(0, va_rf (some a))]) ?_ rfl (by first | rfl | simp [lv_args, va_rf_cat, cat_i, cat_l]) rfl
  obtain ⟨k, hk0⟩ : ∃ k : Nat, k = 0 := ⟨0, rfl⟩
  obtain ⟨n, hn0⟩ : ∃ n : Nat, n = 0 := ⟨0, rfl⟩
  have hk : k + c = c := by omega
  have hn : n + m = m := by omega
  refine wa_costs hk0.symm hn0.symm ?_
  rw [fX4_readFacts] at hf
  refine wa_iconst (v := (0 : Int32)) X dX4_readFacts_0 (by decide) ?_
  refine wa_istore_n (L2 := [(1, .int (0 : Int32)), (0, va_rf (some a))]) X dX4_readFacts_1 (by decide) (by first | rfl | (show (1, _) :: List.filter (fun q : Nat × Value => !(q.1 == 1) && !(q.1 + 1 == 1 && q.2.category == 2)) _ = _; simp [va_rf_cat, cat_i, cat_l])) ?_
  refine wa_sub (L2 := [(0, va_rf (some a)), (1, .int (0 : Int32))]) [1, 0] rfl ?_
  exact gX4_readFacts_b2 X jfuel a (0 : Int32) μ _ _ _ _ hf (by omega) (by omega)
theorem dX4_readWorld_0 : decode cX4_readWorld 0 = .ok (.aload_n 0, 1) := by decide +kernel
theorem dX4_readWorld_1 : decode cX4_readWorld 1 = .ok (.getfield 9, 3) := by decide +kernel
theorem dX4_readWorld_4 : decode cX4_readWorld 4 = .ok (.invokevirtual 34, 3) := by decide +kernel
theorem dX4_readWorld_7 : decode cX4_readWorld 7 = .ok (.lconst 0, 1) := by decide +kernel
theorem dX4_readWorld_8 : decode cX4_readWorld 8 = .ok (.lcmp, 1) := by decide +kernel
theorem dX4_readWorld_9 : decode cX4_readWorld 9 = .ok (.ifCond .ne 21, 3) := by decide +kernel
theorem dX4_readWorld_12 : decode cX4_readWorld 12 = .ok (.aload_n 0, 1) := by decide +kernel
theorem dX4_readWorld_13 : decode cX4_readWorld 13 = .ok (.getfield 30, 3) := by decide +kernel
theorem dX4_readWorld_16 : decode cX4_readWorld 16 = .ok (.getfield 71, 3) := by decide +kernel
theorem dX4_readWorld_19 : decode cX4_readWorld 19 = .ok (.invokevirtual 75, 3) := by decide +kernel
theorem dX4_readWorld_22 : decode cX4_readWorld 22 = .ok (.aload_n 0, 1) := by decide +kernel
theorem dX4_readWorld_23 : decode cX4_readWorld 23 = .ok (.getfield 30, 3) := by decide +kernel
theorem dX4_readWorld_26 : decode cX4_readWorld 26 = .ok (.getfield 71, 3) := by decide +kernel
theorem dX4_readWorld_29 : decode cX4_readWorld 29 = .ok (.areturn, 1) := by decide +kernel
theorem dX4_readWorld_30 : decode cX4_readWorld 30 = .ok (.aload_n 0, 1) := by decide +kernel
theorem dX4_readWorld_31 : decode cX4_readWorld 31 = .ok (.getfield 30, 3) := by decide +kernel
theorem dX4_readWorld_34 : decode cX4_readWorld 34 = .ok (.aconst_null, 1) := by decide +kernel
theorem dX4_readWorld_35 : decode cX4_readWorld 35 = .ok (.iconst 0, 1) := by decide +kernel
theorem dX4_readWorld_36 : decode cX4_readWorld 36 = .ok (.invokevirtual 80, 3) := by decide +kernel
theorem dX4_readWorld_39 : decode cX4_readWorld 39 = .ok (.ifCond .eq 24, 3) := by decide +kernel
theorem dX4_readWorld_42 : decode cX4_readWorld 42 = .ok (.aload_n 0, 1) := by decide +kernel
theorem dX4_readWorld_43 : decode cX4_readWorld 43 = .ok (.getfield 9, 3) := by decide +kernel
theorem dX4_readWorld_46 : decode cX4_readWorld 46 = .ok (.lconst 0, 1) := by decide +kernel
theorem dX4_readWorld_47 : decode cX4_readWorld 47 = .ok (.invokevirtual 84, 3) := by decide +kernel
theorem dX4_readWorld_50 : decode cX4_readWorld 50 = .ok (.ifCond .eq 13, 3) := by decide +kernel
theorem dX4_readWorld_53 : decode cX4_readWorld 53 = .ok (.aload_n 0, 1) := by decide +kernel
theorem dX4_readWorld_54 : decode cX4_readWorld 54 = .ok (.getfield 30, 3) := by decide +kernel
theorem dX4_readWorld_57 : decode cX4_readWorld 57 = .ok (.getfield 71, 3) := by decide +kernel
theorem dX4_readWorld_60 : decode cX4_readWorld 60 = .ok (.goto 4, 3) := by decide +kernel
theorem dX4_readWorld_63 : decode cX4_readWorld 63 = .ok (.aconst_null, 1) := by decide +kernel
theorem dX4_readWorld_64 : decode cX4_readWorld 64 = .ok (.areturn, 1) := by decide +kernel
def fX4_readWorld (a : Nat) (μ : JM) : JO (Option Nat) := jck ((jT μ a).1 == 5) <| jde (jP μ a 0) fun q2 => jck ((jT μ q2).1 == 8) <| jcl (fX7_token q2 μ) fun r5 μ6 => if (lg_cmp r5 (0 : Int64)) = 0 then (jck ((jT μ6 a).1 == 5) <| jde (jP μ6 a 4) fun q48 => jck ((jT μ6 q48).1 == 4) <| jde (jP μ6 q48 7) fun q51 => jck ((jT μ6 q51).1 == 2) <| jcl (fX1_fill q51 μ6) fun u54 μ55 => jck ((jT μ55 a).1 == 5) <| jde (jP μ55 a 4) fun q64 => jck ((jT μ55 q64).1 == 4) <| some ((jP μ55 q64 7), μ55, 0, 0)) else (jck ((jT μ6 a).1 == 5) <| jde (jP μ6 a 4) fun q16 => jck ((jT μ6 q16).1 == 4) <| jcl (fX3_read q16 none (0 : Int32) μ6) fun r19 μ20 => if r19 = 0 then (some (none, μ20, 0, 0)) else (jck ((jT μ20 a).1 == 5) <| jde (jP μ20 a 0) fun q30 => jck ((jT μ20 q30).1 == 8) <| jcl (fX7_take q30 (0 : Int64) μ20) fun r33 μ34 => if r33 = 0 then (some (none, μ34, 0, 0)) else (jck ((jT μ34 a).1 == 5) <| jde (jP μ34 a 4) fun q44 => jck ((jT μ34 q44).1 == 4) <| some ((jP μ34 q44 7), μ34, 0, 0))))
set_option maxHeartbeats 4000000 in
set_option maxRecDepth 100000 in
theorem mX4_readWorld {b : Nat} {a : Nat} {μ : JM} {r : Option Nat} {ν : JM} {c m : Nat} (hf : fX4_readWorld a μ = some (r, ν, c, m)) : JMet b yX4_readWorld cX4_readWorld 1 (some (.object "ClauseBench$Cases")) 3 75 [va_rf (some a)] μ (some (va_rf r)) ν c m := by
  refine JMet.of (by decide) (lg_sl_le (by simp only [List.map_cons, List.map_nil, List.sum_cons, List.sum_nil, va_rf_cat]; exact Nat.le_of_ble_eq_true rfl)) (fun Θ X hin => ?_)
  refine wa_eq (L2 := [(0, va_rf (some a))]) ?_ rfl (by first | rfl | simp [lv_args, va_rf_cat, cat_i, cat_l]) rfl
  obtain ⟨k, hk0⟩ : ∃ k : Nat, k = 0 := ⟨0, rfl⟩
  obtain ⟨n, hn0⟩ : ∃ n : Nat, n = 0 := ⟨0, rfl⟩
  have hk : k + c = c := by omega
  have hn : n + m = m := by omega
  refine wa_costs hk0.symm hn0.symm ?_
  rw [fX4_readWorld] at hf
  refine wa_aload_n X 0 dX4_readWorld_0 rfl ?_
  obtain ⟨h1, hf⟩ := jckT hf
  refine wa_getP X dX4_readWorld_1 lfX4_9 rfl h1 rfl ?_
  obtain ⟨q2, h3, hf⟩ := jde_some hf
  obtain ⟨h4, hf⟩ := jckT hf
  obtain ⟨r5, μ6, c7, m8, c9, m10, e11, hf, h12, h13⟩ := jcl_some hf
  refine wa_rcallV (st2 := [.long r5]) X dX4_readWorld_4 lmX4_34 lMX7_token h3 h4 (mX7_token e11) rfl rfl rfl (va_cats (Nat.le_of_ble_eq_true rfl)) (by decide) (by omega) (by omega) ?_
  refine wa_lconst (v := (0 : Int64)) X dX4_readWorld_7 (by decide) ?_
  refine wa_lcmp X dX4_readWorld_8 ?_
  refine wa_ifne (tgt := 30) X dX4_readWorld_9 (by decide) (fun h14 => ?_) (fun h14 => ?_)
  · rw [if_neg h14] at hf
    refine wa_aload_n X 0 dX4_readWorld_30 rfl ?_
    obtain ⟨h15, hf⟩ := jckT hf
    refine wa_getP X dX4_readWorld_31 lfX4_30 rfl h15 rfl ?_
    refine wa_null X dX4_readWorld_34 ?_
    refine wa_iconst (v := (0 : Int32)) X dX4_readWorld_35 (by decide) ?_
    obtain ⟨q16, h17, hf⟩ := jde_some hf
    obtain ⟨h18, hf⟩ := jckT hf
    obtain ⟨r19, μ20, c21, m22, c23, m24, e25, hf, h26, h27⟩ := jcl_some hf
    refine wa_rcallV (st2 := [.int r19]) X dX4_readWorld_36 lmX4_80 lMX3_read h17 h18 (mX3_read e25) rfl rfl rfl (va_cats (Nat.le_of_ble_eq_true rfl)) (by decide) (by omega) (by omega) ?_
    refine wa_ifeq (tgt := 63) X dX4_readWorld_39 (by decide) (fun h28 => ?_) (fun h28 => ?_)
    · rw [if_pos h28] at hf
      refine wa_null X dX4_readWorld_63 ?_
      obtain ⟨rfl, rfl, rfl, rfl⟩ := jret hf
      exact wa_aret X dX4_readWorld_64 (by first | exact Or.inl ⟨_, rfl⟩ | exact Or.inr ⟨_, rfl⟩) (by omega) (by omega)
    · rw [if_neg h28] at hf
      refine wa_aload_n X 0 dX4_readWorld_42 rfl ?_
      obtain ⟨h29, hf⟩ := jckT hf
      refine wa_getP X dX4_readWorld_43 lfX4_9 rfl h29 rfl ?_
      refine wa_lconst (v := (0 : Int64)) X dX4_readWorld_46 (by decide) ?_
      obtain ⟨q30, h31, hf⟩ := jde_some hf
      obtain ⟨h32, hf⟩ := jckT hf
      obtain ⟨r33, μ34, c35, m36, c37, m38, e39, hf, h40, h41⟩ := jcl_some hf
      refine wa_rcallV (st2 := [.int r33]) X dX4_readWorld_47 lmX4_84 lMX7_take h31 h32 (mX7_take e39) rfl rfl rfl (va_cats (Nat.le_of_ble_eq_true rfl)) (by decide) (by omega) (by omega) ?_
      refine wa_ifeq (tgt := 63) X dX4_readWorld_50 (by decide) (fun h42 => ?_) (fun h42 => ?_)
      · rw [if_pos h42] at hf
        refine wa_null X dX4_readWorld_63 ?_
        obtain ⟨rfl, rfl, rfl, rfl⟩ := jret hf
        exact wa_aret X dX4_readWorld_64 (by first | exact Or.inl ⟨_, rfl⟩ | exact Or.inr ⟨_, rfl⟩) (by omega) (by omega)
      · rw [if_neg h42] at hf
        refine wa_aload_n X 0 dX4_readWorld_53 rfl ?_
        obtain ⟨h43, hf⟩ := jckT hf
        refine wa_getP X dX4_readWorld_54 lfX4_30 rfl h43 rfl ?_
        obtain ⟨q44, h45, hf⟩ := jde_some hf
        obtain ⟨h46, hf⟩ := jckT hf
        refine wa_getP X dX4_readWorld_57 lfX4_71 h45 h46 rfl ?_
        refine wa_goto (tgt := 64) X dX4_readWorld_60 (by decide) ?_
        obtain ⟨rfl, rfl, rfl, rfl⟩ := jret hf
        exact wa_aret X dX4_readWorld_64 (by first | exact Or.inl ⟨_, rfl⟩ | exact Or.inr ⟨_, rfl⟩) (by omega) (by omega)
  · rw [if_pos h14] at hf
    refine wa_aload_n X 0 dX4_readWorld_12 rfl ?_
    obtain ⟨h47, hf⟩ := jckT hf
    refine wa_getP X dX4_readWorld_13 lfX4_30 rfl h47 rfl ?_
    obtain ⟨q48, h49, hf⟩ := jde_some hf
    obtain ⟨h50, hf⟩ := jckT hf
    refine wa_getP X dX4_readWorld_16 lfX4_71 h49 h50 rfl ?_
    obtain ⟨q51, h52, hf⟩ := jde_some hf
    obtain ⟨h53, hf⟩ := jckT hf
    obtain ⟨u54, μ55, c56, m57, c58, m59, e60, hf, h61, h62⟩ := jcl_some hf
    refine wa_rcallV (st2 := []) X dX4_readWorld_19 lmX4_75 lMX1_fill h52 h53 (mX1_fill e60) rfl rfl rfl (va_cats (Nat.le_of_ble_eq_true rfl)) (by decide) (by omega) (by omega) ?_
    refine wa_aload_n X 0 dX4_readWorld_22 rfl ?_
    obtain ⟨h63, hf⟩ := jckT hf
    refine wa_getP X dX4_readWorld_23 lfX4_30 rfl h63 rfl ?_
    obtain ⟨q64, h65, hf⟩ := jde_some hf
    obtain ⟨h66, hf⟩ := jckT hf
    refine wa_getP X dX4_readWorld_26 lfX4_71 h65 h66 rfl ?_
    obtain ⟨rfl, rfl, rfl, rfl⟩ := jret hf
    exact wa_aret X dX4_readWorld_29 (by first | exact Or.inl ⟨_, rfl⟩ | exact Or.inr ⟨_, rfl⟩) (by omega) (by omega)
theorem dX4_readName_0 : decode cX4_readName 0 = .ok (.aload_n 0, 1) := by decide +kernel
theorem dX4_readName_1 : decode cX4_readName 1 = .ok (.getfield 9, 3) := by decide +kernel
theorem dX4_readName_4 : decode cX4_readName 4 = .ok (.invokevirtual 34, 3) := by decide +kernel
theorem dX4_readName_7 : decode cX4_readName 7 = .ok (.lstore_n 3, 1) := by decide +kernel
theorem dX4_readName_8 : decode cX4_readName 8 = .ok (.lload_n 3, 1) := by decide +kernel
theorem dX4_readName_9 : decode cX4_readName 9 = .ok (.invokestatic 50, 3) := by decide +kernel
theorem dX4_readName_12 : decode cX4_readName 12 = .ok (.ifCond .eq 12, 3) := by decide +kernel
theorem dX4_readName_15 : decode cX4_readName 15 = .ok (.aload_n 0, 1) := by decide +kernel
theorem dX4_readName_16 : decode cX4_readName 16 = .ok (.getfield 9, 3) := by decide +kernel
theorem dX4_readName_19 : decode cX4_readName 19 = .ok (.iconst 2, 1) := by decide +kernel
theorem dX4_readName_20 : decode cX4_readName 20 = .ok (.invokevirtual 54, 3) := by decide +kernel
theorem dX4_readName_23 : decode cX4_readName 23 = .ok (.ireturn, 1) := by decide +kernel
theorem dX4_readName_24 : decode cX4_readName 24 = .ok (.lload_n 3, 1) := by decide +kernel
theorem dX4_readName_25 : decode cX4_readName 25 = .ok (.invokestatic 58, 3) := by decide +kernel
theorem dX4_readName_28 : decode cX4_readName 28 = .ok (.ifCond .ne 12, 3) := by decide +kernel
theorem dX4_readName_31 : decode cX4_readName 31 = .ok (.aload_n 0, 1) := by decide +kernel
theorem dX4_readName_32 : decode cX4_readName 32 = .ok (.getfield 9, 3) := by decide +kernel
theorem dX4_readName_35 : decode cX4_readName 35 = .ok (.iconst 0, 1) := by decide +kernel
theorem dX4_readName_36 : decode cX4_readName 36 = .ok (.invokevirtual 54, 3) := by decide +kernel
theorem dX4_readName_39 : decode cX4_readName 39 = .ok (.ireturn, 1) := by decide +kernel
theorem dX4_readName_40 : decode cX4_readName 40 = .ok (.aload_n 0, 1) := by decide +kernel
theorem dX4_readName_41 : decode cX4_readName 41 = .ok (.getfield 144, 3) := by decide +kernel
theorem dX4_readName_44 : decode cX4_readName 44 = .ok (.lload_n 3, 1) := by decide +kernel
theorem dX4_readName_45 : decode cX4_readName 45 = .ok (.iload_n 2, 1) := by decide +kernel
theorem dX4_readName_46 : decode cX4_readName 46 = .ok (.invokevirtual 137, 3) := by decide +kernel
theorem dX4_readName_49 : decode cX4_readName 49 = .ok (.iconst (-1), 1) := by decide +kernel
theorem dX4_readName_50 : decode cX4_readName 50 = .ok (.if_icmp .eq 7, 3) := by decide +kernel
theorem dX4_readName_53 : decode cX4_readName 53 = .ok (.iconst 1, 1) := by decide +kernel
theorem dX4_readName_54 : decode cX4_readName 54 = .ok (.goto 4, 3) := by decide +kernel
theorem dX4_readName_57 : decode cX4_readName 57 = .ok (.iconst 0, 1) := by decide +kernel
theorem dX4_readName_58 : decode cX4_readName 58 = .ok (.istore 5, 2) := by decide +kernel
theorem dX4_readName_60 : decode cX4_readName 60 = .ok (.aload_n 0, 1) := by decide +kernel
theorem dX4_readName_61 : decode cX4_readName 61 = .ok (.getfield 148, 3) := by decide +kernel
theorem dX4_readName_64 : decode cX4_readName 64 = .ok (.ifCond .ne 33, 3) := by decide +kernel
theorem dX4_readName_67 : decode cX4_readName 67 = .ok (.iload 5, 2) := by decide +kernel
theorem dX4_readName_69 : decode cX4_readName 69 = .ok (.ifCond .ne 19, 3) := by decide +kernel
theorem dX4_readName_72 : decode cX4_readName 72 = .ok (.iload_n 2, 1) := by decide +kernel
theorem dX4_readName_73 : decode cX4_readName 73 = .ok (.ifCond .eq 24, 3) := by decide +kernel
theorem dX4_readName_76 : decode cX4_readName 76 = .ok (.aload_n 0, 1) := by decide +kernel
theorem dX4_readName_77 : decode cX4_readName 77 = .ok (.getfield 15, 3) := by decide +kernel
theorem dX4_readName_80 : decode cX4_readName 80 = .ok (.lload_n 3, 1) := by decide +kernel
theorem dX4_readName_81 : decode cX4_readName 81 = .ok (.invokevirtual 61, 3) := by decide +kernel
theorem dX4_readName_84 : decode cX4_readName 84 = .ok (.iconst (-1), 1) := by decide +kernel
theorem dX4_readName_85 : decode cX4_readName 85 = .ok (.if_icmp .eq 12, 3) := by decide +kernel
theorem dX4_readName_88 : decode cX4_readName 88 = .ok (.aload_n 0, 1) := by decide +kernel
theorem dX4_readName_89 : decode cX4_readName 89 = .ok (.getfield 9, 3) := by decide +kernel
theorem dX4_readName_92 : decode cX4_readName 92 = .ok (.iconst 2, 1) := by decide +kernel
theorem dX4_readName_93 : decode cX4_readName 93 = .ok (.invokevirtual 54, 3) := by decide +kernel
theorem dX4_readName_96 : decode cX4_readName 96 = .ok (.ireturn, 1) := by decide +kernel
theorem dX4_readName_97 : decode cX4_readName 97 = .ok (.aload_n 0, 1) := by decide +kernel
theorem dX4_readName_98 : decode cX4_readName 98 = .ok (.getfield 148, 3) := by decide +kernel
theorem dX4_readName_101 : decode cX4_readName 101 = .ok (.iconst 2, 1) := by decide +kernel
theorem dX4_readName_102 : decode cX4_readName 102 = .ok (.if_icmp .ne 17, 3) := by decide +kernel
theorem dX4_readName_105 : decode cX4_readName 105 = .ok (.iload 5, 2) := by decide +kernel
theorem dX4_readName_107 : decode cX4_readName 107 = .ok (.ifCond .ne 12, 3) := by decide +kernel
theorem dX4_readName_110 : decode cX4_readName 110 = .ok (.aload_n 0, 1) := by decide +kernel
theorem dX4_readName_111 : decode cX4_readName 111 = .ok (.getfield 9, 3) := by decide +kernel
theorem dX4_readName_114 : decode cX4_readName 114 = .ok (.iconst 3, 1) := by decide +kernel
theorem dX4_readName_115 : decode cX4_readName 115 = .ok (.invokevirtual 54, 3) := by decide +kernel
theorem dX4_readName_118 : decode cX4_readName 118 = .ok (.ireturn, 1) := by decide +kernel
theorem dX4_readName_119 : decode cX4_readName 119 = .ok (.aload_n 0, 1) := by decide +kernel
theorem dX4_readName_120 : decode cX4_readName 120 = .ok (.getfield 148, 3) := by decide +kernel
theorem dX4_readName_123 : decode cX4_readName 123 = .ok (.ifCond .ne 24, 3) := by decide +kernel
theorem dX4_readName_126 : decode cX4_readName 126 = .ok (.aload_n 0, 1) := by decide +kernel
theorem dX4_readName_127 : decode cX4_readName 127 = .ok (.getfield 144, 3) := by decide +kernel
theorem dX4_readName_130 : decode cX4_readName 130 = .ok (.getfield 179, 3) := by decide +kernel
theorem dX4_readName_133 : decode cX4_readName 133 = .ok (.bipush 24, 2) := by decide +kernel
theorem dX4_readName_135 : decode cX4_readName 135 = .ok (.if_icmp .lt 12, 3) := by decide +kernel
theorem dX4_readName_138 : decode cX4_readName 138 = .ok (.aload_n 0, 1) := by decide +kernel
theorem dX4_readName_139 : decode cX4_readName 139 = .ok (.getfield 9, 3) := by decide +kernel
theorem dX4_readName_142 : decode cX4_readName 142 = .ok (.iconst 4, 1) := by decide +kernel
theorem dX4_readName_143 : decode cX4_readName 143 = .ok (.invokevirtual 54, 3) := by decide +kernel
theorem dX4_readName_146 : decode cX4_readName 146 = .ok (.ireturn, 1) := by decide +kernel
theorem dX4_readName_147 : decode cX4_readName 147 = .ok (.aload_n 1, 1) := by decide +kernel
theorem dX4_readName_148 : decode cX4_readName 148 = .ok (.lload_n 3, 1) := by decide +kernel
theorem dX4_readName_149 : decode cX4_readName 149 = .ok (.putfield 128, 3) := by decide +kernel
theorem dX4_readName_152 : decode cX4_readName 152 = .ok (.aload_n 0, 1) := by decide +kernel
theorem dX4_readName_153 : decode cX4_readName 153 = .ok (.getfield 9, 3) := by decide +kernel
theorem dX4_readName_156 : decode cX4_readName 156 = .ok (.invokevirtual 68, 3) := by decide +kernel
theorem dX4_readName_159 : decode cX4_readName 159 = .ok (.iconst 1, 1) := by decide +kernel
theorem dX4_readName_160 : decode cX4_readName 160 = .ok (.ireturn, 1) := by decide +kernel
def fX4_readName_b88 (a : Nat) (μ : JM) : JO (Int32) := jck ((jT μ a).1 == 5) <| jde (jP μ a 0) fun q94 => jck ((jT μ q94).1 == 8) <| jcl (fX7_fail q94 (2 : Int32) μ) fun r97 μ98 => jck (jbl r97) <| some (r97, μ98, 0, 0)
set_option maxHeartbeats 4000000 in
set_option maxRecDepth 100000 in
theorem gX4_readName_b88 {b : Nat} {Θ : JE} {RC RS : Nat} {r : Int32} {ν : JM} (X : jX b Θ RX4 cX4_readName 6 (some .boolean) 1 24 RC RS) (a : Nat) (μ : JM) (c m k n : Nat) (hf : fX4_readName_b88 a μ = some (r, ν, c, m)) (hk : k + c = RC) (hn : n + m = RS) : WA b Θ 6 (jE b Θ (some (.int r)) ν RC RS) μ k n 88 [(0, va_rf (some a))] [] := by
  rw [fX4_readName_b88] at hf
  refine wa_aload_n X 0 dX4_readName_88 rfl ?_
  obtain ⟨h93, hf⟩ := jckT hf
  refine wa_getP X dX4_readName_89 lfX4_9 rfl h93 rfl ?_
  refine wa_iconst (v := (2 : Int32)) X dX4_readName_92 (by decide) ?_
  obtain ⟨q94, h95, hf⟩ := jde_some hf
  obtain ⟨h96, hf⟩ := jckT hf
  obtain ⟨r97, μ98, c99, m100, c101, m102, e103, hf, h104, h105⟩ := jcl_some hf
  refine wa_rcallV (st2 := [.int r97]) X dX4_readName_93 lmX4_54 lMX7_fail h95 h96 (mX7_fail e103) rfl rfl rfl (va_cats (Nat.le_of_ble_eq_true rfl)) (by decide) (by omega) (by omega) ?_
  obtain ⟨h106, hf⟩ := jck_some hf
  obtain ⟨rfl, rfl, rfl, rfl⟩ := jret hf
  exact wa_iret X dX4_readName_96 (jbl_nar h106) (by omega) (by omega)
def fX4_readName_b147 (a : Nat) (p1 : Option Nat) (y3 : Int64) (μ : JM) : JO (Int32) := jde p1 fun q142 => jck ((jT μ q142).1 == 3) <| jlt (jsJ μ q142 1 y3) fun μ145 => jck ((jT μ a).1 == 5) <| jde (jP μ145 a 0) fun q149 => jck ((jT μ q149).1 == 8) <| jcl (fX7_step q149 μ145) fun u152 μ153 => some ((1 : Int32), μ153, 0, 0)
set_option maxHeartbeats 4000000 in
set_option maxRecDepth 100000 in
theorem gX4_readName_b147 {b : Nat} {Θ : JE} {RC RS : Nat} {r : Int32} {ν : JM} (X : jX b Θ RX4 cX4_readName 6 (some .boolean) 1 24 RC RS) (a : Nat) (p1 : Option Nat) (y3 : Int64) (μ : JM) (c m k n : Nat) (hf : fX4_readName_b147 a p1 y3 μ = some (r, ν, c, m)) (hk : k + c = RC) (hn : n + m = RS) : WA b Θ 6 (jE b Θ (some (.int r)) ν RC RS) μ k n 147 [(0, va_rf (some a)), (1, va_rf p1), (3, .long y3)] [] := by
  rw [fX4_readName_b147] at hf
  refine wa_aload_n X 1 dX4_readName_147 rfl ?_
  refine wa_lload_n X 2 dX4_readName_148 rfl ?_
  obtain ⟨q142, h143, hf⟩ := jde_some hf
  obtain ⟨h144, hf⟩ := jckT hf
  obtain ⟨μ145, hm146, hf⟩ := jlt_e hf
  have e147 : jT μ145 = jT μ := by rw [hm146]; rfl
  refine wa_rputJ (ν := μ145) X dX4_readName_149 lfX4_128 h143 h144 rfl rfl hm146 ?_
  refine wa_aload_n X 0 dX4_readName_152 rfl ?_
  obtain ⟨h148, hf⟩ := jckT hf
  refine wa_getP X dX4_readName_153 lfX4_9 rfl (by rw [e147]; exact h148) rfl ?_
  obtain ⟨q149, h150, hf⟩ := jde_some hf
  obtain ⟨h151, hf⟩ := jckT hf
  obtain ⟨u152, μ153, c154, m155, c156, m157, e158, hf, h159, h160⟩ := jcl_some hf
  refine wa_rcallV (st2 := []) X dX4_readName_156 lmX4_68 lMX7_step h150 (by rw [e147]; exact h151) (mX7_step e158) rfl rfl rfl (va_cats (Nat.le_of_ble_eq_true rfl)) (by decide) (by omega) (by omega) ?_
  refine wa_iconst (v := (1 : Int32)) X dX4_readName_159 (by decide) ?_
  obtain ⟨rfl, rfl, rfl, rfl⟩ := jret hf
  exact wa_iret X dX4_readName_160 rfl (by omega) (by omega)
def fX4_readName_b119 (a : Nat) (p1 : Option Nat) (y3 : Int64) (μ : JM) : JO (Int32) := jck ((jT μ a).1 == 5) <| if (jI μ a 5) = 0 then (jde (jP μ a 6) fun q125 => jck ((jT μ q125).1 == 9) <| if (jI μ q125 2) < (24 : Int32) then (fX4_readName_b147  a p1 y3 μ) else (jde (jP μ a 0) fun q129 => jck ((jT μ q129).1 == 8) <| jcl (fX7_fail q129 (4 : Int32) μ) fun r132 μ133 => jck (jbl r132) <| some (r132, μ133, 0, 0))) else (fX4_readName_b147  a p1 y3 μ)
set_option maxHeartbeats 4000000 in
set_option maxRecDepth 100000 in
theorem gX4_readName_b119 {b : Nat} {Θ : JE} {RC RS : Nat} {r : Int32} {ν : JM} (X : jX b Θ RX4 cX4_readName 6 (some .boolean) 1 24 RC RS) (a : Nat) (p1 : Option Nat) (y3 : Int64) (μ : JM) (c m k n : Nat) (hf : fX4_readName_b119 a p1 y3 μ = some (r, ν, c, m)) (hk : k + c = RC) (hn : n + m = RS) : WA b Θ 6 (jE b Θ (some (.int r)) ν RC RS) μ k n 119 [(0, va_rf (some a)), (1, va_rf p1), (3, .long y3)] [] := by
  rw [fX4_readName_b119] at hf
  refine wa_aload_n X 0 dX4_readName_119 rfl ?_
  obtain ⟨h123, hf⟩ := jckT hf
  refine wa_getI X dX4_readName_120 lfX4_148 rfl h123 rfl ?_
  refine wa_ifne (tgt := 147) X dX4_readName_123 (by decide) (fun h124 => ?_) (fun h124 => ?_)
  · rw [if_neg h124] at hf
    refine wa_sub (L2 := [(0, va_rf (some a)), (1, va_rf p1), (3, .long y3)]) [0, 1, 2] rfl ?_
    exact gX4_readName_b147 X a p1 y3 μ _ _ _ _ hf (by omega) (by omega)
  · rw [if_pos h124] at hf
    refine wa_aload_n X 0 dX4_readName_126 rfl ?_
    refine wa_getP X dX4_readName_127 lfX4_144 rfl h123 rfl ?_
    obtain ⟨q125, h126, hf⟩ := jde_some hf
    obtain ⟨h127, hf⟩ := jckT hf
    refine wa_getI X dX4_readName_130 lfX4_179 h126 h127 rfl ?_
    refine wa_bipush (v := (24 : Int32)) X dX4_readName_133 (by decide) ?_
    refine wa_iclt (tgt := 147) X dX4_readName_135 (by decide) (fun h128 => ?_) (fun h128 => ?_)
    · rw [if_pos h128] at hf
      refine wa_sub (L2 := [(0, va_rf (some a)), (1, va_rf p1), (3, .long y3)]) [0, 1, 2] rfl ?_
      exact gX4_readName_b147 X a p1 y3 μ _ _ _ _ hf (by omega) (by omega)
    · rw [if_neg h128] at hf
      refine wa_aload_n X 0 dX4_readName_138 rfl ?_
      refine wa_getP X dX4_readName_139 lfX4_9 rfl h123 rfl ?_
      refine wa_iconst (v := (4 : Int32)) X dX4_readName_142 (by decide) ?_
      obtain ⟨q129, h130, hf⟩ := jde_some hf
      obtain ⟨h131, hf⟩ := jckT hf
      obtain ⟨r132, μ133, c134, m135, c136, m137, e138, hf, h139, h140⟩ := jcl_some hf
      refine wa_rcallV (st2 := [.int r132]) X dX4_readName_143 lmX4_54 lMX7_fail h130 h131 (mX7_fail e138) rfl rfl rfl (va_cats (Nat.le_of_ble_eq_true rfl)) (by decide) (by omega) (by omega) ?_
      obtain ⟨h141, hf⟩ := jck_some hf
      obtain ⟨rfl, rfl, rfl, rfl⟩ := jret hf
      exact wa_iret X dX4_readName_146 (jbl_nar h141) (by omega) (by omega)
def fX4_readName_b97 (a : Nat) (p1 : Option Nat) (y3 : Int64) (x5 : Int32) (μ : JM) : JO (Int32) := jck ((jT μ a).1 == 5) <| if (jI μ a 5) = (2 : Int32) then (if x5 = 0 then (jde (jP μ a 0) fun q110 => jck ((jT μ q110).1 == 8) <| jcl (fX7_fail q110 (3 : Int32) μ) fun r113 μ114 => jck (jbl r113) <| some (r113, μ114, 0, 0)) else (fX4_readName_b119  a p1 y3 μ)) else (fX4_readName_b119  a p1 y3 μ)
set_option maxHeartbeats 4000000 in
set_option maxRecDepth 100000 in
theorem gX4_readName_b97 {b : Nat} {Θ : JE} {RC RS : Nat} {r : Int32} {ν : JM} (X : jX b Θ RX4 cX4_readName 6 (some .boolean) 1 24 RC RS) (a : Nat) (p1 : Option Nat) (y3 : Int64) (x5 : Int32) (μ : JM) (c m k n : Nat) (hf : fX4_readName_b97 a p1 y3 x5 μ = some (r, ν, c, m)) (hk : k + c = RC) (hn : n + m = RS) : WA b Θ 6 (jE b Θ (some (.int r)) ν RC RS) μ k n 97 [(0, va_rf (some a)), (1, va_rf p1), (3, .long y3), (5, .int x5)] [] := by
  rw [fX4_readName_b97] at hf
  refine wa_aload_n X 0 dX4_readName_97 rfl ?_
  obtain ⟨h107, hf⟩ := jckT hf
  refine wa_getI X dX4_readName_98 lfX4_148 rfl h107 rfl ?_
  refine wa_iconst (v := (2 : Int32)) X dX4_readName_101 (by decide) ?_
  refine wa_icne (tgt := 119) X dX4_readName_102 (by decide) (fun h108 => ?_) (fun h108 => ?_)
  · rw [if_neg h108] at hf
    refine wa_sub (L2 := [(0, va_rf (some a)), (1, va_rf p1), (3, .long y3)]) [0, 1, 2] rfl ?_
    exact gX4_readName_b119 X a p1 y3 μ _ _ _ _ hf (by omega) (by omega)
  · rw [if_pos h108] at hf
    refine wa_iload X 3 dX4_readName_105 rfl ?_
    refine wa_ifne (tgt := 119) X dX4_readName_107 (by decide) (fun h109 => ?_) (fun h109 => ?_)
    · rw [if_neg h109] at hf
      refine wa_sub (L2 := [(0, va_rf (some a)), (1, va_rf p1), (3, .long y3)]) [0, 1, 2] rfl ?_
      exact gX4_readName_b119 X a p1 y3 μ _ _ _ _ hf (by omega) (by omega)
    · rw [if_pos h109] at hf
      refine wa_aload_n X 0 dX4_readName_110 rfl ?_
      refine wa_getP X dX4_readName_111 lfX4_9 rfl h107 rfl ?_
      refine wa_iconst (v := (3 : Int32)) X dX4_readName_114 (by decide) ?_
      obtain ⟨q110, h111, hf⟩ := jde_some hf
      obtain ⟨h112, hf⟩ := jckT hf
      obtain ⟨r113, μ114, c115, m116, c117, m118, e119, hf, h120, h121⟩ := jcl_some hf
      refine wa_rcallV (st2 := [.int r113]) X dX4_readName_115 lmX4_54 lMX7_fail h111 h112 (mX7_fail e119) rfl rfl rfl (va_cats (Nat.le_of_ble_eq_true rfl)) (by decide) (by omega) (by omega) ?_
      obtain ⟨h122, hf⟩ := jck_some hf
      obtain ⟨rfl, rfl, rfl, rfl⟩ := jret hf
      exact wa_iret X dX4_readName_118 (jbl_nar h122) (by omega) (by omega)
def fX4_readName_b58 (a : Nat) (p1 : Option Nat) (x2 : Int32) (y3 : Int64) (s0 : Int32) (μ : JM) : JO (Int32) := jck ((jT μ a).1 == 5) <| if (jI μ a 5) = 0 then (if s0 = 0 then (if x2 = 0 then (fX4_readName_b97  a p1 y3 s0 μ) else (jde (jP μ a 1) fun q80 => jck ((jT μ q80).1 == 10) <| jcl (fX9_find q80 y3 μ) fun r83 μ84 => if r83 = (-1 : Int32) then (fX4_readName_b97  a p1 y3 s0 μ84) else (fX4_readName_b88  a μ84))) else (fX4_readName_b88  a μ)) else (fX4_readName_b97  a p1 y3 s0 μ)
set_option maxHeartbeats 4000000 in
set_option maxRecDepth 100000 in
theorem gX4_readName_b58 {b : Nat} {Θ : JE} {RC RS : Nat} {r : Int32} {ν : JM} (X : jX b Θ RX4 cX4_readName 6 (some .boolean) 1 24 RC RS) (a : Nat) (p1 : Option Nat) (x2 : Int32) (y3 : Int64) (s0 : Int32) (μ : JM) (c m k n : Nat) (hf : fX4_readName_b58 a p1 x2 y3 s0 μ = some (r, ν, c, m)) (hk : k + c = RC) (hn : n + m = RS) : WA b Θ 6 (jE b Θ (some (.int r)) ν RC RS) μ k n 58 [(0, va_rf (some a)), (1, va_rf p1), (2, .int x2), (3, .long y3)] [.int s0] := by
  rw [fX4_readName_b58] at hf
  refine wa_istore (L2 := [(5, .int s0), (0, va_rf (some a)), (1, va_rf p1), (2, .int x2), (3, .long y3)]) X dX4_readName_58 (by decide) (by first | rfl | (show (5, _) :: List.filter (fun q : Nat × Value => !(q.1 == 5) && !(q.1 + 1 == 5 && q.2.category == 2)) _ = _; simp [va_rf_cat, cat_i, cat_l])) ?_
  refine wa_aload_n X 1 dX4_readName_60 rfl ?_
  obtain ⟨h76, hf⟩ := jckT hf
  refine wa_getI X dX4_readName_61 lfX4_148 rfl h76 rfl ?_
  refine wa_ifne (tgt := 97) X dX4_readName_64 (by decide) (fun h77 => ?_) (fun h77 => ?_)
  · rw [if_neg h77] at hf
    refine wa_sub (L2 := [(0, va_rf (some a)), (1, va_rf p1), (3, .long y3), (5, .int s0)]) [1, 2, 4, 0] rfl ?_
    exact gX4_readName_b97 X a p1 y3 s0 μ _ _ _ _ hf (by omega) (by omega)
  · rw [if_pos h77] at hf
    refine wa_iload X 0 dX4_readName_67 rfl ?_
    refine wa_ifne (tgt := 88) X dX4_readName_69 (by decide) (fun h78 => ?_) (fun h78 => ?_)
    · rw [if_neg h78] at hf
      refine wa_sub (L2 := [(0, va_rf (some a))]) [1] rfl ?_
      exact gX4_readName_b88 X a μ _ _ _ _ hf (by omega) (by omega)
    · rw [if_pos h78] at hf
      refine wa_iload_n X 3 dX4_readName_72 rfl ?_
      refine wa_ifeq (tgt := 97) X dX4_readName_73 (by decide) (fun h79 => ?_) (fun h79 => ?_)
      · rw [if_pos h79] at hf
        refine wa_sub (L2 := [(0, va_rf (some a)), (1, va_rf p1), (3, .long y3), (5, .int s0)]) [1, 2, 4, 0] rfl ?_
        exact gX4_readName_b97 X a p1 y3 s0 μ _ _ _ _ hf (by omega) (by omega)
      · rw [if_neg h79] at hf
        refine wa_aload_n X 1 dX4_readName_76 rfl ?_
        refine wa_getP X dX4_readName_77 lfX4_15 rfl h76 rfl ?_
        refine wa_lload_n X 4 dX4_readName_80 rfl ?_
        obtain ⟨q80, h81, hf⟩ := jde_some hf
        obtain ⟨h82, hf⟩ := jckT hf
        obtain ⟨r83, μ84, c85, m86, c87, m88, e89, hf, h90, h91⟩ := jcl_some hf
        refine wa_rcallV (st2 := [.int r83]) X dX4_readName_81 lmX4_61 lMX9_find h81 h82 (mX9_find e89) rfl rfl rfl (va_cats (Nat.le_of_ble_eq_true rfl)) (by decide) (by omega) (by omega) ?_
        refine wa_iconst (v := (-1 : Int32)) X dX4_readName_84 (by decide) ?_
        refine wa_iceq (tgt := 97) X dX4_readName_85 (by decide) (fun h92 => ?_) (fun h92 => ?_)
        · rw [if_pos h92] at hf
          refine wa_sub (L2 := [(0, va_rf (some a)), (1, va_rf p1), (3, .long y3), (5, .int s0)]) [1, 2, 4, 0] rfl ?_
          exact gX4_readName_b97 X a p1 y3 s0 μ84 _ _ _ _ hf (by omega) (by omega)
        · rw [if_neg h92] at hf
          refine wa_sub (L2 := [(0, va_rf (some a))]) [1] rfl ?_
          exact gX4_readName_b88 X a μ84 _ _ _ _ hf (by omega) (by omega)
def fX4_readName (a : Nat) (p1 : Option Nat) (x2 : Int32) (μ : JM) : JO (Int32) := jck ((jT μ a).1 == 5) <| jde (jP μ a 0) fun q2 => jck ((jT μ q2).1 == 8) <| jcl (fX7_token q2 μ) fun r5 μ6 => jcl (fX10_isOurs r5 μ6) fun r14 μ15 => if r14 = 0 then (jcl (fX10_isFreeWord r5 μ15) fun r24 μ25 => if r24 = 0 then (jck ((jT μ25 a).1 == 5) <| jde (jP μ25 a 0) fun q49 => jck ((jT μ25 q49).1 == 8) <| jcl (fX7_fail q49 (0 : Int32) μ25) fun r52 μ53 => jck (jbl r52) <| some (r52, μ53, 0, 0)) else (jck ((jT μ25 a).1 == 5) <| jde (jP μ25 a 6) fun q35 => jck ((jT μ25 q35).1 == 9) <| jcl (fX8_find q35 r5 x2 μ25) fun r38 μ39 => if r38 = (-1 : Int32) then (fX4_readName_b58  a p1 x2 r5 (0 : Int32) μ39) else (fX4_readName_b58  a p1 x2 r5 (1 : Int32) μ39))) else (jck ((jT μ15 a).1 == 5) <| jde (jP μ15 a 0) fun q63 => jck ((jT μ15 q63).1 == 8) <| jcl (fX7_fail q63 (2 : Int32) μ15) fun r66 μ67 => jck (jbl r66) <| some (r66, μ67, 0, 0))
set_option maxHeartbeats 4000000 in
set_option maxRecDepth 100000 in
theorem mX4_readName {b : Nat} {a : Nat} {p1 : Option Nat} {x2 : Int32} {μ : JM} {r : Int32} {ν : JM} {c m : Nat} (hf : fX4_readName a p1 x2 μ = some (r, ν, c, m)) : JMet b yX4_readName cX4_readName 6 (some .boolean) 1 24 [va_rf (some a), va_rf p1, .int x2] μ (some (.int r)) ν c m := by
  refine JMet.of (by decide) (lg_sl_le (by simp only [List.map_cons, List.map_nil, List.sum_cons, List.sum_nil, va_rf_cat]; exact Nat.le_of_ble_eq_true rfl)) (fun Θ X hin => ?_)
  refine wa_eq (L2 := [(0, va_rf (some a)), (1, va_rf p1), (2, .int x2)]) ?_ rfl (by first | rfl | simp [lv_args, va_rf_cat, cat_i, cat_l]) rfl
  obtain ⟨k, hk0⟩ : ∃ k : Nat, k = 0 := ⟨0, rfl⟩
  obtain ⟨n, hn0⟩ : ∃ n : Nat, n = 0 := ⟨0, rfl⟩
  have hk : k + c = c := by omega
  have hn : n + m = m := by omega
  refine wa_costs hk0.symm hn0.symm ?_
  rw [fX4_readName] at hf
  refine wa_aload_n X 0 dX4_readName_0 rfl ?_
  obtain ⟨h1, hf⟩ := jckT hf
  refine wa_getP X dX4_readName_1 lfX4_9 rfl h1 rfl ?_
  obtain ⟨q2, h3, hf⟩ := jde_some hf
  obtain ⟨h4, hf⟩ := jckT hf
  obtain ⟨r5, μ6, c7, m8, c9, m10, e11, hf, h12, h13⟩ := jcl_some hf
  refine wa_rcallV (st2 := [.long r5]) X dX4_readName_4 lmX4_34 lMX7_token h3 h4 (mX7_token e11) rfl rfl rfl (va_cats (Nat.le_of_ble_eq_true rfl)) (by decide) (by omega) (by omega) ?_
  refine wa_lstore_n (L2 := [(3, .long r5), (0, va_rf (some a)), (1, va_rf p1), (2, .int x2)]) X dX4_readName_7 (by decide) (by first | rfl | (show (3, _) :: List.filter (fun q : Nat × Value => !(q.1 == 3) && (!(q.1 == 4) && !(q.1 + 1 == 3 && q.2.category == 2))) _ = _; simp [va_rf_cat, cat_i, cat_l])) ?_
  refine wa_lload_n X 0 dX4_readName_8 rfl ?_
  obtain ⟨r14, μ15, c16, m17, c18, m19, e20, hf, h21, h22⟩ := jcl_some hf
  refine wa_rcallSN (st2 := [.int r14]) X dX4_readName_9 lNX4_50 lMX10_isOurs (mX10_isOurs e20) rfl rfl rfl (va_cats (Nat.le_of_ble_eq_true rfl)) (by decide) (by omega) (by omega) ?_
  refine wa_ifeq (tgt := 24) X dX4_readName_12 (by decide) (fun h23 => ?_) (fun h23 => ?_)
  · rw [if_pos h23] at hf
    refine wa_lload_n X 0 dX4_readName_24 rfl ?_
    obtain ⟨r24, μ25, c26, m27, c28, m29, e30, hf, h31, h32⟩ := jcl_some hf
    refine wa_rcallSN (st2 := [.int r24]) X dX4_readName_25 lNX4_58 lMX10_isFreeWord (mX10_isFreeWord e30) rfl rfl rfl (va_cats (Nat.le_of_ble_eq_true rfl)) (by decide) (by omega) (by omega) ?_
    refine wa_ifne (tgt := 40) X dX4_readName_28 (by decide) (fun h33 => ?_) (fun h33 => ?_)
    · rw [if_neg h33] at hf
      refine wa_aload_n X 1 dX4_readName_40 rfl ?_
      obtain ⟨h34, hf⟩ := jckT hf
      refine wa_getP X dX4_readName_41 lfX4_144 rfl h34 rfl ?_
      refine wa_lload_n X 0 dX4_readName_44 rfl ?_
      refine wa_iload_n X 3 dX4_readName_45 rfl ?_
      obtain ⟨q35, h36, hf⟩ := jde_some hf
      obtain ⟨h37, hf⟩ := jckT hf
      obtain ⟨r38, μ39, c40, m41, c42, m43, e44, hf, h45, h46⟩ := jcl_some hf
      refine wa_rcallV (st2 := [.int r38]) X dX4_readName_46 lmX4_137 lMX8_find h36 h37 (mX8_find e44) rfl rfl rfl (va_cats (Nat.le_of_ble_eq_true rfl)) (by decide) (by omega) (by omega) ?_
      refine wa_iconst (v := (-1 : Int32)) X dX4_readName_49 (by decide) ?_
      refine wa_iceq (tgt := 57) X dX4_readName_50 (by decide) (fun h47 => ?_) (fun h47 => ?_)
      · rw [if_pos h47] at hf
        refine wa_iconst (v := (0 : Int32)) X dX4_readName_57 (by decide) ?_
        refine wa_sub (L2 := [(0, va_rf (some a)), (1, va_rf p1), (2, .int x2), (3, .long r5)]) [1, 2, 3, 0] rfl ?_
        exact gX4_readName_b58 X a p1 x2 r5 (0 : Int32) μ39 _ _ _ _ hf (by omega) (by omega)
      · rw [if_neg h47] at hf
        refine wa_iconst (v := (1 : Int32)) X dX4_readName_53 (by decide) ?_
        refine wa_goto (tgt := 58) X dX4_readName_54 (by decide) ?_
        refine wa_sub (L2 := [(0, va_rf (some a)), (1, va_rf p1), (2, .int x2), (3, .long r5)]) [1, 2, 3, 0] rfl ?_
        exact gX4_readName_b58 X a p1 x2 r5 (1 : Int32) μ39 _ _ _ _ hf (by omega) (by omega)
    · rw [if_pos h33] at hf
      refine wa_aload_n X 1 dX4_readName_31 rfl ?_
      obtain ⟨h48, hf⟩ := jckT hf
      refine wa_getP X dX4_readName_32 lfX4_9 rfl h48 rfl ?_
      refine wa_iconst (v := (0 : Int32)) X dX4_readName_35 (by decide) ?_
      obtain ⟨q49, h50, hf⟩ := jde_some hf
      obtain ⟨h51, hf⟩ := jckT hf
      obtain ⟨r52, μ53, c54, m55, c56, m57, e58, hf, h59, h60⟩ := jcl_some hf
      refine wa_rcallV (st2 := [.int r52]) X dX4_readName_36 lmX4_54 lMX7_fail h50 h51 (mX7_fail e58) rfl rfl rfl (va_cats (Nat.le_of_ble_eq_true rfl)) (by decide) (by omega) (by omega) ?_
      obtain ⟨h61, hf⟩ := jck_some hf
      obtain ⟨rfl, rfl, rfl, rfl⟩ := jret hf
      exact wa_iret X dX4_readName_39 (jbl_nar h61) (by omega) (by omega)
  · rw [if_neg h23] at hf
    refine wa_aload_n X 1 dX4_readName_15 rfl ?_
    obtain ⟨h62, hf⟩ := jckT hf
    refine wa_getP X dX4_readName_16 lfX4_9 rfl h62 rfl ?_
    refine wa_iconst (v := (2 : Int32)) X dX4_readName_19 (by decide) ?_
    obtain ⟨q63, h64, hf⟩ := jde_some hf
    obtain ⟨h65, hf⟩ := jckT hf
    obtain ⟨r66, μ67, c68, m69, c70, m71, e72, hf, h73, h74⟩ := jcl_some hf
    refine wa_rcallV (st2 := [.int r66]) X dX4_readName_20 lmX4_54 lMX7_fail h64 h65 (mX7_fail e72) rfl rfl rfl (va_cats (Nat.le_of_ble_eq_true rfl)) (by decide) (by omega) (by omega) ?_
    obtain ⟨h75, hf⟩ := jck_some hf
    obtain ⟨rfl, rfl, rfl, rfl⟩ := jret hf
    exact wa_iret X dX4_readName_23 (jbl_nar h75) (by omega) (by omega)
theorem dX4_readDefine_0 : decode cX4_readDefine 0 = .ok (.aload_n 0, 1) := by decide +kernel
theorem dX4_readDefine_1 : decode cX4_readDefine 1 = .ok (.getfield 148, 3) := by decide +kernel
theorem dX4_readDefine_4 : decode cX4_readDefine 4 = .ok (.ifCond .ne 24, 3) := by decide +kernel
theorem dX4_readDefine_7 : decode cX4_readDefine 7 = .ok (.aload_n 0, 1) := by decide +kernel
theorem dX4_readDefine_8 : decode cX4_readDefine 8 = .ok (.getfield 144, 3) := by decide +kernel
theorem dX4_readDefine_11 : decode cX4_readDefine 11 = .ok (.getfield 179, 3) := by decide +kernel
theorem dX4_readDefine_14 : decode cX4_readDefine 14 = .ok (.bipush 24, 2) := by decide +kernel
theorem dX4_readDefine_16 : decode cX4_readDefine 16 = .ok (.if_icmp .lt 12, 3) := by decide +kernel
theorem dX4_readDefine_19 : decode cX4_readDefine 19 = .ok (.aload_n 0, 1) := by decide +kernel
theorem dX4_readDefine_20 : decode cX4_readDefine 20 = .ok (.getfield 9, 3) := by decide +kernel
theorem dX4_readDefine_23 : decode cX4_readDefine 23 = .ok (.iconst 4, 1) := by decide +kernel
theorem dX4_readDefine_24 : decode cX4_readDefine 24 = .ok (.invokevirtual 54, 3) := by decide +kernel
theorem dX4_readDefine_27 : decode cX4_readDefine 27 = .ok (.ireturn, 1) := by decide +kernel
theorem dX4_readDefine_28 : decode cX4_readDefine 28 = .ok (.aload_n 0, 1) := by decide +kernel
theorem dX4_readDefine_29 : decode cX4_readDefine 29 = .ok (.getfield 9, 3) := by decide +kernel
theorem dX4_readDefine_32 : decode cX4_readDefine 32 = .ok (.invokevirtual 68, 3) := by decide +kernel
theorem dX4_readDefine_35 : decode cX4_readDefine 35 = .ok (.aload_n 0, 1) := by decide +kernel
theorem dX4_readDefine_36 : decode cX4_readDefine 36 = .ok (.aload_n 1, 1) := by decide +kernel
theorem dX4_readDefine_37 : decode cX4_readDefine 37 = .ok (.iconst 1, 1) := by decide +kernel
theorem dX4_readDefine_38 : decode cX4_readDefine 38 = .ok (.invokevirtual 161, 3) := by decide +kernel
theorem dX4_readDefine_41 : decode cX4_readDefine 41 = .ok (.ifCond .eq 42, 3) := by decide +kernel
theorem dX4_readDefine_44 : decode cX4_readDefine 44 = .ok (.aload_n 0, 1) := by decide +kernel
theorem dX4_readDefine_45 : decode cX4_readDefine 45 = .ok (.getfield 9, 3) := by decide +kernel
theorem dX4_readDefine_48 : decode cX4_readDefine 48 = .ok (.ldc2_w 180, 3) := by decide +kernel
theorem dX4_readDefine_51 : decode cX4_readDefine 51 = .ok (.invokevirtual 84, 3) := by decide +kernel
theorem dX4_readDefine_54 : decode cX4_readDefine 54 = .ok (.ifCond .eq 29, 3) := by decide +kernel
theorem dX4_readDefine_57 : decode cX4_readDefine 57 = .ok (.aload_n 0, 1) := by decide +kernel
theorem dX4_readDefine_58 : decode cX4_readDefine 58 = .ok (.getfield 30, 3) := by decide +kernel
theorem dX4_readDefine_61 : decode cX4_readDefine 61 = .ok (.aload_n 0, 1) := by decide +kernel
theorem dX4_readDefine_62 : decode cX4_readDefine 62 = .ok (.getfield 144, 3) := by decide +kernel
theorem dX4_readDefine_65 : decode cX4_readDefine 65 = .ok (.aload_n 0, 1) := by decide +kernel
theorem dX4_readDefine_66 : decode cX4_readDefine 66 = .ok (.getfield 148, 3) := by decide +kernel
theorem dX4_readDefine_69 : decode cX4_readDefine 69 = .ok (.ifCond .eq 7, 3) := by decide +kernel
theorem dX4_readDefine_72 : decode cX4_readDefine 72 = .ok (.iconst 1, 1) := by decide +kernel
theorem dX4_readDefine_73 : decode cX4_readDefine 73 = .ok (.goto 4, 3) := by decide +kernel
theorem dX4_readDefine_76 : decode cX4_readDefine 76 = .ok (.iconst 0, 1) := by decide +kernel
theorem dX4_readDefine_77 : decode cX4_readDefine 77 = .ok (.invokevirtual 80, 3) := by decide +kernel
theorem dX4_readDefine_80 : decode cX4_readDefine 80 = .ok (.ifCond .ne 5, 3) := by decide +kernel
theorem dX4_readDefine_83 : decode cX4_readDefine 83 = .ok (.iconst 0, 1) := by decide +kernel
theorem dX4_readDefine_84 : decode cX4_readDefine 84 = .ok (.ireturn, 1) := by decide +kernel
theorem dX4_readDefine_85 : decode cX4_readDefine 85 = .ok (.aload_n 1, 1) := by decide +kernel
theorem dX4_readDefine_86 : decode cX4_readDefine 86 = .ok (.getfield 182, 3) := by decide +kernel
theorem dX4_readDefine_89 : decode cX4_readDefine 89 = .ok (.aload_n 0, 1) := by decide +kernel
theorem dX4_readDefine_90 : decode cX4_readDefine 90 = .ok (.getfield 30, 3) := by decide +kernel
theorem dX4_readDefine_93 : decode cX4_readDefine 93 = .ok (.getfield 71, 3) := by decide +kernel
theorem dX4_readDefine_96 : decode cX4_readDefine 96 = .ok (.invokevirtual 185, 3) := by decide +kernel
theorem dX4_readDefine_99 : decode cX4_readDefine 99 = .ok (.iconst 1, 1) := by decide +kernel
theorem dX4_readDefine_100 : decode cX4_readDefine 100 = .ok (.ireturn, 1) := by decide +kernel
def fX4_readDefine_b77 (a : Nat) (p1 : Option Nat) (s0 : Int32) (s1 : Option Nat) (s2 : Option Nat) (μ : JM) : JO (Int32) := jde s2 fun q60 => jck ((jT μ q60).1 == 4) <| jcl (fX3_read q60 s1 s0 μ) fun r63 μ64 => if r63 = 0 then (some ((0 : Int32), μ64, 0, 0)) else (jde p1 fun q73 => jck ((jT μ64 q73).1 == 3) <| jck ((jT μ64 a).1 == 5) <| jde (jP μ64 a 4) fun q77 => jck ((jT μ64 q77).1 == 4) <| jde (jP μ64 q73 8) fun q80 => jck ((jT μ64 q80).1 == 2) <| jcl (fX1_copy q80 (jP μ64 q77 7) μ64) fun u83 μ84 => some ((1 : Int32), μ84, 0, 0))
set_option maxHeartbeats 4000000 in
set_option maxRecDepth 100000 in
theorem gX4_readDefine_b77 {b : Nat} {Θ : JE} {RC RS : Nat} {r : Int32} {ν : JM} (X : jX b Θ RX4 cX4_readDefine 2 (some .boolean) 3 75 RC RS) (a : Nat) (p1 : Option Nat) (s0 : Int32) (s1 : Option Nat) (s2 : Option Nat) (μ : JM) (c m k n : Nat) (hf : fX4_readDefine_b77 a p1 s0 s1 s2 μ = some (r, ν, c, m)) (hk : k + c = RC) (hn : n + m = RS) : WA b Θ 2 (jE b Θ (some (.int r)) ν RC RS) μ k n 77 [(0, va_rf (some a)), (1, va_rf p1)] [.int s0, va_rf s1, va_rf s2] := by
  rw [fX4_readDefine_b77] at hf
  obtain ⟨q60, h61, hf⟩ := jde_some hf
  obtain ⟨h62, hf⟩ := jckT hf
  obtain ⟨r63, μ64, c65, m66, c67, m68, e69, hf, h70, h71⟩ := jcl_some hf
  refine wa_rcallV (st2 := [.int r63]) X dX4_readDefine_77 lmX4_80 lMX3_read h61 h62 (mX3_read e69) rfl rfl rfl (va_cats (Nat.le_of_ble_eq_true rfl)) (by decide) (by omega) (by omega) ?_
  refine wa_ifne (tgt := 85) X dX4_readDefine_80 (by decide) (fun h72 => ?_) (fun h72 => ?_)
  · rw [if_neg h72] at hf
    refine wa_aload_n X 1 dX4_readDefine_85 rfl ?_
    obtain ⟨q73, h74, hf⟩ := jde_some hf
    obtain ⟨h75, hf⟩ := jckT hf
    refine wa_getP X dX4_readDefine_86 lfX4_182 h74 h75 rfl ?_
    refine wa_aload_n X 0 dX4_readDefine_89 rfl ?_
    obtain ⟨h76, hf⟩ := jckT hf
    refine wa_getP X dX4_readDefine_90 lfX4_30 rfl h76 rfl ?_
    obtain ⟨q77, h78, hf⟩ := jde_some hf
    obtain ⟨h79, hf⟩ := jckT hf
    refine wa_getP X dX4_readDefine_93 lfX4_71 h78 h79 rfl ?_
    obtain ⟨q80, h81, hf⟩ := jde_some hf
    obtain ⟨h82, hf⟩ := jckT hf
    obtain ⟨u83, μ84, c85, m86, c87, m88, e89, hf, h90, h91⟩ := jcl_some hf
    refine wa_rcallV (st2 := []) X dX4_readDefine_96 lmX4_185 lMX1_copy h81 h82 (mX1_copy e89) rfl rfl rfl (va_cats (Nat.le_of_ble_eq_true rfl)) (by decide) (by omega) (by omega) ?_
    refine wa_iconst (v := (1 : Int32)) X dX4_readDefine_99 (by decide) ?_
    obtain ⟨rfl, rfl, rfl, rfl⟩ := jret hf
    exact wa_iret X dX4_readDefine_100 rfl (by omega) (by omega)
  · rw [if_pos h72] at hf
    refine wa_iconst (v := (0 : Int32)) X dX4_readDefine_83 (by decide) ?_
    obtain ⟨rfl, rfl, rfl, rfl⟩ := jret hf
    exact wa_iret X dX4_readDefine_84 rfl (by omega) (by omega)
def fX4_readDefine_b28 (a : Nat) (p1 : Option Nat) (μ : JM) : JO (Int32) := jck ((jT μ a).1 == 5) <| jde (jP μ a 0) fun q21 => jck ((jT μ q21).1 == 8) <| jcl (fX7_step q21 μ) fun u24 μ25 => jck ((jT μ25 a).1 == 5) <| jcl (fX4_readName a p1 (1 : Int32) μ25) fun r34 μ35 => if r34 = 0 then (some ((0 : Int32), μ35, 0, 0)) else (jck ((jT μ35 a).1 == 5) <| jde (jP μ35 a 0) fun q45 => jck ((jT μ35 q45).1 == 8) <| jcl (fX7_take q45 (-3001 : Int64) μ35) fun r48 μ49 => if r48 = 0 then (some ((0 : Int32), μ49, 0, 0)) else (jck ((jT μ49 a).1 == 5) <| if (jI μ49 a 5) = 0 then (fX4_readDefine_b77  a p1 (0 : Int32) (jP μ49 a 6) (jP μ49 a 4) μ49) else (fX4_readDefine_b77  a p1 (1 : Int32) (jP μ49 a 6) (jP μ49 a 4) μ49)))
set_option maxHeartbeats 4000000 in
set_option maxRecDepth 100000 in
theorem gX4_readDefine_b28 {b : Nat} {Θ : JE} {RC RS : Nat} {r : Int32} {ν : JM} (X : jX b Θ RX4 cX4_readDefine 2 (some .boolean) 3 75 RC RS) (a : Nat) (p1 : Option Nat) (μ : JM) (c m k n : Nat) (hf : fX4_readDefine_b28 a p1 μ = some (r, ν, c, m)) (hk : k + c = RC) (hn : n + m = RS) : WA b Θ 2 (jE b Θ (some (.int r)) ν RC RS) μ k n 28 [(0, va_rf (some a)), (1, va_rf p1)] [] := by
  rw [fX4_readDefine_b28] at hf
  refine wa_aload_n X 0 dX4_readDefine_28 rfl ?_
  obtain ⟨h20, hf⟩ := jckT hf
  refine wa_getP X dX4_readDefine_29 lfX4_9 rfl h20 rfl ?_
  obtain ⟨q21, h22, hf⟩ := jde_some hf
  obtain ⟨h23, hf⟩ := jckT hf
  obtain ⟨u24, μ25, c26, m27, c28, m29, e30, hf, h31, h32⟩ := jcl_some hf
  refine wa_rcallV (st2 := []) X dX4_readDefine_32 lmX4_68 lMX7_step h22 h23 (mX7_step e30) rfl rfl rfl (va_cats (Nat.le_of_ble_eq_true rfl)) (by decide) (by omega) (by omega) ?_
  refine wa_aload_n X 0 dX4_readDefine_35 rfl ?_
  refine wa_aload_n X 1 dX4_readDefine_36 rfl ?_
  refine wa_iconst (v := (1 : Int32)) X dX4_readDefine_37 (by decide) ?_
  obtain ⟨h33, hf⟩ := jckT hf
  obtain ⟨r34, μ35, c36, m37, c38, m39, e40, hf, h41, h42⟩ := jcl_some hf
  refine wa_rcallV (st2 := [.int r34]) X dX4_readDefine_38 lmX4_161 lMX4_readName rfl h33 (mX4_readName e40) rfl rfl rfl (va_cats (Nat.le_of_ble_eq_true rfl)) (by decide) (by omega) (by omega) ?_
  refine wa_ifeq (tgt := 83) X dX4_readDefine_41 (by decide) (fun h43 => ?_) (fun h43 => ?_)
  · rw [if_pos h43] at hf
    refine wa_iconst (v := (0 : Int32)) X dX4_readDefine_83 (by decide) ?_
    obtain ⟨rfl, rfl, rfl, rfl⟩ := jret hf
    exact wa_iret X dX4_readDefine_84 rfl (by omega) (by omega)
  · rw [if_neg h43] at hf
    refine wa_aload_n X 0 dX4_readDefine_44 rfl ?_
    obtain ⟨h44, hf⟩ := jckT hf
    refine wa_getP X dX4_readDefine_45 lfX4_9 rfl h44 rfl ?_
    refine wa_ldc2 (v := (-3001 : Int64)) X dX4_readDefine_48 lkX4_180 ?_
    obtain ⟨q45, h46, hf⟩ := jde_some hf
    obtain ⟨h47, hf⟩ := jckT hf
    obtain ⟨r48, μ49, c50, m51, c52, m53, e54, hf, h55, h56⟩ := jcl_some hf
    refine wa_rcallV (st2 := [.int r48]) X dX4_readDefine_51 lmX4_84 lMX7_take h46 h47 (mX7_take e54) rfl rfl rfl (va_cats (Nat.le_of_ble_eq_true rfl)) (by decide) (by omega) (by omega) ?_
    refine wa_ifeq (tgt := 83) X dX4_readDefine_54 (by decide) (fun h57 => ?_) (fun h57 => ?_)
    · rw [if_pos h57] at hf
      refine wa_iconst (v := (0 : Int32)) X dX4_readDefine_83 (by decide) ?_
      obtain ⟨rfl, rfl, rfl, rfl⟩ := jret hf
      exact wa_iret X dX4_readDefine_84 rfl (by omega) (by omega)
    · rw [if_neg h57] at hf
      refine wa_aload_n X 0 dX4_readDefine_57 rfl ?_
      obtain ⟨h58, hf⟩ := jckT hf
      refine wa_getP X dX4_readDefine_58 lfX4_30 rfl h58 rfl ?_
      refine wa_aload_n X 0 dX4_readDefine_61 rfl ?_
      refine wa_getP X dX4_readDefine_62 lfX4_144 rfl h58 rfl ?_
      refine wa_aload_n X 0 dX4_readDefine_65 rfl ?_
      refine wa_getI X dX4_readDefine_66 lfX4_148 rfl h58 rfl ?_
      refine wa_ifeq (tgt := 76) X dX4_readDefine_69 (by decide) (fun h59 => ?_) (fun h59 => ?_)
      · rw [if_pos h59] at hf
        refine wa_iconst (v := (0 : Int32)) X dX4_readDefine_76 (by decide) ?_
        refine wa_sub (L2 := [(0, va_rf (some a)), (1, va_rf p1)]) [0, 1] rfl ?_
        exact gX4_readDefine_b77 X a p1 (0 : Int32) (jP μ49 a 6) (jP μ49 a 4) μ49 _ _ _ _ hf (by omega) (by omega)
      · rw [if_neg h59] at hf
        refine wa_iconst (v := (1 : Int32)) X dX4_readDefine_72 (by decide) ?_
        refine wa_goto (tgt := 77) X dX4_readDefine_73 (by decide) ?_
        refine wa_sub (L2 := [(0, va_rf (some a)), (1, va_rf p1)]) [0, 1] rfl ?_
        exact gX4_readDefine_b77 X a p1 (1 : Int32) (jP μ49 a 6) (jP μ49 a 4) μ49 _ _ _ _ hf (by omega) (by omega)
def fX4_readDefine (a : Nat) (p1 : Option Nat) (μ : JM) : JO (Int32) := jck ((jT μ a).1 == 5) <| if (jI μ a 5) = 0 then (jde (jP μ a 6) fun q3 => jck ((jT μ q3).1 == 9) <| if (jI μ q3 2) < (24 : Int32) then (fX4_readDefine_b28  a p1 μ) else (jde (jP μ a 0) fun q7 => jck ((jT μ q7).1 == 8) <| jcl (fX7_fail q7 (4 : Int32) μ) fun r10 μ11 => jck (jbl r10) <| some (r10, μ11, 0, 0))) else (fX4_readDefine_b28  a p1 μ)
set_option maxHeartbeats 4000000 in
set_option maxRecDepth 100000 in
theorem mX4_readDefine {b : Nat} {a : Nat} {p1 : Option Nat} {μ : JM} {r : Int32} {ν : JM} {c m : Nat} (hf : fX4_readDefine a p1 μ = some (r, ν, c, m)) : JMet b yX4_readDefine cX4_readDefine 2 (some .boolean) 3 75 [va_rf (some a), va_rf p1] μ (some (.int r)) ν c m := by
  refine JMet.of (by decide) (lg_sl_le (by simp only [List.map_cons, List.map_nil, List.sum_cons, List.sum_nil, va_rf_cat]; exact Nat.le_of_ble_eq_true rfl)) (fun Θ X hin => ?_)
  refine wa_eq (L2 := [(0, va_rf (some a)), (1, va_rf p1)]) ?_ rfl (by first | rfl | simp [lv_args, va_rf_cat, cat_i, cat_l]) rfl
  obtain ⟨k, hk0⟩ : ∃ k : Nat, k = 0 := ⟨0, rfl⟩
  obtain ⟨n, hn0⟩ : ∃ n : Nat, n = 0 := ⟨0, rfl⟩
  have hk : k + c = c := by omega
  have hn : n + m = m := by omega
  refine wa_costs hk0.symm hn0.symm ?_
  rw [fX4_readDefine] at hf
  refine wa_aload_n X 0 dX4_readDefine_0 rfl ?_
  obtain ⟨h1, hf⟩ := jckT hf
  refine wa_getI X dX4_readDefine_1 lfX4_148 rfl h1 rfl ?_
  refine wa_ifne (tgt := 28) X dX4_readDefine_4 (by decide) (fun h2 => ?_) (fun h2 => ?_)
  · rw [if_neg h2] at hf
    refine wa_sub (L2 := [(0, va_rf (some a)), (1, va_rf p1)]) [0, 1] rfl ?_
    exact gX4_readDefine_b28 X a p1 μ _ _ _ _ hf (by omega) (by omega)
  · rw [if_pos h2] at hf
    refine wa_aload_n X 0 dX4_readDefine_7 rfl ?_
    refine wa_getP X dX4_readDefine_8 lfX4_144 rfl h1 rfl ?_
    obtain ⟨q3, h4, hf⟩ := jde_some hf
    obtain ⟨h5, hf⟩ := jckT hf
    refine wa_getI X dX4_readDefine_11 lfX4_179 h4 h5 rfl ?_
    refine wa_bipush (v := (24 : Int32)) X dX4_readDefine_14 (by decide) ?_
    refine wa_iclt (tgt := 28) X dX4_readDefine_16 (by decide) (fun h6 => ?_) (fun h6 => ?_)
    · rw [if_pos h6] at hf
      refine wa_sub (L2 := [(0, va_rf (some a)), (1, va_rf p1)]) [0, 1] rfl ?_
      exact gX4_readDefine_b28 X a p1 μ _ _ _ _ hf (by omega) (by omega)
    · rw [if_neg h6] at hf
      refine wa_aload_n X 0 dX4_readDefine_19 rfl ?_
      refine wa_getP X dX4_readDefine_20 lfX4_9 rfl h1 rfl ?_
      refine wa_iconst (v := (4 : Int32)) X dX4_readDefine_23 (by decide) ?_
      obtain ⟨q7, h8, hf⟩ := jde_some hf
      obtain ⟨h9, hf⟩ := jckT hf
      obtain ⟨r10, μ11, c12, m13, c14, m15, e16, hf, h17, h18⟩ := jcl_some hf
      refine wa_rcallV (st2 := [.int r10]) X dX4_readDefine_24 lmX4_54 lMX7_fail h8 h9 (mX7_fail e16) rfl rfl rfl (va_cats (Nat.le_of_ble_eq_true rfl)) (by decide) (by omega) (by omega) ?_
      obtain ⟨h19, hf⟩ := jck_some hf
      obtain ⟨rfl, rfl, rfl, rfl⟩ := jret hf
      exact wa_iret X dX4_readDefine_27 (jbl_nar h19) (by omega) (by omega)
theorem dX4_kindOf_0 : decode cX4_kindOf 0 = .ok (.lload_n 0, 1) := by decide +kernel
theorem dX4_kindOf_1 : decode cX4_kindOf 1 = .ok (.ldc2_w 212, 3) := by decide +kernel
theorem dX4_kindOf_4 : decode cX4_kindOf 4 = .ok (.lcmp, 1) := by decide +kernel
theorem dX4_kindOf_5 : decode cX4_kindOf 5 = .ok (.ifCond .ne 5, 3) := by decide +kernel
theorem dX4_kindOf_8 : decode cX4_kindOf 8 = .ok (.iconst 1, 1) := by decide +kernel
theorem dX4_kindOf_9 : decode cX4_kindOf 9 = .ok (.ireturn, 1) := by decide +kernel
theorem dX4_kindOf_10 : decode cX4_kindOf 10 = .ok (.lload_n 0, 1) := by decide +kernel
theorem dX4_kindOf_11 : decode cX4_kindOf 11 = .ok (.ldc2_w 214, 3) := by decide +kernel
theorem dX4_kindOf_14 : decode cX4_kindOf 14 = .ok (.lcmp, 1) := by decide +kernel
theorem dX4_kindOf_15 : decode cX4_kindOf 15 = .ok (.ifCond .ne 5, 3) := by decide +kernel
theorem dX4_kindOf_18 : decode cX4_kindOf 18 = .ok (.iconst 2, 1) := by decide +kernel
theorem dX4_kindOf_19 : decode cX4_kindOf 19 = .ok (.ireturn, 1) := by decide +kernel
theorem dX4_kindOf_20 : decode cX4_kindOf 20 = .ok (.lload_n 0, 1) := by decide +kernel
theorem dX4_kindOf_21 : decode cX4_kindOf 21 = .ok (.ldc2_w 216, 3) := by decide +kernel
theorem dX4_kindOf_24 : decode cX4_kindOf 24 = .ok (.lcmp, 1) := by decide +kernel
theorem dX4_kindOf_25 : decode cX4_kindOf 25 = .ok (.ifCond .ne 7, 3) := by decide +kernel
theorem dX4_kindOf_28 : decode cX4_kindOf 28 = .ok (.iconst 3, 1) := by decide +kernel
theorem dX4_kindOf_29 : decode cX4_kindOf 29 = .ok (.goto 4, 3) := by decide +kernel
theorem dX4_kindOf_32 : decode cX4_kindOf 32 = .ok (.iconst (-1), 1) := by decide +kernel
theorem dX4_kindOf_33 : decode cX4_kindOf 33 = .ok (.ireturn, 1) := by decide +kernel
def fX4_kindOf (y0 : Int64) (μ : JM) : JO (Int32) := if (lg_cmp y0 (-3002 : Int64)) = 0 then (some ((1 : Int32), μ, 0, 0)) else (if (lg_cmp y0 (-3003 : Int64)) = 0 then (some ((2 : Int32), μ, 0, 0)) else (if (lg_cmp y0 (-3004 : Int64)) = 0 then (some ((3 : Int32), μ, 0, 0)) else (some ((-1 : Int32), μ, 0, 0))))
set_option maxHeartbeats 4000000 in
set_option maxRecDepth 100000 in
theorem mX4_kindOf {b : Nat} {y0 : Int64} {μ : JM} {r : Int32} {ν : JM} {c m : Nat} (hf : fX4_kindOf y0 μ = some (r, ν, c, m)) : JMet b yX4_kindOf cX4_kindOf 2 (some .int) 0 0 [.long y0] μ (some (.int r)) ν c m := by
  refine JMet.of (by decide) (lg_sl_le (by simp only [List.map_cons, List.map_nil, List.sum_cons, List.sum_nil, va_rf_cat]; exact Nat.le_of_ble_eq_true rfl)) (fun Θ X hin => ?_)
  refine wa_eq (L2 := [(0, .long y0)]) ?_ rfl (by first | rfl | simp [lv_args, va_rf_cat, cat_i, cat_l]) rfl
  obtain ⟨k, hk0⟩ : ∃ k : Nat, k = 0 := ⟨0, rfl⟩
  obtain ⟨n, hn0⟩ : ∃ n : Nat, n = 0 := ⟨0, rfl⟩
  have hk : k + c = c := by omega
  have hn : n + m = m := by omega
  refine wa_costs hk0.symm hn0.symm ?_
  rw [fX4_kindOf] at hf
  refine wa_lload_n X 0 dX4_kindOf_0 rfl ?_
  refine wa_ldc2 (v := (-3002 : Int64)) X dX4_kindOf_1 lkX4_212 ?_
  refine wa_lcmp X dX4_kindOf_4 ?_
  refine wa_ifne (tgt := 10) X dX4_kindOf_5 (by decide) (fun h1 => ?_) (fun h1 => ?_)
  · rw [if_neg h1] at hf
    refine wa_lload_n X 0 dX4_kindOf_10 rfl ?_
    refine wa_ldc2 (v := (-3003 : Int64)) X dX4_kindOf_11 lkX4_214 ?_
    refine wa_lcmp X dX4_kindOf_14 ?_
    refine wa_ifne (tgt := 20) X dX4_kindOf_15 (by decide) (fun h2 => ?_) (fun h2 => ?_)
    · rw [if_neg h2] at hf
      refine wa_lload_n X 0 dX4_kindOf_20 rfl ?_
      refine wa_ldc2 (v := (-3004 : Int64)) X dX4_kindOf_21 lkX4_216 ?_
      refine wa_lcmp X dX4_kindOf_24 ?_
      refine wa_ifne (tgt := 32) X dX4_kindOf_25 (by decide) (fun h3 => ?_) (fun h3 => ?_)
      · rw [if_neg h3] at hf
        refine wa_iconst (v := (-1 : Int32)) X dX4_kindOf_32 (by decide) ?_
        obtain ⟨rfl, rfl, rfl, rfl⟩ := jret hf
        exact wa_iret X dX4_kindOf_33 rfl (by omega) (by omega)
      · rw [if_pos h3] at hf
        refine wa_iconst (v := (3 : Int32)) X dX4_kindOf_28 (by decide) ?_
        refine wa_goto (tgt := 33) X dX4_kindOf_29 (by decide) ?_
        obtain ⟨rfl, rfl, rfl, rfl⟩ := jret hf
        exact wa_iret X dX4_kindOf_33 rfl (by omega) (by omega)
    · rw [if_pos h2] at hf
      refine wa_iconst (v := (2 : Int32)) X dX4_kindOf_18 (by decide) ?_
      obtain ⟨rfl, rfl, rfl, rfl⟩ := jret hf
      exact wa_iret X dX4_kindOf_19 rfl (by omega) (by omega)
  · rw [if_pos h1] at hf
    refine wa_iconst (v := (1 : Int32)) X dX4_kindOf_8 (by decide) ?_
    obtain ⟨rfl, rfl, rfl, rfl⟩ := jret hf
    exact wa_iret X dX4_kindOf_9 rfl (by omega) (by omega)
theorem dX4_readNumbered_0 : decode cX4_readNumbered 0 = .ok (.aload_n 0, 1) := by decide +kernel
theorem dX4_readNumbered_1 : decode cX4_readNumbered 1 = .ok (.getfield 9, 3) := by decide +kernel
theorem dX4_readNumbered_4 : decode cX4_readNumbered 4 = .ok (.invokevirtual 34, 3) := by decide +kernel
theorem dX4_readNumbered_7 : decode cX4_readNumbered 7 = .ok (.lstore_n 2, 1) := by decide +kernel
theorem dX4_readNumbered_8 : decode cX4_readNumbered 8 = .ok (.lload_n 2, 1) := by decide +kernel
theorem dX4_readNumbered_9 : decode cX4_readNumbered 9 = .ok (.invokestatic 58, 3) := by decide +kernel
theorem dX4_readNumbered_12 : decode cX4_readNumbered 12 = .ok (.ifCond .ne 25, 3) := by decide +kernel
theorem dX4_readNumbered_15 : decode cX4_readNumbered 15 = .ok (.aload_n 0, 1) := by decide +kernel
theorem dX4_readNumbered_16 : decode cX4_readNumbered 16 = .ok (.getfield 9, 3) := by decide +kernel
theorem dX4_readNumbered_19 : decode cX4_readNumbered 19 = .ok (.lload_n 2, 1) := by decide +kernel
theorem dX4_readNumbered_20 : decode cX4_readNumbered 20 = .ok (.invokestatic 50, 3) := by decide +kernel
theorem dX4_readNumbered_23 : decode cX4_readNumbered 23 = .ok (.ifCond .eq 7, 3) := by decide +kernel
theorem dX4_readNumbered_26 : decode cX4_readNumbered 26 = .ok (.iconst 2, 1) := by decide +kernel
theorem dX4_readNumbered_27 : decode cX4_readNumbered 27 = .ok (.goto 4, 3) := by decide +kernel
theorem dX4_readNumbered_30 : decode cX4_readNumbered 30 = .ok (.iconst 0, 1) := by decide +kernel
theorem dX4_readNumbered_31 : decode cX4_readNumbered 31 = .ok (.invokevirtual 54, 3) := by decide +kernel
theorem dX4_readNumbered_34 : decode cX4_readNumbered 34 = .ok (.pop, 1) := by decide +kernel
theorem dX4_readNumbered_35 : decode cX4_readNumbered 35 = .ok (.iconst (-1), 1) := by decide +kernel
theorem dX4_readNumbered_36 : decode cX4_readNumbered 36 = .ok (.ireturn, 1) := by decide +kernel
theorem dX4_readNumbered_37 : decode cX4_readNumbered 37 = .ok (.iconst (-1), 1) := by decide +kernel
theorem dX4_readNumbered_38 : decode cX4_readNumbered 38 = .ok (.istore 4, 2) := by decide +kernel
theorem dX4_readNumbered_40 : decode cX4_readNumbered 40 = .ok (.aload_n 0, 1) := by decide +kernel
theorem dX4_readNumbered_41 : decode cX4_readNumbered 41 = .ok (.getfield 148, 3) := by decide +kernel
theorem dX4_readNumbered_44 : decode cX4_readNumbered 44 = .ok (.ifCond .ne 45, 3) := by decide +kernel
theorem dX4_readNumbered_47 : decode cX4_readNumbered 47 = .ok (.aload_n 1, 1) := by decide +kernel
theorem dX4_readNumbered_48 : decode cX4_readNumbered 48 = .ok (.lload_n 2, 1) := by decide +kernel
theorem dX4_readNumbered_49 : decode cX4_readNumbered 49 = .ok (.invokevirtual 61, 3) := by decide +kernel
theorem dX4_readNumbered_52 : decode cX4_readNumbered 52 = .ok (.istore 4, 2) := by decide +kernel
theorem dX4_readNumbered_54 : decode cX4_readNumbered 54 = .ok (.iload 4, 2) := by decide +kernel
theorem dX4_readNumbered_56 : decode cX4_readNumbered 56 = .ok (.iconst (-1), 1) := by decide +kernel
theorem dX4_readNumbered_57 : decode cX4_readNumbered 57 = .ok (.if_icmp .ne 11, 3) := by decide +kernel
theorem dX4_readNumbered_60 : decode cX4_readNumbered 60 = .ok (.aload_n 1, 1) := by decide +kernel
theorem dX4_readNumbered_61 : decode cX4_readNumbered 61 = .ok (.lload_n 2, 1) := by decide +kernel
theorem dX4_readNumbered_62 : decode cX4_readNumbered 62 = .ok (.invokevirtual 65, 3) := by decide +kernel
theorem dX4_readNumbered_65 : decode cX4_readNumbered 65 = .ok (.goto 5, 3) := by decide +kernel
theorem dX4_readNumbered_68 : decode cX4_readNumbered 68 = .ok (.iload 4, 2) := by decide +kernel
theorem dX4_readNumbered_70 : decode cX4_readNumbered 70 = .ok (.istore 4, 2) := by decide +kernel
theorem dX4_readNumbered_72 : decode cX4_readNumbered 72 = .ok (.iload 4, 2) := by decide +kernel
theorem dX4_readNumbered_74 : decode cX4_readNumbered 74 = .ok (.iconst (-1), 1) := by decide +kernel
theorem dX4_readNumbered_75 : decode cX4_readNumbered 75 = .ok (.if_icmp .ne 14, 3) := by decide +kernel
theorem dX4_readNumbered_78 : decode cX4_readNumbered 78 = .ok (.aload_n 0, 1) := by decide +kernel
theorem dX4_readNumbered_79 : decode cX4_readNumbered 79 = .ok (.getfield 9, 3) := by decide +kernel
theorem dX4_readNumbered_82 : decode cX4_readNumbered 82 = .ok (.iconst 5, 1) := by decide +kernel
theorem dX4_readNumbered_83 : decode cX4_readNumbered 83 = .ok (.invokevirtual 54, 3) := by decide +kernel
theorem dX4_readNumbered_86 : decode cX4_readNumbered 86 = .ok (.pop, 1) := by decide +kernel
theorem dX4_readNumbered_87 : decode cX4_readNumbered 87 = .ok (.iconst (-1), 1) := by decide +kernel
theorem dX4_readNumbered_88 : decode cX4_readNumbered 88 = .ok (.ireturn, 1) := by decide +kernel
theorem dX4_readNumbered_89 : decode cX4_readNumbered 89 = .ok (.aload_n 0, 1) := by decide +kernel
theorem dX4_readNumbered_90 : decode cX4_readNumbered 90 = .ok (.getfield 9, 3) := by decide +kernel
theorem dX4_readNumbered_93 : decode cX4_readNumbered 93 = .ok (.invokevirtual 68, 3) := by decide +kernel
theorem dX4_readNumbered_96 : decode cX4_readNumbered 96 = .ok (.iload 4, 2) := by decide +kernel
theorem dX4_readNumbered_98 : decode cX4_readNumbered 98 = .ok (.ireturn, 1) := by decide +kernel
def fX4_readNumbered_b31 (s0 : Int32) (s1 : Option Nat) (μ : JM) : JO (Int32) := jde s1 fun q60 => jck ((jT μ q60).1 == 8) <| jcl (fX7_fail q60 s0 μ) fun r63 μ64 => some ((-1 : Int32), μ64, 0, 0)
set_option maxHeartbeats 4000000 in
set_option maxRecDepth 100000 in
theorem gX4_readNumbered_b31 {b : Nat} {Θ : JE} {RC RS : Nat} {r : Int32} {ν : JM} (X : jX b Θ RX4 cX4_readNumbered 5 (some .int) 1 23 RC RS) (s0 : Int32) (s1 : Option Nat) (μ : JM) (c m k n : Nat) (hf : fX4_readNumbered_b31 s0 s1 μ = some (r, ν, c, m)) (hk : k + c = RC) (hn : n + m = RS) : WA b Θ 5 (jE b Θ (some (.int r)) ν RC RS) μ k n 31 [] [.int s0, va_rf s1] := by
  rw [fX4_readNumbered_b31] at hf
  obtain ⟨q60, h61, hf⟩ := jde_some hf
  obtain ⟨h62, hf⟩ := jckT hf
  obtain ⟨r63, μ64, c65, m66, c67, m68, e69, hf, h70, h71⟩ := jcl_some hf
  refine wa_rcallV (st2 := [.int r63]) X dX4_readNumbered_31 lmX4_54 lMX7_fail h61 h62 (mX7_fail e69) rfl rfl rfl (va_cats (Nat.le_of_ble_eq_true rfl)) (by decide) (by omega) (by omega) ?_
  refine wa_pop X dX4_readNumbered_34 rfl ?_
  refine wa_iconst (v := (-1 : Int32)) X dX4_readNumbered_35 (by decide) ?_
  obtain ⟨rfl, rfl, rfl, rfl⟩ := jret hf
  exact wa_iret X dX4_readNumbered_36 rfl (by omega) (by omega)
def fX4_readNumbered_b89 (a : Nat) (x4 : Int32) (μ : JM) : JO (Int32) := jck ((jT μ a).1 == 5) <| jde (jP μ a 0) fun q87 => jck ((jT μ q87).1 == 8) <| jcl (fX7_step q87 μ) fun u90 μ91 => some (x4, μ91, 0, 0)
set_option maxHeartbeats 4000000 in
set_option maxRecDepth 100000 in
theorem gX4_readNumbered_b89 {b : Nat} {Θ : JE} {RC RS : Nat} {r : Int32} {ν : JM} (X : jX b Θ RX4 cX4_readNumbered 5 (some .int) 1 23 RC RS) (a : Nat) (x4 : Int32) (μ : JM) (c m k n : Nat) (hf : fX4_readNumbered_b89 a x4 μ = some (r, ν, c, m)) (hk : k + c = RC) (hn : n + m = RS) : WA b Θ 5 (jE b Θ (some (.int r)) ν RC RS) μ k n 89 [(0, va_rf (some a)), (4, .int x4)] [] := by
  rw [fX4_readNumbered_b89] at hf
  refine wa_aload_n X 0 dX4_readNumbered_89 rfl ?_
  obtain ⟨h86, hf⟩ := jckT hf
  refine wa_getP X dX4_readNumbered_90 lfX4_9 rfl h86 rfl ?_
  obtain ⟨q87, h88, hf⟩ := jde_some hf
  obtain ⟨h89, hf⟩ := jckT hf
  obtain ⟨u90, μ91, c92, m93, c94, m95, e96, hf, h97, h98⟩ := jcl_some hf
  refine wa_rcallV (st2 := []) X dX4_readNumbered_93 lmX4_68 lMX7_step h88 h89 (mX7_step e96) rfl rfl rfl (va_cats (Nat.le_of_ble_eq_true rfl)) (by decide) (by omega) (by omega) ?_
  refine wa_iload X 1 dX4_readNumbered_96 rfl ?_
  obtain ⟨rfl, rfl, rfl, rfl⟩ := jret hf
  exact wa_iret X dX4_readNumbered_98 rfl (by omega) (by omega)
def fX4_readNumbered_b70 (a : Nat) (s0 : Int32) (μ : JM) : JO (Int32) := if s0 = (-1 : Int32) then (jck ((jT μ a).1 == 5) <| jde (jP μ a 0) fun q74 => jck ((jT μ q74).1 == 8) <| jcl (fX7_fail q74 (5 : Int32) μ) fun r77 μ78 => some ((-1 : Int32), μ78, 0, 0)) else (fX4_readNumbered_b89  a s0 μ)
set_option maxHeartbeats 4000000 in
set_option maxRecDepth 100000 in
theorem gX4_readNumbered_b70 {b : Nat} {Θ : JE} {RC RS : Nat} {r : Int32} {ν : JM} (X : jX b Θ RX4 cX4_readNumbered 5 (some .int) 1 23 RC RS) (a : Nat) (s0 : Int32) (μ : JM) (c m k n : Nat) (hf : fX4_readNumbered_b70 a s0 μ = some (r, ν, c, m)) (hk : k + c = RC) (hn : n + m = RS) : WA b Θ 5 (jE b Θ (some (.int r)) ν RC RS) μ k n 70 [(0, va_rf (some a))] [.int s0] := by
  rw [fX4_readNumbered_b70] at hf
  refine wa_istore (L2 := [(4, .int s0), (0, va_rf (some a))]) X dX4_readNumbered_70 (by decide) (by first | rfl | (show (4, _) :: List.filter (fun q : Nat × Value => !(q.1 == 4) && !(q.1 + 1 == 4 && q.2.category == 2)) _ = _; simp [va_rf_cat, cat_i, cat_l])) ?_
  refine wa_iload X 0 dX4_readNumbered_72 rfl ?_
  refine wa_iconst (v := (-1 : Int32)) X dX4_readNumbered_74 (by decide) ?_
  refine wa_icne (tgt := 89) X dX4_readNumbered_75 (by decide) (fun h72 => ?_) (fun h72 => ?_)
  · rw [if_neg h72] at hf
    refine wa_sub (L2 := [(0, va_rf (some a)), (4, .int s0)]) [1, 0] rfl ?_
    exact gX4_readNumbered_b89 X a s0 μ _ _ _ _ hf (by omega) (by omega)
  · rw [if_pos h72] at hf
    refine wa_aload_n X 1 dX4_readNumbered_78 rfl ?_
    obtain ⟨h73, hf⟩ := jckT hf
    refine wa_getP X dX4_readNumbered_79 lfX4_9 rfl h73 rfl ?_
    refine wa_iconst (v := (5 : Int32)) X dX4_readNumbered_82 (by decide) ?_
    obtain ⟨q74, h75, hf⟩ := jde_some hf
    obtain ⟨h76, hf⟩ := jckT hf
    obtain ⟨r77, μ78, c79, m80, c81, m82, e83, hf, h84, h85⟩ := jcl_some hf
    refine wa_rcallV (st2 := [.int r77]) X dX4_readNumbered_83 lmX4_54 lMX7_fail h75 h76 (mX7_fail e83) rfl rfl rfl (va_cats (Nat.le_of_ble_eq_true rfl)) (by decide) (by omega) (by omega) ?_
    refine wa_pop X dX4_readNumbered_86 rfl ?_
    refine wa_iconst (v := (-1 : Int32)) X dX4_readNumbered_87 (by decide) ?_
    obtain ⟨rfl, rfl, rfl, rfl⟩ := jret hf
    exact wa_iret X dX4_readNumbered_88 rfl (by omega) (by omega)
def fX4_readNumbered (a : Nat) (p1 : Option Nat) (μ : JM) : JO (Int32) := jck ((jT μ a).1 == 5) <| jde (jP μ a 0) fun q2 => jck ((jT μ q2).1 == 8) <| jcl (fX7_token q2 μ) fun r5 μ6 => jcl (fX10_isFreeWord r5 μ6) fun r14 μ15 => if r14 = 0 then (jck ((jT μ15 a).1 == 5) <| jcl (fX10_isOurs r5 μ15) fun r50 μ51 => if r50 = 0 then (fX4_readNumbered_b31  (0 : Int32) (jP μ15 a 0) μ51) else (fX4_readNumbered_b31  (2 : Int32) (jP μ15 a 0) μ51)) else (jck ((jT μ15 a).1 == 5) <| if (jI μ15 a 5) = 0 then (jde p1 fun q26 => jck ((jT μ15 q26).1 == 10) <| jcl (fX9_find q26 r5 μ15) fun r29 μ30 => if r29 = (-1 : Int32) then (jck ((jT μ30 q26).1 == 10) <| jcl (fX9_add q26 r5 μ30) fun r40 μ41 => fX4_readNumbered_b70  a r40 μ41) else (fX4_readNumbered_b70  a r29 μ30)) else (fX4_readNumbered_b89  a (-1 : Int32) μ15))
set_option maxHeartbeats 4000000 in
set_option maxRecDepth 100000 in
theorem mX4_readNumbered {b : Nat} {a : Nat} {p1 : Option Nat} {μ : JM} {r : Int32} {ν : JM} {c m : Nat} (hf : fX4_readNumbered a p1 μ = some (r, ν, c, m)) : JMet b yX4_readNumbered cX4_readNumbered 5 (some .int) 1 23 [va_rf (some a), va_rf p1] μ (some (.int r)) ν c m := by
  refine JMet.of (by decide) (lg_sl_le (by simp only [List.map_cons, List.map_nil, List.sum_cons, List.sum_nil, va_rf_cat]; exact Nat.le_of_ble_eq_true rfl)) (fun Θ X hin => ?_)
  refine wa_eq (L2 := [(0, va_rf (some a)), (1, va_rf p1)]) ?_ rfl (by first | rfl | simp [lv_args, va_rf_cat, cat_i, cat_l]) rfl
  obtain ⟨k, hk0⟩ : ∃ k : Nat, k = 0 := ⟨0, rfl⟩
  obtain ⟨n, hn0⟩ : ∃ n : Nat, n = 0 := ⟨0, rfl⟩
  have hk : k + c = c := by omega
  have hn : n + m = m := by omega
  refine wa_costs hk0.symm hn0.symm ?_
  rw [fX4_readNumbered] at hf
  refine wa_aload_n X 0 dX4_readNumbered_0 rfl ?_
  obtain ⟨h1, hf⟩ := jckT hf
  refine wa_getP X dX4_readNumbered_1 lfX4_9 rfl h1 rfl ?_
  obtain ⟨q2, h3, hf⟩ := jde_some hf
  obtain ⟨h4, hf⟩ := jckT hf
  obtain ⟨r5, μ6, c7, m8, c9, m10, e11, hf, h12, h13⟩ := jcl_some hf
  refine wa_rcallV (st2 := [.long r5]) X dX4_readNumbered_4 lmX4_34 lMX7_token h3 h4 (mX7_token e11) rfl rfl rfl (va_cats (Nat.le_of_ble_eq_true rfl)) (by decide) (by omega) (by omega) ?_
  refine wa_lstore_n (L2 := [(2, .long r5), (0, va_rf (some a)), (1, va_rf p1)]) X dX4_readNumbered_7 (by decide) (by first | rfl | (show (2, _) :: List.filter (fun q : Nat × Value => !(q.1 == 2) && (!(q.1 == 3) && !(q.1 + 1 == 2 && q.2.category == 2))) _ = _; simp [va_rf_cat, cat_i, cat_l])) ?_
  refine wa_lload_n X 0 dX4_readNumbered_8 rfl ?_
  obtain ⟨r14, μ15, c16, m17, c18, m19, e20, hf, h21, h22⟩ := jcl_some hf
  refine wa_rcallSN (st2 := [.int r14]) X dX4_readNumbered_9 lNX4_58 lMX10_isFreeWord (mX10_isFreeWord e20) rfl rfl rfl (va_cats (Nat.le_of_ble_eq_true rfl)) (by decide) (by omega) (by omega) ?_
  refine wa_ifne (tgt := 37) X dX4_readNumbered_12 (by decide) (fun h23 => ?_) (fun h23 => ?_)
  · rw [if_neg h23] at hf
    refine wa_iconst (v := (-1 : Int32)) X dX4_readNumbered_37 (by decide) ?_
    refine wa_istore (L2 := [(4, .int (-1 : Int32)), (2, .long r5), (0, va_rf (some a)), (1, va_rf p1)]) X dX4_readNumbered_38 (by decide) (by first | rfl | (show (4, _) :: List.filter (fun q : Nat × Value => !(q.1 == 4) && !(q.1 + 1 == 4 && q.2.category == 2)) _ = _; simp [va_rf_cat, cat_i, cat_l])) ?_
    refine wa_aload_n X 2 dX4_readNumbered_40 rfl ?_
    obtain ⟨h24, hf⟩ := jckT hf
    refine wa_getI X dX4_readNumbered_41 lfX4_148 rfl h24 rfl ?_
    refine wa_ifne (tgt := 89) X dX4_readNumbered_44 (by decide) (fun h25 => ?_) (fun h25 => ?_)
    · rw [if_neg h25] at hf
      refine wa_sub (L2 := [(0, va_rf (some a)), (4, .int (-1 : Int32))]) [2, 0] rfl ?_
      exact gX4_readNumbered_b89 X a (-1 : Int32) μ15 _ _ _ _ hf (by omega) (by omega)
    · rw [if_pos h25] at hf
      refine wa_aload_n X 3 dX4_readNumbered_47 rfl ?_
      refine wa_lload_n X 1 dX4_readNumbered_48 rfl ?_
      obtain ⟨q26, h27, hf⟩ := jde_some hf
      obtain ⟨h28, hf⟩ := jckT hf
      obtain ⟨r29, μ30, c31, m32, c33, m34, e35, hf, h36, h37⟩ := jcl_some hf
      refine wa_rcallV (st2 := [.int r29]) X dX4_readNumbered_49 lmX4_61 lMX9_find h27 h28 (mX9_find e35) rfl rfl rfl (va_cats (Nat.le_of_ble_eq_true rfl)) (by decide) (by omega) (by omega) ?_
      refine wa_istore (L2 := [(4, .int r29), (2, .long r5), (0, va_rf (some a)), (1, va_rf p1)]) X dX4_readNumbered_52 (by decide) (by first | rfl | (show (4, _) :: List.filter (fun q : Nat × Value => !(q.1 == 4) && !(q.1 + 1 == 4 && q.2.category == 2)) _ = _; simp [va_rf_cat, cat_i, cat_l])) ?_
      refine wa_iload X 0 dX4_readNumbered_54 rfl ?_
      refine wa_iconst (v := (-1 : Int32)) X dX4_readNumbered_56 (by decide) ?_
      refine wa_icne (tgt := 68) X dX4_readNumbered_57 (by decide) (fun h38 => ?_) (fun h38 => ?_)
      · rw [if_neg h38] at hf
        refine wa_iload X 0 dX4_readNumbered_68 rfl ?_
        refine wa_sub (L2 := [(0, va_rf (some a))]) [2] rfl ?_
        exact gX4_readNumbered_b70 X a r29 μ30 _ _ _ _ hf (by omega) (by omega)
      · rw [if_pos h38] at hf
        refine wa_aload_n X 3 dX4_readNumbered_60 rfl ?_
        refine wa_lload_n X 1 dX4_readNumbered_61 rfl ?_
        obtain ⟨h39, hf⟩ := jckT hf
        obtain ⟨r40, μ41, c42, m43, c44, m45, e46, hf, h47, h48⟩ := jcl_some hf
        refine wa_rcallV (st2 := [.int r40]) X dX4_readNumbered_62 lmX4_65 lMX9_add h27 h39 (mX9_add e46) rfl rfl rfl (va_cats (Nat.le_of_ble_eq_true rfl)) (by decide) (by omega) (by omega) ?_
        refine wa_goto (tgt := 70) X dX4_readNumbered_65 (by decide) ?_
        refine wa_sub (L2 := [(0, va_rf (some a))]) [2] rfl ?_
        exact gX4_readNumbered_b70 X a r40 μ41 _ _ _ _ hf (by omega) (by omega)
  · rw [if_pos h23] at hf
    refine wa_aload_n X 1 dX4_readNumbered_15 rfl ?_
    obtain ⟨h49, hf⟩ := jckT hf
    refine wa_getP X dX4_readNumbered_16 lfX4_9 rfl h49 rfl ?_
    refine wa_lload_n X 0 dX4_readNumbered_19 rfl ?_
    obtain ⟨r50, μ51, c52, m53, c54, m55, e56, hf, h57, h58⟩ := jcl_some hf
    refine wa_rcallSN (st2 := [.int r50, va_rf (jP μ15 a 0)]) X dX4_readNumbered_20 lNX4_50 lMX10_isOurs (mX10_isOurs e56) rfl rfl rfl (va_cats (Nat.le_of_ble_eq_true rfl)) (by decide) (by omega) (by omega) ?_
    refine wa_ifeq (tgt := 30) X dX4_readNumbered_23 (by decide) (fun h59 => ?_) (fun h59 => ?_)
    · rw [if_pos h59] at hf
      refine wa_iconst (v := (0 : Int32)) X dX4_readNumbered_30 (by decide) ?_
      refine wa_sub (L2 := []) [] rfl ?_
      exact gX4_readNumbered_b31 X (0 : Int32) (jP μ15 a 0) μ51 _ _ _ _ hf (by omega) (by omega)
    · rw [if_neg h59] at hf
      refine wa_iconst (v := (2 : Int32)) X dX4_readNumbered_26 (by decide) ?_
      refine wa_goto (tgt := 31) X dX4_readNumbered_27 (by decide) ?_
      refine wa_sub (L2 := []) [] rfl ?_
      exact gX4_readNumbered_b31 X (2 : Int32) (jP μ15 a 0) μ51 _ _ _ _ hf (by omega) (by omega)
theorem dX4_readTerm_0 : decode cX4_readTerm 0 = .ok (.aload_n 0, 1) := by decide +kernel
theorem dX4_readTerm_1 : decode cX4_readTerm 1 = .ok (.getfield 9, 3) := by decide +kernel
theorem dX4_readTerm_4 : decode cX4_readTerm 4 = .ok (.ldc2_w 218, 3) := by decide +kernel
theorem dX4_readTerm_7 : decode cX4_readTerm 7 = .ok (.invokevirtual 84, 3) := by decide +kernel
theorem dX4_readTerm_10 : decode cX4_readTerm 10 = .ok (.ifCond .ne 5, 3) := by decide +kernel
theorem dX4_readTerm_13 : decode cX4_readTerm 13 = .ok (.iconst 0, 1) := by decide +kernel
theorem dX4_readTerm_14 : decode cX4_readTerm 14 = .ok (.ireturn, 1) := by decide +kernel
theorem dX4_readTerm_15 : decode cX4_readTerm 15 = .ok (.aload_n 0, 1) := by decide +kernel
theorem dX4_readTerm_16 : decode cX4_readTerm 16 = .ok (.getfield 9, 3) := by decide +kernel
theorem dX4_readTerm_19 : decode cX4_readTerm 19 = .ok (.invokevirtual 34, 3) := by decide +kernel
theorem dX4_readTerm_22 : decode cX4_readTerm 22 = .ok (.lstore_n 2, 1) := by decide +kernel
theorem dX4_readTerm_23 : decode cX4_readTerm 23 = .ok (.lload_n 2, 1) := by decide +kernel
theorem dX4_readTerm_24 : decode cX4_readTerm 24 = .ok (.invokestatic 220, 3) := by decide +kernel
theorem dX4_readTerm_27 : decode cX4_readTerm 27 = .ok (.ifCond .ne 12, 3) := by decide +kernel
theorem dX4_readTerm_30 : decode cX4_readTerm 30 = .ok (.aload_n 0, 1) := by decide +kernel
theorem dX4_readTerm_31 : decode cX4_readTerm 31 = .ok (.getfield 9, 3) := by decide +kernel
theorem dX4_readTerm_34 : decode cX4_readTerm 34 = .ok (.iconst 0, 1) := by decide +kernel
theorem dX4_readTerm_35 : decode cX4_readTerm 35 = .ok (.invokevirtual 54, 3) := by decide +kernel
theorem dX4_readTerm_38 : decode cX4_readTerm 38 = .ok (.ireturn, 1) := by decide +kernel
theorem dX4_readTerm_39 : decode cX4_readTerm 39 = .ok (.aload_n 1, 1) := by decide +kernel
theorem dX4_readTerm_40 : decode cX4_readTerm 40 = .ok (.ldc2_w 223, 3) := by decide +kernel
theorem dX4_readTerm_43 : decode cX4_readTerm 43 = .ok (.lload_n 2, 1) := by decide +kernel
theorem dX4_readTerm_44 : decode cX4_readTerm 44 = .ok (.lsub, 1) := by decide +kernel
theorem dX4_readTerm_45 : decode cX4_readTerm 45 = .ok (.l2i, 1) := by decide +kernel
theorem dX4_readTerm_46 : decode cX4_readTerm 46 = .ok (.putfield 225, 3) := by decide +kernel
theorem dX4_readTerm_49 : decode cX4_readTerm 49 = .ok (.aload_n 1, 1) := by decide +kernel
theorem dX4_readTerm_50 : decode cX4_readTerm 50 = .ok (.getfield 225, 3) := by decide +kernel
theorem dX4_readTerm_53 : decode cX4_readTerm 53 = .ok (.sipush 365, 3) := by decide +kernel
theorem dX4_readTerm_56 : decode cX4_readTerm 56 = .ok (.if_icmp .le 12, 3) := by decide +kernel
theorem dX4_readTerm_59 : decode cX4_readTerm 59 = .ok (.aload_n 0, 1) := by decide +kernel
theorem dX4_readTerm_60 : decode cX4_readTerm 60 = .ok (.getfield 9, 3) := by decide +kernel
theorem dX4_readTerm_63 : decode cX4_readTerm 63 = .ok (.iconst 1, 1) := by decide +kernel
theorem dX4_readTerm_64 : decode cX4_readTerm 64 = .ok (.invokevirtual 54, 3) := by decide +kernel
theorem dX4_readTerm_67 : decode cX4_readTerm 67 = .ok (.ireturn, 1) := by decide +kernel
theorem dX4_readTerm_68 : decode cX4_readTerm 68 = .ok (.aload_n 0, 1) := by decide +kernel
theorem dX4_readTerm_69 : decode cX4_readTerm 69 = .ok (.getfield 9, 3) := by decide +kernel
theorem dX4_readTerm_72 : decode cX4_readTerm 72 = .ok (.invokevirtual 68, 3) := by decide +kernel
theorem dX4_readTerm_75 : decode cX4_readTerm 75 = .ok (.aload_n 1, 1) := by decide +kernel
theorem dX4_readTerm_76 : decode cX4_readTerm 76 = .ok (.aload_n 0, 1) := by decide +kernel
theorem dX4_readTerm_77 : decode cX4_readTerm 77 = .ok (.getfield 9, 3) := by decide +kernel
theorem dX4_readTerm_80 : decode cX4_readTerm 80 = .ok (.invokevirtual 34, 3) := by decide +kernel
theorem dX4_readTerm_83 : decode cX4_readTerm 83 = .ok (.ldc2_w 228, 3) := by decide +kernel
theorem dX4_readTerm_86 : decode cX4_readTerm 86 = .ok (.lcmp, 1) := by decide +kernel
theorem dX4_readTerm_87 : decode cX4_readTerm 87 = .ok (.ifCond .ne 7, 3) := by decide +kernel
theorem dX4_readTerm_90 : decode cX4_readTerm 90 = .ok (.iconst 1, 1) := by decide +kernel
theorem dX4_readTerm_91 : decode cX4_readTerm 91 = .ok (.goto 4, 3) := by decide +kernel
theorem dX4_readTerm_94 : decode cX4_readTerm 94 = .ok (.iconst 0, 1) := by decide +kernel
theorem dX4_readTerm_95 : decode cX4_readTerm 95 = .ok (.putfield 230, 3) := by decide +kernel
theorem dX4_readTerm_98 : decode cX4_readTerm 98 = .ok (.aload_n 0, 1) := by decide +kernel
theorem dX4_readTerm_99 : decode cX4_readTerm 99 = .ok (.getfield 9, 3) := by decide +kernel
theorem dX4_readTerm_102 : decode cX4_readTerm 102 = .ok (.aload_n 1, 1) := by decide +kernel
theorem dX4_readTerm_103 : decode cX4_readTerm 103 = .ok (.getfield 230, 3) := by decide +kernel
theorem dX4_readTerm_106 : decode cX4_readTerm 106 = .ok (.iconst 1, 1) := by decide +kernel
theorem dX4_readTerm_107 : decode cX4_readTerm 107 = .ok (.if_icmp .ne 9, 3) := by decide +kernel
theorem dX4_readTerm_110 : decode cX4_readTerm 110 = .ok (.ldc2_w 228, 3) := by decide +kernel
theorem dX4_readTerm_113 : decode cX4_readTerm 113 = .ok (.goto 6, 3) := by decide +kernel
theorem dX4_readTerm_116 : decode cX4_readTerm 116 = .ok (.ldc2_w 233, 3) := by decide +kernel
theorem dX4_readTerm_119 : decode cX4_readTerm 119 = .ok (.invokevirtual 84, 3) := by decide +kernel
theorem dX4_readTerm_122 : decode cX4_readTerm 122 = .ok (.ireturn, 1) := by decide +kernel
def fX4_readTerm_b119 (s0 : Int64) (s1 : Option Nat) (μ : JM) : JO (Int32) := jde s1 fun q111 => jck ((jT μ q111).1 == 8) <| jcl (fX7_take q111 s0 μ) fun r114 μ115 => jck (jbl r114) <| some (r114, μ115, 0, 0)
set_option maxHeartbeats 4000000 in
set_option maxRecDepth 100000 in
theorem gX4_readTerm_b119 {b : Nat} {Θ : JE} {RC RS : Nat} {r : Int32} {ν : JM} (X : jX b Θ RX4 cX4_readTerm 4 (some .boolean) 2 44 RC RS) (s0 : Int64) (s1 : Option Nat) (μ : JM) (c m k n : Nat) (hf : fX4_readTerm_b119 s0 s1 μ = some (r, ν, c, m)) (hk : k + c = RC) (hn : n + m = RS) : WA b Θ 4 (jE b Θ (some (.int r)) ν RC RS) μ k n 119 [] [.long s0, va_rf s1] := by
  rw [fX4_readTerm_b119] at hf
  obtain ⟨q111, h112, hf⟩ := jde_some hf
  obtain ⟨h113, hf⟩ := jckT hf
  obtain ⟨r114, μ115, c116, m117, c118, m119, e120, hf, h121, h122⟩ := jcl_some hf
  refine wa_rcallV (st2 := [.int r114]) X dX4_readTerm_119 lmX4_84 lMX7_take h112 h113 (mX7_take e120) rfl rfl rfl (va_cats (Nat.le_of_ble_eq_true rfl)) (by decide) (by omega) (by omega) ?_
  obtain ⟨h123, hf⟩ := jck_some hf
  obtain ⟨rfl, rfl, rfl, rfl⟩ := jret hf
  exact wa_iret X dX4_readTerm_122 (jbl_nar h123) (by omega) (by omega)
def fX4_readTerm_b95 (a : Nat) (p1 : Option Nat) (s0 : Int32) (s1 : Option Nat) (μ : JM) : JO (Int32) := jde s1 fun q100 => jck ((jT μ q100).1 == 3) <| jlt (jsI μ q100 5 s0) fun μ103 => jck ((jT μ a).1 == 5) <| jde p1 fun q107 => jck ((jT μ q107).1 == 3) <| if (jI μ103 q107 5) = (1 : Int32) then (fX4_readTerm_b119  (-3008 : Int64) (jP μ103 a 0) μ103) else (fX4_readTerm_b119  (-3007 : Int64) (jP μ103 a 0) μ103)
set_option maxHeartbeats 4000000 in
set_option maxRecDepth 100000 in
theorem gX4_readTerm_b95 {b : Nat} {Θ : JE} {RC RS : Nat} {r : Int32} {ν : JM} (X : jX b Θ RX4 cX4_readTerm 4 (some .boolean) 2 44 RC RS) (a : Nat) (p1 : Option Nat) (s0 : Int32) (s1 : Option Nat) (μ : JM) (c m k n : Nat) (hf : fX4_readTerm_b95 a p1 s0 s1 μ = some (r, ν, c, m)) (hk : k + c = RC) (hn : n + m = RS) : WA b Θ 4 (jE b Θ (some (.int r)) ν RC RS) μ k n 95 [(0, va_rf (some a)), (1, va_rf p1)] [.int s0, va_rf s1] := by
  rw [fX4_readTerm_b95] at hf
  obtain ⟨q100, h101, hf⟩ := jde_some hf
  obtain ⟨h102, hf⟩ := jckT hf
  obtain ⟨μ103, hm104, hf⟩ := jlt_e hf
  have e105 : jT μ103 = jT μ := by rw [hm104]; rfl
  refine wa_rputI (ν := μ103) X dX4_readTerm_95 lfX4_230 h101 h102 rfl rfl hm104 ?_
  refine wa_aload_n X 0 dX4_readTerm_98 rfl ?_
  obtain ⟨h106, hf⟩ := jckT hf
  refine wa_getP X dX4_readTerm_99 lfX4_9 rfl (by rw [e105]; exact h106) rfl ?_
  refine wa_aload_n X 1 dX4_readTerm_102 rfl ?_
  obtain ⟨q107, h108, hf⟩ := jde_some hf
  obtain ⟨h109, hf⟩ := jckT hf
  refine wa_getI X dX4_readTerm_103 lfX4_230 h108 (by rw [e105]; exact h109) rfl ?_
  refine wa_iconst (v := (1 : Int32)) X dX4_readTerm_106 (by decide) ?_
  refine wa_icne (tgt := 116) X dX4_readTerm_107 (by decide) (fun h110 => ?_) (fun h110 => ?_)
  · rw [if_neg h110] at hf
    refine wa_ldc2 (v := (-3007 : Int64)) X dX4_readTerm_116 lkX4_233 ?_
    refine wa_sub (L2 := []) [] rfl ?_
    exact gX4_readTerm_b119 X (-3007 : Int64) (jP μ103 a 0) μ103 _ _ _ _ hf (by omega) (by omega)
  · rw [if_pos h110] at hf
    refine wa_ldc2 (v := (-3008 : Int64)) X dX4_readTerm_110 lkX4_228 ?_
    refine wa_goto (tgt := 119) X dX4_readTerm_113 (by decide) ?_
    refine wa_sub (L2 := []) [] rfl ?_
    exact gX4_readTerm_b119 X (-3008 : Int64) (jP μ103 a 0) μ103 _ _ _ _ hf (by omega) (by omega)
def fX4_readTerm (a : Nat) (p1 : Option Nat) (μ : JM) : JO (Int32) := jck ((jT μ a).1 == 5) <| jde (jP μ a 0) fun q2 => jck ((jT μ q2).1 == 8) <| jcl (fX7_take q2 (-3006 : Int64) μ) fun r5 μ6 => if r5 = 0 then (some ((0 : Int32), μ6, 0, 0)) else (jck ((jT μ6 a).1 == 5) <| jde (jP μ6 a 0) fun q16 => jck ((jT μ6 q16).1 == 8) <| jcl (fX7_token q16 μ6) fun r19 μ20 => jcl (fX10_isNumber r19 μ20) fun r28 μ29 => if r28 = 0 then (jck ((jT μ29 a).1 == 5) <| jde (jP μ29 a 0) fun q87 => jck ((jT μ29 q87).1 == 8) <| jcl (fX7_fail q87 (0 : Int32) μ29) fun r90 μ91 => jck (jbl r90) <| some (r90, μ91, 0, 0)) else (jde p1 fun q38 => jck ((jT μ29 q38).1 == 3) <| jlt (jsI μ29 q38 4 (((-1000 : Int64) - r19)).toInt32) fun μ41 => if (jI μ41 q38 4) ≤ (365 : Int32) then (jck ((jT μ29 a).1 == 5) <| jde (jP μ41 a 0) fun q46 => jck ((jT μ29 q46).1 == 8) <| jcl (fX7_step q46 μ41) fun u49 μ50 => jck ((jT μ50 a).1 == 5) <| jde (jP μ50 a 0) fun q59 => jck ((jT μ50 q59).1 == 8) <| jcl (fX7_token q59 μ50) fun r62 μ63 => if (lg_cmp r62 (-3008 : Int64)) = 0 then (fX4_readTerm_b95  a p1 (1 : Int32) p1 μ63) else (fX4_readTerm_b95  a p1 (0 : Int32) p1 μ63)) else (jck ((jT μ29 a).1 == 5) <| jde (jP μ41 a 0) fun q73 => jck ((jT μ29 q73).1 == 8) <| jcl (fX7_fail q73 (1 : Int32) μ41) fun r76 μ77 => jck (jbl r76) <| some (r76, μ77, 0, 0))))
set_option maxHeartbeats 4000000 in
set_option maxRecDepth 100000 in
theorem mX4_readTerm {b : Nat} {a : Nat} {p1 : Option Nat} {μ : JM} {r : Int32} {ν : JM} {c m : Nat} (hf : fX4_readTerm a p1 μ = some (r, ν, c, m)) : JMet b yX4_readTerm cX4_readTerm 4 (some .boolean) 2 44 [va_rf (some a), va_rf p1] μ (some (.int r)) ν c m := by
  refine JMet.of (by decide) (lg_sl_le (by simp only [List.map_cons, List.map_nil, List.sum_cons, List.sum_nil, va_rf_cat]; exact Nat.le_of_ble_eq_true rfl)) (fun Θ X hin => ?_)
  refine wa_eq (L2 := [(0, va_rf (some a)), (1, va_rf p1)]) ?_ rfl (by first | rfl | simp [lv_args, va_rf_cat, cat_i, cat_l]) rfl
  obtain ⟨k, hk0⟩ : ∃ k : Nat, k = 0 := ⟨0, rfl⟩
  obtain ⟨n, hn0⟩ : ∃ n : Nat, n = 0 := ⟨0, rfl⟩
  have hk : k + c = c := by omega
  have hn : n + m = m := by omega
  refine wa_costs hk0.symm hn0.symm ?_
  rw [fX4_readTerm] at hf
  refine wa_aload_n X 0 dX4_readTerm_0 rfl ?_
  obtain ⟨h1, hf⟩ := jckT hf
  refine wa_getP X dX4_readTerm_1 lfX4_9 rfl h1 rfl ?_
  refine wa_ldc2 (v := (-3006 : Int64)) X dX4_readTerm_4 lkX4_218 ?_
  obtain ⟨q2, h3, hf⟩ := jde_some hf
  obtain ⟨h4, hf⟩ := jckT hf
  obtain ⟨r5, μ6, c7, m8, c9, m10, e11, hf, h12, h13⟩ := jcl_some hf
  refine wa_rcallV (st2 := [.int r5]) X dX4_readTerm_7 lmX4_84 lMX7_take h3 h4 (mX7_take e11) rfl rfl rfl (va_cats (Nat.le_of_ble_eq_true rfl)) (by decide) (by omega) (by omega) ?_
  refine wa_ifne (tgt := 15) X dX4_readTerm_10 (by decide) (fun h14 => ?_) (fun h14 => ?_)
  · rw [if_neg h14] at hf
    refine wa_aload_n X 0 dX4_readTerm_15 rfl ?_
    obtain ⟨h15, hf⟩ := jckT hf
    refine wa_getP X dX4_readTerm_16 lfX4_9 rfl h15 rfl ?_
    obtain ⟨q16, h17, hf⟩ := jde_some hf
    obtain ⟨h18, hf⟩ := jckT hf
    obtain ⟨r19, μ20, c21, m22, c23, m24, e25, hf, h26, h27⟩ := jcl_some hf
    refine wa_rcallV (st2 := [.long r19]) X dX4_readTerm_19 lmX4_34 lMX7_token h17 h18 (mX7_token e25) rfl rfl rfl (va_cats (Nat.le_of_ble_eq_true rfl)) (by decide) (by omega) (by omega) ?_
    refine wa_lstore_n (L2 := [(2, .long r19), (0, va_rf (some a)), (1, va_rf p1)]) X dX4_readTerm_22 (by decide) (by first | rfl | (show (2, _) :: List.filter (fun q : Nat × Value => !(q.1 == 2) && (!(q.1 == 3) && !(q.1 + 1 == 2 && q.2.category == 2))) _ = _; simp [va_rf_cat, cat_i, cat_l])) ?_
    refine wa_lload_n X 0 dX4_readTerm_23 rfl ?_
    obtain ⟨r28, μ29, c30, m31, c32, m33, e34, hf, h35, h36⟩ := jcl_some hf
    refine wa_rcallSN (st2 := [.int r28]) X dX4_readTerm_24 lNX4_220 lMX10_isNumber (mX10_isNumber e34) rfl rfl rfl (va_cats (Nat.le_of_ble_eq_true rfl)) (by decide) (by omega) (by omega) ?_
    refine wa_ifne (tgt := 39) X dX4_readTerm_27 (by decide) (fun h37 => ?_) (fun h37 => ?_)
    · rw [if_neg h37] at hf
      refine wa_aload_n X 2 dX4_readTerm_39 rfl ?_
      refine wa_ldc2 (v := (-1000 : Int64)) X dX4_readTerm_40 lkX4_223 ?_
      refine wa_lload_n X 0 dX4_readTerm_43 rfl ?_
      refine wa_lsub X dX4_readTerm_44 ?_
      refine wa_l2i X dX4_readTerm_45 ?_
      obtain ⟨q38, h39, hf⟩ := jde_some hf
      obtain ⟨h40, hf⟩ := jckT hf
      obtain ⟨μ41, hm42, hf⟩ := jlt_e hf
      have e43 : jT μ41 = jT μ29 := by rw [hm42]; rfl
      refine wa_rputI (ν := μ41) X dX4_readTerm_46 lfX4_225 h39 h40 rfl rfl hm42 ?_
      refine wa_aload_n X 2 dX4_readTerm_49 rfl ?_
      refine wa_getI X dX4_readTerm_50 lfX4_225 h39 (by rw [e43]; exact h40) rfl ?_
      refine wa_sipush (v := (365 : Int32)) X dX4_readTerm_53 (by decide) ?_
      refine wa_icle (tgt := 68) X dX4_readTerm_56 (by decide) (fun h44 => ?_) (fun h44 => ?_)
      · rw [if_pos h44] at hf
        refine wa_aload_n X 1 dX4_readTerm_68 rfl ?_
        obtain ⟨h45, hf⟩ := jckT hf
        refine wa_getP X dX4_readTerm_69 lfX4_9 rfl (by rw [e43]; exact h45) rfl ?_
        obtain ⟨q46, h47, hf⟩ := jde_some hf
        obtain ⟨h48, hf⟩ := jckT hf
        obtain ⟨u49, μ50, c51, m52, c53, m54, e55, hf, h56, h57⟩ := jcl_some hf
        refine wa_rcallV (st2 := []) X dX4_readTerm_72 lmX4_68 lMX7_step h47 (by rw [e43]; exact h48) (mX7_step e55) rfl rfl rfl (va_cats (Nat.le_of_ble_eq_true rfl)) (by decide) (by omega) (by omega) ?_
        refine wa_aload_n X 2 dX4_readTerm_75 rfl ?_
        refine wa_aload_n X 1 dX4_readTerm_76 rfl ?_
        obtain ⟨h58, hf⟩ := jckT hf
        refine wa_getP X dX4_readTerm_77 lfX4_9 rfl h58 rfl ?_
        obtain ⟨q59, h60, hf⟩ := jde_some hf
        obtain ⟨h61, hf⟩ := jckT hf
        obtain ⟨r62, μ63, c64, m65, c66, m67, e68, hf, h69, h70⟩ := jcl_some hf
        refine wa_rcallV (st2 := [.long r62, va_rf p1]) X dX4_readTerm_80 lmX4_34 lMX7_token h60 h61 (mX7_token e68) rfl rfl rfl (va_cats (Nat.le_of_ble_eq_true rfl)) (by decide) (by omega) (by omega) ?_
        refine wa_ldc2 (v := (-3008 : Int64)) X dX4_readTerm_83 lkX4_228 ?_
        refine wa_lcmp X dX4_readTerm_86 ?_
        refine wa_ifne (tgt := 94) X dX4_readTerm_87 (by decide) (fun h71 => ?_) (fun h71 => ?_)
        · rw [if_neg h71] at hf
          refine wa_iconst (v := (0 : Int32)) X dX4_readTerm_94 (by decide) ?_
          refine wa_sub (L2 := [(0, va_rf (some a)), (1, va_rf p1)]) [1, 2] rfl ?_
          exact gX4_readTerm_b95 X a p1 (0 : Int32) p1 μ63 _ _ _ _ hf (by omega) (by omega)
        · rw [if_pos h71] at hf
          refine wa_iconst (v := (1 : Int32)) X dX4_readTerm_90 (by decide) ?_
          refine wa_goto (tgt := 95) X dX4_readTerm_91 (by decide) ?_
          refine wa_sub (L2 := [(0, va_rf (some a)), (1, va_rf p1)]) [1, 2] rfl ?_
          exact gX4_readTerm_b95 X a p1 (1 : Int32) p1 μ63 _ _ _ _ hf (by omega) (by omega)
      · rw [if_neg h44] at hf
        refine wa_aload_n X 1 dX4_readTerm_59 rfl ?_
        obtain ⟨h72, hf⟩ := jckT hf
        refine wa_getP X dX4_readTerm_60 lfX4_9 rfl (by rw [e43]; exact h72) rfl ?_
        refine wa_iconst (v := (1 : Int32)) X dX4_readTerm_63 (by decide) ?_
        obtain ⟨q73, h74, hf⟩ := jde_some hf
        obtain ⟨h75, hf⟩ := jckT hf
        obtain ⟨r76, μ77, c78, m79, c80, m81, e82, hf, h83, h84⟩ := jcl_some hf
        refine wa_rcallV (st2 := [.int r76]) X dX4_readTerm_64 lmX4_54 lMX7_fail h74 (by rw [e43]; exact h75) (mX7_fail e82) rfl rfl rfl (va_cats (Nat.le_of_ble_eq_true rfl)) (by decide) (by omega) (by omega) ?_
        obtain ⟨h85, hf⟩ := jck_some hf
        obtain ⟨rfl, rfl, rfl, rfl⟩ := jret hf
        exact wa_iret X dX4_readTerm_67 (jbl_nar h85) (by omega) (by omega)
    · rw [if_pos h37] at hf
      refine wa_aload_n X 1 dX4_readTerm_30 rfl ?_
      obtain ⟨h86, hf⟩ := jckT hf
      refine wa_getP X dX4_readTerm_31 lfX4_9 rfl h86 rfl ?_
      refine wa_iconst (v := (0 : Int32)) X dX4_readTerm_34 (by decide) ?_
      obtain ⟨q87, h88, hf⟩ := jde_some hf
      obtain ⟨h89, hf⟩ := jckT hf
      obtain ⟨r90, μ91, c92, m93, c94, m95, e96, hf, h97, h98⟩ := jcl_some hf
      refine wa_rcallV (st2 := [.int r90]) X dX4_readTerm_35 lmX4_54 lMX7_fail h88 h89 (mX7_fail e96) rfl rfl rfl (va_cats (Nat.le_of_ble_eq_true rfl)) (by decide) (by omega) (by omega) ?_
      obtain ⟨h99, hf⟩ := jck_some hf
      obtain ⟨rfl, rfl, rfl, rfl⟩ := jret hf
      exact wa_iret X dX4_readTerm_38 (jbl_nar h99) (by omega) (by omega)
  · rw [if_pos h14] at hf
    refine wa_iconst (v := (0 : Int32)) X dX4_readTerm_13 (by decide) ?_
    obtain ⟨rfl, rfl, rfl, rfl⟩ := jret hf
    exact wa_iret X dX4_readTerm_14 rfl (by omega) (by omega)
theorem dX4_readDeed_0 : decode cX4_readDeed 0 = .ok (.aload_n 0, 1) := by decide +kernel
theorem dX4_readDeed_1 : decode cX4_readDeed 1 = .ok (.getfield 9, 3) := by decide +kernel
theorem dX4_readDeed_4 : decode cX4_readDeed 4 = .ok (.ldc2_w 189, 3) := by decide +kernel
theorem dX4_readDeed_7 : decode cX4_readDeed 7 = .ok (.invokevirtual 84, 3) := by decide +kernel
theorem dX4_readDeed_10 : decode cX4_readDeed 10 = .ok (.ifCond .ne 5, 3) := by decide +kernel
theorem dX4_readDeed_13 : decode cX4_readDeed 13 = .ok (.iconst 0, 1) := by decide +kernel
theorem dX4_readDeed_14 : decode cX4_readDeed 14 = .ok (.ireturn, 1) := by decide +kernel
theorem dX4_readDeed_15 : decode cX4_readDeed 15 = .ok (.aload_n 1, 1) := by decide +kernel
theorem dX4_readDeed_16 : decode cX4_readDeed 16 = .ok (.aload_n 0, 1) := by decide +kernel
theorem dX4_readDeed_17 : decode cX4_readDeed 17 = .ok (.getfield 9, 3) := by decide +kernel
theorem dX4_readDeed_20 : decode cX4_readDeed 20 = .ok (.invokevirtual 34, 3) := by decide +kernel
theorem dX4_readDeed_23 : decode cX4_readDeed 23 = .ok (.invokestatic 191, 3) := by decide +kernel
theorem dX4_readDeed_26 : decode cX4_readDeed 26 = .ok (.putfield 194, 3) := by decide +kernel
theorem dX4_readDeed_29 : decode cX4_readDeed 29 = .ok (.aload_n 1, 1) := by decide +kernel
theorem dX4_readDeed_30 : decode cX4_readDeed 30 = .ok (.getfield 194, 3) := by decide +kernel
theorem dX4_readDeed_33 : decode cX4_readDeed 33 = .ok (.iconst (-1), 1) := by decide +kernel
theorem dX4_readDeed_34 : decode cX4_readDeed 34 = .ok (.if_icmp .ne 12, 3) := by decide +kernel
theorem dX4_readDeed_37 : decode cX4_readDeed 37 = .ok (.aload_n 0, 1) := by decide +kernel
theorem dX4_readDeed_38 : decode cX4_readDeed 38 = .ok (.getfield 9, 3) := by decide +kernel
theorem dX4_readDeed_41 : decode cX4_readDeed 41 = .ok (.iconst 0, 1) := by decide +kernel
theorem dX4_readDeed_42 : decode cX4_readDeed 42 = .ok (.invokevirtual 54, 3) := by decide +kernel
theorem dX4_readDeed_45 : decode cX4_readDeed 45 = .ok (.ireturn, 1) := by decide +kernel
theorem dX4_readDeed_46 : decode cX4_readDeed 46 = .ok (.aload_n 0, 1) := by decide +kernel
theorem dX4_readDeed_47 : decode cX4_readDeed 47 = .ok (.getfield 9, 3) := by decide +kernel
theorem dX4_readDeed_50 : decode cX4_readDeed 50 = .ok (.invokevirtual 68, 3) := by decide +kernel
theorem dX4_readDeed_53 : decode cX4_readDeed 53 = .ok (.aload_n 1, 1) := by decide +kernel
theorem dX4_readDeed_54 : decode cX4_readDeed 54 = .ok (.aload_n 0, 1) := by decide +kernel
theorem dX4_readDeed_55 : decode cX4_readDeed 55 = .ok (.aload_n 0, 1) := by decide +kernel
theorem dX4_readDeed_56 : decode cX4_readDeed 56 = .ok (.getfield 19, 3) := by decide +kernel
theorem dX4_readDeed_59 : decode cX4_readDeed 59 = .ok (.invokevirtual 197, 3) := by decide +kernel
theorem dX4_readDeed_62 : decode cX4_readDeed 62 = .ok (.putfield 201, 3) := by decide +kernel
theorem dX4_readDeed_65 : decode cX4_readDeed 65 = .ok (.aload_n 0, 1) := by decide +kernel
theorem dX4_readDeed_66 : decode cX4_readDeed 66 = .ok (.getfield 9, 3) := by decide +kernel
theorem dX4_readDeed_69 : decode cX4_readDeed 69 = .ok (.getfield 103, 3) := by decide +kernel
theorem dX4_readDeed_72 : decode cX4_readDeed 72 = .ok (.ifCond .ne 16, 3) := by decide +kernel
theorem dX4_readDeed_75 : decode cX4_readDeed 75 = .ok (.aload_n 0, 1) := by decide +kernel
theorem dX4_readDeed_76 : decode cX4_readDeed 76 = .ok (.getfield 9, 3) := by decide +kernel
theorem dX4_readDeed_79 : decode cX4_readDeed 79 = .ok (.ldc2_w 204, 3) := by decide +kernel
theorem dX4_readDeed_82 : decode cX4_readDeed 82 = .ok (.invokevirtual 84, 3) := by decide +kernel
theorem dX4_readDeed_85 : decode cX4_readDeed 85 = .ok (.ifCond .ne 5, 3) := by decide +kernel
theorem dX4_readDeed_88 : decode cX4_readDeed 88 = .ok (.iconst 0, 1) := by decide +kernel
theorem dX4_readDeed_89 : decode cX4_readDeed 89 = .ok (.ireturn, 1) := by decide +kernel
theorem dX4_readDeed_90 : decode cX4_readDeed 90 = .ok (.aload_n 1, 1) := by decide +kernel
theorem dX4_readDeed_91 : decode cX4_readDeed 91 = .ok (.aload_n 0, 1) := by decide +kernel
theorem dX4_readDeed_92 : decode cX4_readDeed 92 = .ok (.aload_n 0, 1) := by decide +kernel
theorem dX4_readDeed_93 : decode cX4_readDeed 93 = .ok (.getfield 22, 3) := by decide +kernel
theorem dX4_readDeed_96 : decode cX4_readDeed 96 = .ok (.invokevirtual 197, 3) := by decide +kernel
theorem dX4_readDeed_99 : decode cX4_readDeed 99 = .ok (.putfield 206, 3) := by decide +kernel
theorem dX4_readDeed_102 : decode cX4_readDeed 102 = .ok (.aload_n 0, 1) := by decide +kernel
theorem dX4_readDeed_103 : decode cX4_readDeed 103 = .ok (.getfield 9, 3) := by decide +kernel
theorem dX4_readDeed_106 : decode cX4_readDeed 106 = .ok (.getfield 103, 3) := by decide +kernel
theorem dX4_readDeed_109 : decode cX4_readDeed 109 = .ok (.ifCond .ne 23, 3) := by decide +kernel
theorem dX4_readDeed_112 : decode cX4_readDeed 112 = .ok (.aload_n 1, 1) := by decide +kernel
theorem dX4_readDeed_113 : decode cX4_readDeed 113 = .ok (.getfield 194, 3) := by decide +kernel
theorem dX4_readDeed_116 : decode cX4_readDeed 116 = .ok (.iconst 1, 1) := by decide +kernel
theorem dX4_readDeed_117 : decode cX4_readDeed 117 = .ok (.if_icmp .ne 11, 3) := by decide +kernel
theorem dX4_readDeed_120 : decode cX4_readDeed 120 = .ok (.aload_n 0, 1) := by decide +kernel
theorem dX4_readDeed_121 : decode cX4_readDeed 121 = .ok (.aload_n 1, 1) := by decide +kernel
theorem dX4_readDeed_122 : decode cX4_readDeed 122 = .ok (.invokevirtual 209, 3) := by decide +kernel
theorem dX4_readDeed_125 : decode cX4_readDeed 125 = .ok (.ifCond .eq 7, 3) := by decide +kernel
theorem dX4_readDeed_128 : decode cX4_readDeed 128 = .ok (.iconst 1, 1) := by decide +kernel
theorem dX4_readDeed_129 : decode cX4_readDeed 129 = .ok (.goto 4, 3) := by decide +kernel
theorem dX4_readDeed_132 : decode cX4_readDeed 132 = .ok (.iconst 0, 1) := by decide +kernel
theorem dX4_readDeed_133 : decode cX4_readDeed 133 = .ok (.ireturn, 1) := by decide +kernel
def fX4_readDeed (a : Nat) (p1 : Option Nat) (μ : JM) : JO (Int32) := jck ((jT μ a).1 == 5) <| jde (jP μ a 0) fun q2 => jck ((jT μ q2).1 == 8) <| jcl (fX7_take q2 (-59 : Int64) μ) fun r5 μ6 => if r5 = 0 then (some ((0 : Int32), μ6, 0, 0)) else (jck ((jT μ6 a).1 == 5) <| jde (jP μ6 a 0) fun q16 => jck ((jT μ6 q16).1 == 8) <| jcl (fX7_token q16 μ6) fun r19 μ20 => jcl (fX4_kindOf r19 μ20) fun r28 μ29 => jde p1 fun q37 => jck ((jT μ29 q37).1 == 3) <| jlt (jsI μ29 q37 0 r28) fun μ40 => if (jI μ40 q37 0) = (-1 : Int32) then (jck ((jT μ29 a).1 == 5) <| jde (jP μ40 a 0) fun q117 => jck ((jT μ29 q117).1 == 8) <| jcl (fX7_fail q117 (0 : Int32) μ40) fun r120 μ121 => jck (jbl r120) <| some (r120, μ121, 0, 0)) else (jck ((jT μ29 a).1 == 5) <| jde (jP μ40 a 0) fun q45 => jck ((jT μ29 q45).1 == 8) <| jcl (fX7_step q45 μ40) fun u48 μ49 => jck ((jT μ49 a).1 == 5) <| jcl (fX4_readNumbered a (jP μ49 a 2) μ49) fun r58 μ59 => jck ((jT μ59 q37).1 == 3) <| jlt (jsI μ59 q37 2 r58) fun μ68 => jck ((jT μ59 a).1 == 5) <| jde (jP μ68 a 0) fun q72 => jck ((jT μ59 q72).1 == 8) <| if (jI μ68 q72 5) = 0 then (jcl (fX7_take q72 (-3005 : Int64) μ68) fun r76 μ77 => if r76 = 0 then (some ((0 : Int32), μ77, 0, 0)) else (jck ((jT μ77 a).1 == 5) <| jcl (fX4_readNumbered a (jP μ77 a 3) μ77) fun r87 μ88 => jck ((jT μ88 q37).1 == 3) <| jlt (jsI μ88 q37 3 r87) fun μ97 => jck ((jT μ88 a).1 == 5) <| jde (jP μ97 a 0) fun q101 => jck ((jT μ88 q101).1 == 8) <| if (jI μ97 q101 5) = 0 then (if (jI μ97 q37 0) = (1 : Int32) then (jcl (fX4_readTerm a p1 μ97) fun r106 μ107 => if r106 = 0 then (some ((0 : Int32), μ107, 0, 0)) else (some ((1 : Int32), μ107, 0, 0))) else (some ((1 : Int32), μ97, 0, 0))) else (some ((0 : Int32), μ97, 0, 0)))) else (some ((0 : Int32), μ68, 0, 0))))
set_option maxHeartbeats 4000000 in
set_option maxRecDepth 100000 in
theorem mX4_readDeed {b : Nat} {a : Nat} {p1 : Option Nat} {μ : JM} {r : Int32} {ν : JM} {c m : Nat} (hf : fX4_readDeed a p1 μ = some (r, ν, c, m)) : JMet b yX4_readDeed cX4_readDeed 2 (some .boolean) 3 67 [va_rf (some a), va_rf p1] μ (some (.int r)) ν c m := by
  refine JMet.of (by decide) (lg_sl_le (by simp only [List.map_cons, List.map_nil, List.sum_cons, List.sum_nil, va_rf_cat]; exact Nat.le_of_ble_eq_true rfl)) (fun Θ X hin => ?_)
  refine wa_eq (L2 := [(0, va_rf (some a)), (1, va_rf p1)]) ?_ rfl (by first | rfl | simp [lv_args, va_rf_cat, cat_i, cat_l]) rfl
  obtain ⟨k, hk0⟩ : ∃ k : Nat, k = 0 := ⟨0, rfl⟩
  obtain ⟨n, hn0⟩ : ∃ n : Nat, n = 0 := ⟨0, rfl⟩
  have hk : k + c = c := by omega
  have hn : n + m = m := by omega
  refine wa_costs hk0.symm hn0.symm ?_
  rw [fX4_readDeed] at hf
  refine wa_aload_n X 0 dX4_readDeed_0 rfl ?_
  obtain ⟨h1, hf⟩ := jckT hf
  refine wa_getP X dX4_readDeed_1 lfX4_9 rfl h1 rfl ?_
  refine wa_ldc2 (v := (-59 : Int64)) X dX4_readDeed_4 lkX4_189 ?_
  obtain ⟨q2, h3, hf⟩ := jde_some hf
  obtain ⟨h4, hf⟩ := jckT hf
  obtain ⟨r5, μ6, c7, m8, c9, m10, e11, hf, h12, h13⟩ := jcl_some hf
  refine wa_rcallV (st2 := [.int r5]) X dX4_readDeed_7 lmX4_84 lMX7_take h3 h4 (mX7_take e11) rfl rfl rfl (va_cats (Nat.le_of_ble_eq_true rfl)) (by decide) (by omega) (by omega) ?_
  refine wa_ifne (tgt := 15) X dX4_readDeed_10 (by decide) (fun h14 => ?_) (fun h14 => ?_)
  · rw [if_neg h14] at hf
    refine wa_aload_n X 1 dX4_readDeed_15 rfl ?_
    refine wa_aload_n X 0 dX4_readDeed_16 rfl ?_
    obtain ⟨h15, hf⟩ := jckT hf
    refine wa_getP X dX4_readDeed_17 lfX4_9 rfl h15 rfl ?_
    obtain ⟨q16, h17, hf⟩ := jde_some hf
    obtain ⟨h18, hf⟩ := jckT hf
    obtain ⟨r19, μ20, c21, m22, c23, m24, e25, hf, h26, h27⟩ := jcl_some hf
    refine wa_rcallV (st2 := [.long r19, va_rf p1]) X dX4_readDeed_20 lmX4_34 lMX7_token h17 h18 (mX7_token e25) rfl rfl rfl (va_cats (Nat.le_of_ble_eq_true rfl)) (by decide) (by omega) (by omega) ?_
    obtain ⟨r28, μ29, c30, m31, c32, m33, e34, hf, h35, h36⟩ := jcl_some hf
    refine wa_rcallS (st2 := [.int r28, va_rf p1]) X dX4_readDeed_23 lmX4_191 lMX4_kindOf (mX4_kindOf e34) rfl rfl rfl (va_cats (Nat.le_of_ble_eq_true rfl)) (by decide) (by omega) (by omega) ?_
    obtain ⟨q37, h38, hf⟩ := jde_some hf
    obtain ⟨h39, hf⟩ := jckT hf
    obtain ⟨μ40, hm41, hf⟩ := jlt_e hf
    have e42 : jT μ40 = jT μ29 := by rw [hm41]; rfl
    refine wa_rputI (ν := μ40) X dX4_readDeed_26 lfX4_194 h38 h39 rfl rfl hm41 ?_
    refine wa_aload_n X 1 dX4_readDeed_29 rfl ?_
    refine wa_getI X dX4_readDeed_30 lfX4_194 h38 (by rw [e42]; exact h39) rfl ?_
    refine wa_iconst (v := (-1 : Int32)) X dX4_readDeed_33 (by decide) ?_
    refine wa_icne (tgt := 46) X dX4_readDeed_34 (by decide) (fun h43 => ?_) (fun h43 => ?_)
    · rw [if_neg h43] at hf
      refine wa_aload_n X 0 dX4_readDeed_46 rfl ?_
      obtain ⟨h44, hf⟩ := jckT hf
      refine wa_getP X dX4_readDeed_47 lfX4_9 rfl (by rw [e42]; exact h44) rfl ?_
      obtain ⟨q45, h46, hf⟩ := jde_some hf
      obtain ⟨h47, hf⟩ := jckT hf
      obtain ⟨u48, μ49, c50, m51, c52, m53, e54, hf, h55, h56⟩ := jcl_some hf
      refine wa_rcallV (st2 := []) X dX4_readDeed_50 lmX4_68 lMX7_step h46 (by rw [e42]; exact h47) (mX7_step e54) rfl rfl rfl (va_cats (Nat.le_of_ble_eq_true rfl)) (by decide) (by omega) (by omega) ?_
      refine wa_aload_n X 1 dX4_readDeed_53 rfl ?_
      refine wa_aload_n X 0 dX4_readDeed_54 rfl ?_
      refine wa_aload_n X 0 dX4_readDeed_55 rfl ?_
      obtain ⟨h57, hf⟩ := jckT hf
      refine wa_getP X dX4_readDeed_56 lfX4_19 rfl h57 rfl ?_
      obtain ⟨r58, μ59, c60, m61, c62, m63, e64, hf, h65, h66⟩ := jcl_some hf
      refine wa_rcallV (st2 := [.int r58, va_rf p1]) X dX4_readDeed_59 lmX4_197 lMX4_readNumbered rfl h57 (mX4_readNumbered e64) rfl rfl rfl (va_cats (Nat.le_of_ble_eq_true rfl)) (by decide) (by omega) (by omega) ?_
      obtain ⟨h67, hf⟩ := jckT hf
      obtain ⟨μ68, hm69, hf⟩ := jlt_e hf
      have e70 : jT μ68 = jT μ59 := by rw [hm69]; rfl
      refine wa_rputI (ν := μ68) X dX4_readDeed_62 lfX4_201 h38 h67 rfl rfl hm69 ?_
      refine wa_aload_n X 0 dX4_readDeed_65 rfl ?_
      obtain ⟨h71, hf⟩ := jckT hf
      refine wa_getP X dX4_readDeed_66 lfX4_9 rfl (by rw [e70]; exact h71) rfl ?_
      obtain ⟨q72, h73, hf⟩ := jde_some hf
      obtain ⟨h74, hf⟩ := jckT hf
      refine wa_getI X dX4_readDeed_69 lfX4_103 h73 (by rw [e70]; exact h74) rfl ?_
      refine wa_ifne (tgt := 88) X dX4_readDeed_72 (by decide) (fun h75 => ?_) (fun h75 => ?_)
      · rw [if_neg h75] at hf
        refine wa_iconst (v := (0 : Int32)) X dX4_readDeed_88 (by decide) ?_
        obtain ⟨rfl, rfl, rfl, rfl⟩ := jret hf
        exact wa_iret X dX4_readDeed_89 rfl (by omega) (by omega)
      · rw [if_pos h75] at hf
        refine wa_aload_n X 0 dX4_readDeed_75 rfl ?_
        refine wa_getP X dX4_readDeed_76 lfX4_9 rfl (by rw [e70]; exact h71) rfl ?_
        refine wa_ldc2 (v := (-3005 : Int64)) X dX4_readDeed_79 lkX4_204 ?_
        obtain ⟨r76, μ77, c78, m79, c80, m81, e82, hf, h83, h84⟩ := jcl_some hf
        refine wa_rcallV (st2 := [.int r76]) X dX4_readDeed_82 lmX4_84 lMX7_take h73 (by rw [e70]; exact h74) (mX7_take e82) rfl rfl rfl (va_cats (Nat.le_of_ble_eq_true rfl)) (by decide) (by omega) (by omega) ?_
        refine wa_ifne (tgt := 90) X dX4_readDeed_85 (by decide) (fun h85 => ?_) (fun h85 => ?_)
        · rw [if_neg h85] at hf
          refine wa_aload_n X 1 dX4_readDeed_90 rfl ?_
          refine wa_aload_n X 0 dX4_readDeed_91 rfl ?_
          refine wa_aload_n X 0 dX4_readDeed_92 rfl ?_
          obtain ⟨h86, hf⟩ := jckT hf
          refine wa_getP X dX4_readDeed_93 lfX4_22 rfl h86 rfl ?_
          obtain ⟨r87, μ88, c89, m90, c91, m92, e93, hf, h94, h95⟩ := jcl_some hf
          refine wa_rcallV (st2 := [.int r87, va_rf p1]) X dX4_readDeed_96 lmX4_197 lMX4_readNumbered rfl h86 (mX4_readNumbered e93) rfl rfl rfl (va_cats (Nat.le_of_ble_eq_true rfl)) (by decide) (by omega) (by omega) ?_
          obtain ⟨h96, hf⟩ := jckT hf
          obtain ⟨μ97, hm98, hf⟩ := jlt_e hf
          have e99 : jT μ97 = jT μ88 := by rw [hm98]; rfl
          refine wa_rputI (ν := μ97) X dX4_readDeed_99 lfX4_206 h38 h96 rfl rfl hm98 ?_
          refine wa_aload_n X 0 dX4_readDeed_102 rfl ?_
          obtain ⟨h100, hf⟩ := jckT hf
          refine wa_getP X dX4_readDeed_103 lfX4_9 rfl (by rw [e99]; exact h100) rfl ?_
          obtain ⟨q101, h102, hf⟩ := jde_some hf
          obtain ⟨h103, hf⟩ := jckT hf
          refine wa_getI X dX4_readDeed_106 lfX4_103 h102 (by rw [e99]; exact h103) rfl ?_
          refine wa_ifne (tgt := 132) X dX4_readDeed_109 (by decide) (fun h104 => ?_) (fun h104 => ?_)
          · rw [if_neg h104] at hf
            refine wa_iconst (v := (0 : Int32)) X dX4_readDeed_132 (by decide) ?_
            obtain ⟨rfl, rfl, rfl, rfl⟩ := jret hf
            exact wa_iret X dX4_readDeed_133 rfl (by omega) (by omega)
          · rw [if_pos h104] at hf
            refine wa_aload_n X 1 dX4_readDeed_112 rfl ?_
            refine wa_getI X dX4_readDeed_113 lfX4_194 h38 (by rw [e99]; exact h96) rfl ?_
            refine wa_iconst (v := (1 : Int32)) X dX4_readDeed_116 (by decide) ?_
            refine wa_icne (tgt := 128) X dX4_readDeed_117 (by decide) (fun h105 => ?_) (fun h105 => ?_)
            · rw [if_neg h105] at hf
              refine wa_iconst (v := (1 : Int32)) X dX4_readDeed_128 (by decide) ?_
              refine wa_goto (tgt := 133) X dX4_readDeed_129 (by decide) ?_
              obtain ⟨rfl, rfl, rfl, rfl⟩ := jret hf
              exact wa_iret X dX4_readDeed_133 rfl (by omega) (by omega)
            · rw [if_pos h105] at hf
              refine wa_aload_n X 0 dX4_readDeed_120 rfl ?_
              refine wa_aload_n X 1 dX4_readDeed_121 rfl ?_
              obtain ⟨r106, μ107, c108, m109, c110, m111, e112, hf, h113, h114⟩ := jcl_some hf
              refine wa_rcallV (st2 := [.int r106]) X dX4_readDeed_122 lmX4_209 lMX4_readTerm rfl (by rw [e99]; exact h100) (mX4_readTerm e112) rfl rfl rfl (va_cats (Nat.le_of_ble_eq_true rfl)) (by decide) (by omega) (by omega) ?_
              refine wa_ifeq (tgt := 132) X dX4_readDeed_125 (by decide) (fun h115 => ?_) (fun h115 => ?_)
              · rw [if_pos h115] at hf
                refine wa_iconst (v := (0 : Int32)) X dX4_readDeed_132 (by decide) ?_
                obtain ⟨rfl, rfl, rfl, rfl⟩ := jret hf
                exact wa_iret X dX4_readDeed_133 rfl (by omega) (by omega)
              · rw [if_neg h115] at hf
                refine wa_iconst (v := (1 : Int32)) X dX4_readDeed_128 (by decide) ?_
                refine wa_goto (tgt := 133) X dX4_readDeed_129 (by decide) ?_
                obtain ⟨rfl, rfl, rfl, rfl⟩ := jret hf
                exact wa_iret X dX4_readDeed_133 rfl (by omega) (by omega)
        · rw [if_pos h85] at hf
          refine wa_iconst (v := (0 : Int32)) X dX4_readDeed_88 (by decide) ?_
          obtain ⟨rfl, rfl, rfl, rfl⟩ := jret hf
          exact wa_iret X dX4_readDeed_89 rfl (by omega) (by omega)
    · rw [if_pos h43] at hf
      refine wa_aload_n X 0 dX4_readDeed_37 rfl ?_
      obtain ⟨h116, hf⟩ := jckT hf
      refine wa_getP X dX4_readDeed_38 lfX4_9 rfl (by rw [e42]; exact h116) rfl ?_
      refine wa_iconst (v := (0 : Int32)) X dX4_readDeed_41 (by decide) ?_
      obtain ⟨q117, h118, hf⟩ := jde_some hf
      obtain ⟨h119, hf⟩ := jckT hf
      obtain ⟨r120, μ121, c122, m123, c124, m125, e126, hf, h127, h128⟩ := jcl_some hf
      refine wa_rcallV (st2 := [.int r120]) X dX4_readDeed_42 lmX4_54 lMX7_fail h118 (by rw [e42]; exact h119) (mX7_fail e126) rfl rfl rfl (va_cats (Nat.le_of_ble_eq_true rfl)) (by decide) (by omega) (by omega) ?_
      obtain ⟨h129, hf⟩ := jck_some hf
      obtain ⟨rfl, rfl, rfl, rfl⟩ := jret hf
      exact wa_iret X dX4_readDeed_45 (jbl_nar h129) (by omega) (by omega)
  · rw [if_pos h14] at hf
    refine wa_iconst (v := (0 : Int32)) X dX4_readDeed_13 (by decide) ?_
    obtain ⟨rfl, rfl, rfl, rfl⟩ := jret hf
    exact wa_iret X dX4_readDeed_14 rfl (by omega) (by omega)
theorem dX4_readOver_0 : decode cX4_readOver 0 = .ok (.iconst 0, 1) := by decide +kernel
theorem dX4_readOver_1 : decode cX4_readOver 1 = .ok (.istore_n 2, 1) := by decide +kernel
theorem dX4_readOver_2 : decode cX4_readOver 2 = .ok (.iload_n 2, 1) := by decide +kernel
theorem dX4_readOver_3 : decode cX4_readOver 3 = .ok (.sipush 900, 3) := by decide +kernel
theorem dX4_readOver_6 : decode cX4_readOver 6 = .ok (.if_icmp .ge 120, 3) := by decide +kernel
theorem dX4_readOver_9 : decode cX4_readOver 9 = .ok (.aload_n 0, 1) := by decide +kernel
theorem dX4_readOver_10 : decode cX4_readOver 10 = .ok (.getfield 9, 3) := by decide +kernel
theorem dX4_readOver_13 : decode cX4_readOver 13 = .ok (.invokevirtual 68, 3) := by decide +kernel
theorem dX4_readOver_16 : decode cX4_readOver 16 = .ok (.aload_n 0, 1) := by decide +kernel
theorem dX4_readOver_17 : decode cX4_readOver 17 = .ok (.getfield 9, 3) := by decide +kernel
theorem dX4_readOver_20 : decode cX4_readOver 20 = .ok (.invokevirtual 34, 3) := by decide +kernel
theorem dX4_readOver_23 : decode cX4_readOver 23 = .ok (.lstore_n 3, 1) := by decide +kernel
theorem dX4_readOver_24 : decode cX4_readOver 24 = .ok (.lload_n 3, 1) := by decide +kernel
theorem dX4_readOver_25 : decode cX4_readOver 25 = .ok (.invokestatic 58, 3) := by decide +kernel
theorem dX4_readOver_28 : decode cX4_readOver 28 = .ok (.ifCond .ne 23, 3) := by decide +kernel
theorem dX4_readOver_31 : decode cX4_readOver 31 = .ok (.aload_n 0, 1) := by decide +kernel
theorem dX4_readOver_32 : decode cX4_readOver 32 = .ok (.getfield 9, 3) := by decide +kernel
theorem dX4_readOver_35 : decode cX4_readOver 35 = .ok (.lload_n 3, 1) := by decide +kernel
theorem dX4_readOver_36 : decode cX4_readOver 36 = .ok (.invokestatic 50, 3) := by decide +kernel
theorem dX4_readOver_39 : decode cX4_readOver 39 = .ok (.ifCond .eq 7, 3) := by decide +kernel
theorem dX4_readOver_42 : decode cX4_readOver 42 = .ok (.iconst 2, 1) := by decide +kernel
theorem dX4_readOver_43 : decode cX4_readOver 43 = .ok (.goto 4, 3) := by decide +kernel
theorem dX4_readOver_46 : decode cX4_readOver 46 = .ok (.iconst 0, 1) := by decide +kernel
theorem dX4_readOver_47 : decode cX4_readOver 47 = .ok (.invokevirtual 54, 3) := by decide +kernel
theorem dX4_readOver_50 : decode cX4_readOver 50 = .ok (.ireturn, 1) := by decide +kernel
theorem dX4_readOver_51 : decode cX4_readOver 51 = .ok (.aload_n 0, 1) := by decide +kernel
theorem dX4_readOver_52 : decode cX4_readOver 52 = .ok (.getfield 148, 3) := by decide +kernel
theorem dX4_readOver_55 : decode cX4_readOver 55 = .ok (.ifCond .ne 42, 3) := by decide +kernel
theorem dX4_readOver_58 : decode cX4_readOver 58 = .ok (.aload_n 0, 1) := by decide +kernel
theorem dX4_readOver_59 : decode cX4_readOver 59 = .ok (.getfield 144, 3) := by decide +kernel
theorem dX4_readOver_62 : decode cX4_readOver 62 = .ok (.lload_n 3, 1) := by decide +kernel
theorem dX4_readOver_63 : decode cX4_readOver 63 = .ok (.iconst 0, 1) := by decide +kernel
theorem dX4_readOver_64 : decode cX4_readOver 64 = .ok (.invokevirtual 137, 3) := by decide +kernel
theorem dX4_readOver_67 : decode cX4_readOver 67 = .ok (.istore 5, 2) := by decide +kernel
theorem dX4_readOver_69 : decode cX4_readOver 69 = .ok (.iload 5, 2) := by decide +kernel
theorem dX4_readOver_71 : decode cX4_readOver 71 = .ok (.iconst (-1), 1) := by decide +kernel
theorem dX4_readOver_72 : decode cX4_readOver 72 = .ok (.if_icmp .ne 12, 3) := by decide +kernel
theorem dX4_readOver_75 : decode cX4_readOver 75 = .ok (.aload_n 0, 1) := by decide +kernel
theorem dX4_readOver_76 : decode cX4_readOver 76 = .ok (.getfield 9, 3) := by decide +kernel
theorem dX4_readOver_79 : decode cX4_readOver 79 = .ok (.iconst 3, 1) := by decide +kernel
theorem dX4_readOver_80 : decode cX4_readOver 80 = .ok (.invokevirtual 54, 3) := by decide +kernel
theorem dX4_readOver_83 : decode cX4_readOver 83 = .ok (.ireturn, 1) := by decide +kernel
theorem dX4_readOver_84 : decode cX4_readOver 84 = .ok (.aload_n 1, 1) := by decide +kernel
theorem dX4_readOver_85 : decode cX4_readOver 85 = .ok (.dup, 1) := by decide +kernel
theorem dX4_readOver_86 : decode cX4_readOver 86 = .ok (.getfield 250, 3) := by decide +kernel
theorem dX4_readOver_89 : decode cX4_readOver 89 = .ok (.iconst 1, 1) := by decide +kernel
theorem dX4_readOver_90 : decode cX4_readOver 90 = .ok (.iload 5, 2) := by decide +kernel
theorem dX4_readOver_92 : decode cX4_readOver 92 = .ok (.ishl, 1) := by decide +kernel
theorem dX4_readOver_93 : decode cX4_readOver 93 = .ok (.ior, 1) := by decide +kernel
theorem dX4_readOver_94 : decode cX4_readOver 94 = .ok (.putfield 250, 3) := by decide +kernel
theorem dX4_readOver_97 : decode cX4_readOver 97 = .ok (.aload_n 0, 1) := by decide +kernel
theorem dX4_readOver_98 : decode cX4_readOver 98 = .ok (.getfield 9, 3) := by decide +kernel
theorem dX4_readOver_101 : decode cX4_readOver 101 = .ok (.invokevirtual 68, 3) := by decide +kernel
theorem dX4_readOver_104 : decode cX4_readOver 104 = .ok (.aload_n 0, 1) := by decide +kernel
theorem dX4_readOver_105 : decode cX4_readOver 105 = .ok (.getfield 9, 3) := by decide +kernel
theorem dX4_readOver_108 : decode cX4_readOver 108 = .ok (.invokevirtual 34, 3) := by decide +kernel
theorem dX4_readOver_111 : decode cX4_readOver 111 = .ok (.ldc2_w 253, 3) := by decide +kernel
theorem dX4_readOver_114 : decode cX4_readOver 114 = .ok (.lcmp, 1) := by decide +kernel
theorem dX4_readOver_115 : decode cX4_readOver 115 = .ok (.ifCond .eq 5, 3) := by decide +kernel
theorem dX4_readOver_118 : decode cX4_readOver 118 = .ok (.iconst 1, 1) := by decide +kernel
theorem dX4_readOver_119 : decode cX4_readOver 119 = .ok (.ireturn, 1) := by decide +kernel
theorem dX4_readOver_120 : decode cX4_readOver 120 = .ok (.iinc 2 1, 3) := by decide +kernel
theorem dX4_readOver_123 : decode cX4_readOver 123 = .ok (.goto (-121), 3) := by decide +kernel
theorem dX4_readOver_126 : decode cX4_readOver 126 = .ok (.aload_n 0, 1) := by decide +kernel
theorem dX4_readOver_127 : decode cX4_readOver 127 = .ok (.getfield 9, 3) := by decide +kernel
theorem dX4_readOver_130 : decode cX4_readOver 130 = .ok (.iconst 0, 1) := by decide +kernel
theorem dX4_readOver_131 : decode cX4_readOver 131 = .ok (.invokevirtual 54, 3) := by decide +kernel
theorem dX4_readOver_134 : decode cX4_readOver 134 = .ok (.ireturn, 1) := by decide +kernel
def fX4_readOver_b47 (s0 : Int32) (s1 : Option Nat) (μ : JM) : JO (Int32) := jde s1 fun q98 => jck ((jT μ q98).1 == 8) <| jcl (fX7_fail q98 s0 μ) fun r101 μ102 => jck (jbl r101) <| some (r101, μ102, 0, 0)
set_option maxHeartbeats 4000000 in
set_option maxRecDepth 100000 in
theorem gX4_readOver_b47 {b : Nat} {Θ : JE} {RC RS : Nat} {r : Int32} {ν : JM} (X : jX b Θ RX4 cX4_readOver 6 (some .boolean) 1 24 RC RS) (s0 : Int32) (s1 : Option Nat) (μ : JM) (c m k n : Nat) (hf : fX4_readOver_b47 s0 s1 μ = some (r, ν, c, m)) (hk : k + c = RC) (hn : n + m = RS) : WA b Θ 6 (jE b Θ (some (.int r)) ν RC RS) μ k n 47 [] [.int s0, va_rf s1] := by
  rw [fX4_readOver_b47] at hf
  obtain ⟨q98, h99, hf⟩ := jde_some hf
  obtain ⟨h100, hf⟩ := jckT hf
  obtain ⟨r101, μ102, c103, m104, c105, m106, e107, hf, h108, h109⟩ := jcl_some hf
  refine wa_rcallV (st2 := [.int r101]) X dX4_readOver_47 lmX4_54 lMX7_fail h99 h100 (mX7_fail e107) rfl rfl rfl (va_cats (Nat.le_of_ble_eq_true rfl)) (by decide) (by omega) (by omega) ?_
  obtain ⟨h110, hf⟩ := jck_some hf
  obtain ⟨rfl, rfl, rfl, rfl⟩ := jret hf
  exact wa_iret X dX4_readOver_50 (jbl_nar h110) (by omega) (by omega)
def fX4_readOver_b97 (rec2 : Nat → Option Nat → Int32 → JM → JO (Int32)) (a : Nat) (p1 : Option Nat) (x2 : Int32) (μ : JM) : JO (Int32) := jck ((jT μ a).1 == 5) <| jde (jP μ a 0) fun q112 => jck ((jT μ q112).1 == 8) <| jcl (fX7_step q112 μ) fun u115 μ116 => jck ((jT μ116 a).1 == 5) <| jde (jP μ116 a 0) fun q125 => jck ((jT μ116 q125).1 == 8) <| jcl (fX7_token q125 μ116) fun r128 μ129 => if (lg_cmp r128 (-3012 : Int64)) = 0 then (rec2 a p1 (x2 + (1 : Int32)) μ129) else (some ((1 : Int32), μ129, 0, 0))
set_option maxHeartbeats 4000000 in
set_option maxRecDepth 100000 in
theorem gX4_readOver_b97 {b : Nat} {Θ : JE} {RC RS : Nat} {r : Int32} {ν : JM} (X : jX b Θ RX4 cX4_readOver 6 (some .boolean) 1 24 RC RS) {rec2 : Nat → Option Nat → Int32 → JM → JO (Int32)} (hrec2 : ∀ (a : Nat) (p1 : Option Nat) (x2 : Int32) (μ : JM) (c m k n : Nat), rec2 a p1 x2 μ = some (r, ν, c, m) → k + c = RC → n + m = RS → WA b Θ 6 (jE b Θ (some (.int r)) ν RC RS) μ k n 2 [(0, va_rf (some a)), (1, va_rf p1), (2, .int x2)] []) (a : Nat) (p1 : Option Nat) (x2 : Int32) (μ : JM) (c m k n : Nat) (hf : fX4_readOver_b97 rec2 a p1 x2 μ = some (r, ν, c, m)) (hk : k + c = RC) (hn : n + m = RS) : WA b Θ 6 (jE b Θ (some (.int r)) ν RC RS) μ k n 97 [(0, va_rf (some a)), (1, va_rf p1), (2, .int x2)] [] := by
  rw [fX4_readOver_b97] at hf
  refine wa_aload_n X 0 dX4_readOver_97 rfl ?_
  obtain ⟨h111, hf⟩ := jckT hf
  refine wa_getP X dX4_readOver_98 lfX4_9 rfl h111 rfl ?_
  obtain ⟨q112, h113, hf⟩ := jde_some hf
  obtain ⟨h114, hf⟩ := jckT hf
  obtain ⟨u115, μ116, c117, m118, c119, m120, e121, hf, h122, h123⟩ := jcl_some hf
  refine wa_rcallV (st2 := []) X dX4_readOver_101 lmX4_68 lMX7_step h113 h114 (mX7_step e121) rfl rfl rfl (va_cats (Nat.le_of_ble_eq_true rfl)) (by decide) (by omega) (by omega) ?_
  refine wa_aload_n X 0 dX4_readOver_104 rfl ?_
  obtain ⟨h124, hf⟩ := jckT hf
  refine wa_getP X dX4_readOver_105 lfX4_9 rfl h124 rfl ?_
  obtain ⟨q125, h126, hf⟩ := jde_some hf
  obtain ⟨h127, hf⟩ := jckT hf
  obtain ⟨r128, μ129, c130, m131, c132, m133, e134, hf, h135, h136⟩ := jcl_some hf
  refine wa_rcallV (st2 := [.long r128]) X dX4_readOver_108 lmX4_34 lMX7_token h126 h127 (mX7_token e134) rfl rfl rfl (va_cats (Nat.le_of_ble_eq_true rfl)) (by decide) (by omega) (by omega) ?_
  refine wa_ldc2 (v := (-3012 : Int64)) X dX4_readOver_111 lkX4_253 ?_
  refine wa_lcmp X dX4_readOver_114 ?_
  refine wa_ifeq (tgt := 120) X dX4_readOver_115 (by decide) (fun h137 => ?_) (fun h137 => ?_)
  · rw [if_pos h137] at hf
    refine wa_iinc (v := (x2 + (1 : Int32))) (L2 := [(2, .int (x2 + (1 : Int32))), (0, va_rf (some a)), (1, va_rf p1)]) X 2 dX4_readOver_120 rfl rfl (by decide) (by first | rfl | simp [va_rf_cat, cat_i, cat_l]) ?_
    refine wa_goto (tgt := 2) X dX4_readOver_123 (by decide) ?_
    refine wa_sub (L2 := [(0, va_rf (some a)), (1, va_rf p1), (2, .int (x2 + (1 : Int32)))]) [1, 2, 0] rfl ?_
    exact hrec2 a p1 (x2 + (1 : Int32)) μ129 _ _ _ _ hf (by omega) (by omega)
  · rw [if_neg h137] at hf
    refine wa_iconst (v := (1 : Int32)) X dX4_readOver_118 (by decide) ?_
    obtain ⟨rfl, rfl, rfl, rfl⟩ := jret hf
    exact wa_iret X dX4_readOver_119 rfl (by omega) (by omega)
def fX4_readOver_b2 : Nat → Nat → Option Nat → Int32 → JM → JO (Int32)
  | 0, _, _, _, _ => none
  | fu + 1, a, p1, x2, μ => if (900 : Int32) ≤ x2 then (jck ((jT μ a).1 == 5) <| jde (jP μ a 0) fun q3 => jck ((jT μ q3).1 == 8) <| jcl (fX7_fail q3 (0 : Int32) μ) fun r6 μ7 => jck (jbl r6) <| some (r6, μ7, 0, 0)) else (jck ((jT μ a).1 == 5) <| jde (jP μ a 0) fun q17 => jck ((jT μ q17).1 == 8) <| jcl (fX7_step q17 μ) fun u20 μ21 => jck ((jT μ21 a).1 == 5) <| jde (jP μ21 a 0) fun q30 => jck ((jT μ21 q30).1 == 8) <| jcl (fX7_token q30 μ21) fun r33 μ34 => jcl (fX10_isFreeWord r33 μ34) fun r42 μ43 => if r42 = 0 then (jck ((jT μ43 a).1 == 5) <| jcl (fX10_isOurs r33 μ43) fun r88 μ89 => if r88 = 0 then (fX4_readOver_b47  (0 : Int32) (jP μ43 a 0) μ89) else (fX4_readOver_b47  (2 : Int32) (jP μ43 a 0) μ89)) else (jck ((jT μ43 a).1 == 5) <| if (jI μ43 a 5) = 0 then (jde (jP μ43 a 6) fun q54 => jck ((jT μ43 q54).1 == 9) <| jcl (fX8_find q54 r33 (0 : Int32) μ43) fun r57 μ58 => if r57 = (-1 : Int32) then (jck ((jT μ58 a).1 == 5) <| jde (jP μ58 a 0) fun q74 => jck ((jT μ58 q74).1 == 8) <| jcl (fX7_fail q74 (3 : Int32) μ58) fun r77 μ78 => jck (jbl r77) <| some (r77, μ78, 0, 0)) else (jde p1 fun q67 => jck ((jT μ58 q67).1 == 3) <| jlt (jsI μ58 q67 6 ((jI μ58 q67 6) ||| (jshl (1 : Int32) r57))) fun μ70 => fX4_readOver_b97 (fX4_readOver_b2 fu) a p1 x2 μ70)) else (fX4_readOver_b97 (fX4_readOver_b2 fu) a p1 x2 μ43)))
set_option maxHeartbeats 4000000 in
set_option maxRecDepth 100000 in
theorem gX4_readOver_b2 {b : Nat} {Θ : JE} {RC RS : Nat} {r : Int32} {ν : JM} (X : jX b Θ RX4 cX4_readOver 6 (some .boolean) 1 24 RC RS) : ∀ (fu : Nat) (a : Nat) (p1 : Option Nat) (x2 : Int32) (μ : JM) (c m k n : Nat), fX4_readOver_b2 fu a p1 x2 μ = some (r, ν, c, m) → k + c = RC → n + m = RS → WA b Θ 6 (jE b Θ (some (.int r)) ν RC RS) μ k n 2 [(0, va_rf (some a)), (1, va_rf p1), (2, .int x2)] [] := by
  intro fu
  induction fu with
  | zero => intro a p1 x2 μ c m k n hf; cases hf
  | succ fu ih =>
    intro a p1 x2 μ c m k n hf hk hn
    rw [fX4_readOver_b2] at hf
    refine wa_iload_n X 2 dX4_readOver_2 rfl ?_
    refine wa_sipush (v := (900 : Int32)) X dX4_readOver_3 (by decide) ?_
    refine wa_icge (tgt := 126) X dX4_readOver_6 (by decide) (fun h1 => ?_) (fun h1 => ?_)
    · rw [if_pos h1] at hf
      refine wa_aload_n X 0 dX4_readOver_126 rfl ?_
      obtain ⟨h2, hf⟩ := jckT hf
      refine wa_getP X dX4_readOver_127 lfX4_9 rfl h2 rfl ?_
      refine wa_iconst (v := (0 : Int32)) X dX4_readOver_130 (by decide) ?_
      obtain ⟨q3, h4, hf⟩ := jde_some hf
      obtain ⟨h5, hf⟩ := jckT hf
      obtain ⟨r6, μ7, c8, m9, c10, m11, e12, hf, h13, h14⟩ := jcl_some hf
      refine wa_rcallV (st2 := [.int r6]) X dX4_readOver_131 lmX4_54 lMX7_fail h4 h5 (mX7_fail e12) rfl rfl rfl (va_cats (Nat.le_of_ble_eq_true rfl)) (by decide) (by omega) (by omega) ?_
      obtain ⟨h15, hf⟩ := jck_some hf
      obtain ⟨rfl, rfl, rfl, rfl⟩ := jret hf
      exact wa_iret X dX4_readOver_134 (jbl_nar h15) (by omega) (by omega)
    · rw [if_neg h1] at hf
      refine wa_aload_n X 0 dX4_readOver_9 rfl ?_
      obtain ⟨h16, hf⟩ := jckT hf
      refine wa_getP X dX4_readOver_10 lfX4_9 rfl h16 rfl ?_
      obtain ⟨q17, h18, hf⟩ := jde_some hf
      obtain ⟨h19, hf⟩ := jckT hf
      obtain ⟨u20, μ21, c22, m23, c24, m25, e26, hf, h27, h28⟩ := jcl_some hf
      refine wa_rcallV (st2 := []) X dX4_readOver_13 lmX4_68 lMX7_step h18 h19 (mX7_step e26) rfl rfl rfl (va_cats (Nat.le_of_ble_eq_true rfl)) (by decide) (by omega) (by omega) ?_
      refine wa_aload_n X 0 dX4_readOver_16 rfl ?_
      obtain ⟨h29, hf⟩ := jckT hf
      refine wa_getP X dX4_readOver_17 lfX4_9 rfl h29 rfl ?_
      obtain ⟨q30, h31, hf⟩ := jde_some hf
      obtain ⟨h32, hf⟩ := jckT hf
      obtain ⟨r33, μ34, c35, m36, c37, m38, e39, hf, h40, h41⟩ := jcl_some hf
      refine wa_rcallV (st2 := [.long r33]) X dX4_readOver_20 lmX4_34 lMX7_token h31 h32 (mX7_token e39) rfl rfl rfl (va_cats (Nat.le_of_ble_eq_true rfl)) (by decide) (by omega) (by omega) ?_
      refine wa_lstore_n (L2 := [(3, .long r33), (0, va_rf (some a)), (1, va_rf p1), (2, .int x2)]) X dX4_readOver_23 (by decide) (by first | rfl | (show (3, _) :: List.filter (fun q : Nat × Value => !(q.1 == 3) && (!(q.1 == 4) && !(q.1 + 1 == 3 && q.2.category == 2))) _ = _; simp [va_rf_cat, cat_i, cat_l])) ?_
      refine wa_lload_n X 0 dX4_readOver_24 rfl ?_
      obtain ⟨r42, μ43, c44, m45, c46, m47, e48, hf, h49, h50⟩ := jcl_some hf
      refine wa_rcallSN (st2 := [.int r42]) X dX4_readOver_25 lNX4_58 lMX10_isFreeWord (mX10_isFreeWord e48) rfl rfl rfl (va_cats (Nat.le_of_ble_eq_true rfl)) (by decide) (by omega) (by omega) ?_
      refine wa_ifne (tgt := 51) X dX4_readOver_28 (by decide) (fun h51 => ?_) (fun h51 => ?_)
      · rw [if_neg h51] at hf
        refine wa_aload_n X 1 dX4_readOver_51 rfl ?_
        obtain ⟨h52, hf⟩ := jckT hf
        refine wa_getI X dX4_readOver_52 lfX4_148 rfl h52 rfl ?_
        refine wa_ifne (tgt := 97) X dX4_readOver_55 (by decide) (fun h53 => ?_) (fun h53 => ?_)
        · rw [if_neg h53] at hf
          refine wa_sub (L2 := [(0, va_rf (some a)), (1, va_rf p1), (2, .int x2)]) [1, 2, 3] rfl ?_
          exact gX4_readOver_b97 X ih a p1 x2 μ43 _ _ _ _ hf (by omega) (by omega)
        · rw [if_pos h53] at hf
          refine wa_aload_n X 1 dX4_readOver_58 rfl ?_
          refine wa_getP X dX4_readOver_59 lfX4_144 rfl h52 rfl ?_
          refine wa_lload_n X 0 dX4_readOver_62 rfl ?_
          refine wa_iconst (v := (0 : Int32)) X dX4_readOver_63 (by decide) ?_
          obtain ⟨q54, h55, hf⟩ := jde_some hf
          obtain ⟨h56, hf⟩ := jckT hf
          obtain ⟨r57, μ58, c59, m60, c61, m62, e63, hf, h64, h65⟩ := jcl_some hf
          refine wa_rcallV (st2 := [.int r57]) X dX4_readOver_64 lmX4_137 lMX8_find h55 h56 (mX8_find e63) rfl rfl rfl (va_cats (Nat.le_of_ble_eq_true rfl)) (by decide) (by omega) (by omega) ?_
          refine wa_istore (L2 := [(5, .int r57), (3, .long r33), (0, va_rf (some a)), (1, va_rf p1), (2, .int x2)]) X dX4_readOver_67 (by decide) (by first | rfl | (show (5, _) :: List.filter (fun q : Nat × Value => !(q.1 == 5) && !(q.1 + 1 == 5 && q.2.category == 2)) _ = _; simp [va_rf_cat, cat_i, cat_l])) ?_
          refine wa_iload X 0 dX4_readOver_69 rfl ?_
          refine wa_iconst (v := (-1 : Int32)) X dX4_readOver_71 (by decide) ?_
          refine wa_icne (tgt := 84) X dX4_readOver_72 (by decide) (fun h66 => ?_) (fun h66 => ?_)
          · rw [if_neg h66] at hf
            refine wa_aload_n X 3 dX4_readOver_84 rfl ?_
            refine wa_dup X dX4_readOver_85 (va_rf_cat _) ?_
            obtain ⟨q67, h68, hf⟩ := jde_some hf
            obtain ⟨h69, hf⟩ := jckT hf
            refine wa_getI X dX4_readOver_86 lfX4_250 h68 h69 rfl ?_
            refine wa_iconst (v := (1 : Int32)) X dX4_readOver_89 (by decide) ?_
            refine wa_iload X 0 dX4_readOver_90 rfl ?_
            refine wa_ishl X dX4_readOver_92 ?_
            refine wa_ior X dX4_readOver_93 ?_
            obtain ⟨μ70, hm71, hf⟩ := jlt_e hf
            have e72 : jT μ70 = jT μ58 := by rw [hm71]; rfl
            refine wa_rputI (ν := μ70) X dX4_readOver_94 lfX4_250 h68 h69 rfl rfl hm71 ?_
            refine wa_sub (L2 := [(0, va_rf (some a)), (1, va_rf p1), (2, .int x2)]) [2, 3, 4] rfl ?_
            exact gX4_readOver_b97 X ih a p1 x2 μ70 _ _ _ _ hf (by omega) (by omega)
          · rw [if_pos h66] at hf
            refine wa_aload_n X 2 dX4_readOver_75 rfl ?_
            obtain ⟨h73, hf⟩ := jckT hf
            refine wa_getP X dX4_readOver_76 lfX4_9 rfl h73 rfl ?_
            refine wa_iconst (v := (3 : Int32)) X dX4_readOver_79 (by decide) ?_
            obtain ⟨q74, h75, hf⟩ := jde_some hf
            obtain ⟨h76, hf⟩ := jckT hf
            obtain ⟨r77, μ78, c79, m80, c81, m82, e83, hf, h84, h85⟩ := jcl_some hf
            refine wa_rcallV (st2 := [.int r77]) X dX4_readOver_80 lmX4_54 lMX7_fail h75 h76 (mX7_fail e83) rfl rfl rfl (va_cats (Nat.le_of_ble_eq_true rfl)) (by decide) (by omega) (by omega) ?_
            obtain ⟨h86, hf⟩ := jck_some hf
            obtain ⟨rfl, rfl, rfl, rfl⟩ := jret hf
            exact wa_iret X dX4_readOver_83 (jbl_nar h86) (by omega) (by omega)
      · rw [if_pos h51] at hf
        refine wa_aload_n X 1 dX4_readOver_31 rfl ?_
        obtain ⟨h87, hf⟩ := jckT hf
        refine wa_getP X dX4_readOver_32 lfX4_9 rfl h87 rfl ?_
        refine wa_lload_n X 0 dX4_readOver_35 rfl ?_
        obtain ⟨r88, μ89, c90, m91, c92, m93, e94, hf, h95, h96⟩ := jcl_some hf
        refine wa_rcallSN (st2 := [.int r88, va_rf (jP μ43 a 0)]) X dX4_readOver_36 lNX4_50 lMX10_isOurs (mX10_isOurs e94) rfl rfl rfl (va_cats (Nat.le_of_ble_eq_true rfl)) (by decide) (by omega) (by omega) ?_
        refine wa_ifeq (tgt := 46) X dX4_readOver_39 (by decide) (fun h97 => ?_) (fun h97 => ?_)
        · rw [if_pos h97] at hf
          refine wa_iconst (v := (0 : Int32)) X dX4_readOver_46 (by decide) ?_
          refine wa_sub (L2 := []) [] rfl ?_
          exact gX4_readOver_b47 X (0 : Int32) (jP μ43 a 0) μ89 _ _ _ _ hf (by omega) (by omega)
        · rw [if_neg h97] at hf
          refine wa_iconst (v := (2 : Int32)) X dX4_readOver_42 (by decide) ?_
          refine wa_goto (tgt := 47) X dX4_readOver_43 (by decide) ?_
          refine wa_sub (L2 := []) [] rfl ?_
          exact gX4_readOver_b47 X (2 : Int32) (jP μ43 a 0) μ89 _ _ _ _ hf (by omega) (by omega)
def fX4_readOver (a : Nat) (p1 : Option Nat) (μ : JM) : JO (Int32) := fX4_readOver_b2  jfuel a p1 (0 : Int32) μ
set_option maxHeartbeats 4000000 in
set_option maxRecDepth 100000 in
theorem mX4_readOver {b : Nat} {a : Nat} {p1 : Option Nat} {μ : JM} {r : Int32} {ν : JM} {c m : Nat} (hf : fX4_readOver a p1 μ = some (r, ν, c, m)) : JMet b yX4_readOver cX4_readOver 6 (some .boolean) 1 24 [va_rf (some a), va_rf p1] μ (some (.int r)) ν c m := by
  refine JMet.of (by decide) (lg_sl_le (by simp only [List.map_cons, List.map_nil, List.sum_cons, List.sum_nil, va_rf_cat]; exact Nat.le_of_ble_eq_true rfl)) (fun Θ X hin => ?_)
  refine wa_eq (L2 := [(0, va_rf (some a)), (1, va_rf p1)]) ?_ rfl (by first | rfl | simp [lv_args, va_rf_cat, cat_i, cat_l]) rfl
  obtain ⟨k, hk0⟩ : ∃ k : Nat, k = 0 := ⟨0, rfl⟩
  obtain ⟨n, hn0⟩ : ∃ n : Nat, n = 0 := ⟨0, rfl⟩
  have hk : k + c = c := by omega
  have hn : n + m = m := by omega
  refine wa_costs hk0.symm hn0.symm ?_
  rw [fX4_readOver] at hf
  refine wa_iconst (v := (0 : Int32)) X dX4_readOver_0 (by decide) ?_
  refine wa_istore_n (L2 := [(2, .int (0 : Int32)), (0, va_rf (some a)), (1, va_rf p1)]) X dX4_readOver_1 (by decide) (by first | rfl | (show (2, _) :: List.filter (fun q : Nat × Value => !(q.1 == 2) && !(q.1 + 1 == 2 && q.2.category == 2)) _ = _; simp [va_rf_cat, cat_i, cat_l])) ?_
  refine wa_sub (L2 := [(0, va_rf (some a)), (1, va_rf p1), (2, .int (0 : Int32))]) [1, 2, 0] rfl ?_
  exact gX4_readOver_b2 X jfuel a p1 (0 : Int32) μ _ _ _ _ hf (by omega) (by omega)
theorem dX4_readTail_0 : decode cX4_readTail 0 = .ok (.aload_n 0, 1) := by decide +kernel
theorem dX4_readTail_1 : decode cX4_readTail 1 = .ok (.getfield 148, 3) := by decide +kernel
theorem dX4_readTail_4 : decode cX4_readTail 4 = .ok (.ifCond .eq 7, 3) := by decide +kernel
theorem dX4_readTail_7 : decode cX4_readTail 7 = .ok (.iconst 1, 1) := by decide +kernel
theorem dX4_readTail_8 : decode cX4_readTail 8 = .ok (.goto 4, 3) := by decide +kernel
theorem dX4_readTail_11 : decode cX4_readTail 11 = .ok (.iconst 0, 1) := by decide +kernel
theorem dX4_readTail_12 : decode cX4_readTail 12 = .ok (.istore_n 2, 1) := by decide +kernel
theorem dX4_readTail_13 : decode cX4_readTail 13 = .ok (.aload_n 1, 1) := by decide +kernel
theorem dX4_readTail_14 : decode cX4_readTail 14 = .ok (.getfield 182, 3) := by decide +kernel
theorem dX4_readTail_17 : decode cX4_readTail 17 = .ok (.invokevirtual 75, 3) := by decide +kernel
theorem dX4_readTail_20 : decode cX4_readTail 20 = .ok (.aload_n 0, 1) := by decide +kernel
theorem dX4_readTail_21 : decode cX4_readTail 21 = .ok (.getfield 9, 3) := by decide +kernel
theorem dX4_readTail_24 : decode cX4_readTail 24 = .ok (.invokevirtual 34, 3) := by decide +kernel
theorem dX4_readTail_27 : decode cX4_readTail 27 = .ok (.ldc2_w 235, 3) := by decide +kernel
theorem dX4_readTail_30 : decode cX4_readTail 30 = .ok (.lcmp, 1) := by decide +kernel
theorem dX4_readTail_31 : decode cX4_readTail 31 = .ok (.ifCond .ne 41, 3) := by decide +kernel
theorem dX4_readTail_34 : decode cX4_readTail 34 = .ok (.aload_n 0, 1) := by decide +kernel
theorem dX4_readTail_35 : decode cX4_readTail 35 = .ok (.getfield 9, 3) := by decide +kernel
theorem dX4_readTail_38 : decode cX4_readTail 38 = .ok (.invokevirtual 68, 3) := by decide +kernel
theorem dX4_readTail_41 : decode cX4_readTail 41 = .ok (.aload_n 0, 1) := by decide +kernel
theorem dX4_readTail_42 : decode cX4_readTail 42 = .ok (.getfield 30, 3) := by decide +kernel
theorem dX4_readTail_45 : decode cX4_readTail 45 = .ok (.aload_n 0, 1) := by decide +kernel
theorem dX4_readTail_46 : decode cX4_readTail 46 = .ok (.getfield 144, 3) := by decide +kernel
theorem dX4_readTail_49 : decode cX4_readTail 49 = .ok (.iload_n 2, 1) := by decide +kernel
theorem dX4_readTail_50 : decode cX4_readTail 50 = .ok (.invokevirtual 80, 3) := by decide +kernel
theorem dX4_readTail_53 : decode cX4_readTail 53 = .ok (.ifCond .ne 5, 3) := by decide +kernel
theorem dX4_readTail_56 : decode cX4_readTail 56 = .ok (.iconst 0, 1) := by decide +kernel
theorem dX4_readTail_57 : decode cX4_readTail 57 = .ok (.ireturn, 1) := by decide +kernel
theorem dX4_readTail_58 : decode cX4_readTail 58 = .ok (.aload_n 1, 1) := by decide +kernel
theorem dX4_readTail_59 : decode cX4_readTail 59 = .ok (.getfield 182, 3) := by decide +kernel
theorem dX4_readTail_62 : decode cX4_readTail 62 = .ok (.aload_n 0, 1) := by decide +kernel
theorem dX4_readTail_63 : decode cX4_readTail 63 = .ok (.getfield 30, 3) := by decide +kernel
theorem dX4_readTail_66 : decode cX4_readTail 66 = .ok (.getfield 71, 3) := by decide +kernel
theorem dX4_readTail_69 : decode cX4_readTail 69 = .ok (.invokevirtual 237, 3) := by decide +kernel
theorem dX4_readTail_72 : decode cX4_readTail 72 = .ok (.aload_n 0, 1) := by decide +kernel
theorem dX4_readTail_73 : decode cX4_readTail 73 = .ok (.getfield 9, 3) := by decide +kernel
theorem dX4_readTail_76 : decode cX4_readTail 76 = .ok (.invokevirtual 34, 3) := by decide +kernel
theorem dX4_readTail_79 : decode cX4_readTail 79 = .ok (.ldc2_w 240, 3) := by decide +kernel
theorem dX4_readTail_82 : decode cX4_readTail 82 = .ok (.lcmp, 1) := by decide +kernel
theorem dX4_readTail_83 : decode cX4_readTail 83 = .ok (.ifCond .ne 41, 3) := by decide +kernel
theorem dX4_readTail_86 : decode cX4_readTail 86 = .ok (.aload_n 0, 1) := by decide +kernel
theorem dX4_readTail_87 : decode cX4_readTail 87 = .ok (.getfield 9, 3) := by decide +kernel
theorem dX4_readTail_90 : decode cX4_readTail 90 = .ok (.invokevirtual 68, 3) := by decide +kernel
theorem dX4_readTail_93 : decode cX4_readTail 93 = .ok (.aload_n 0, 1) := by decide +kernel
theorem dX4_readTail_94 : decode cX4_readTail 94 = .ok (.getfield 30, 3) := by decide +kernel
theorem dX4_readTail_97 : decode cX4_readTail 97 = .ok (.aload_n 0, 1) := by decide +kernel
theorem dX4_readTail_98 : decode cX4_readTail 98 = .ok (.getfield 144, 3) := by decide +kernel
theorem dX4_readTail_101 : decode cX4_readTail 101 = .ok (.iload_n 2, 1) := by decide +kernel
theorem dX4_readTail_102 : decode cX4_readTail 102 = .ok (.invokevirtual 80, 3) := by decide +kernel
theorem dX4_readTail_105 : decode cX4_readTail 105 = .ok (.ifCond .ne 5, 3) := by decide +kernel
theorem dX4_readTail_108 : decode cX4_readTail 108 = .ok (.iconst 0, 1) := by decide +kernel
theorem dX4_readTail_109 : decode cX4_readTail 109 = .ok (.ireturn, 1) := by decide +kernel
theorem dX4_readTail_110 : decode cX4_readTail 110 = .ok (.aload_n 1, 1) := by decide +kernel
theorem dX4_readTail_111 : decode cX4_readTail 111 = .ok (.getfield 182, 3) := by decide +kernel
theorem dX4_readTail_114 : decode cX4_readTail 114 = .ok (.aload_n 0, 1) := by decide +kernel
theorem dX4_readTail_115 : decode cX4_readTail 115 = .ok (.getfield 30, 3) := by decide +kernel
theorem dX4_readTail_118 : decode cX4_readTail 118 = .ok (.getfield 71, 3) := by decide +kernel
theorem dX4_readTail_121 : decode cX4_readTail 121 = .ok (.invokevirtual 242, 3) := by decide +kernel
theorem dX4_readTail_124 : decode cX4_readTail 124 = .ok (.aload_n 0, 1) := by decide +kernel
theorem dX4_readTail_125 : decode cX4_readTail 125 = .ok (.getfield 9, 3) := by decide +kernel
theorem dX4_readTail_128 : decode cX4_readTail 128 = .ok (.invokevirtual 34, 3) := by decide +kernel
theorem dX4_readTail_131 : decode cX4_readTail 131 = .ok (.ldc2_w 245, 3) := by decide +kernel
theorem dX4_readTail_134 : decode cX4_readTail 134 = .ok (.lcmp, 1) := by decide +kernel
theorem dX4_readTail_135 : decode cX4_readTail 135 = .ok (.ifCond .ne 11, 3) := by decide +kernel
theorem dX4_readTail_138 : decode cX4_readTail 138 = .ok (.aload_n 0, 1) := by decide +kernel
theorem dX4_readTail_139 : decode cX4_readTail 139 = .ok (.aload_n 1, 1) := by decide +kernel
theorem dX4_readTail_140 : decode cX4_readTail 140 = .ok (.invokevirtual 247, 3) := by decide +kernel
theorem dX4_readTail_143 : decode cX4_readTail 143 = .ok (.ifCond .eq 7, 3) := by decide +kernel
theorem dX4_readTail_146 : decode cX4_readTail 146 = .ok (.iconst 1, 1) := by decide +kernel
theorem dX4_readTail_147 : decode cX4_readTail 147 = .ok (.goto 4, 3) := by decide +kernel
theorem dX4_readTail_150 : decode cX4_readTail 150 = .ok (.iconst 0, 1) := by decide +kernel
theorem dX4_readTail_151 : decode cX4_readTail 151 = .ok (.ireturn, 1) := by decide +kernel
def fX4_readTail_b124 (a : Nat) (p1 : Option Nat) (μ : JM) : JO (Int32) := jck ((jT μ a).1 == 5) <| jde (jP μ a 0) fun q137 => jck ((jT μ q137).1 == 8) <| jcl (fX7_token q137 μ) fun r140 μ141 => if (lg_cmp r140 (-3011 : Int64)) = 0 then (jck ((jT μ141 a).1 == 5) <| jcl (fX4_readOver a p1 μ141) fun r151 μ152 => if r151 = 0 then (some ((0 : Int32), μ152, 0, 0)) else (some ((1 : Int32), μ152, 0, 0))) else (some ((1 : Int32), μ141, 0, 0))
set_option maxHeartbeats 4000000 in
set_option maxRecDepth 100000 in
theorem gX4_readTail_b124 {b : Nat} {Θ : JE} {RC RS : Nat} {r : Int32} {ν : JM} (X : jX b Θ RX4 cX4_readTail 3 (some .boolean) 3 75 RC RS) (a : Nat) (p1 : Option Nat) (μ : JM) (c m k n : Nat) (hf : fX4_readTail_b124 a p1 μ = some (r, ν, c, m)) (hk : k + c = RC) (hn : n + m = RS) : WA b Θ 3 (jE b Θ (some (.int r)) ν RC RS) μ k n 124 [(0, va_rf (some a)), (1, va_rf p1)] [] := by
  rw [fX4_readTail_b124] at hf
  refine wa_aload_n X 0 dX4_readTail_124 rfl ?_
  obtain ⟨h136, hf⟩ := jckT hf
  refine wa_getP X dX4_readTail_125 lfX4_9 rfl h136 rfl ?_
  obtain ⟨q137, h138, hf⟩ := jde_some hf
  obtain ⟨h139, hf⟩ := jckT hf
  obtain ⟨r140, μ141, c142, m143, c144, m145, e146, hf, h147, h148⟩ := jcl_some hf
  refine wa_rcallV (st2 := [.long r140]) X dX4_readTail_128 lmX4_34 lMX7_token h138 h139 (mX7_token e146) rfl rfl rfl (va_cats (Nat.le_of_ble_eq_true rfl)) (by decide) (by omega) (by omega) ?_
  refine wa_ldc2 (v := (-3011 : Int64)) X dX4_readTail_131 lkX4_245 ?_
  refine wa_lcmp X dX4_readTail_134 ?_
  refine wa_ifne (tgt := 146) X dX4_readTail_135 (by decide) (fun h149 => ?_) (fun h149 => ?_)
  · rw [if_neg h149] at hf
    refine wa_iconst (v := (1 : Int32)) X dX4_readTail_146 (by decide) ?_
    refine wa_goto (tgt := 151) X dX4_readTail_147 (by decide) ?_
    obtain ⟨rfl, rfl, rfl, rfl⟩ := jret hf
    exact wa_iret X dX4_readTail_151 rfl (by omega) (by omega)
  · rw [if_pos h149] at hf
    refine wa_aload_n X 0 dX4_readTail_138 rfl ?_
    refine wa_aload_n X 1 dX4_readTail_139 rfl ?_
    obtain ⟨h150, hf⟩ := jckT hf
    obtain ⟨r151, μ152, c153, m154, c155, m156, e157, hf, h158, h159⟩ := jcl_some hf
    refine wa_rcallV (st2 := [.int r151]) X dX4_readTail_140 lmX4_247 lMX4_readOver rfl h150 (mX4_readOver e157) rfl rfl rfl (va_cats (Nat.le_of_ble_eq_true rfl)) (by decide) (by omega) (by omega) ?_
    refine wa_ifeq (tgt := 150) X dX4_readTail_143 (by decide) (fun h160 => ?_) (fun h160 => ?_)
    · rw [if_pos h160] at hf
      refine wa_iconst (v := (0 : Int32)) X dX4_readTail_150 (by decide) ?_
      obtain ⟨rfl, rfl, rfl, rfl⟩ := jret hf
      exact wa_iret X dX4_readTail_151 rfl (by omega) (by omega)
    · rw [if_neg h160] at hf
      refine wa_iconst (v := (1 : Int32)) X dX4_readTail_146 (by decide) ?_
      refine wa_goto (tgt := 151) X dX4_readTail_147 (by decide) ?_
      obtain ⟨rfl, rfl, rfl, rfl⟩ := jret hf
      exact wa_iret X dX4_readTail_151 rfl (by omega) (by omega)
def fX4_readTail_b72 (a : Nat) (p1 : Option Nat) (x2 : Int32) (μ : JM) : JO (Int32) := jck ((jT μ a).1 == 5) <| jde (jP μ a 0) fun q77 => jck ((jT μ q77).1 == 8) <| jcl (fX7_token q77 μ) fun r80 μ81 => if (lg_cmp r80 (-3010 : Int64)) = 0 then (jck ((jT μ81 a).1 == 5) <| jde (jP μ81 a 0) fun q91 => jck ((jT μ81 q91).1 == 8) <| jcl (fX7_step q91 μ81) fun u94 μ95 => jck ((jT μ95 a).1 == 5) <| jde (jP μ95 a 4) fun q104 => jck ((jT μ95 q104).1 == 4) <| jcl (fX3_read q104 (jP μ95 a 6) x2 μ95) fun r107 μ108 => if r107 = 0 then (some ((0 : Int32), μ108, 0, 0)) else (jde p1 fun q117 => jck ((jT μ108 q117).1 == 3) <| jck ((jT μ108 a).1 == 5) <| jde (jP μ108 a 4) fun q121 => jck ((jT μ108 q121).1 == 4) <| jde (jP μ108 q117 8) fun q124 => jck ((jT μ108 q124).1 == 2) <| jcl (fX1_andNot q124 (jP μ108 q121 7) μ108) fun u127 μ128 => fX4_readTail_b124  a p1 μ128)) else (fX4_readTail_b124  a p1 μ81)
set_option maxHeartbeats 4000000 in
set_option maxRecDepth 100000 in
theorem gX4_readTail_b72 {b : Nat} {Θ : JE} {RC RS : Nat} {r : Int32} {ν : JM} (X : jX b Θ RX4 cX4_readTail 3 (some .boolean) 3 75 RC RS) (a : Nat) (p1 : Option Nat) (x2 : Int32) (μ : JM) (c m k n : Nat) (hf : fX4_readTail_b72 a p1 x2 μ = some (r, ν, c, m)) (hk : k + c = RC) (hn : n + m = RS) : WA b Θ 3 (jE b Θ (some (.int r)) ν RC RS) μ k n 72 [(0, va_rf (some a)), (1, va_rf p1), (2, .int x2)] [] := by
  rw [fX4_readTail_b72] at hf
  refine wa_aload_n X 0 dX4_readTail_72 rfl ?_
  obtain ⟨h76, hf⟩ := jckT hf
  refine wa_getP X dX4_readTail_73 lfX4_9 rfl h76 rfl ?_
  obtain ⟨q77, h78, hf⟩ := jde_some hf
  obtain ⟨h79, hf⟩ := jckT hf
  obtain ⟨r80, μ81, c82, m83, c84, m85, e86, hf, h87, h88⟩ := jcl_some hf
  refine wa_rcallV (st2 := [.long r80]) X dX4_readTail_76 lmX4_34 lMX7_token h78 h79 (mX7_token e86) rfl rfl rfl (va_cats (Nat.le_of_ble_eq_true rfl)) (by decide) (by omega) (by omega) ?_
  refine wa_ldc2 (v := (-3010 : Int64)) X dX4_readTail_79 lkX4_240 ?_
  refine wa_lcmp X dX4_readTail_82 ?_
  refine wa_ifne (tgt := 124) X dX4_readTail_83 (by decide) (fun h89 => ?_) (fun h89 => ?_)
  · rw [if_neg h89] at hf
    refine wa_sub (L2 := [(0, va_rf (some a)), (1, va_rf p1)]) [0, 1] rfl ?_
    exact gX4_readTail_b124 X a p1 μ81 _ _ _ _ hf (by omega) (by omega)
  · rw [if_pos h89] at hf
    refine wa_aload_n X 0 dX4_readTail_86 rfl ?_
    obtain ⟨h90, hf⟩ := jckT hf
    refine wa_getP X dX4_readTail_87 lfX4_9 rfl h90 rfl ?_
    obtain ⟨q91, h92, hf⟩ := jde_some hf
    obtain ⟨h93, hf⟩ := jckT hf
    obtain ⟨u94, μ95, c96, m97, c98, m99, e100, hf, h101, h102⟩ := jcl_some hf
    refine wa_rcallV (st2 := []) X dX4_readTail_90 lmX4_68 lMX7_step h92 h93 (mX7_step e100) rfl rfl rfl (va_cats (Nat.le_of_ble_eq_true rfl)) (by decide) (by omega) (by omega) ?_
    refine wa_aload_n X 0 dX4_readTail_93 rfl ?_
    obtain ⟨h103, hf⟩ := jckT hf
    refine wa_getP X dX4_readTail_94 lfX4_30 rfl h103 rfl ?_
    refine wa_aload_n X 0 dX4_readTail_97 rfl ?_
    refine wa_getP X dX4_readTail_98 lfX4_144 rfl h103 rfl ?_
    refine wa_iload_n X 2 dX4_readTail_101 rfl ?_
    obtain ⟨q104, h105, hf⟩ := jde_some hf
    obtain ⟨h106, hf⟩ := jckT hf
    obtain ⟨r107, μ108, c109, m110, c111, m112, e113, hf, h114, h115⟩ := jcl_some hf
    refine wa_rcallV (st2 := [.int r107]) X dX4_readTail_102 lmX4_80 lMX3_read h105 h106 (mX3_read e113) rfl rfl rfl (va_cats (Nat.le_of_ble_eq_true rfl)) (by decide) (by omega) (by omega) ?_
    refine wa_ifne (tgt := 110) X dX4_readTail_105 (by decide) (fun h116 => ?_) (fun h116 => ?_)
    · rw [if_neg h116] at hf
      refine wa_aload_n X 1 dX4_readTail_110 rfl ?_
      obtain ⟨q117, h118, hf⟩ := jde_some hf
      obtain ⟨h119, hf⟩ := jckT hf
      refine wa_getP X dX4_readTail_111 lfX4_182 h118 h119 rfl ?_
      refine wa_aload_n X 0 dX4_readTail_114 rfl ?_
      obtain ⟨h120, hf⟩ := jckT hf
      refine wa_getP X dX4_readTail_115 lfX4_30 rfl h120 rfl ?_
      obtain ⟨q121, h122, hf⟩ := jde_some hf
      obtain ⟨h123, hf⟩ := jckT hf
      refine wa_getP X dX4_readTail_118 lfX4_71 h122 h123 rfl ?_
      obtain ⟨q124, h125, hf⟩ := jde_some hf
      obtain ⟨h126, hf⟩ := jckT hf
      obtain ⟨u127, μ128, c129, m130, c131, m132, e133, hf, h134, h135⟩ := jcl_some hf
      refine wa_rcallV (st2 := []) X dX4_readTail_121 lmX4_242 lMX1_andNot h125 h126 (mX1_andNot e133) rfl rfl rfl (va_cats (Nat.le_of_ble_eq_true rfl)) (by decide) (by omega) (by omega) ?_
      refine wa_sub (L2 := [(0, va_rf (some a)), (1, va_rf p1)]) [0, 1] rfl ?_
      exact gX4_readTail_b124 X a p1 μ128 _ _ _ _ hf (by omega) (by omega)
    · rw [if_pos h116] at hf
      refine wa_iconst (v := (0 : Int32)) X dX4_readTail_108 (by decide) ?_
      obtain ⟨rfl, rfl, rfl, rfl⟩ := jret hf
      exact wa_iret X dX4_readTail_109 rfl (by omega) (by omega)
def fX4_readTail_b12 (a : Nat) (p1 : Option Nat) (s0 : Int32) (μ : JM) : JO (Int32) := jde p1 fun q3 => jck ((jT μ q3).1 == 3) <| jde (jP μ q3 8) fun q6 => jck ((jT μ q6).1 == 2) <| jcl (fX1_fill q6 μ) fun u9 μ10 => jck ((jT μ10 a).1 == 5) <| jde (jP μ10 a 0) fun q19 => jck ((jT μ10 q19).1 == 8) <| jcl (fX7_token q19 μ10) fun r22 μ23 => if (lg_cmp r22 (-3009 : Int64)) = 0 then (jck ((jT μ23 a).1 == 5) <| jde (jP μ23 a 0) fun q33 => jck ((jT μ23 q33).1 == 8) <| jcl (fX7_step q33 μ23) fun u36 μ37 => jck ((jT μ37 a).1 == 5) <| jde (jP μ37 a 4) fun q46 => jck ((jT μ37 q46).1 == 4) <| jcl (fX3_read q46 (jP μ37 a 6) s0 μ37) fun r49 μ50 => if r49 = 0 then (some ((0 : Int32), μ50, 0, 0)) else (jck ((jT μ50 q3).1 == 3) <| jck ((jT μ50 a).1 == 5) <| jde (jP μ50 a 4) fun q61 => jck ((jT μ50 q61).1 == 4) <| jde (jP μ50 q3 8) fun q64 => jck ((jT μ50 q64).1 == 2) <| jcl (fX1_and q64 (jP μ50 q61 7) μ50) fun u67 μ68 => fX4_readTail_b72  a p1 s0 μ68)) else (fX4_readTail_b72  a p1 s0 μ23)
set_option maxHeartbeats 4000000 in
set_option maxRecDepth 100000 in
theorem gX4_readTail_b12 {b : Nat} {Θ : JE} {RC RS : Nat} {r : Int32} {ν : JM} (X : jX b Θ RX4 cX4_readTail 3 (some .boolean) 3 75 RC RS) (a : Nat) (p1 : Option Nat) (s0 : Int32) (μ : JM) (c m k n : Nat) (hf : fX4_readTail_b12 a p1 s0 μ = some (r, ν, c, m)) (hk : k + c = RC) (hn : n + m = RS) : WA b Θ 3 (jE b Θ (some (.int r)) ν RC RS) μ k n 12 [(0, va_rf (some a)), (1, va_rf p1)] [.int s0] := by
  rw [fX4_readTail_b12] at hf
  refine wa_istore_n (L2 := [(2, .int s0), (0, va_rf (some a)), (1, va_rf p1)]) X dX4_readTail_12 (by decide) (by first | rfl | (show (2, _) :: List.filter (fun q : Nat × Value => !(q.1 == 2) && !(q.1 + 1 == 2 && q.2.category == 2)) _ = _; simp [va_rf_cat, cat_i, cat_l])) ?_
  refine wa_aload_n X 2 dX4_readTail_13 rfl ?_
  obtain ⟨q3, h4, hf⟩ := jde_some hf
  obtain ⟨h5, hf⟩ := jckT hf
  refine wa_getP X dX4_readTail_14 lfX4_182 h4 h5 rfl ?_
  obtain ⟨q6, h7, hf⟩ := jde_some hf
  obtain ⟨h8, hf⟩ := jckT hf
  obtain ⟨u9, μ10, c11, m12, c13, m14, e15, hf, h16, h17⟩ := jcl_some hf
  refine wa_rcallV (st2 := []) X dX4_readTail_17 lmX4_75 lMX1_fill h7 h8 (mX1_fill e15) rfl rfl rfl (va_cats (Nat.le_of_ble_eq_true rfl)) (by decide) (by omega) (by omega) ?_
  refine wa_aload_n X 1 dX4_readTail_20 rfl ?_
  obtain ⟨h18, hf⟩ := jckT hf
  refine wa_getP X dX4_readTail_21 lfX4_9 rfl h18 rfl ?_
  obtain ⟨q19, h20, hf⟩ := jde_some hf
  obtain ⟨h21, hf⟩ := jckT hf
  obtain ⟨r22, μ23, c24, m25, c26, m27, e28, hf, h29, h30⟩ := jcl_some hf
  refine wa_rcallV (st2 := [.long r22]) X dX4_readTail_24 lmX4_34 lMX7_token h20 h21 (mX7_token e28) rfl rfl rfl (va_cats (Nat.le_of_ble_eq_true rfl)) (by decide) (by omega) (by omega) ?_
  refine wa_ldc2 (v := (-3009 : Int64)) X dX4_readTail_27 lkX4_235 ?_
  refine wa_lcmp X dX4_readTail_30 ?_
  refine wa_ifne (tgt := 72) X dX4_readTail_31 (by decide) (fun h31 => ?_) (fun h31 => ?_)
  · rw [if_neg h31] at hf
    refine wa_sub (L2 := [(0, va_rf (some a)), (1, va_rf p1), (2, .int s0)]) [1, 2, 0] rfl ?_
    exact gX4_readTail_b72 X a p1 s0 μ23 _ _ _ _ hf (by omega) (by omega)
  · rw [if_pos h31] at hf
    refine wa_aload_n X 1 dX4_readTail_34 rfl ?_
    obtain ⟨h32, hf⟩ := jckT hf
    refine wa_getP X dX4_readTail_35 lfX4_9 rfl h32 rfl ?_
    obtain ⟨q33, h34, hf⟩ := jde_some hf
    obtain ⟨h35, hf⟩ := jckT hf
    obtain ⟨u36, μ37, c38, m39, c40, m41, e42, hf, h43, h44⟩ := jcl_some hf
    refine wa_rcallV (st2 := []) X dX4_readTail_38 lmX4_68 lMX7_step h34 h35 (mX7_step e42) rfl rfl rfl (va_cats (Nat.le_of_ble_eq_true rfl)) (by decide) (by omega) (by omega) ?_
    refine wa_aload_n X 1 dX4_readTail_41 rfl ?_
    obtain ⟨h45, hf⟩ := jckT hf
    refine wa_getP X dX4_readTail_42 lfX4_30 rfl h45 rfl ?_
    refine wa_aload_n X 1 dX4_readTail_45 rfl ?_
    refine wa_getP X dX4_readTail_46 lfX4_144 rfl h45 rfl ?_
    refine wa_iload_n X 0 dX4_readTail_49 rfl ?_
    obtain ⟨q46, h47, hf⟩ := jde_some hf
    obtain ⟨h48, hf⟩ := jckT hf
    obtain ⟨r49, μ50, c51, m52, c53, m54, e55, hf, h56, h57⟩ := jcl_some hf
    refine wa_rcallV (st2 := [.int r49]) X dX4_readTail_50 lmX4_80 lMX3_read h47 h48 (mX3_read e55) rfl rfl rfl (va_cats (Nat.le_of_ble_eq_true rfl)) (by decide) (by omega) (by omega) ?_
    refine wa_ifne (tgt := 58) X dX4_readTail_53 (by decide) (fun h58 => ?_) (fun h58 => ?_)
    · rw [if_neg h58] at hf
      refine wa_aload_n X 2 dX4_readTail_58 rfl ?_
      obtain ⟨h59, hf⟩ := jckT hf
      refine wa_getP X dX4_readTail_59 lfX4_182 h4 h59 rfl ?_
      refine wa_aload_n X 1 dX4_readTail_62 rfl ?_
      obtain ⟨h60, hf⟩ := jckT hf
      refine wa_getP X dX4_readTail_63 lfX4_30 rfl h60 rfl ?_
      obtain ⟨q61, h62, hf⟩ := jde_some hf
      obtain ⟨h63, hf⟩ := jckT hf
      refine wa_getP X dX4_readTail_66 lfX4_71 h62 h63 rfl ?_
      obtain ⟨q64, h65, hf⟩ := jde_some hf
      obtain ⟨h66, hf⟩ := jckT hf
      obtain ⟨u67, μ68, c69, m70, c71, m72, e73, hf, h74, h75⟩ := jcl_some hf
      refine wa_rcallV (st2 := []) X dX4_readTail_69 lmX4_237 lMX1_and h65 h66 (mX1_and e73) rfl rfl rfl (va_cats (Nat.le_of_ble_eq_true rfl)) (by decide) (by omega) (by omega) ?_
      refine wa_sub (L2 := [(0, va_rf (some a)), (1, va_rf p1), (2, .int s0)]) [1, 2, 0] rfl ?_
      exact gX4_readTail_b72 X a p1 s0 μ68 _ _ _ _ hf (by omega) (by omega)
    · rw [if_pos h58] at hf
      refine wa_iconst (v := (0 : Int32)) X dX4_readTail_56 (by decide) ?_
      obtain ⟨rfl, rfl, rfl, rfl⟩ := jret hf
      exact wa_iret X dX4_readTail_57 rfl (by omega) (by omega)
def fX4_readTail (a : Nat) (p1 : Option Nat) (μ : JM) : JO (Int32) := jck ((jT μ a).1 == 5) <| if (jI μ a 5) = 0 then (fX4_readTail_b12  a p1 (0 : Int32) μ) else (fX4_readTail_b12  a p1 (1 : Int32) μ)
set_option maxHeartbeats 4000000 in
set_option maxRecDepth 100000 in
theorem mX4_readTail {b : Nat} {a : Nat} {p1 : Option Nat} {μ : JM} {r : Int32} {ν : JM} {c m : Nat} (hf : fX4_readTail a p1 μ = some (r, ν, c, m)) : JMet b yX4_readTail cX4_readTail 3 (some .boolean) 3 75 [va_rf (some a), va_rf p1] μ (some (.int r)) ν c m := by
  refine JMet.of (by decide) (lg_sl_le (by simp only [List.map_cons, List.map_nil, List.sum_cons, List.sum_nil, va_rf_cat]; exact Nat.le_of_ble_eq_true rfl)) (fun Θ X hin => ?_)
  refine wa_eq (L2 := [(0, va_rf (some a)), (1, va_rf p1)]) ?_ rfl (by first | rfl | simp [lv_args, va_rf_cat, cat_i, cat_l]) rfl
  obtain ⟨k, hk0⟩ : ∃ k : Nat, k = 0 := ⟨0, rfl⟩
  obtain ⟨n, hn0⟩ : ∃ n : Nat, n = 0 := ⟨0, rfl⟩
  have hk : k + c = c := by omega
  have hn : n + m = m := by omega
  refine wa_costs hk0.symm hn0.symm ?_
  rw [fX4_readTail] at hf
  refine wa_aload_n X 0 dX4_readTail_0 rfl ?_
  obtain ⟨h1, hf⟩ := jckT hf
  refine wa_getI X dX4_readTail_1 lfX4_148 rfl h1 rfl ?_
  refine wa_ifeq (tgt := 11) X dX4_readTail_4 (by decide) (fun h2 => ?_) (fun h2 => ?_)
  · rw [if_pos h2] at hf
    refine wa_iconst (v := (0 : Int32)) X dX4_readTail_11 (by decide) ?_
    refine wa_sub (L2 := [(0, va_rf (some a)), (1, va_rf p1)]) [0, 1] rfl ?_
    exact gX4_readTail_b12 X a p1 (0 : Int32) μ _ _ _ _ hf (by omega) (by omega)
  · rw [if_neg h2] at hf
    refine wa_iconst (v := (1 : Int32)) X dX4_readTail_7 (by decide) ?_
    refine wa_goto (tgt := 12) X dX4_readTail_8 (by decide) ?_
    refine wa_sub (L2 := [(0, va_rf (some a)), (1, va_rf p1)]) [0, 1] rfl ?_
    exact gX4_readTail_b12 X a p1 (1 : Int32) μ _ _ _ _ hf (by omega) (by omega)
theorem dX4_readClause_0 : decode cX4_readClause 0 = .ok (.aload_n 0, 1) := by decide +kernel
theorem dX4_readClause_1 : decode cX4_readClause 1 = .ok (.aload_n 1, 1) := by decide +kernel
theorem dX4_readClause_2 : decode cX4_readClause 2 = .ok (.putfield 144, 3) := by decide +kernel
theorem dX4_readClause_5 : decode cX4_readClause 5 = .ok (.aload_n 0, 1) := by decide +kernel
theorem dX4_readClause_6 : decode cX4_readClause 6 = .ok (.iload_n 2, 1) := by decide +kernel
theorem dX4_readClause_7 : decode cX4_readClause 7 = .ok (.putfield 148, 3) := by decide +kernel
theorem dX4_readClause_10 : decode cX4_readClause 10 = .ok (.aload_n 0, 1) := by decide +kernel
theorem dX4_readClause_11 : decode cX4_readClause 11 = .ok (.getfield 9, 3) := by decide +kernel
theorem dX4_readClause_14 : decode cX4_readClause 14 = .ok (.getfield 151, 3) := by decide +kernel
theorem dX4_readClause_17 : decode cX4_readClause 17 = .ok (.istore_n 3, 1) := by decide +kernel
theorem dX4_readClause_18 : decode cX4_readClause 18 = .ok (.new 129, 3) := by decide +kernel
theorem dX4_readClause_21 : decode cX4_readClause 21 = .ok (.dup, 1) := by decide +kernel
theorem dX4_readClause_22 : decode cX4_readClause 22 = .ok (.invokespecial 154, 3) := by decide +kernel
theorem dX4_readClause_25 : decode cX4_readClause 25 = .ok (.astore 4, 2) := by decide +kernel
theorem dX4_readClause_27 : decode cX4_readClause 27 = .ok (.aload_n 0, 1) := by decide +kernel
theorem dX4_readClause_28 : decode cX4_readClause 28 = .ok (.getfield 9, 3) := by decide +kernel
theorem dX4_readClause_31 : decode cX4_readClause 31 = .ok (.invokevirtual 34, 3) := by decide +kernel
theorem dX4_readClause_34 : decode cX4_readClause 34 = .ok (.ldc2_w 155, 3) := by decide +kernel
theorem dX4_readClause_37 : decode cX4_readClause 37 = .ok (.lcmp, 1) := by decide +kernel
theorem dX4_readClause_38 : decode cX4_readClause 38 = .ok (.ifCond .ne 12, 3) := by decide +kernel
theorem dX4_readClause_41 : decode cX4_readClause 41 = .ok (.aload_n 0, 1) := by decide +kernel
theorem dX4_readClause_42 : decode cX4_readClause 42 = .ok (.aload 4, 2) := by decide +kernel
theorem dX4_readClause_44 : decode cX4_readClause 44 = .ok (.invokevirtual 157, 3) := by decide +kernel
theorem dX4_readClause_47 : decode cX4_readClause 47 = .ok (.goto 36, 3) := by decide +kernel
theorem dX4_readClause_50 : decode cX4_readClause 50 = .ok (.aload_n 0, 1) := by decide +kernel
theorem dX4_readClause_51 : decode cX4_readClause 51 = .ok (.aload 4, 2) := by decide +kernel
theorem dX4_readClause_53 : decode cX4_readClause 53 = .ok (.iconst 0, 1) := by decide +kernel
theorem dX4_readClause_54 : decode cX4_readClause 54 = .ok (.invokevirtual 161, 3) := by decide +kernel
theorem dX4_readClause_57 : decode cX4_readClause 57 = .ok (.ifCond .eq 25, 3) := by decide +kernel
theorem dX4_readClause_60 : decode cX4_readClause 60 = .ok (.aload_n 0, 1) := by decide +kernel
theorem dX4_readClause_61 : decode cX4_readClause 61 = .ok (.aload 4, 2) := by decide +kernel
theorem dX4_readClause_63 : decode cX4_readClause 63 = .ok (.invokevirtual 165, 3) := by decide +kernel
theorem dX4_readClause_66 : decode cX4_readClause 66 = .ok (.ifCond .eq 16, 3) := by decide +kernel
theorem dX4_readClause_69 : decode cX4_readClause 69 = .ok (.aload_n 0, 1) := by decide +kernel
theorem dX4_readClause_70 : decode cX4_readClause 70 = .ok (.aload 4, 2) := by decide +kernel
theorem dX4_readClause_72 : decode cX4_readClause 72 = .ok (.invokevirtual 168, 3) := by decide +kernel
theorem dX4_readClause_75 : decode cX4_readClause 75 = .ok (.ifCond .eq 7, 3) := by decide +kernel
theorem dX4_readClause_78 : decode cX4_readClause 78 = .ok (.iconst 1, 1) := by decide +kernel
theorem dX4_readClause_79 : decode cX4_readClause 79 = .ok (.goto 4, 3) := by decide +kernel
theorem dX4_readClause_82 : decode cX4_readClause 82 = .ok (.iconst 0, 1) := by decide +kernel
theorem dX4_readClause_83 : decode cX4_readClause 83 = .ok (.istore 5, 2) := by decide +kernel
theorem dX4_readClause_85 : decode cX4_readClause 85 = .ok (.iload 5, 2) := by decide +kernel
theorem dX4_readClause_87 : decode cX4_readClause 87 = .ok (.ifCond .ne 5, 3) := by decide +kernel
theorem dX4_readClause_90 : decode cX4_readClause 90 = .ok (.aconst_null, 1) := by decide +kernel
theorem dX4_readClause_91 : decode cX4_readClause 91 = .ok (.areturn, 1) := by decide +kernel
theorem dX4_readClause_92 : decode cX4_readClause 92 = .ok (.aload 4, 2) := by decide +kernel
theorem dX4_readClause_94 : decode cX4_readClause 94 = .ok (.aload_n 0, 1) := by decide +kernel
theorem dX4_readClause_95 : decode cX4_readClause 95 = .ok (.getfield 9, 3) := by decide +kernel
theorem dX4_readClause_98 : decode cX4_readClause 98 = .ok (.iload_n 3, 1) := by decide +kernel
theorem dX4_readClause_99 : decode cX4_readClause 99 = .ok (.invokevirtual 171, 3) := by decide +kernel
theorem dX4_readClause_102 : decode cX4_readClause 102 = .ok (.putfield 175, 3) := by decide +kernel
theorem dX4_readClause_105 : decode cX4_readClause 105 = .ok (.aload 4, 2) := by decide +kernel
theorem dX4_readClause_107 : decode cX4_readClause 107 = .ok (.areturn, 1) := by decide +kernel
def fX4_readClause_b83 (a : Nat) (x3 : Int32) (p4 : Option Nat) (s0 : Int32) (μ : JM) : JO (Option Nat) := if s0 = 0 then (some (none, μ, 0, 0)) else (jck ((jT μ a).1 == 5) <| jde (jP μ a 0) fun q88 => jck ((jT μ q88).1 == 8) <| jcl (fX7_readSince q88 x3 μ) fun r91 μ92 => jde p4 fun q100 => jck ((jT μ92 q100).1 == 3) <| jlt (jsP μ92 q100 7 r91) fun μ103 => some (p4, μ103, 0, 0))
set_option maxHeartbeats 4000000 in
set_option maxRecDepth 100000 in
theorem gX4_readClause_b83 {b : Nat} {Θ : JE} {RC RS : Nat} {r : Option Nat} {ν : JM} (X : jX b Θ RX4 cX4_readClause 6 (some (.object "ClauseBench$Clause")) 4 127 RC RS) (a : Nat) (x3 : Int32) (p4 : Option Nat) (s0 : Int32) (μ : JM) (c m k n : Nat) (hf : fX4_readClause_b83 a x3 p4 s0 μ = some (r, ν, c, m)) (hk : k + c = RC) (hn : n + m = RS) : WA b Θ 6 (jE b Θ (some (va_rf r)) ν RC RS) μ k n 83 [(0, va_rf (some a)), (3, .int x3), (4, va_rf p4)] [.int s0] := by
  rw [fX4_readClause_b83] at hf
  refine wa_istore (L2 := [(5, .int s0), (0, va_rf (some a)), (3, .int x3), (4, va_rf p4)]) X dX4_readClause_83 (by decide) (by first | rfl | (show (5, _) :: List.filter (fun q : Nat × Value => !(q.1 == 5) && !(q.1 + 1 == 5 && q.2.category == 2)) _ = _; simp [va_rf_cat, cat_i, cat_l])) ?_
  refine wa_iload X 0 dX4_readClause_85 rfl ?_
  refine wa_ifne (tgt := 92) X dX4_readClause_87 (by decide) (fun h86 => ?_) (fun h86 => ?_)
  · rw [if_neg h86] at hf
    refine wa_aload X 3 dX4_readClause_92 rfl ?_
    refine wa_aload_n X 1 dX4_readClause_94 rfl ?_
    obtain ⟨h87, hf⟩ := jckT hf
    refine wa_getP X dX4_readClause_95 lfX4_9 rfl h87 rfl ?_
    refine wa_iload_n X 2 dX4_readClause_98 rfl ?_
    obtain ⟨q88, h89, hf⟩ := jde_some hf
    obtain ⟨h90, hf⟩ := jckT hf
    obtain ⟨r91, μ92, c93, m94, c95, m96, e97, hf, h98, h99⟩ := jcl_some hf
    refine wa_rcallV (st2 := [va_rf r91, va_rf p4]) X dX4_readClause_99 lmX4_171 lMX7_readSince h89 h90 (mX7_readSince e97) rfl rfl rfl (va_cats (Nat.le_of_ble_eq_true rfl)) (by decide) (by omega) (by omega) ?_
    obtain ⟨q100, h101, hf⟩ := jde_some hf
    obtain ⟨h102, hf⟩ := jckT hf
    obtain ⟨μ103, hm104, hf⟩ := jlt_e hf
    have e105 : jT μ103 = jT μ92 := by rw [hm104]; rfl
    refine wa_rputP (ν := μ103) X dX4_readClause_102 lfX4_175 h101 h102 (by first | exact Or.inl ⟨_, rfl⟩ | exact Or.inr ⟨_, rfl⟩) rfl hm104 ?_
    refine wa_aload X 3 dX4_readClause_105 rfl ?_
    obtain ⟨rfl, rfl, rfl, rfl⟩ := jret hf
    exact wa_aret X dX4_readClause_107 (by first | exact Or.inl ⟨_, rfl⟩ | exact Or.inr ⟨_, rfl⟩) (by omega) (by omega)
  · rw [if_pos h86] at hf
    refine wa_null X dX4_readClause_90 ?_
    obtain ⟨rfl, rfl, rfl, rfl⟩ := jret hf
    exact wa_aret X dX4_readClause_91 (by first | exact Or.inl ⟨_, rfl⟩ | exact Or.inr ⟨_, rfl⟩) (by omega) (by omega)
def fX4_readClause_b82 (a : Nat) (x3 : Int32) (p4 : Option Nat) (μ : JM) : JO (Option Nat) := fX4_readClause_b83  a x3 p4 (0 : Int32) μ
set_option maxHeartbeats 4000000 in
set_option maxRecDepth 100000 in
theorem gX4_readClause_b82 {b : Nat} {Θ : JE} {RC RS : Nat} {r : Option Nat} {ν : JM} (X : jX b Θ RX4 cX4_readClause 6 (some (.object "ClauseBench$Clause")) 4 127 RC RS) (a : Nat) (x3 : Int32) (p4 : Option Nat) (μ : JM) (c m k n : Nat) (hf : fX4_readClause_b82 a x3 p4 μ = some (r, ν, c, m)) (hk : k + c = RC) (hn : n + m = RS) : WA b Θ 6 (jE b Θ (some (va_rf r)) ν RC RS) μ k n 82 [(0, va_rf (some a)), (3, .int x3), (4, va_rf p4)] [] := by
  rw [fX4_readClause_b82] at hf
  refine wa_iconst (v := (0 : Int32)) X dX4_readClause_82 (by decide) ?_
  refine wa_sub (L2 := [(0, va_rf (some a)), (3, .int x3), (4, va_rf p4)]) [0, 1, 2] rfl ?_
  exact gX4_readClause_b83 X a x3 p4 (0 : Int32) μ _ _ _ _ hf (by omega) (by omega)
def fX4_readClause (a : Nat) (p1 : Option Nat) (x2 : Int32) (μ : JM) : JO (Option Nat) := jck ((jT μ a).1 == 5) <| jlt (jsP μ a 6 p1) fun μ2 => jlt (jsI μ2 a 5 x2) fun μ5 => jde (jP μ5 a 0) fun q8 => jck ((jT μ q8).1 == 8) <| jnwo μ5 3 9 fun q11 μ12 => jcl (fX2_init q11 μ12) fun u20 μ21 => jck ((jT μ21 a).1 == 5) <| jde (jP μ21 a 0) fun q30 => jck ((jT μ21 q30).1 == 8) <| jcl (fX7_token q30 μ21) fun r33 μ34 => if (lg_cmp r33 (-3000 : Int64)) = 0 then (jck ((jT μ34 a).1 == 5) <| jcl (fX4_readDefine a (some q11) μ34) fun r77 μ78 => fX4_readClause_b83  a (jI μ5 q8 4) (some q11) r77 μ78) else (jck ((jT μ34 a).1 == 5) <| jcl (fX4_readName a (some q11) (0 : Int32) μ34) fun r44 μ45 => if r44 = 0 then (fX4_readClause_b82  a (jI μ5 q8 4) (some q11) μ45) else (jck ((jT μ45 a).1 == 5) <| jcl (fX4_readDeed a (some q11) μ45) fun r55 μ56 => if r55 = 0 then (fX4_readClause_b82  a (jI μ5 q8 4) (some q11) μ56) else (jck ((jT μ56 a).1 == 5) <| jcl (fX4_readTail a (some q11) μ56) fun r66 μ67 => if r66 = 0 then (fX4_readClause_b82  a (jI μ5 q8 4) (some q11) μ67) else (fX4_readClause_b83  a (jI μ5 q8 4) (some q11) (1 : Int32) μ67))))
set_option maxHeartbeats 4000000 in
set_option maxRecDepth 100000 in
theorem mX4_readClause {b : Nat} {a : Nat} {p1 : Option Nat} {x2 : Int32} {μ : JM} {r : Option Nat} {ν : JM} {c m : Nat} (hf : fX4_readClause a p1 x2 μ = some (r, ν, c, m)) : JMet b yX4_readClause cX4_readClause 6 (some (.object "ClauseBench$Clause")) 4 127 [va_rf (some a), va_rf p1, .int x2] μ (some (va_rf r)) ν c m := by
  refine JMet.of (by decide) (lg_sl_le (by simp only [List.map_cons, List.map_nil, List.sum_cons, List.sum_nil, va_rf_cat]; exact Nat.le_of_ble_eq_true rfl)) (fun Θ X hin => ?_)
  refine wa_eq (L2 := [(0, va_rf (some a)), (1, va_rf p1), (2, .int x2)]) ?_ rfl (by first | rfl | simp [lv_args, va_rf_cat, cat_i, cat_l]) rfl
  obtain ⟨k, hk0⟩ : ∃ k : Nat, k = 0 := ⟨0, rfl⟩
  obtain ⟨n, hn0⟩ : ∃ n : Nat, n = 0 := ⟨0, rfl⟩
  have hk : k + c = c := by omega
  have hn : n + m = m := by omega
  refine wa_costs hk0.symm hn0.symm ?_
  rw [fX4_readClause] at hf
  refine wa_aload_n X 0 dX4_readClause_0 rfl ?_
  refine wa_aload_n X 1 dX4_readClause_1 rfl ?_
  obtain ⟨h1, hf⟩ := jckT hf
  obtain ⟨μ2, hm3, hf⟩ := jlt_e hf
  have e4 : jT μ2 = jT μ := by rw [hm3]; rfl
  refine wa_rputP (ν := μ2) X dX4_readClause_2 lfX4_144 rfl h1 (by first | exact Or.inl ⟨_, rfl⟩ | exact Or.inr ⟨_, rfl⟩) rfl hm3 ?_
  refine wa_aload_n X 0 dX4_readClause_5 rfl ?_
  refine wa_iload_n X 2 dX4_readClause_6 rfl ?_
  obtain ⟨μ5, hm6, hf⟩ := jlt_e hf
  have e7 : jT μ5 = jT μ := by rw [hm6]; exact e4
  refine wa_rputI (ν := μ5) X dX4_readClause_7 lfX4_148 rfl (by rw [e4]; exact h1) rfl rfl hm6 ?_
  refine wa_aload_n X 0 dX4_readClause_10 rfl ?_
  refine wa_getP X dX4_readClause_11 lfX4_9 rfl (by rw [e7]; exact h1) rfl ?_
  obtain ⟨q8, h9, hf⟩ := jde_some hf
  obtain ⟨h10, hf⟩ := jckT hf
  refine wa_getI X dX4_readClause_14 lfX4_151 h9 (by rw [e7]; exact h10) rfl ?_
  refine wa_istore_n (L2 := [(3, .int (jI μ5 q8 4)), (0, va_rf (some a)), (1, va_rf p1), (2, .int x2)]) X dX4_readClause_17 (by decide) (by first | rfl | (show (3, _) :: List.filter (fun q : Nat × Value => !(q.1 == 3) && !(q.1 + 1 == 3 && q.2.category == 2)) _ = _; simp [va_rf_cat, cat_i, cat_l])) ?_
  obtain ⟨q11, μ12, c15, m16, h13, hm14, hf, h17, h18⟩ := jnwo_some hf
  refine wa_new (t := 3) (N := 9) X dX4_readClause_18 (by decide) rfl lcX4_129 li_RX2 ln_RX2 (by omega) (by omega) ?_
  rw [← h13, ← hm14]
  have h19 : (jT μ12 q11).1 = 3 := by rw [jT_at h13 hm14]
  refine wa_dup X dX4_readClause_21 (va_rf_cat _) ?_
  obtain ⟨u20, μ21, c22, m23, c24, m25, e26, hf, h27, h28⟩ := jcl_some hf
  refine wa_rcallI (st2 := [va_rf (some q11)]) X dX4_readClause_22 lmX4_154 lMX2_init rfl (mX2_init e26) rfl rfl rfl (va_cats (Nat.le_of_ble_eq_true rfl)) (by decide) (by omega) (by omega) ?_
  refine wa_astore (L2 := [(4, va_rf (some q11)), (3, .int (jI μ5 q8 4)), (0, va_rf (some a)), (1, va_rf p1), (2, .int x2)]) X dX4_readClause_25 (by decide) (by first | rfl | (show (4, _) :: List.filter (fun q : Nat × Value => !(q.1 == 4) && !(q.1 + 1 == 4 && q.2.category == 2)) _ = _; simp [va_rf_cat, cat_i, cat_l])) ?_
  refine wa_aload_n X 2 dX4_readClause_27 rfl ?_
  obtain ⟨h29, hf⟩ := jckT hf
  refine wa_getP X dX4_readClause_28 lfX4_9 rfl h29 rfl ?_
  obtain ⟨q30, h31, hf⟩ := jde_some hf
  obtain ⟨h32, hf⟩ := jckT hf
  obtain ⟨r33, μ34, c35, m36, c37, m38, e39, hf, h40, h41⟩ := jcl_some hf
  refine wa_rcallV (st2 := [.long r33]) X dX4_readClause_31 lmX4_34 lMX7_token h31 h32 (mX7_token e39) rfl rfl rfl (va_cats (Nat.le_of_ble_eq_true rfl)) (by decide) (by omega) (by omega) ?_
  refine wa_ldc2 (v := (-3000 : Int64)) X dX4_readClause_34 lkX4_155 ?_
  refine wa_lcmp X dX4_readClause_37 ?_
  refine wa_ifne (tgt := 50) X dX4_readClause_38 (by decide) (fun h42 => ?_) (fun h42 => ?_)
  · rw [if_neg h42] at hf
    refine wa_aload_n X 2 dX4_readClause_50 rfl ?_
    refine wa_aload X 0 dX4_readClause_51 rfl ?_
    refine wa_iconst (v := (0 : Int32)) X dX4_readClause_53 (by decide) ?_
    obtain ⟨h43, hf⟩ := jckT hf
    obtain ⟨r44, μ45, c46, m47, c48, m49, e50, hf, h51, h52⟩ := jcl_some hf
    refine wa_rcallV (st2 := [.int r44]) X dX4_readClause_54 lmX4_161 lMX4_readName rfl h43 (mX4_readName e50) rfl rfl rfl (va_cats (Nat.le_of_ble_eq_true rfl)) (by decide) (by omega) (by omega) ?_
    refine wa_ifeq (tgt := 82) X dX4_readClause_57 (by decide) (fun h53 => ?_) (fun h53 => ?_)
    · rw [if_pos h53] at hf
      refine wa_sub (L2 := [(0, va_rf (some a)), (3, .int (jI μ5 q8 4)), (4, va_rf (some q11))]) [2, 1, 0] rfl ?_
      exact gX4_readClause_b82 X a (jI μ5 q8 4) (some q11) μ45 _ _ _ _ hf (by omega) (by omega)
    · rw [if_neg h53] at hf
      refine wa_aload_n X 2 dX4_readClause_60 rfl ?_
      refine wa_aload X 0 dX4_readClause_61 rfl ?_
      obtain ⟨h54, hf⟩ := jckT hf
      obtain ⟨r55, μ56, c57, m58, c59, m60, e61, hf, h62, h63⟩ := jcl_some hf
      refine wa_rcallV (st2 := [.int r55]) X dX4_readClause_63 lmX4_165 lMX4_readDeed rfl h54 (mX4_readDeed e61) rfl rfl rfl (va_cats (Nat.le_of_ble_eq_true rfl)) (by decide) (by omega) (by omega) ?_
      refine wa_ifeq (tgt := 82) X dX4_readClause_66 (by decide) (fun h64 => ?_) (fun h64 => ?_)
      · rw [if_pos h64] at hf
        refine wa_sub (L2 := [(0, va_rf (some a)), (3, .int (jI μ5 q8 4)), (4, va_rf (some q11))]) [2, 1, 0] rfl ?_
        exact gX4_readClause_b82 X a (jI μ5 q8 4) (some q11) μ56 _ _ _ _ hf (by omega) (by omega)
      · rw [if_neg h64] at hf
        refine wa_aload_n X 2 dX4_readClause_69 rfl ?_
        refine wa_aload X 0 dX4_readClause_70 rfl ?_
        obtain ⟨h65, hf⟩ := jckT hf
        obtain ⟨r66, μ67, c68, m69, c70, m71, e72, hf, h73, h74⟩ := jcl_some hf
        refine wa_rcallV (st2 := [.int r66]) X dX4_readClause_72 lmX4_168 lMX4_readTail rfl h65 (mX4_readTail e72) rfl rfl rfl (va_cats (Nat.le_of_ble_eq_true rfl)) (by decide) (by omega) (by omega) ?_
        refine wa_ifeq (tgt := 82) X dX4_readClause_75 (by decide) (fun h75 => ?_) (fun h75 => ?_)
        · rw [if_pos h75] at hf
          refine wa_sub (L2 := [(0, va_rf (some a)), (3, .int (jI μ5 q8 4)), (4, va_rf (some q11))]) [2, 1, 0] rfl ?_
          exact gX4_readClause_b82 X a (jI μ5 q8 4) (some q11) μ67 _ _ _ _ hf (by omega) (by omega)
        · rw [if_neg h75] at hf
          refine wa_iconst (v := (1 : Int32)) X dX4_readClause_78 (by decide) ?_
          refine wa_goto (tgt := 83) X dX4_readClause_79 (by decide) ?_
          refine wa_sub (L2 := [(0, va_rf (some a)), (3, .int (jI μ5 q8 4)), (4, va_rf (some q11))]) [2, 1, 0] rfl ?_
          exact gX4_readClause_b83 X a (jI μ5 q8 4) (some q11) (1 : Int32) μ67 _ _ _ _ hf (by omega) (by omega)
  · rw [if_pos h42] at hf
    refine wa_aload_n X 2 dX4_readClause_41 rfl ?_
    refine wa_aload X 0 dX4_readClause_42 rfl ?_
    obtain ⟨h76, hf⟩ := jckT hf
    obtain ⟨r77, μ78, c79, m80, c81, m82, e83, hf, h84, h85⟩ := jcl_some hf
    refine wa_rcallV (st2 := [.int r77]) X dX4_readClause_44 lmX4_157 lMX4_readDefine rfl h76 (mX4_readDefine e83) rfl rfl rfl (va_cats (Nat.le_of_ble_eq_true rfl)) (by decide) (by omega) (by omega) ?_
    refine wa_goto (tgt := 83) X dX4_readClause_47 (by decide) ?_
    refine wa_sub (L2 := [(0, va_rf (some a)), (3, .int (jI μ5 q8 4)), (4, va_rf (some q11))]) [2, 1, 0] rfl ?_
    exact gX4_readClause_b83 X a (jI μ5 q8 4) (some q11) r77 μ78 _ _ _ _ hf (by omega) (by omega)
theorem dX4_readVersion_0 : decode cX4_readVersion 0 = .ok (.aload_n 0, 1) := by decide +kernel
theorem dX4_readVersion_1 : decode cX4_readVersion 1 = .ok (.getfield 19, 3) := by decide +kernel
theorem dX4_readVersion_4 : decode cX4_readVersion 4 = .ok (.getfield 87, 3) := by decide +kernel
theorem dX4_readVersion_7 : decode cX4_readVersion 7 = .ok (.istore_n 2, 1) := by decide +kernel
theorem dX4_readVersion_8 : decode cX4_readVersion 8 = .ok (.aload_n 0, 1) := by decide +kernel
theorem dX4_readVersion_9 : decode cX4_readVersion 9 = .ok (.getfield 22, 3) := by decide +kernel
theorem dX4_readVersion_12 : decode cX4_readVersion 12 = .ok (.getfield 87, 3) := by decide +kernel
theorem dX4_readVersion_15 : decode cX4_readVersion 15 = .ok (.istore_n 3, 1) := by decide +kernel
theorem dX4_readVersion_16 : decode cX4_readVersion 16 = .ok (.new 91, 3) := by decide +kernel
theorem dX4_readVersion_19 : decode cX4_readVersion 19 = .ok (.dup, 1) := by decide +kernel
theorem dX4_readVersion_20 : decode cX4_readVersion 20 = .ok (.bipush 24, 2) := by decide +kernel
theorem dX4_readVersion_22 : decode cX4_readVersion 22 = .ok (.iload_n 1, 1) := by decide +kernel
theorem dX4_readVersion_23 : decode cX4_readVersion 23 = .ok (.invokespecial 93, 3) := by decide +kernel
theorem dX4_readVersion_26 : decode cX4_readVersion 26 = .ok (.astore 4, 2) := by decide +kernel
theorem dX4_readVersion_28 : decode cX4_readVersion 28 = .ok (.iconst 1, 1) := by decide +kernel
theorem dX4_readVersion_29 : decode cX4_readVersion 29 = .ok (.istore 5, 2) := by decide +kernel
theorem dX4_readVersion_31 : decode cX4_readVersion 31 = .ok (.iconst 0, 1) := by decide +kernel
theorem dX4_readVersion_32 : decode cX4_readVersion 32 = .ok (.istore 6, 2) := by decide +kernel
theorem dX4_readVersion_34 : decode cX4_readVersion 34 = .ok (.iload 6, 2) := by decide +kernel
theorem dX4_readVersion_36 : decode cX4_readVersion 36 = .ok (.bipush 24, 2) := by decide +kernel
theorem dX4_readVersion_38 : decode cX4_readVersion 38 = .ok (.if_icmp .gt 69, 3) := by decide +kernel
theorem dX4_readVersion_41 : decode cX4_readVersion 41 = .ok (.iload 5, 2) := by decide +kernel
theorem dX4_readVersion_43 : decode cX4_readVersion 43 = .ok (.ifCond .eq 64, 3) := by decide +kernel
theorem dX4_readVersion_46 : decode cX4_readVersion 46 = .ok (.aload 4, 2) := by decide +kernel
theorem dX4_readVersion_48 : decode cX4_readVersion 48 = .ok (.aload_n 0, 1) := by decide +kernel
theorem dX4_readVersion_49 : decode cX4_readVersion 49 = .ok (.aload 4, 2) := by decide +kernel
theorem dX4_readVersion_51 : decode cX4_readVersion 51 = .ok (.iconst 0, 1) := by decide +kernel
theorem dX4_readVersion_52 : decode cX4_readVersion 52 = .ok (.invokevirtual 96, 3) := by decide +kernel
theorem dX4_readVersion_55 : decode cX4_readVersion 55 = .ok (.invokevirtual 100, 3) := by decide +kernel
theorem dX4_readVersion_58 : decode cX4_readVersion 58 = .ok (.aload_n 0, 1) := by decide +kernel
theorem dX4_readVersion_59 : decode cX4_readVersion 59 = .ok (.getfield 9, 3) := by decide +kernel
theorem dX4_readVersion_62 : decode cX4_readVersion 62 = .ok (.getfield 103, 3) := by decide +kernel
theorem dX4_readVersion_65 : decode cX4_readVersion 65 = .ok (.ifCond .ne 21, 3) := by decide +kernel
theorem dX4_readVersion_68 : decode cX4_readVersion 68 = .ok (.aload_n 0, 1) := by decide +kernel
theorem dX4_readVersion_69 : decode cX4_readVersion 69 = .ok (.getfield 9, 3) := by decide +kernel
theorem dX4_readVersion_72 : decode cX4_readVersion 72 = .ok (.invokevirtual 34, 3) := by decide +kernel
theorem dX4_readVersion_75 : decode cX4_readVersion 75 = .ok (.ldc2_w 106, 3) := by decide +kernel
theorem dX4_readVersion_78 : decode cX4_readVersion 78 = .ok (.lcmp, 1) := by decide +kernel
theorem dX4_readVersion_79 : decode cX4_readVersion 79 = .ok (.ifCond .ne 7, 3) := by decide +kernel
theorem dX4_readVersion_82 : decode cX4_readVersion 82 = .ok (.iconst 1, 1) := by decide +kernel
theorem dX4_readVersion_83 : decode cX4_readVersion 83 = .ok (.goto 4, 3) := by decide +kernel
theorem dX4_readVersion_86 : decode cX4_readVersion 86 = .ok (.iconst 0, 1) := by decide +kernel
theorem dX4_readVersion_87 : decode cX4_readVersion 87 = .ok (.istore 5, 2) := by decide +kernel
theorem dX4_readVersion_89 : decode cX4_readVersion 89 = .ok (.iload 5, 2) := by decide +kernel
theorem dX4_readVersion_91 : decode cX4_readVersion 91 = .ok (.ifCond .eq 10, 3) := by decide +kernel
theorem dX4_readVersion_94 : decode cX4_readVersion 94 = .ok (.aload_n 0, 1) := by decide +kernel
theorem dX4_readVersion_95 : decode cX4_readVersion 95 = .ok (.getfield 9, 3) := by decide +kernel
theorem dX4_readVersion_98 : decode cX4_readVersion 98 = .ok (.invokevirtual 68, 3) := by decide +kernel
theorem dX4_readVersion_101 : decode cX4_readVersion 101 = .ok (.iinc 6 1, 3) := by decide +kernel
theorem dX4_readVersion_104 : decode cX4_readVersion 104 = .ok (.goto (-70), 3) := by decide +kernel
theorem dX4_readVersion_107 : decode cX4_readVersion 107 = .ok (.aload_n 0, 1) := by decide +kernel
theorem dX4_readVersion_108 : decode cX4_readVersion 108 = .ok (.getfield 9, 3) := by decide +kernel
theorem dX4_readVersion_111 : decode cX4_readVersion 111 = .ok (.getfield 103, 3) := by decide +kernel
theorem dX4_readVersion_114 : decode cX4_readVersion 114 = .ok (.ifCond .ne 22, 3) := by decide +kernel
theorem dX4_readVersion_117 : decode cX4_readVersion 117 = .ok (.aload_n 0, 1) := by decide +kernel
theorem dX4_readVersion_118 : decode cX4_readVersion 118 = .ok (.getfield 9, 3) := by decide +kernel
theorem dX4_readVersion_121 : decode cX4_readVersion 121 = .ok (.lconst 0, 1) := by decide +kernel
theorem dX4_readVersion_122 : decode cX4_readVersion 122 = .ok (.invokevirtual 84, 3) := by decide +kernel
theorem dX4_readVersion_125 : decode cX4_readVersion 125 = .ok (.ifCond .eq 11, 3) := by decide +kernel
theorem dX4_readVersion_128 : decode cX4_readVersion 128 = .ok (.aload 4, 2) := by decide +kernel
theorem dX4_readVersion_130 : decode cX4_readVersion 130 = .ok (.invokevirtual 108, 3) := by decide +kernel
theorem dX4_readVersion_133 : decode cX4_readVersion 133 = .ok (.aload 4, 2) := by decide +kernel
theorem dX4_readVersion_135 : decode cX4_readVersion 135 = .ok (.areturn, 1) := by decide +kernel
theorem dX4_readVersion_136 : decode cX4_readVersion 136 = .ok (.aload_n 0, 1) := by decide +kernel
theorem dX4_readVersion_137 : decode cX4_readVersion 137 = .ok (.getfield 19, 3) := by decide +kernel
theorem dX4_readVersion_140 : decode cX4_readVersion 140 = .ok (.iload_n 2, 1) := by decide +kernel
theorem dX4_readVersion_141 : decode cX4_readVersion 141 = .ok (.invokevirtual 44, 3) := by decide +kernel
theorem dX4_readVersion_144 : decode cX4_readVersion 144 = .ok (.aload_n 0, 1) := by decide +kernel
theorem dX4_readVersion_145 : decode cX4_readVersion 145 = .ok (.getfield 22, 3) := by decide +kernel
theorem dX4_readVersion_148 : decode cX4_readVersion 148 = .ok (.iload_n 3, 1) := by decide +kernel
theorem dX4_readVersion_149 : decode cX4_readVersion 149 = .ok (.invokevirtual 44, 3) := by decide +kernel
theorem dX4_readVersion_152 : decode cX4_readVersion 152 = .ok (.aconst_null, 1) := by decide +kernel
theorem dX4_readVersion_153 : decode cX4_readVersion 153 = .ok (.areturn, 1) := by decide +kernel
def fX4_readVersion_b101 (rec34 : Nat → Int32 → Int32 → Option Nat → Int32 → Int32 → JM → JO (Option Nat)) (a : Nat) (x2 : Int32) (x3 : Int32) (p4 : Option Nat) (x5 : Int32) (x6 : Int32) (μ : JM) : JO (Option Nat) := rec34 a x2 x3 p4 x5 (x6 + (1 : Int32)) μ
set_option maxHeartbeats 4000000 in
set_option maxRecDepth 100000 in
theorem gX4_readVersion_b101 {b : Nat} {Θ : JE} {RC RS : Nat} {r : Option Nat} {ν : JM} (X : jX b Θ RX4 cX4_readVersion 7 (some (.object "ClauseBench$Version")) 5 152 RC RS) {rec34 : Nat → Int32 → Int32 → Option Nat → Int32 → Int32 → JM → JO (Option Nat)} (hrec34 : ∀ (a : Nat) (x2 : Int32) (x3 : Int32) (p4 : Option Nat) (x5 : Int32) (x6 : Int32) (μ : JM) (c m k n : Nat), rec34 a x2 x3 p4 x5 x6 μ = some (r, ν, c, m) → k + c = RC → n + m = RS → WA b Θ 7 (jE b Θ (some (va_rf r)) ν RC RS) μ k n 34 [(0, va_rf (some a)), (2, .int x2), (3, .int x3), (4, va_rf p4), (5, .int x5), (6, .int x6)] []) (a : Nat) (x2 : Int32) (x3 : Int32) (p4 : Option Nat) (x5 : Int32) (x6 : Int32) (μ : JM) (c m k n : Nat) (hf : fX4_readVersion_b101 rec34 a x2 x3 p4 x5 x6 μ = some (r, ν, c, m)) (hk : k + c = RC) (hn : n + m = RS) : WA b Θ 7 (jE b Θ (some (va_rf r)) ν RC RS) μ k n 101 [(0, va_rf (some a)), (2, .int x2), (3, .int x3), (4, va_rf p4), (5, .int x5), (6, .int x6)] [] := by
  rw [fX4_readVersion_b101] at hf
  refine wa_iinc (v := (x6 + (1 : Int32))) (L2 := [(6, .int (x6 + (1 : Int32))), (0, va_rf (some a)), (2, .int x2), (3, .int x3), (4, va_rf p4), (5, .int x5)]) X 5 dX4_readVersion_101 rfl rfl (by decide) (by first | rfl | simp [va_rf_cat, cat_i, cat_l]) ?_
  refine wa_goto (tgt := 34) X dX4_readVersion_104 (by decide) ?_
  refine wa_sub (L2 := [(0, va_rf (some a)), (2, .int x2), (3, .int x3), (4, va_rf p4), (5, .int x5), (6, .int (x6 + (1 : Int32)))]) [1, 2, 3, 4, 5, 0] rfl ?_
  exact hrec34 a x2 x3 p4 x5 (x6 + (1 : Int32)) μ _ _ _ _ hf (by omega) (by omega)
def fX4_readVersion_b87 (rec34 : Nat → Int32 → Int32 → Option Nat → Int32 → Int32 → JM → JO (Option Nat)) (a : Nat) (x2 : Int32) (x3 : Int32) (p4 : Option Nat) (x6 : Int32) (s0 : Int32) (μ : JM) : JO (Option Nat) := if s0 = 0 then (fX4_readVersion_b101 rec34 a x2 x3 p4 s0 x6 μ) else (jck ((jT μ a).1 == 5) <| jde (jP μ a 0) fun q67 => jck ((jT μ q67).1 == 8) <| jcl (fX7_step q67 μ) fun u70 μ71 => fX4_readVersion_b101 rec34 a x2 x3 p4 s0 x6 μ71)
set_option maxHeartbeats 4000000 in
set_option maxRecDepth 100000 in
theorem gX4_readVersion_b87 {b : Nat} {Θ : JE} {RC RS : Nat} {r : Option Nat} {ν : JM} (X : jX b Θ RX4 cX4_readVersion 7 (some (.object "ClauseBench$Version")) 5 152 RC RS) {rec34 : Nat → Int32 → Int32 → Option Nat → Int32 → Int32 → JM → JO (Option Nat)} (hrec34 : ∀ (a : Nat) (x2 : Int32) (x3 : Int32) (p4 : Option Nat) (x5 : Int32) (x6 : Int32) (μ : JM) (c m k n : Nat), rec34 a x2 x3 p4 x5 x6 μ = some (r, ν, c, m) → k + c = RC → n + m = RS → WA b Θ 7 (jE b Θ (some (va_rf r)) ν RC RS) μ k n 34 [(0, va_rf (some a)), (2, .int x2), (3, .int x3), (4, va_rf p4), (5, .int x5), (6, .int x6)] []) (a : Nat) (x2 : Int32) (x3 : Int32) (p4 : Option Nat) (x6 : Int32) (s0 : Int32) (μ : JM) (c m k n : Nat) (hf : fX4_readVersion_b87 rec34 a x2 x3 p4 x6 s0 μ = some (r, ν, c, m)) (hk : k + c = RC) (hn : n + m = RS) : WA b Θ 7 (jE b Θ (some (va_rf r)) ν RC RS) μ k n 87 [(0, va_rf (some a)), (2, .int x2), (3, .int x3), (4, va_rf p4), (6, .int x6)] [.int s0] := by
  rw [fX4_readVersion_b87] at hf
  refine wa_istore (L2 := [(5, .int s0), (0, va_rf (some a)), (2, .int x2), (3, .int x3), (4, va_rf p4), (6, .int x6)]) X dX4_readVersion_87 (by decide) (by first | rfl | (show (5, _) :: List.filter (fun q : Nat × Value => !(q.1 == 5) && !(q.1 + 1 == 5 && q.2.category == 2)) _ = _; simp [va_rf_cat, cat_i, cat_l])) ?_
  refine wa_iload X 0 dX4_readVersion_89 rfl ?_
  refine wa_ifeq (tgt := 101) X dX4_readVersion_91 (by decide) (fun h65 => ?_) (fun h65 => ?_)
  · rw [if_pos h65] at hf
    refine wa_sub (L2 := [(0, va_rf (some a)), (2, .int x2), (3, .int x3), (4, va_rf p4), (5, .int s0), (6, .int x6)]) [1, 2, 3, 4, 0, 5] rfl ?_
    exact gX4_readVersion_b101 X hrec34 a x2 x3 p4 s0 x6 μ _ _ _ _ hf (by omega) (by omega)
  · rw [if_neg h65] at hf
    refine wa_aload_n X 1 dX4_readVersion_94 rfl ?_
    obtain ⟨h66, hf⟩ := jckT hf
    refine wa_getP X dX4_readVersion_95 lfX4_9 rfl h66 rfl ?_
    obtain ⟨q67, h68, hf⟩ := jde_some hf
    obtain ⟨h69, hf⟩ := jckT hf
    obtain ⟨u70, μ71, c72, m73, c74, m75, e76, hf, h77, h78⟩ := jcl_some hf
    refine wa_rcallV (st2 := []) X dX4_readVersion_98 lmX4_68 lMX7_step h68 h69 (mX7_step e76) rfl rfl rfl (va_cats (Nat.le_of_ble_eq_true rfl)) (by decide) (by omega) (by omega) ?_
    refine wa_sub (L2 := [(0, va_rf (some a)), (2, .int x2), (3, .int x3), (4, va_rf p4), (5, .int s0), (6, .int x6)]) [1, 2, 3, 4, 0, 5] rfl ?_
    exact gX4_readVersion_b101 X hrec34 a x2 x3 p4 s0 x6 μ71 _ _ _ _ hf (by omega) (by omega)
def fX4_readVersion_b86 (rec34 : Nat → Int32 → Int32 → Option Nat → Int32 → Int32 → JM → JO (Option Nat)) (a : Nat) (x2 : Int32) (x3 : Int32) (p4 : Option Nat) (x6 : Int32) (μ : JM) : JO (Option Nat) := fX4_readVersion_b87 rec34 a x2 x3 p4 x6 (0 : Int32) μ
set_option maxHeartbeats 4000000 in
set_option maxRecDepth 100000 in
theorem gX4_readVersion_b86 {b : Nat} {Θ : JE} {RC RS : Nat} {r : Option Nat} {ν : JM} (X : jX b Θ RX4 cX4_readVersion 7 (some (.object "ClauseBench$Version")) 5 152 RC RS) {rec34 : Nat → Int32 → Int32 → Option Nat → Int32 → Int32 → JM → JO (Option Nat)} (hrec34 : ∀ (a : Nat) (x2 : Int32) (x3 : Int32) (p4 : Option Nat) (x5 : Int32) (x6 : Int32) (μ : JM) (c m k n : Nat), rec34 a x2 x3 p4 x5 x6 μ = some (r, ν, c, m) → k + c = RC → n + m = RS → WA b Θ 7 (jE b Θ (some (va_rf r)) ν RC RS) μ k n 34 [(0, va_rf (some a)), (2, .int x2), (3, .int x3), (4, va_rf p4), (5, .int x5), (6, .int x6)] []) (a : Nat) (x2 : Int32) (x3 : Int32) (p4 : Option Nat) (x6 : Int32) (μ : JM) (c m k n : Nat) (hf : fX4_readVersion_b86 rec34 a x2 x3 p4 x6 μ = some (r, ν, c, m)) (hk : k + c = RC) (hn : n + m = RS) : WA b Θ 7 (jE b Θ (some (va_rf r)) ν RC RS) μ k n 86 [(0, va_rf (some a)), (2, .int x2), (3, .int x3), (4, va_rf p4), (6, .int x6)] [] := by
  rw [fX4_readVersion_b86] at hf
  refine wa_iconst (v := (0 : Int32)) X dX4_readVersion_86 (by decide) ?_
  refine wa_sub (L2 := [(0, va_rf (some a)), (2, .int x2), (3, .int x3), (4, va_rf p4), (6, .int x6)]) [0, 1, 2, 3, 4] rfl ?_
  exact gX4_readVersion_b87 X hrec34 a x2 x3 p4 x6 (0 : Int32) μ _ _ _ _ hf (by omega) (by omega)
def fX4_readVersion_b136 (a : Nat) (x2 : Int32) (x3 : Int32) (μ : JM) : JO (Option Nat) := jck ((jT μ a).1 == 5) <| jde (jP μ a 2) fun q107 => jck ((jT μ q107).1 == 10) <| jcl (fX9_cut q107 x2 μ) fun u110 μ111 => jck ((jT μ111 a).1 == 5) <| jde (jP μ111 a 3) fun q120 => jck ((jT μ111 q120).1 == 10) <| jcl (fX9_cut q120 x3 μ111) fun u123 μ124 => some (none, μ124, 0, 0)
set_option maxHeartbeats 4000000 in
set_option maxRecDepth 100000 in
theorem gX4_readVersion_b136 {b : Nat} {Θ : JE} {RC RS : Nat} {r : Option Nat} {ν : JM} (X : jX b Θ RX4 cX4_readVersion 7 (some (.object "ClauseBench$Version")) 5 152 RC RS) (a : Nat) (x2 : Int32) (x3 : Int32) (μ : JM) (c m k n : Nat) (hf : fX4_readVersion_b136 a x2 x3 μ = some (r, ν, c, m)) (hk : k + c = RC) (hn : n + m = RS) : WA b Θ 7 (jE b Θ (some (va_rf r)) ν RC RS) μ k n 136 [(0, va_rf (some a)), (2, .int x2), (3, .int x3)] [] := by
  rw [fX4_readVersion_b136] at hf
  refine wa_aload_n X 0 dX4_readVersion_136 rfl ?_
  obtain ⟨h106, hf⟩ := jckT hf
  refine wa_getP X dX4_readVersion_137 lfX4_19 rfl h106 rfl ?_
  refine wa_iload_n X 1 dX4_readVersion_140 rfl ?_
  obtain ⟨q107, h108, hf⟩ := jde_some hf
  obtain ⟨h109, hf⟩ := jckT hf
  obtain ⟨u110, μ111, c112, m113, c114, m115, e116, hf, h117, h118⟩ := jcl_some hf
  refine wa_rcallV (st2 := []) X dX4_readVersion_141 lmX4_44 lMX9_cut h108 h109 (mX9_cut e116) rfl rfl rfl (va_cats (Nat.le_of_ble_eq_true rfl)) (by decide) (by omega) (by omega) ?_
  refine wa_aload_n X 0 dX4_readVersion_144 rfl ?_
  obtain ⟨h119, hf⟩ := jckT hf
  refine wa_getP X dX4_readVersion_145 lfX4_22 rfl h119 rfl ?_
  refine wa_iload_n X 2 dX4_readVersion_148 rfl ?_
  obtain ⟨q120, h121, hf⟩ := jde_some hf
  obtain ⟨h122, hf⟩ := jckT hf
  obtain ⟨u123, μ124, c125, m126, c127, m128, e129, hf, h130, h131⟩ := jcl_some hf
  refine wa_rcallV (st2 := []) X dX4_readVersion_149 lmX4_44 lMX9_cut h121 h122 (mX9_cut e129) rfl rfl rfl (va_cats (Nat.le_of_ble_eq_true rfl)) (by decide) (by omega) (by omega) ?_
  refine wa_null X dX4_readVersion_152 ?_
  obtain ⟨rfl, rfl, rfl, rfl⟩ := jret hf
  exact wa_aret X dX4_readVersion_153 (by first | exact Or.inl ⟨_, rfl⟩ | exact Or.inr ⟨_, rfl⟩) (by omega) (by omega)
def fX4_readVersion_b107 (a : Nat) (x2 : Int32) (x3 : Int32) (p4 : Option Nat) (μ : JM) : JO (Option Nat) := jck ((jT μ a).1 == 5) <| jde (jP μ a 0) fun q80 => jck ((jT μ q80).1 == 8) <| if (jI μ q80 5) = 0 then (jcl (fX7_take q80 (0 : Int64) μ) fun r84 μ85 => if r84 = 0 then (fX4_readVersion_b136  a x2 x3 μ85) else (jde p4 fun q94 => jck ((jT μ85 q94).1 == 9) <| jcl (fX8_settle q94 μ85) fun u97 μ98 => some (p4, μ98, 0, 0))) else (fX4_readVersion_b136  a x2 x3 μ)
set_option maxHeartbeats 4000000 in
set_option maxRecDepth 100000 in
theorem gX4_readVersion_b107 {b : Nat} {Θ : JE} {RC RS : Nat} {r : Option Nat} {ν : JM} (X : jX b Θ RX4 cX4_readVersion 7 (some (.object "ClauseBench$Version")) 5 152 RC RS) (a : Nat) (x2 : Int32) (x3 : Int32) (p4 : Option Nat) (μ : JM) (c m k n : Nat) (hf : fX4_readVersion_b107 a x2 x3 p4 μ = some (r, ν, c, m)) (hk : k + c = RC) (hn : n + m = RS) : WA b Θ 7 (jE b Θ (some (va_rf r)) ν RC RS) μ k n 107 [(0, va_rf (some a)), (2, .int x2), (3, .int x3), (4, va_rf p4)] [] := by
  rw [fX4_readVersion_b107] at hf
  refine wa_aload_n X 0 dX4_readVersion_107 rfl ?_
  obtain ⟨h79, hf⟩ := jckT hf
  refine wa_getP X dX4_readVersion_108 lfX4_9 rfl h79 rfl ?_
  obtain ⟨q80, h81, hf⟩ := jde_some hf
  obtain ⟨h82, hf⟩ := jckT hf
  refine wa_getI X dX4_readVersion_111 lfX4_103 h81 h82 rfl ?_
  refine wa_ifne (tgt := 136) X dX4_readVersion_114 (by decide) (fun h83 => ?_) (fun h83 => ?_)
  · rw [if_neg h83] at hf
    refine wa_sub (L2 := [(0, va_rf (some a)), (2, .int x2), (3, .int x3)]) [0, 1, 2] rfl ?_
    exact gX4_readVersion_b136 X a x2 x3 μ _ _ _ _ hf (by omega) (by omega)
  · rw [if_pos h83] at hf
    refine wa_aload_n X 0 dX4_readVersion_117 rfl ?_
    refine wa_getP X dX4_readVersion_118 lfX4_9 rfl h79 rfl ?_
    refine wa_lconst (v := (0 : Int64)) X dX4_readVersion_121 (by decide) ?_
    obtain ⟨r84, μ85, c86, m87, c88, m89, e90, hf, h91, h92⟩ := jcl_some hf
    refine wa_rcallV (st2 := [.int r84]) X dX4_readVersion_122 lmX4_84 lMX7_take h81 h82 (mX7_take e90) rfl rfl rfl (va_cats (Nat.le_of_ble_eq_true rfl)) (by decide) (by omega) (by omega) ?_
    refine wa_ifeq (tgt := 136) X dX4_readVersion_125 (by decide) (fun h93 => ?_) (fun h93 => ?_)
    · rw [if_pos h93] at hf
      refine wa_sub (L2 := [(0, va_rf (some a)), (2, .int x2), (3, .int x3)]) [0, 1, 2] rfl ?_
      exact gX4_readVersion_b136 X a x2 x3 μ85 _ _ _ _ hf (by omega) (by omega)
    · rw [if_neg h93] at hf
      refine wa_aload X 3 dX4_readVersion_128 rfl ?_
      obtain ⟨q94, h95, hf⟩ := jde_some hf
      obtain ⟨h96, hf⟩ := jckT hf
      obtain ⟨u97, μ98, c99, m100, c101, m102, e103, hf, h104, h105⟩ := jcl_some hf
      refine wa_rcallV (st2 := []) X dX4_readVersion_130 lmX4_108 lMX8_settle h95 h96 (mX8_settle e103) rfl rfl rfl (va_cats (Nat.le_of_ble_eq_true rfl)) (by decide) (by omega) (by omega) ?_
      refine wa_aload X 3 dX4_readVersion_133 rfl ?_
      obtain ⟨rfl, rfl, rfl, rfl⟩ := jret hf
      exact wa_aret X dX4_readVersion_135 (by first | exact Or.inl ⟨_, rfl⟩ | exact Or.inr ⟨_, rfl⟩) (by omega) (by omega)
def fX4_readVersion_b34 : Nat → Nat → Int32 → Int32 → Option Nat → Int32 → Int32 → JM → JO (Option Nat)
  | 0, _, _, _, _, _, _, _ => none
  | fu + 1, a, x2, x3, p4, x5, x6, μ => if (24 : Int32) < x6 then (fX4_readVersion_b107  a x2 x3 p4 μ) else (if x5 = 0 then (fX4_readVersion_b107  a x2 x3 p4 μ) else (jck ((jT μ a).1 == 5) <| jcl (fX4_readClause a p4 (0 : Int32) μ) fun r29 μ30 => jde p4 fun q38 => jck ((jT μ30 q38).1 == 9) <| jcl (fX8_add q38 r29 μ30) fun u41 μ42 => jck ((jT μ42 a).1 == 5) <| jde (jP μ42 a 0) fun q51 => jck ((jT μ42 q51).1 == 8) <| if (jI μ42 q51 5) = 0 then (jcl (fX7_token q51 μ42) fun r55 μ56 => if (lg_cmp r55 (-60 : Int64)) = 0 then (fX4_readVersion_b87 (fX4_readVersion_b34 fu) a x2 x3 p4 x6 (1 : Int32) μ56) else (fX4_readVersion_b86 (fX4_readVersion_b34 fu) a x2 x3 p4 x6 μ56)) else (fX4_readVersion_b86 (fX4_readVersion_b34 fu) a x2 x3 p4 x6 μ42)))
set_option maxHeartbeats 4000000 in
set_option maxRecDepth 100000 in
theorem gX4_readVersion_b34 {b : Nat} {Θ : JE} {RC RS : Nat} {r : Option Nat} {ν : JM} (X : jX b Θ RX4 cX4_readVersion 7 (some (.object "ClauseBench$Version")) 5 152 RC RS) : ∀ (fu : Nat) (a : Nat) (x2 : Int32) (x3 : Int32) (p4 : Option Nat) (x5 : Int32) (x6 : Int32) (μ : JM) (c m k n : Nat), fX4_readVersion_b34 fu a x2 x3 p4 x5 x6 μ = some (r, ν, c, m) → k + c = RC → n + m = RS → WA b Θ 7 (jE b Θ (some (va_rf r)) ν RC RS) μ k n 34 [(0, va_rf (some a)), (2, .int x2), (3, .int x3), (4, va_rf p4), (5, .int x5), (6, .int x6)] [] := by
  intro fu
  induction fu with
  | zero => intro a x2 x3 p4 x5 x6 μ c m k n hf; cases hf
  | succ fu ih =>
    intro a x2 x3 p4 x5 x6 μ c m k n hf hk hn
    rw [fX4_readVersion_b34] at hf
    refine wa_iload X 5 dX4_readVersion_34 rfl ?_
    refine wa_bipush (v := (24 : Int32)) X dX4_readVersion_36 (by decide) ?_
    refine wa_icgt (tgt := 107) X dX4_readVersion_38 (by decide) (fun h26 => ?_) (fun h26 => ?_)
    · rw [if_pos h26] at hf
      refine wa_sub (L2 := [(0, va_rf (some a)), (2, .int x2), (3, .int x3), (4, va_rf p4)]) [0, 1, 2, 3] rfl ?_
      exact gX4_readVersion_b107 X a x2 x3 p4 μ _ _ _ _ hf (by omega) (by omega)
    · rw [if_neg h26] at hf
      refine wa_iload X 4 dX4_readVersion_41 rfl ?_
      refine wa_ifeq (tgt := 107) X dX4_readVersion_43 (by decide) (fun h27 => ?_) (fun h27 => ?_)
      · rw [if_pos h27] at hf
        refine wa_sub (L2 := [(0, va_rf (some a)), (2, .int x2), (3, .int x3), (4, va_rf p4)]) [0, 1, 2, 3] rfl ?_
        exact gX4_readVersion_b107 X a x2 x3 p4 μ _ _ _ _ hf (by omega) (by omega)
      · rw [if_neg h27] at hf
        refine wa_aload X 3 dX4_readVersion_46 rfl ?_
        refine wa_aload_n X 0 dX4_readVersion_48 rfl ?_
        refine wa_aload X 3 dX4_readVersion_49 rfl ?_
        refine wa_iconst (v := (0 : Int32)) X dX4_readVersion_51 (by decide) ?_
        obtain ⟨h28, hf⟩ := jckT hf
        obtain ⟨r29, μ30, c31, m32, c33, m34, e35, hf, h36, h37⟩ := jcl_some hf
        refine wa_rcallV (st2 := [va_rf r29, va_rf p4]) X dX4_readVersion_52 lmX4_96 lMX4_readClause rfl h28 (mX4_readClause e35) rfl rfl rfl (va_cats (Nat.le_of_ble_eq_true rfl)) (by decide) (by omega) (by omega) ?_
        obtain ⟨q38, h39, hf⟩ := jde_some hf
        obtain ⟨h40, hf⟩ := jckT hf
        obtain ⟨u41, μ42, c43, m44, c45, m46, e47, hf, h48, h49⟩ := jcl_some hf
        refine wa_rcallV (st2 := []) X dX4_readVersion_55 lmX4_100 lMX8_add h39 h40 (mX8_add e47) rfl rfl rfl (va_cats (Nat.le_of_ble_eq_true rfl)) (by decide) (by omega) (by omega) ?_
        refine wa_aload_n X 0 dX4_readVersion_58 rfl ?_
        obtain ⟨h50, hf⟩ := jckT hf
        refine wa_getP X dX4_readVersion_59 lfX4_9 rfl h50 rfl ?_
        obtain ⟨q51, h52, hf⟩ := jde_some hf
        obtain ⟨h53, hf⟩ := jckT hf
        refine wa_getI X dX4_readVersion_62 lfX4_103 h52 h53 rfl ?_
        refine wa_ifne (tgt := 86) X dX4_readVersion_65 (by decide) (fun h54 => ?_) (fun h54 => ?_)
        · rw [if_neg h54] at hf
          refine wa_sub (L2 := [(0, va_rf (some a)), (2, .int x2), (3, .int x3), (4, va_rf p4), (6, .int x6)]) [0, 1, 2, 3, 5] rfl ?_
          exact gX4_readVersion_b86 X ih a x2 x3 p4 x6 μ42 _ _ _ _ hf (by omega) (by omega)
        · rw [if_pos h54] at hf
          refine wa_aload_n X 0 dX4_readVersion_68 rfl ?_
          refine wa_getP X dX4_readVersion_69 lfX4_9 rfl h50 rfl ?_
          obtain ⟨r55, μ56, c57, m58, c59, m60, e61, hf, h62, h63⟩ := jcl_some hf
          refine wa_rcallV (st2 := [.long r55]) X dX4_readVersion_72 lmX4_34 lMX7_token h52 h53 (mX7_token e61) rfl rfl rfl (va_cats (Nat.le_of_ble_eq_true rfl)) (by decide) (by omega) (by omega) ?_
          refine wa_ldc2 (v := (-60 : Int64)) X dX4_readVersion_75 lkX4_106 ?_
          refine wa_lcmp X dX4_readVersion_78 ?_
          refine wa_ifne (tgt := 86) X dX4_readVersion_79 (by decide) (fun h64 => ?_) (fun h64 => ?_)
          · rw [if_neg h64] at hf
            refine wa_sub (L2 := [(0, va_rf (some a)), (2, .int x2), (3, .int x3), (4, va_rf p4), (6, .int x6)]) [0, 1, 2, 3, 5] rfl ?_
            exact gX4_readVersion_b86 X ih a x2 x3 p4 x6 μ56 _ _ _ _ hf (by omega) (by omega)
          · rw [if_pos h64] at hf
            refine wa_iconst (v := (1 : Int32)) X dX4_readVersion_82 (by decide) ?_
            refine wa_goto (tgt := 87) X dX4_readVersion_83 (by decide) ?_
            refine wa_sub (L2 := [(0, va_rf (some a)), (2, .int x2), (3, .int x3), (4, va_rf p4), (6, .int x6)]) [0, 1, 2, 3, 5] rfl ?_
            exact gX4_readVersion_b87 X ih a x2 x3 p4 x6 (1 : Int32) μ56 _ _ _ _ hf (by omega) (by omega)
def fX4_readVersion (a : Nat) (x1 : Int32) (μ : JM) : JO (Option Nat) := jck ((jT μ a).1 == 5) <| jde (jP μ a 2) fun q2 => jck ((jT μ q2).1 == 10) <| jde (jP μ a 3) fun q5 => jck ((jT μ q5).1 == 10) <| jnwo μ 9 3 fun q8 μ9 => jcl (fX8_init q8 (24 : Int32) x1 μ9) fun u17 μ18 => fX4_readVersion_b34  jfuel a (jI μ q2 1) (jI μ q5 1) (some q8) (1 : Int32) (0 : Int32) μ18
set_option maxHeartbeats 4000000 in
set_option maxRecDepth 100000 in
theorem mX4_readVersion {b : Nat} {a : Nat} {x1 : Int32} {μ : JM} {r : Option Nat} {ν : JM} {c m : Nat} (hf : fX4_readVersion a x1 μ = some (r, ν, c, m)) : JMet b yX4_readVersion cX4_readVersion 7 (some (.object "ClauseBench$Version")) 5 152 [va_rf (some a), .int x1] μ (some (va_rf r)) ν c m := by
  refine JMet.of (by decide) (lg_sl_le (by simp only [List.map_cons, List.map_nil, List.sum_cons, List.sum_nil, va_rf_cat]; exact Nat.le_of_ble_eq_true rfl)) (fun Θ X hin => ?_)
  refine wa_eq (L2 := [(0, va_rf (some a)), (1, .int x1)]) ?_ rfl (by first | rfl | simp [lv_args, va_rf_cat, cat_i, cat_l]) rfl
  obtain ⟨k, hk0⟩ : ∃ k : Nat, k = 0 := ⟨0, rfl⟩
  obtain ⟨n, hn0⟩ : ∃ n : Nat, n = 0 := ⟨0, rfl⟩
  have hk : k + c = c := by omega
  have hn : n + m = m := by omega
  refine wa_costs hk0.symm hn0.symm ?_
  rw [fX4_readVersion] at hf
  refine wa_aload_n X 0 dX4_readVersion_0 rfl ?_
  obtain ⟨h1, hf⟩ := jckT hf
  refine wa_getP X dX4_readVersion_1 lfX4_19 rfl h1 rfl ?_
  obtain ⟨q2, h3, hf⟩ := jde_some hf
  obtain ⟨h4, hf⟩ := jckT hf
  refine wa_getI X dX4_readVersion_4 lfX4_87 h3 h4 rfl ?_
  refine wa_istore_n (L2 := [(2, .int (jI μ q2 1)), (0, va_rf (some a)), (1, .int x1)]) X dX4_readVersion_7 (by decide) (by first | rfl | (show (2, _) :: List.filter (fun q : Nat × Value => !(q.1 == 2) && !(q.1 + 1 == 2 && q.2.category == 2)) _ = _; simp [va_rf_cat, cat_i, cat_l])) ?_
  refine wa_aload_n X 1 dX4_readVersion_8 rfl ?_
  refine wa_getP X dX4_readVersion_9 lfX4_22 rfl h1 rfl ?_
  obtain ⟨q5, h6, hf⟩ := jde_some hf
  obtain ⟨h7, hf⟩ := jckT hf
  refine wa_getI X dX4_readVersion_12 lfX4_87 h6 h7 rfl ?_
  refine wa_istore_n (L2 := [(3, .int (jI μ q5 1)), (2, .int (jI μ q2 1)), (0, va_rf (some a)), (1, .int x1)]) X dX4_readVersion_15 (by decide) (by first | rfl | (show (3, _) :: List.filter (fun q : Nat × Value => !(q.1 == 3) && !(q.1 + 1 == 3 && q.2.category == 2)) _ = _; simp [va_rf_cat, cat_i, cat_l])) ?_
  obtain ⟨q8, μ9, c12, m13, h10, hm11, hf, h14, h15⟩ := jnwo_some hf
  refine wa_new (t := 9) (N := 3) X dX4_readVersion_16 (by decide) rfl lcX4_91 li_RX8 ln_RX8 (by omega) (by omega) ?_
  rw [← h10, ← hm11]
  have h16 : (jT μ9 q8).1 = 9 := by rw [jT_at h10 hm11]
  refine wa_dup X dX4_readVersion_19 (va_rf_cat _) ?_
  refine wa_bipush (v := (24 : Int32)) X dX4_readVersion_20 (by decide) ?_
  refine wa_iload_n X 3 dX4_readVersion_22 rfl ?_
  obtain ⟨u17, μ18, c19, m20, c21, m22, e23, hf, h24, h25⟩ := jcl_some hf
  refine wa_rcallI (st2 := [va_rf (some q8)]) X dX4_readVersion_23 lmX4_93 lMX8_init rfl (mX8_init e23) rfl rfl rfl (va_cats (Nat.le_of_ble_eq_true rfl)) (by decide) (by omega) (by omega) ?_
  refine wa_astore (L2 := [(4, va_rf (some q8)), (3, .int (jI μ q5 1)), (2, .int (jI μ q2 1)), (0, va_rf (some a)), (1, .int x1)]) X dX4_readVersion_26 (by decide) (by first | rfl | (show (4, _) :: List.filter (fun q : Nat × Value => !(q.1 == 4) && !(q.1 + 1 == 4 && q.2.category == 2)) _ = _; simp [va_rf_cat, cat_i, cat_l])) ?_
  refine wa_iconst (v := (1 : Int32)) X dX4_readVersion_28 (by decide) ?_
  refine wa_istore (L2 := [(5, .int (1 : Int32)), (4, va_rf (some q8)), (3, .int (jI μ q5 1)), (2, .int (jI μ q2 1)), (0, va_rf (some a)), (1, .int x1)]) X dX4_readVersion_29 (by decide) (by first | rfl | (show (5, _) :: List.filter (fun q : Nat × Value => !(q.1 == 5) && !(q.1 + 1 == 5 && q.2.category == 2)) _ = _; simp [va_rf_cat, cat_i, cat_l])) ?_
  refine wa_iconst (v := (0 : Int32)) X dX4_readVersion_31 (by decide) ?_
  refine wa_istore (L2 := [(6, .int (0 : Int32)), (5, .int (1 : Int32)), (4, va_rf (some q8)), (3, .int (jI μ q5 1)), (2, .int (jI μ q2 1)), (0, va_rf (some a)), (1, .int x1)]) X dX4_readVersion_32 (by decide) (by first | rfl | (show (6, _) :: List.filter (fun q : Nat × Value => !(q.1 == 6) && !(q.1 + 1 == 6 && q.2.category == 2)) _ = _; simp [va_rf_cat, cat_i, cat_l])) ?_
  refine wa_sub (L2 := [(0, va_rf (some a)), (2, .int (jI μ q2 1)), (3, .int (jI μ q5 1)), (4, va_rf (some q8)), (5, .int (1 : Int32)), (6, .int (0 : Int32))]) [5, 4, 3, 2, 1, 0] rfl ?_
  exact gX4_readVersion_b34 X jfuel a (jI μ q2 1) (jI μ q5 1) (some q8) (1 : Int32) (0 : Int32) μ18 _ _ _ _ hf (by omega) (by omega)
theorem dX4_readLabelIn_0 : decode cX4_readLabelIn 0 = .ok (.aload_n 0, 1) := by decide +kernel
theorem dX4_readLabelIn_1 : decode cX4_readLabelIn 1 = .ok (.getfield 9, 3) := by decide +kernel
theorem dX4_readLabelIn_4 : decode cX4_readLabelIn 4 = .ok (.invokevirtual 34, 3) := by decide +kernel
theorem dX4_readLabelIn_7 : decode cX4_readLabelIn 7 = .ok (.lstore_n 2, 1) := by decide +kernel
theorem dX4_readLabelIn_8 : decode cX4_readLabelIn 8 = .ok (.lload_n 2, 1) := by decide +kernel
theorem dX4_readLabelIn_9 : decode cX4_readLabelIn 9 = .ok (.invokestatic 58, 3) := by decide +kernel
theorem dX4_readLabelIn_12 : decode cX4_readLabelIn 12 = .ok (.ifCond .eq 12, 3) := by decide +kernel
theorem dX4_readLabelIn_15 : decode cX4_readLabelIn 15 = .ok (.aload_n 1, 1) := by decide +kernel
theorem dX4_readLabelIn_16 : decode cX4_readLabelIn 16 = .ok (.lload_n 2, 1) := by decide +kernel
theorem dX4_readLabelIn_17 : decode cX4_readLabelIn 17 = .ok (.iconst 0, 1) := by decide +kernel
theorem dX4_readLabelIn_18 : decode cX4_readLabelIn 18 = .ok (.invokevirtual 137, 3) := by decide +kernel
theorem dX4_readLabelIn_21 : decode cX4_readLabelIn 21 = .ok (.goto 4, 3) := by decide +kernel
theorem dX4_readLabelIn_24 : decode cX4_readLabelIn 24 = .ok (.iconst (-1), 1) := by decide +kernel
theorem dX4_readLabelIn_25 : decode cX4_readLabelIn 25 = .ok (.istore 4, 2) := by decide +kernel
theorem dX4_readLabelIn_27 : decode cX4_readLabelIn 27 = .ok (.iload 4, 2) := by decide +kernel
theorem dX4_readLabelIn_29 : decode cX4_readLabelIn 29 = .ok (.iconst (-1), 1) := by decide +kernel
theorem dX4_readLabelIn_30 : decode cX4_readLabelIn 30 = .ok (.if_icmp .eq 13, 3) := by decide +kernel
theorem dX4_readLabelIn_33 : decode cX4_readLabelIn 33 = .ok (.aload_n 0, 1) := by decide +kernel
theorem dX4_readLabelIn_34 : decode cX4_readLabelIn 34 = .ok (.getfield 9, 3) := by decide +kernel
theorem dX4_readLabelIn_37 : decode cX4_readLabelIn 37 = .ok (.invokevirtual 68, 3) := by decide +kernel
theorem dX4_readLabelIn_40 : decode cX4_readLabelIn 40 = .ok (.goto 42, 3) := by decide +kernel
theorem dX4_readLabelIn_43 : decode cX4_readLabelIn 43 = .ok (.lload_n 2, 1) := by decide +kernel
theorem dX4_readLabelIn_44 : decode cX4_readLabelIn 44 = .ok (.invokestatic 58, 3) := by decide +kernel
theorem dX4_readLabelIn_47 : decode cX4_readLabelIn 47 = .ok (.ifCond .eq 15, 3) := by decide +kernel
theorem dX4_readLabelIn_50 : decode cX4_readLabelIn 50 = .ok (.aload_n 0, 1) := by decide +kernel
theorem dX4_readLabelIn_51 : decode cX4_readLabelIn 51 = .ok (.getfield 9, 3) := by decide +kernel
theorem dX4_readLabelIn_54 : decode cX4_readLabelIn 54 = .ok (.iconst 3, 1) := by decide +kernel
theorem dX4_readLabelIn_55 : decode cX4_readLabelIn 55 = .ok (.invokevirtual 54, 3) := by decide +kernel
theorem dX4_readLabelIn_58 : decode cX4_readLabelIn 58 = .ok (.pop, 1) := by decide +kernel
theorem dX4_readLabelIn_59 : decode cX4_readLabelIn 59 = .ok (.goto 23, 3) := by decide +kernel
theorem dX4_readLabelIn_62 : decode cX4_readLabelIn 62 = .ok (.aload_n 0, 1) := by decide +kernel
theorem dX4_readLabelIn_63 : decode cX4_readLabelIn 63 = .ok (.getfield 9, 3) := by decide +kernel
theorem dX4_readLabelIn_66 : decode cX4_readLabelIn 66 = .ok (.lload_n 2, 1) := by decide +kernel
theorem dX4_readLabelIn_67 : decode cX4_readLabelIn 67 = .ok (.invokestatic 50, 3) := by decide +kernel
theorem dX4_readLabelIn_70 : decode cX4_readLabelIn 70 = .ok (.ifCond .eq 7, 3) := by decide +kernel
theorem dX4_readLabelIn_73 : decode cX4_readLabelIn 73 = .ok (.iconst 2, 1) := by decide +kernel
theorem dX4_readLabelIn_74 : decode cX4_readLabelIn 74 = .ok (.goto 4, 3) := by decide +kernel
theorem dX4_readLabelIn_77 : decode cX4_readLabelIn 77 = .ok (.iconst 0, 1) := by decide +kernel
theorem dX4_readLabelIn_78 : decode cX4_readLabelIn 78 = .ok (.invokevirtual 54, 3) := by decide +kernel
theorem dX4_readLabelIn_81 : decode cX4_readLabelIn 81 = .ok (.pop, 1) := by decide +kernel
theorem dX4_readLabelIn_82 : decode cX4_readLabelIn 82 = .ok (.iload 4, 2) := by decide +kernel
theorem dX4_readLabelIn_84 : decode cX4_readLabelIn 84 = .ok (.ireturn, 1) := by decide +kernel
def fX4_readLabelIn_b78 (x4 : Int32) (s0 : Int32) (s1 : Option Nat) (μ : JM) : JO (Int32) := jde s1 fun q84 => jck ((jT μ q84).1 == 8) <| jcl (fX7_fail q84 s0 μ) fun r87 μ88 => some (x4, μ88, 0, 0)
set_option maxHeartbeats 4000000 in
set_option maxRecDepth 100000 in
theorem gX4_readLabelIn_b78 {b : Nat} {Θ : JE} {RC RS : Nat} {r : Int32} {ν : JM} (X : jX b Θ RX4 cX4_readLabelIn 5 (some .int) 1 24 RC RS) (x4 : Int32) (s0 : Int32) (s1 : Option Nat) (μ : JM) (c m k n : Nat) (hf : fX4_readLabelIn_b78 x4 s0 s1 μ = some (r, ν, c, m)) (hk : k + c = RC) (hn : n + m = RS) : WA b Θ 5 (jE b Θ (some (.int r)) ν RC RS) μ k n 78 [(4, .int x4)] [.int s0, va_rf s1] := by
  rw [fX4_readLabelIn_b78] at hf
  obtain ⟨q84, h85, hf⟩ := jde_some hf
  obtain ⟨h86, hf⟩ := jckT hf
  obtain ⟨r87, μ88, c89, m90, c91, m92, e93, hf, h94, h95⟩ := jcl_some hf
  refine wa_rcallV (st2 := [.int r87]) X dX4_readLabelIn_78 lmX4_54 lMX7_fail h85 h86 (mX7_fail e93) rfl rfl rfl (va_cats (Nat.le_of_ble_eq_true rfl)) (by decide) (by omega) (by omega) ?_
  refine wa_pop X dX4_readLabelIn_81 rfl ?_
  refine wa_iload X 0 dX4_readLabelIn_82 rfl ?_
  obtain ⟨rfl, rfl, rfl, rfl⟩ := jret hf
  exact wa_iret X dX4_readLabelIn_84 rfl (by omega) (by omega)
def fX4_readLabelIn_b25 (a : Nat) (y2 : Int64) (s0 : Int32) (μ : JM) : JO (Int32) := if s0 = (-1 : Int32) then (jcl (fX10_isFreeWord y2 μ) fun r37 μ38 => if r37 = 0 then (jck ((jT μ38 a).1 == 5) <| jcl (fX10_isOurs y2 μ38) fun r48 μ49 => if r48 = 0 then (fX4_readLabelIn_b78  s0 (0 : Int32) (jP μ38 a 0) μ49) else (fX4_readLabelIn_b78  s0 (2 : Int32) (jP μ38 a 0) μ49)) else (jck ((jT μ38 a).1 == 5) <| jde (jP μ38 a 0) fun q59 => jck ((jT μ38 q59).1 == 8) <| jcl (fX7_fail q59 (3 : Int32) μ38) fun r62 μ63 => some (s0, μ63, 0, 0))) else (jck ((jT μ a).1 == 5) <| jde (jP μ a 0) fun q72 => jck ((jT μ q72).1 == 8) <| jcl (fX7_step q72 μ) fun u75 μ76 => some (s0, μ76, 0, 0))
set_option maxHeartbeats 4000000 in
set_option maxRecDepth 100000 in
theorem gX4_readLabelIn_b25 {b : Nat} {Θ : JE} {RC RS : Nat} {r : Int32} {ν : JM} (X : jX b Θ RX4 cX4_readLabelIn 5 (some .int) 1 24 RC RS) (a : Nat) (y2 : Int64) (s0 : Int32) (μ : JM) (c m k n : Nat) (hf : fX4_readLabelIn_b25 a y2 s0 μ = some (r, ν, c, m)) (hk : k + c = RC) (hn : n + m = RS) : WA b Θ 5 (jE b Θ (some (.int r)) ν RC RS) μ k n 25 [(0, va_rf (some a)), (2, .long y2)] [.int s0] := by
  rw [fX4_readLabelIn_b25] at hf
  refine wa_istore (L2 := [(4, .int s0), (0, va_rf (some a)), (2, .long y2)]) X dX4_readLabelIn_25 (by decide) (by first | rfl | (show (4, _) :: List.filter (fun q : Nat × Value => !(q.1 == 4) && !(q.1 + 1 == 4 && q.2.category == 2)) _ = _; simp [va_rf_cat, cat_i, cat_l])) ?_
  refine wa_iload X 0 dX4_readLabelIn_27 rfl ?_
  refine wa_iconst (v := (-1 : Int32)) X dX4_readLabelIn_29 (by decide) ?_
  refine wa_iceq (tgt := 43) X dX4_readLabelIn_30 (by decide) (fun h36 => ?_) (fun h36 => ?_)
  · rw [if_pos h36] at hf
    refine wa_lload_n X 2 dX4_readLabelIn_43 rfl ?_
    obtain ⟨r37, μ38, c39, m40, c41, m42, e43, hf, h44, h45⟩ := jcl_some hf
    refine wa_rcallSN (st2 := [.int r37]) X dX4_readLabelIn_44 lNX4_58 lMX10_isFreeWord (mX10_isFreeWord e43) rfl rfl rfl (va_cats (Nat.le_of_ble_eq_true rfl)) (by decide) (by omega) (by omega) ?_
    refine wa_ifeq (tgt := 62) X dX4_readLabelIn_47 (by decide) (fun h46 => ?_) (fun h46 => ?_)
    · rw [if_pos h46] at hf
      refine wa_aload_n X 1 dX4_readLabelIn_62 rfl ?_
      obtain ⟨h47, hf⟩ := jckT hf
      refine wa_getP X dX4_readLabelIn_63 lfX4_9 rfl h47 rfl ?_
      refine wa_lload_n X 2 dX4_readLabelIn_66 rfl ?_
      obtain ⟨r48, μ49, c50, m51, c52, m53, e54, hf, h55, h56⟩ := jcl_some hf
      refine wa_rcallSN (st2 := [.int r48, va_rf (jP μ38 a 0)]) X dX4_readLabelIn_67 lNX4_50 lMX10_isOurs (mX10_isOurs e54) rfl rfl rfl (va_cats (Nat.le_of_ble_eq_true rfl)) (by decide) (by omega) (by omega) ?_
      refine wa_ifeq (tgt := 77) X dX4_readLabelIn_70 (by decide) (fun h57 => ?_) (fun h57 => ?_)
      · rw [if_pos h57] at hf
        refine wa_iconst (v := (0 : Int32)) X dX4_readLabelIn_77 (by decide) ?_
        refine wa_sub (L2 := [(4, .int s0)]) [0] rfl ?_
        exact gX4_readLabelIn_b78 X s0 (0 : Int32) (jP μ38 a 0) μ49 _ _ _ _ hf (by omega) (by omega)
      · rw [if_neg h57] at hf
        refine wa_iconst (v := (2 : Int32)) X dX4_readLabelIn_73 (by decide) ?_
        refine wa_goto (tgt := 78) X dX4_readLabelIn_74 (by decide) ?_
        refine wa_sub (L2 := [(4, .int s0)]) [0] rfl ?_
        exact gX4_readLabelIn_b78 X s0 (2 : Int32) (jP μ38 a 0) μ49 _ _ _ _ hf (by omega) (by omega)
    · rw [if_neg h46] at hf
      refine wa_aload_n X 1 dX4_readLabelIn_50 rfl ?_
      obtain ⟨h58, hf⟩ := jckT hf
      refine wa_getP X dX4_readLabelIn_51 lfX4_9 rfl h58 rfl ?_
      refine wa_iconst (v := (3 : Int32)) X dX4_readLabelIn_54 (by decide) ?_
      obtain ⟨q59, h60, hf⟩ := jde_some hf
      obtain ⟨h61, hf⟩ := jckT hf
      obtain ⟨r62, μ63, c64, m65, c66, m67, e68, hf, h69, h70⟩ := jcl_some hf
      refine wa_rcallV (st2 := [.int r62]) X dX4_readLabelIn_55 lmX4_54 lMX7_fail h60 h61 (mX7_fail e68) rfl rfl rfl (va_cats (Nat.le_of_ble_eq_true rfl)) (by decide) (by omega) (by omega) ?_
      refine wa_pop X dX4_readLabelIn_58 rfl ?_
      refine wa_goto (tgt := 82) X dX4_readLabelIn_59 (by decide) ?_
      refine wa_iload X 0 dX4_readLabelIn_82 rfl ?_
      obtain ⟨rfl, rfl, rfl, rfl⟩ := jret hf
      exact wa_iret X dX4_readLabelIn_84 rfl (by omega) (by omega)
  · rw [if_neg h36] at hf
    refine wa_aload_n X 1 dX4_readLabelIn_33 rfl ?_
    obtain ⟨h71, hf⟩ := jckT hf
    refine wa_getP X dX4_readLabelIn_34 lfX4_9 rfl h71 rfl ?_
    obtain ⟨q72, h73, hf⟩ := jde_some hf
    obtain ⟨h74, hf⟩ := jckT hf
    obtain ⟨u75, μ76, c77, m78, c79, m80, e81, hf, h82, h83⟩ := jcl_some hf
    refine wa_rcallV (st2 := []) X dX4_readLabelIn_37 lmX4_68 lMX7_step h73 h74 (mX7_step e81) rfl rfl rfl (va_cats (Nat.le_of_ble_eq_true rfl)) (by decide) (by omega) (by omega) ?_
    refine wa_goto (tgt := 82) X dX4_readLabelIn_40 (by decide) ?_
    refine wa_iload X 0 dX4_readLabelIn_82 rfl ?_
    obtain ⟨rfl, rfl, rfl, rfl⟩ := jret hf
    exact wa_iret X dX4_readLabelIn_84 rfl (by omega) (by omega)
def fX4_readLabelIn (a : Nat) (p1 : Option Nat) (μ : JM) : JO (Int32) := jck ((jT μ a).1 == 5) <| jde (jP μ a 0) fun q2 => jck ((jT μ q2).1 == 8) <| jcl (fX7_token q2 μ) fun r5 μ6 => jcl (fX10_isFreeWord r5 μ6) fun r14 μ15 => if r14 = 0 then (fX4_readLabelIn_b25  a r5 (-1 : Int32) μ15) else (jde p1 fun q24 => jck ((jT μ15 q24).1 == 9) <| jcl (fX8_find q24 r5 (0 : Int32) μ15) fun r27 μ28 => fX4_readLabelIn_b25  a r5 r27 μ28)
set_option maxHeartbeats 4000000 in
set_option maxRecDepth 100000 in
theorem mX4_readLabelIn {b : Nat} {a : Nat} {p1 : Option Nat} {μ : JM} {r : Int32} {ν : JM} {c m : Nat} (hf : fX4_readLabelIn a p1 μ = some (r, ν, c, m)) : JMet b yX4_readLabelIn cX4_readLabelIn 5 (some .int) 1 24 [va_rf (some a), va_rf p1] μ (some (.int r)) ν c m := by
  refine JMet.of (by decide) (lg_sl_le (by simp only [List.map_cons, List.map_nil, List.sum_cons, List.sum_nil, va_rf_cat]; exact Nat.le_of_ble_eq_true rfl)) (fun Θ X hin => ?_)
  refine wa_eq (L2 := [(0, va_rf (some a)), (1, va_rf p1)]) ?_ rfl (by first | rfl | simp [lv_args, va_rf_cat, cat_i, cat_l]) rfl
  obtain ⟨k, hk0⟩ : ∃ k : Nat, k = 0 := ⟨0, rfl⟩
  obtain ⟨n, hn0⟩ : ∃ n : Nat, n = 0 := ⟨0, rfl⟩
  have hk : k + c = c := by omega
  have hn : n + m = m := by omega
  refine wa_costs hk0.symm hn0.symm ?_
  rw [fX4_readLabelIn] at hf
  refine wa_aload_n X 0 dX4_readLabelIn_0 rfl ?_
  obtain ⟨h1, hf⟩ := jckT hf
  refine wa_getP X dX4_readLabelIn_1 lfX4_9 rfl h1 rfl ?_
  obtain ⟨q2, h3, hf⟩ := jde_some hf
  obtain ⟨h4, hf⟩ := jckT hf
  obtain ⟨r5, μ6, c7, m8, c9, m10, e11, hf, h12, h13⟩ := jcl_some hf
  refine wa_rcallV (st2 := [.long r5]) X dX4_readLabelIn_4 lmX4_34 lMX7_token h3 h4 (mX7_token e11) rfl rfl rfl (va_cats (Nat.le_of_ble_eq_true rfl)) (by decide) (by omega) (by omega) ?_
  refine wa_lstore_n (L2 := [(2, .long r5), (0, va_rf (some a)), (1, va_rf p1)]) X dX4_readLabelIn_7 (by decide) (by first | rfl | (show (2, _) :: List.filter (fun q : Nat × Value => !(q.1 == 2) && (!(q.1 == 3) && !(q.1 + 1 == 2 && q.2.category == 2))) _ = _; simp [va_rf_cat, cat_i, cat_l])) ?_
  refine wa_lload_n X 0 dX4_readLabelIn_8 rfl ?_
  obtain ⟨r14, μ15, c16, m17, c18, m19, e20, hf, h21, h22⟩ := jcl_some hf
  refine wa_rcallSN (st2 := [.int r14]) X dX4_readLabelIn_9 lNX4_58 lMX10_isFreeWord (mX10_isFreeWord e20) rfl rfl rfl (va_cats (Nat.le_of_ble_eq_true rfl)) (by decide) (by omega) (by omega) ?_
  refine wa_ifeq (tgt := 24) X dX4_readLabelIn_12 (by decide) (fun h23 => ?_) (fun h23 => ?_)
  · rw [if_pos h23] at hf
    refine wa_iconst (v := (-1 : Int32)) X dX4_readLabelIn_24 (by decide) ?_
    refine wa_sub (L2 := [(0, va_rf (some a)), (2, .long r5)]) [1, 0] rfl ?_
    exact gX4_readLabelIn_b25 X a r5 (-1 : Int32) μ15 _ _ _ _ hf (by omega) (by omega)
  · rw [if_neg h23] at hf
    refine wa_aload_n X 2 dX4_readLabelIn_15 rfl ?_
    refine wa_lload_n X 0 dX4_readLabelIn_16 rfl ?_
    refine wa_iconst (v := (0 : Int32)) X dX4_readLabelIn_17 (by decide) ?_
    obtain ⟨q24, h25, hf⟩ := jde_some hf
    obtain ⟨h26, hf⟩ := jckT hf
    obtain ⟨r27, μ28, c29, m30, c31, m32, e33, hf, h34, h35⟩ := jcl_some hf
    refine wa_rcallV (st2 := [.int r27]) X dX4_readLabelIn_18 lmX4_137 lMX8_find h25 h26 (mX8_find e33) rfl rfl rfl (va_cats (Nat.le_of_ble_eq_true rfl)) (by decide) (by omega) (by omega) ?_
    refine wa_goto (tgt := 25) X dX4_readLabelIn_21 (by decide) ?_
    refine wa_sub (L2 := [(0, va_rf (some a)), (2, .long r5)]) [1, 0] rfl ?_
    exact gX4_readLabelIn_b25 X a r5 r27 μ28 _ _ _ _ hf (by omega) (by omega)
theorem dX4_replaceIn_0 : decode cX4_replaceIn 0 = .ok (.aload_n 1, 1) := by decide +kernel
theorem dX4_replaceIn_1 : decode cX4_replaceIn 1 = .ok (.ifnull 20, 3) := by decide +kernel
theorem dX4_replaceIn_4 : decode cX4_replaceIn 4 = .ok (.aload_n 0, 1) := by decide +kernel
theorem dX4_replaceIn_5 : decode cX4_replaceIn 5 = .ok (.aload_n 0, 1) := by decide +kernel
theorem dX4_replaceIn_6 : decode cX4_replaceIn 6 = .ok (.aload_n 1, 1) := by decide +kernel
theorem dX4_replaceIn_7 : decode cX4_replaceIn 7 = .ok (.getfield 128, 3) := by decide +kernel
theorem dX4_replaceIn_10 : decode cX4_replaceIn 10 = .ok (.aload_n 1, 1) := by decide +kernel
theorem dX4_replaceIn_11 : decode cX4_replaceIn 11 = .ok (.invokevirtual 134, 3) := by decide +kernel
theorem dX4_replaceIn_14 : decode cX4_replaceIn 14 = .ok (.invokevirtual 137, 3) := by decide +kernel
theorem dX4_replaceIn_17 : decode cX4_replaceIn 17 = .ok (.aload_n 1, 1) := by decide +kernel
theorem dX4_replaceIn_18 : decode cX4_replaceIn 18 = .ok (.invokevirtual 140, 3) := by decide +kernel
theorem dX4_replaceIn_21 : decode cX4_replaceIn 21 = .ok (.return_, 1) := by decide +kernel
def fX4_replaceIn (p0 : Option Nat) (p1 : Option Nat) (μ : JM) : JO (Unit) := if p1 = none then (some ((), μ, 0, 0)) else (jde p1 fun q2 => jck ((jT μ q2).1 == 3) <| jcl (fX2_isDefine q2 μ) fun r5 μ6 => jde p0 fun q14 => jck ((jT μ6 q14).1 == 9) <| jcl (fX8_find q14 (jJ μ q2 1) r5 μ6) fun r17 μ18 => jck ((jT μ18 q14).1 == 9) <| jcl (fX8_replace q14 r17 p1 μ18) fun u27 μ28 => some ((), μ28, 0, 0))
set_option maxHeartbeats 4000000 in
set_option maxRecDepth 100000 in
theorem mX4_replaceIn {b : Nat} {p0 : Option Nat} {p1 : Option Nat} {μ : JM} {r : Unit} {ν : JM} {c m : Nat} (hf : fX4_replaceIn p0 p1 μ = some (r, ν, c, m)) : JMet b yX4_replaceIn cX4_replaceIn 2 none 1 24 [va_rf p0, va_rf p1] μ (none) ν c m := by
  refine JMet.of (by decide) (lg_sl_le (by simp only [List.map_cons, List.map_nil, List.sum_cons, List.sum_nil, va_rf_cat]; exact Nat.le_of_ble_eq_true rfl)) (fun Θ X hin => ?_)
  refine wa_eq (L2 := [(0, va_rf p0), (1, va_rf p1)]) ?_ rfl (by first | rfl | simp [lv_args, va_rf_cat, cat_i, cat_l]) rfl
  obtain ⟨k, hk0⟩ : ∃ k : Nat, k = 0 := ⟨0, rfl⟩
  obtain ⟨n, hn0⟩ : ∃ n : Nat, n = 0 := ⟨0, rfl⟩
  have hk : k + c = c := by omega
  have hn : n + m = m := by omega
  refine wa_costs hk0.symm hn0.symm ?_
  rw [fX4_replaceIn] at hf
  refine wa_aload_n X 1 dX4_replaceIn_0 rfl ?_
  refine wa_ifnull (tgt := 21) X dX4_replaceIn_1 (by decide) (fun h1 => ?_) (fun h1 => ?_)
  · rw [if_pos h1] at hf
    obtain ⟨rfl, rfl, rfl, rfl⟩ := jret hf
    exact wa_vret X dX4_replaceIn_21 (by omega) (by omega)
  · rw [if_neg h1] at hf
    refine wa_aload_n X 0 dX4_replaceIn_4 rfl ?_
    refine wa_aload_n X 0 dX4_replaceIn_5 rfl ?_
    refine wa_aload_n X 1 dX4_replaceIn_6 rfl ?_
    obtain ⟨q2, h3, hf⟩ := jde_some hf
    obtain ⟨h4, hf⟩ := jckT hf
    refine wa_getJ X dX4_replaceIn_7 lfX4_128 h3 h4 rfl ?_
    refine wa_aload_n X 1 dX4_replaceIn_10 rfl ?_
    obtain ⟨r5, μ6, c7, m8, c9, m10, e11, hf, h12, h13⟩ := jcl_some hf
    refine wa_rcallV (st2 := [.int r5, .long (jJ μ q2 1), va_rf p0, va_rf p0]) X dX4_replaceIn_11 lmX4_134 lMX2_isDefine h3 h4 (mX2_isDefine e11) rfl rfl rfl (va_cats (Nat.le_of_ble_eq_true rfl)) (by decide) (by omega) (by omega) ?_
    obtain ⟨q14, h15, hf⟩ := jde_some hf
    obtain ⟨h16, hf⟩ := jckT hf
    obtain ⟨r17, μ18, c19, m20, c21, m22, e23, hf, h24, h25⟩ := jcl_some hf
    refine wa_rcallV (st2 := [.int r17, va_rf p0]) X dX4_replaceIn_14 lmX4_137 lMX8_find h15 h16 (mX8_find e23) rfl rfl rfl (va_cats (Nat.le_of_ble_eq_true rfl)) (by decide) (by omega) (by omega) ?_
    refine wa_aload_n X 1 dX4_replaceIn_17 rfl ?_
    obtain ⟨h26, hf⟩ := jckT hf
    obtain ⟨u27, μ28, c29, m30, c31, m32, e33, hf, h34, h35⟩ := jcl_some hf
    refine wa_rcallV (st2 := []) X dX4_replaceIn_18 lmX4_140 lMX8_replace h15 h26 (mX8_replace e33) rfl rfl rfl (va_cats (Nat.le_of_ble_eq_true rfl)) (by decide) (by omega) (by omega) ?_
    obtain ⟨rfl, rfl, rfl, rfl⟩ := jret hf
    exact wa_vret X dX4_replaceIn_21 (by omega) (by omega)
theorem dX4_readRider_0 : decode cX4_readRider 0 = .ok (.iconst 1, 1) := by decide +kernel
theorem dX4_readRider_1 : decode cX4_readRider 1 = .ok (.istore_n 2, 1) := by decide +kernel
theorem dX4_readRider_2 : decode cX4_readRider 2 = .ok (.iconst 0, 1) := by decide +kernel
theorem dX4_readRider_3 : decode cX4_readRider 3 = .ok (.istore_n 3, 1) := by decide +kernel
theorem dX4_readRider_4 : decode cX4_readRider 4 = .ok (.iload_n 3, 1) := by decide +kernel
theorem dX4_readRider_5 : decode cX4_readRider 5 = .ok (.bipush 12, 2) := by decide +kernel
theorem dX4_readRider_7 : decode cX4_readRider 7 = .ok (.if_icmp .gt 174, 3) := by decide +kernel
theorem dX4_readRider_10 : decode cX4_readRider 10 = .ok (.iload_n 2, 1) := by decide +kernel
theorem dX4_readRider_11 : decode cX4_readRider 11 = .ok (.ifCond .eq 170, 3) := by decide +kernel
theorem dX4_readRider_14 : decode cX4_readRider 14 = .ok (.aload_n 0, 1) := by decide +kernel
theorem dX4_readRider_15 : decode cX4_readRider 15 = .ok (.getfield 9, 3) := by decide +kernel
theorem dX4_readRider_18 : decode cX4_readRider 18 = .ok (.invokevirtual 34, 3) := by decide +kernel
theorem dX4_readRider_21 : decode cX4_readRider 21 = .ok (.lstore 4, 2) := by decide +kernel
theorem dX4_readRider_23 : decode cX4_readRider 23 = .ok (.lload 4, 2) := by decide +kernel
theorem dX4_readRider_25 : decode cX4_readRider 25 = .ok (.ldc2_w 111, 3) := by decide +kernel
theorem dX4_readRider_28 : decode cX4_readRider 28 = .ok (.lcmp, 1) := by decide +kernel
theorem dX4_readRider_29 : decode cX4_readRider 29 = .ok (.ifCond .eq 30, 3) := by decide +kernel
theorem dX4_readRider_32 : decode cX4_readRider 32 = .ok (.lload 4, 2) := by decide +kernel
theorem dX4_readRider_34 : decode cX4_readRider 34 = .ok (.ldc2_w 113, 3) := by decide +kernel
theorem dX4_readRider_37 : decode cX4_readRider 37 = .ok (.lcmp, 1) := by decide +kernel
theorem dX4_readRider_38 : decode cX4_readRider 38 = .ok (.ifCond .eq 21, 3) := by decide +kernel
theorem dX4_readRider_41 : decode cX4_readRider 41 = .ok (.lload 4, 2) := by decide +kernel
theorem dX4_readRider_43 : decode cX4_readRider 43 = .ok (.ldc2_w 115, 3) := by decide +kernel
theorem dX4_readRider_46 : decode cX4_readRider 46 = .ok (.lcmp, 1) := by decide +kernel
theorem dX4_readRider_47 : decode cX4_readRider 47 = .ok (.ifCond .eq 12, 3) := by decide +kernel
theorem dX4_readRider_50 : decode cX4_readRider 50 = .ok (.aload_n 0, 1) := by decide +kernel
theorem dX4_readRider_51 : decode cX4_readRider 51 = .ok (.getfield 9, 3) := by decide +kernel
theorem dX4_readRider_54 : decode cX4_readRider 54 = .ok (.iconst 0, 1) := by decide +kernel
theorem dX4_readRider_55 : decode cX4_readRider 55 = .ok (.invokevirtual 54, 3) := by decide +kernel
theorem dX4_readRider_58 : decode cX4_readRider 58 = .ok (.ireturn, 1) := by decide +kernel
theorem dX4_readRider_59 : decode cX4_readRider 59 = .ok (.iload_n 3, 1) := by decide +kernel
theorem dX4_readRider_60 : decode cX4_readRider 60 = .ok (.bipush 12, 2) := by decide +kernel
theorem dX4_readRider_62 : decode cX4_readRider 62 = .ok (.if_icmp .ne 12, 3) := by decide +kernel
theorem dX4_readRider_65 : decode cX4_readRider 65 = .ok (.aload_n 0, 1) := by decide +kernel
theorem dX4_readRider_66 : decode cX4_readRider 66 = .ok (.getfield 9, 3) := by decide +kernel
theorem dX4_readRider_69 : decode cX4_readRider 69 = .ok (.iconst 4, 1) := by decide +kernel
theorem dX4_readRider_70 : decode cX4_readRider 70 = .ok (.invokevirtual 54, 3) := by decide +kernel
theorem dX4_readRider_73 : decode cX4_readRider 73 = .ok (.ireturn, 1) := by decide +kernel
theorem dX4_readRider_74 : decode cX4_readRider 74 = .ok (.aload_n 0, 1) := by decide +kernel
theorem dX4_readRider_75 : decode cX4_readRider 75 = .ok (.getfield 9, 3) := by decide +kernel
theorem dX4_readRider_78 : decode cX4_readRider 78 = .ok (.invokevirtual 68, 3) := by decide +kernel
theorem dX4_readRider_81 : decode cX4_readRider 81 = .ok (.lload 4, 2) := by decide +kernel
theorem dX4_readRider_83 : decode cX4_readRider 83 = .ok (.ldc2_w 111, 3) := by decide +kernel
theorem dX4_readRider_86 : decode cX4_readRider 86 = .ok (.lcmp, 1) := by decide +kernel
theorem dX4_readRider_87 : decode cX4_readRider 87 = .ok (.ifCond .ne 15, 3) := by decide +kernel
theorem dX4_readRider_90 : decode cX4_readRider 90 = .ok (.aload_n 1, 1) := by decide +kernel
theorem dX4_readRider_91 : decode cX4_readRider 91 = .ok (.aload_n 0, 1) := by decide +kernel
theorem dX4_readRider_92 : decode cX4_readRider 92 = .ok (.aload_n 1, 1) := by decide +kernel
theorem dX4_readRider_93 : decode cX4_readRider 93 = .ok (.invokevirtual 117, 3) := by decide +kernel
theorem dX4_readRider_96 : decode cX4_readRider 96 = .ok (.invokevirtual 121, 3) := by decide +kernel
theorem dX4_readRider_99 : decode cX4_readRider 99 = .ok (.goto 35, 3) := by decide +kernel
theorem dX4_readRider_102 : decode cX4_readRider 102 = .ok (.lload 4, 2) := by decide +kernel
theorem dX4_readRider_104 : decode cX4_readRider 104 = .ok (.ldc2_w 115, 3) := by decide +kernel
theorem dX4_readRider_107 : decode cX4_readRider 107 = .ok (.lcmp, 1) := by decide +kernel
theorem dX4_readRider_108 : decode cX4_readRider 108 = .ok (.ifCond .ne 16, 3) := by decide +kernel
theorem dX4_readRider_111 : decode cX4_readRider 111 = .ok (.aload_n 1, 1) := by decide +kernel
theorem dX4_readRider_112 : decode cX4_readRider 112 = .ok (.aload_n 0, 1) := by decide +kernel
theorem dX4_readRider_113 : decode cX4_readRider 113 = .ok (.aload_n 1, 1) := by decide +kernel
theorem dX4_readRider_114 : decode cX4_readRider 114 = .ok (.iconst 1, 1) := by decide +kernel
theorem dX4_readRider_115 : decode cX4_readRider 115 = .ok (.invokevirtual 96, 3) := by decide +kernel
theorem dX4_readRider_118 : decode cX4_readRider 118 = .ok (.invokevirtual 100, 3) := by decide +kernel
theorem dX4_readRider_121 : decode cX4_readRider 121 = .ok (.goto 13, 3) := by decide +kernel
theorem dX4_readRider_124 : decode cX4_readRider 124 = .ok (.aload_n 1, 1) := by decide +kernel
theorem dX4_readRider_125 : decode cX4_readRider 125 = .ok (.aload_n 0, 1) := by decide +kernel
theorem dX4_readRider_126 : decode cX4_readRider 126 = .ok (.aload_n 1, 1) := by decide +kernel
theorem dX4_readRider_127 : decode cX4_readRider 127 = .ok (.iconst 2, 1) := by decide +kernel
theorem dX4_readRider_128 : decode cX4_readRider 128 = .ok (.invokevirtual 96, 3) := by decide +kernel
theorem dX4_readRider_131 : decode cX4_readRider 131 = .ok (.invokestatic 124, 3) := by decide +kernel
theorem dX4_readRider_134 : decode cX4_readRider 134 = .ok (.aload_n 0, 1) := by decide +kernel
theorem dX4_readRider_135 : decode cX4_readRider 135 = .ok (.getfield 9, 3) := by decide +kernel
theorem dX4_readRider_138 : decode cX4_readRider 138 = .ok (.getfield 103, 3) := by decide +kernel
theorem dX4_readRider_141 : decode cX4_readRider 141 = .ok (.ifCond .ne 21, 3) := by decide +kernel
theorem dX4_readRider_144 : decode cX4_readRider 144 = .ok (.aload_n 0, 1) := by decide +kernel
theorem dX4_readRider_145 : decode cX4_readRider 145 = .ok (.getfield 9, 3) := by decide +kernel
theorem dX4_readRider_148 : decode cX4_readRider 148 = .ok (.invokevirtual 34, 3) := by decide +kernel
theorem dX4_readRider_151 : decode cX4_readRider 151 = .ok (.ldc2_w 106, 3) := by decide +kernel
theorem dX4_readRider_154 : decode cX4_readRider 154 = .ok (.lcmp, 1) := by decide +kernel
theorem dX4_readRider_155 : decode cX4_readRider 155 = .ok (.ifCond .ne 7, 3) := by decide +kernel
theorem dX4_readRider_158 : decode cX4_readRider 158 = .ok (.iconst 1, 1) := by decide +kernel
theorem dX4_readRider_159 : decode cX4_readRider 159 = .ok (.goto 4, 3) := by decide +kernel
theorem dX4_readRider_162 : decode cX4_readRider 162 = .ok (.iconst 0, 1) := by decide +kernel
theorem dX4_readRider_163 : decode cX4_readRider 163 = .ok (.istore_n 2, 1) := by decide +kernel
theorem dX4_readRider_164 : decode cX4_readRider 164 = .ok (.iload_n 2, 1) := by decide +kernel
theorem dX4_readRider_165 : decode cX4_readRider 165 = .ok (.ifCond .eq 10, 3) := by decide +kernel
theorem dX4_readRider_168 : decode cX4_readRider 168 = .ok (.aload_n 0, 1) := by decide +kernel
theorem dX4_readRider_169 : decode cX4_readRider 169 = .ok (.getfield 9, 3) := by decide +kernel
theorem dX4_readRider_172 : decode cX4_readRider 172 = .ok (.invokevirtual 68, 3) := by decide +kernel
theorem dX4_readRider_175 : decode cX4_readRider 175 = .ok (.iinc 3 1, 3) := by decide +kernel
theorem dX4_readRider_178 : decode cX4_readRider 178 = .ok (.goto (-174), 3) := by decide +kernel
theorem dX4_readRider_181 : decode cX4_readRider 181 = .ok (.aload_n 0, 1) := by decide +kernel
theorem dX4_readRider_182 : decode cX4_readRider 182 = .ok (.getfield 9, 3) := by decide +kernel
theorem dX4_readRider_185 : decode cX4_readRider 185 = .ok (.getfield 103, 3) := by decide +kernel
theorem dX4_readRider_188 : decode cX4_readRider 188 = .ok (.ifCond .ne 18, 3) := by decide +kernel
theorem dX4_readRider_191 : decode cX4_readRider 191 = .ok (.aload_n 0, 1) := by decide +kernel
theorem dX4_readRider_192 : decode cX4_readRider 192 = .ok (.getfield 9, 3) := by decide +kernel
theorem dX4_readRider_195 : decode cX4_readRider 195 = .ok (.lconst 0, 1) := by decide +kernel
theorem dX4_readRider_196 : decode cX4_readRider 196 = .ok (.invokevirtual 84, 3) := by decide +kernel
theorem dX4_readRider_199 : decode cX4_readRider 199 = .ok (.ifCond .eq 7, 3) := by decide +kernel
theorem dX4_readRider_202 : decode cX4_readRider 202 = .ok (.iconst 1, 1) := by decide +kernel
theorem dX4_readRider_203 : decode cX4_readRider 203 = .ok (.goto 4, 3) := by decide +kernel
theorem dX4_readRider_206 : decode cX4_readRider 206 = .ok (.iconst 0, 1) := by decide +kernel
theorem dX4_readRider_207 : decode cX4_readRider 207 = .ok (.ireturn, 1) := by decide +kernel
def fX4_readRider_b175 (rec4 : Nat → Option Nat → Int32 → Int32 → JM → JO (Int32)) (a : Nat) (p1 : Option Nat) (x2 : Int32) (x3 : Int32) (μ : JM) : JO (Int32) := rec4 a p1 x2 (x3 + (1 : Int32)) μ
set_option maxHeartbeats 4000000 in
set_option maxRecDepth 100000 in
theorem gX4_readRider_b175 {b : Nat} {Θ : JE} {RC RS : Nat} {r : Int32} {ν : JM} (X : jX b Θ RX4 cX4_readRider 6 (some .boolean) 5 152 RC RS) {rec4 : Nat → Option Nat → Int32 → Int32 → JM → JO (Int32)} (hrec4 : ∀ (a : Nat) (p1 : Option Nat) (x2 : Int32) (x3 : Int32) (μ : JM) (c m k n : Nat), rec4 a p1 x2 x3 μ = some (r, ν, c, m) → k + c = RC → n + m = RS → WA b Θ 6 (jE b Θ (some (.int r)) ν RC RS) μ k n 4 [(0, va_rf (some a)), (1, va_rf p1), (2, .int x2), (3, .int x3)] []) (a : Nat) (p1 : Option Nat) (x2 : Int32) (x3 : Int32) (μ : JM) (c m k n : Nat) (hf : fX4_readRider_b175 rec4 a p1 x2 x3 μ = some (r, ν, c, m)) (hk : k + c = RC) (hn : n + m = RS) : WA b Θ 6 (jE b Θ (some (.int r)) ν RC RS) μ k n 175 [(0, va_rf (some a)), (1, va_rf p1), (2, .int x2), (3, .int x3)] [] := by
  rw [fX4_readRider_b175] at hf
  refine wa_iinc (v := (x3 + (1 : Int32))) (L2 := [(3, .int (x3 + (1 : Int32))), (0, va_rf (some a)), (1, va_rf p1), (2, .int x2)]) X 3 dX4_readRider_175 rfl rfl (by decide) (by first | rfl | simp [va_rf_cat, cat_i, cat_l]) ?_
  refine wa_goto (tgt := 4) X dX4_readRider_178 (by decide) ?_
  refine wa_sub (L2 := [(0, va_rf (some a)), (1, va_rf p1), (2, .int x2), (3, .int (x3 + (1 : Int32)))]) [1, 2, 3, 0] rfl ?_
  exact hrec4 a p1 x2 (x3 + (1 : Int32)) μ _ _ _ _ hf (by omega) (by omega)
def fX4_readRider_b163 (rec4 : Nat → Option Nat → Int32 → Int32 → JM → JO (Int32)) (a : Nat) (p1 : Option Nat) (x3 : Int32) (s0 : Int32) (μ : JM) : JO (Int32) := if s0 = 0 then (fX4_readRider_b175 rec4 a p1 s0 x3 μ) else (jck ((jT μ a).1 == 5) <| jde (jP μ a 0) fun q143 => jck ((jT μ q143).1 == 8) <| jcl (fX7_step q143 μ) fun u146 μ147 => fX4_readRider_b175 rec4 a p1 s0 x3 μ147)
set_option maxHeartbeats 4000000 in
set_option maxRecDepth 100000 in
theorem gX4_readRider_b163 {b : Nat} {Θ : JE} {RC RS : Nat} {r : Int32} {ν : JM} (X : jX b Θ RX4 cX4_readRider 6 (some .boolean) 5 152 RC RS) {rec4 : Nat → Option Nat → Int32 → Int32 → JM → JO (Int32)} (hrec4 : ∀ (a : Nat) (p1 : Option Nat) (x2 : Int32) (x3 : Int32) (μ : JM) (c m k n : Nat), rec4 a p1 x2 x3 μ = some (r, ν, c, m) → k + c = RC → n + m = RS → WA b Θ 6 (jE b Θ (some (.int r)) ν RC RS) μ k n 4 [(0, va_rf (some a)), (1, va_rf p1), (2, .int x2), (3, .int x3)] []) (a : Nat) (p1 : Option Nat) (x3 : Int32) (s0 : Int32) (μ : JM) (c m k n : Nat) (hf : fX4_readRider_b163 rec4 a p1 x3 s0 μ = some (r, ν, c, m)) (hk : k + c = RC) (hn : n + m = RS) : WA b Θ 6 (jE b Θ (some (.int r)) ν RC RS) μ k n 163 [(0, va_rf (some a)), (1, va_rf p1), (3, .int x3)] [.int s0] := by
  rw [fX4_readRider_b163] at hf
  refine wa_istore_n (L2 := [(2, .int s0), (0, va_rf (some a)), (1, va_rf p1), (3, .int x3)]) X dX4_readRider_163 (by decide) (by first | rfl | (show (2, _) :: List.filter (fun q : Nat × Value => !(q.1 == 2) && !(q.1 + 1 == 2 && q.2.category == 2)) _ = _; simp [va_rf_cat, cat_i, cat_l])) ?_
  refine wa_iload_n X 0 dX4_readRider_164 rfl ?_
  refine wa_ifeq (tgt := 175) X dX4_readRider_165 (by decide) (fun h141 => ?_) (fun h141 => ?_)
  · rw [if_pos h141] at hf
    refine wa_sub (L2 := [(0, va_rf (some a)), (1, va_rf p1), (2, .int s0), (3, .int x3)]) [1, 2, 0, 3] rfl ?_
    exact gX4_readRider_b175 X hrec4 a p1 s0 x3 μ _ _ _ _ hf (by omega) (by omega)
  · rw [if_neg h141] at hf
    refine wa_aload_n X 1 dX4_readRider_168 rfl ?_
    obtain ⟨h142, hf⟩ := jckT hf
    refine wa_getP X dX4_readRider_169 lfX4_9 rfl h142 rfl ?_
    obtain ⟨q143, h144, hf⟩ := jde_some hf
    obtain ⟨h145, hf⟩ := jckT hf
    obtain ⟨u146, μ147, c148, m149, c150, m151, e152, hf, h153, h154⟩ := jcl_some hf
    refine wa_rcallV (st2 := []) X dX4_readRider_172 lmX4_68 lMX7_step h144 h145 (mX7_step e152) rfl rfl rfl (va_cats (Nat.le_of_ble_eq_true rfl)) (by decide) (by omega) (by omega) ?_
    refine wa_sub (L2 := [(0, va_rf (some a)), (1, va_rf p1), (2, .int s0), (3, .int x3)]) [1, 2, 0, 3] rfl ?_
    exact gX4_readRider_b175 X hrec4 a p1 s0 x3 μ147 _ _ _ _ hf (by omega) (by omega)
def fX4_readRider_b162 (rec4 : Nat → Option Nat → Int32 → Int32 → JM → JO (Int32)) (a : Nat) (p1 : Option Nat) (x3 : Int32) (μ : JM) : JO (Int32) := fX4_readRider_b163 rec4 a p1 x3 (0 : Int32) μ
set_option maxHeartbeats 4000000 in
set_option maxRecDepth 100000 in
theorem gX4_readRider_b162 {b : Nat} {Θ : JE} {RC RS : Nat} {r : Int32} {ν : JM} (X : jX b Θ RX4 cX4_readRider 6 (some .boolean) 5 152 RC RS) {rec4 : Nat → Option Nat → Int32 → Int32 → JM → JO (Int32)} (hrec4 : ∀ (a : Nat) (p1 : Option Nat) (x2 : Int32) (x3 : Int32) (μ : JM) (c m k n : Nat), rec4 a p1 x2 x3 μ = some (r, ν, c, m) → k + c = RC → n + m = RS → WA b Θ 6 (jE b Θ (some (.int r)) ν RC RS) μ k n 4 [(0, va_rf (some a)), (1, va_rf p1), (2, .int x2), (3, .int x3)] []) (a : Nat) (p1 : Option Nat) (x3 : Int32) (μ : JM) (c m k n : Nat) (hf : fX4_readRider_b162 rec4 a p1 x3 μ = some (r, ν, c, m)) (hk : k + c = RC) (hn : n + m = RS) : WA b Θ 6 (jE b Θ (some (.int r)) ν RC RS) μ k n 162 [(0, va_rf (some a)), (1, va_rf p1), (3, .int x3)] [] := by
  rw [fX4_readRider_b162] at hf
  refine wa_iconst (v := (0 : Int32)) X dX4_readRider_162 (by decide) ?_
  refine wa_sub (L2 := [(0, va_rf (some a)), (1, va_rf p1), (3, .int x3)]) [0, 1, 2] rfl ?_
  exact gX4_readRider_b163 X hrec4 a p1 x3 (0 : Int32) μ _ _ _ _ hf (by omega) (by omega)
def fX4_readRider_b134 (rec4 : Nat → Option Nat → Int32 → Int32 → JM → JO (Int32)) (a : Nat) (p1 : Option Nat) (x3 : Int32) (μ : JM) : JO (Int32) := jck ((jT μ a).1 == 5) <| jde (jP μ a 0) fun q127 => jck ((jT μ q127).1 == 8) <| if (jI μ q127 5) = 0 then (jcl (fX7_token q127 μ) fun r131 μ132 => if (lg_cmp r131 (-60 : Int64)) = 0 then (fX4_readRider_b163 rec4 a p1 x3 (1 : Int32) μ132) else (fX4_readRider_b162 rec4 a p1 x3 μ132)) else (fX4_readRider_b162 rec4 a p1 x3 μ)
set_option maxHeartbeats 4000000 in
set_option maxRecDepth 100000 in
theorem gX4_readRider_b134 {b : Nat} {Θ : JE} {RC RS : Nat} {r : Int32} {ν : JM} (X : jX b Θ RX4 cX4_readRider 6 (some .boolean) 5 152 RC RS) {rec4 : Nat → Option Nat → Int32 → Int32 → JM → JO (Int32)} (hrec4 : ∀ (a : Nat) (p1 : Option Nat) (x2 : Int32) (x3 : Int32) (μ : JM) (c m k n : Nat), rec4 a p1 x2 x3 μ = some (r, ν, c, m) → k + c = RC → n + m = RS → WA b Θ 6 (jE b Θ (some (.int r)) ν RC RS) μ k n 4 [(0, va_rf (some a)), (1, va_rf p1), (2, .int x2), (3, .int x3)] []) (a : Nat) (p1 : Option Nat) (x3 : Int32) (μ : JM) (c m k n : Nat) (hf : fX4_readRider_b134 rec4 a p1 x3 μ = some (r, ν, c, m)) (hk : k + c = RC) (hn : n + m = RS) : WA b Θ 6 (jE b Θ (some (.int r)) ν RC RS) μ k n 134 [(0, va_rf (some a)), (1, va_rf p1), (3, .int x3)] [] := by
  rw [fX4_readRider_b134] at hf
  refine wa_aload_n X 0 dX4_readRider_134 rfl ?_
  obtain ⟨h126, hf⟩ := jckT hf
  refine wa_getP X dX4_readRider_135 lfX4_9 rfl h126 rfl ?_
  obtain ⟨q127, h128, hf⟩ := jde_some hf
  obtain ⟨h129, hf⟩ := jckT hf
  refine wa_getI X dX4_readRider_138 lfX4_103 h128 h129 rfl ?_
  refine wa_ifne (tgt := 162) X dX4_readRider_141 (by decide) (fun h130 => ?_) (fun h130 => ?_)
  · rw [if_neg h130] at hf
    refine wa_sub (L2 := [(0, va_rf (some a)), (1, va_rf p1), (3, .int x3)]) [0, 1, 2] rfl ?_
    exact gX4_readRider_b162 X hrec4 a p1 x3 μ _ _ _ _ hf (by omega) (by omega)
  · rw [if_pos h130] at hf
    refine wa_aload_n X 0 dX4_readRider_144 rfl ?_
    refine wa_getP X dX4_readRider_145 lfX4_9 rfl h126 rfl ?_
    obtain ⟨r131, μ132, c133, m134, c135, m136, e137, hf, h138, h139⟩ := jcl_some hf
    refine wa_rcallV (st2 := [.long r131]) X dX4_readRider_148 lmX4_34 lMX7_token h128 h129 (mX7_token e137) rfl rfl rfl (va_cats (Nat.le_of_ble_eq_true rfl)) (by decide) (by omega) (by omega) ?_
    refine wa_ldc2 (v := (-60 : Int64)) X dX4_readRider_151 lkX4_106 ?_
    refine wa_lcmp X dX4_readRider_154 ?_
    refine wa_ifne (tgt := 162) X dX4_readRider_155 (by decide) (fun h140 => ?_) (fun h140 => ?_)
    · rw [if_neg h140] at hf
      refine wa_sub (L2 := [(0, va_rf (some a)), (1, va_rf p1), (3, .int x3)]) [0, 1, 2] rfl ?_
      exact gX4_readRider_b162 X hrec4 a p1 x3 μ132 _ _ _ _ hf (by omega) (by omega)
    · rw [if_pos h140] at hf
      refine wa_iconst (v := (1 : Int32)) X dX4_readRider_158 (by decide) ?_
      refine wa_goto (tgt := 163) X dX4_readRider_159 (by decide) ?_
      refine wa_sub (L2 := [(0, va_rf (some a)), (1, va_rf p1), (3, .int x3)]) [0, 1, 2] rfl ?_
      exact gX4_readRider_b163 X hrec4 a p1 x3 (1 : Int32) μ132 _ _ _ _ hf (by omega) (by omega)
def fX4_readRider_b59 (rec4 : Nat → Option Nat → Int32 → Int32 → JM → JO (Int32)) (a : Nat) (p1 : Option Nat) (x3 : Int32) (y4 : Int64) (μ : JM) : JO (Int32) := if x3 = (12 : Int32) then (jck ((jT μ a).1 == 5) <| jde (jP μ a 0) fun q113 => jck ((jT μ q113).1 == 8) <| jcl (fX7_fail q113 (4 : Int32) μ) fun r116 μ117 => jck (jbl r116) <| some (r116, μ117, 0, 0)) else (jck ((jT μ a).1 == 5) <| jde (jP μ a 0) fun q35 => jck ((jT μ q35).1 == 8) <| jcl (fX7_step q35 μ) fun u38 μ39 => if (lg_cmp y4 (-3015 : Int64)) = 0 then (jck ((jT μ39 a).1 == 5) <| jcl (fX4_readLabelIn a p1 μ39) fun r91 μ92 => jde p1 fun q100 => jck ((jT μ92 q100).1 == 9) <| jcl (fX8_remove q100 r91 μ92) fun u103 μ104 => fX4_readRider_b134 rec4 a p1 x3 μ104) else (if (lg_cmp y4 (-3017 : Int64)) = 0 then (jck ((jT μ39 a).1 == 5) <| jcl (fX4_readClause a p1 (1 : Int32) μ39) fun r69 μ70 => jde p1 fun q78 => jck ((jT μ70 q78).1 == 9) <| jcl (fX8_add q78 r69 μ70) fun u81 μ82 => fX4_readRider_b134 rec4 a p1 x3 μ82) else (jck ((jT μ39 a).1 == 5) <| jcl (fX4_readClause a p1 (2 : Int32) μ39) fun r50 μ51 => jcl (fX4_replaceIn p1 r50 μ51) fun u59 μ60 => fX4_readRider_b134 rec4 a p1 x3 μ60)))
set_option maxHeartbeats 4000000 in
set_option maxRecDepth 100000 in
theorem gX4_readRider_b59 {b : Nat} {Θ : JE} {RC RS : Nat} {r : Int32} {ν : JM} (X : jX b Θ RX4 cX4_readRider 6 (some .boolean) 5 152 RC RS) {rec4 : Nat → Option Nat → Int32 → Int32 → JM → JO (Int32)} (hrec4 : ∀ (a : Nat) (p1 : Option Nat) (x2 : Int32) (x3 : Int32) (μ : JM) (c m k n : Nat), rec4 a p1 x2 x3 μ = some (r, ν, c, m) → k + c = RC → n + m = RS → WA b Θ 6 (jE b Θ (some (.int r)) ν RC RS) μ k n 4 [(0, va_rf (some a)), (1, va_rf p1), (2, .int x2), (3, .int x3)] []) (a : Nat) (p1 : Option Nat) (x3 : Int32) (y4 : Int64) (μ : JM) (c m k n : Nat) (hf : fX4_readRider_b59 rec4 a p1 x3 y4 μ = some (r, ν, c, m)) (hk : k + c = RC) (hn : n + m = RS) : WA b Θ 6 (jE b Θ (some (.int r)) ν RC RS) μ k n 59 [(0, va_rf (some a)), (1, va_rf p1), (3, .int x3), (4, .long y4)] [] := by
  rw [fX4_readRider_b59] at hf
  refine wa_iload_n X 2 dX4_readRider_59 rfl ?_
  refine wa_bipush (v := (12 : Int32)) X dX4_readRider_60 (by decide) ?_
  refine wa_icne (tgt := 74) X dX4_readRider_62 (by decide) (fun h33 => ?_) (fun h33 => ?_)
  · rw [if_neg h33] at hf
    refine wa_aload_n X 0 dX4_readRider_74 rfl ?_
    obtain ⟨h34, hf⟩ := jckT hf
    refine wa_getP X dX4_readRider_75 lfX4_9 rfl h34 rfl ?_
    obtain ⟨q35, h36, hf⟩ := jde_some hf
    obtain ⟨h37, hf⟩ := jckT hf
    obtain ⟨u38, μ39, c40, m41, c42, m43, e44, hf, h45, h46⟩ := jcl_some hf
    refine wa_rcallV (st2 := []) X dX4_readRider_78 lmX4_68 lMX7_step h36 h37 (mX7_step e44) rfl rfl rfl (va_cats (Nat.le_of_ble_eq_true rfl)) (by decide) (by omega) (by omega) ?_
    refine wa_lload X 3 dX4_readRider_81 rfl ?_
    refine wa_ldc2 (v := (-3015 : Int64)) X dX4_readRider_83 lkX4_111 ?_
    refine wa_lcmp X dX4_readRider_86 ?_
    refine wa_ifne (tgt := 102) X dX4_readRider_87 (by decide) (fun h47 => ?_) (fun h47 => ?_)
    · rw [if_neg h47] at hf
      refine wa_lload X 3 dX4_readRider_102 rfl ?_
      refine wa_ldc2 (v := (-3017 : Int64)) X dX4_readRider_104 lkX4_115 ?_
      refine wa_lcmp X dX4_readRider_107 ?_
      refine wa_ifne (tgt := 124) X dX4_readRider_108 (by decide) (fun h48 => ?_) (fun h48 => ?_)
      · rw [if_neg h48] at hf
        refine wa_aload_n X 1 dX4_readRider_124 rfl ?_
        refine wa_aload_n X 0 dX4_readRider_125 rfl ?_
        refine wa_aload_n X 1 dX4_readRider_126 rfl ?_
        refine wa_iconst (v := (2 : Int32)) X dX4_readRider_127 (by decide) ?_
        obtain ⟨h49, hf⟩ := jckT hf
        obtain ⟨r50, μ51, c52, m53, c54, m55, e56, hf, h57, h58⟩ := jcl_some hf
        refine wa_rcallV (st2 := [va_rf r50, va_rf p1]) X dX4_readRider_128 lmX4_96 lMX4_readClause rfl h49 (mX4_readClause e56) rfl rfl rfl (va_cats (Nat.le_of_ble_eq_true rfl)) (by decide) (by omega) (by omega) ?_
        obtain ⟨u59, μ60, c61, m62, c63, m64, e65, hf, h66, h67⟩ := jcl_some hf
        refine wa_rcallS (st2 := []) X dX4_readRider_131 lmX4_124 lMX4_replaceIn (mX4_replaceIn e65) rfl rfl rfl (va_cats (Nat.le_of_ble_eq_true rfl)) (by decide) (by omega) (by omega) ?_
        refine wa_sub (L2 := [(0, va_rf (some a)), (1, va_rf p1), (3, .int x3)]) [0, 1, 2] rfl ?_
        exact gX4_readRider_b134 X hrec4 a p1 x3 μ60 _ _ _ _ hf (by omega) (by omega)
      · rw [if_pos h48] at hf
        refine wa_aload_n X 1 dX4_readRider_111 rfl ?_
        refine wa_aload_n X 0 dX4_readRider_112 rfl ?_
        refine wa_aload_n X 1 dX4_readRider_113 rfl ?_
        refine wa_iconst (v := (1 : Int32)) X dX4_readRider_114 (by decide) ?_
        obtain ⟨h68, hf⟩ := jckT hf
        obtain ⟨r69, μ70, c71, m72, c73, m74, e75, hf, h76, h77⟩ := jcl_some hf
        refine wa_rcallV (st2 := [va_rf r69, va_rf p1]) X dX4_readRider_115 lmX4_96 lMX4_readClause rfl h68 (mX4_readClause e75) rfl rfl rfl (va_cats (Nat.le_of_ble_eq_true rfl)) (by decide) (by omega) (by omega) ?_
        obtain ⟨q78, h79, hf⟩ := jde_some hf
        obtain ⟨h80, hf⟩ := jckT hf
        obtain ⟨u81, μ82, c83, m84, c85, m86, e87, hf, h88, h89⟩ := jcl_some hf
        refine wa_rcallV (st2 := []) X dX4_readRider_118 lmX4_100 lMX8_add h79 h80 (mX8_add e87) rfl rfl rfl (va_cats (Nat.le_of_ble_eq_true rfl)) (by decide) (by omega) (by omega) ?_
        refine wa_goto (tgt := 134) X dX4_readRider_121 (by decide) ?_
        refine wa_sub (L2 := [(0, va_rf (some a)), (1, va_rf p1), (3, .int x3)]) [0, 1, 2] rfl ?_
        exact gX4_readRider_b134 X hrec4 a p1 x3 μ82 _ _ _ _ hf (by omega) (by omega)
    · rw [if_pos h47] at hf
      refine wa_aload_n X 1 dX4_readRider_90 rfl ?_
      refine wa_aload_n X 0 dX4_readRider_91 rfl ?_
      refine wa_aload_n X 1 dX4_readRider_92 rfl ?_
      obtain ⟨h90, hf⟩ := jckT hf
      obtain ⟨r91, μ92, c93, m94, c95, m96, e97, hf, h98, h99⟩ := jcl_some hf
      refine wa_rcallV (st2 := [.int r91, va_rf p1]) X dX4_readRider_93 lmX4_117 lMX4_readLabelIn rfl h90 (mX4_readLabelIn e97) rfl rfl rfl (va_cats (Nat.le_of_ble_eq_true rfl)) (by decide) (by omega) (by omega) ?_
      obtain ⟨q100, h101, hf⟩ := jde_some hf
      obtain ⟨h102, hf⟩ := jckT hf
      obtain ⟨u103, μ104, c105, m106, c107, m108, e109, hf, h110, h111⟩ := jcl_some hf
      refine wa_rcallV (st2 := []) X dX4_readRider_96 lmX4_121 lMX8_remove h101 h102 (mX8_remove e109) rfl rfl rfl (va_cats (Nat.le_of_ble_eq_true rfl)) (by decide) (by omega) (by omega) ?_
      refine wa_goto (tgt := 134) X dX4_readRider_99 (by decide) ?_
      refine wa_sub (L2 := [(0, va_rf (some a)), (1, va_rf p1), (3, .int x3)]) [0, 1, 2] rfl ?_
      exact gX4_readRider_b134 X hrec4 a p1 x3 μ104 _ _ _ _ hf (by omega) (by omega)
  · rw [if_pos h33] at hf
    refine wa_aload_n X 0 dX4_readRider_65 rfl ?_
    obtain ⟨h112, hf⟩ := jckT hf
    refine wa_getP X dX4_readRider_66 lfX4_9 rfl h112 rfl ?_
    refine wa_iconst (v := (4 : Int32)) X dX4_readRider_69 (by decide) ?_
    obtain ⟨q113, h114, hf⟩ := jde_some hf
    obtain ⟨h115, hf⟩ := jckT hf
    obtain ⟨r116, μ117, c118, m119, c120, m121, e122, hf, h123, h124⟩ := jcl_some hf
    refine wa_rcallV (st2 := [.int r116]) X dX4_readRider_70 lmX4_54 lMX7_fail h114 h115 (mX7_fail e122) rfl rfl rfl (va_cats (Nat.le_of_ble_eq_true rfl)) (by decide) (by omega) (by omega) ?_
    obtain ⟨h125, hf⟩ := jck_some hf
    obtain ⟨rfl, rfl, rfl, rfl⟩ := jret hf
    exact wa_iret X dX4_readRider_73 (jbl_nar h125) (by omega) (by omega)
def fX4_readRider_b181 (a : Nat) (μ : JM) : JO (Int32) := jck ((jT μ a).1 == 5) <| jde (jP μ a 0) fun q156 => jck ((jT μ q156).1 == 8) <| if (jI μ q156 5) = 0 then (jcl (fX7_take q156 (0 : Int64) μ) fun r160 μ161 => if r160 = 0 then (some ((0 : Int32), μ161, 0, 0)) else (some ((1 : Int32), μ161, 0, 0))) else (some ((0 : Int32), μ, 0, 0))
set_option maxHeartbeats 4000000 in
set_option maxRecDepth 100000 in
theorem gX4_readRider_b181 {b : Nat} {Θ : JE} {RC RS : Nat} {r : Int32} {ν : JM} (X : jX b Θ RX4 cX4_readRider 6 (some .boolean) 5 152 RC RS) (a : Nat) (μ : JM) (c m k n : Nat) (hf : fX4_readRider_b181 a μ = some (r, ν, c, m)) (hk : k + c = RC) (hn : n + m = RS) : WA b Θ 6 (jE b Θ (some (.int r)) ν RC RS) μ k n 181 [(0, va_rf (some a))] [] := by
  rw [fX4_readRider_b181] at hf
  refine wa_aload_n X 0 dX4_readRider_181 rfl ?_
  obtain ⟨h155, hf⟩ := jckT hf
  refine wa_getP X dX4_readRider_182 lfX4_9 rfl h155 rfl ?_
  obtain ⟨q156, h157, hf⟩ := jde_some hf
  obtain ⟨h158, hf⟩ := jckT hf
  refine wa_getI X dX4_readRider_185 lfX4_103 h157 h158 rfl ?_
  refine wa_ifne (tgt := 206) X dX4_readRider_188 (by decide) (fun h159 => ?_) (fun h159 => ?_)
  · rw [if_neg h159] at hf
    refine wa_iconst (v := (0 : Int32)) X dX4_readRider_206 (by decide) ?_
    obtain ⟨rfl, rfl, rfl, rfl⟩ := jret hf
    exact wa_iret X dX4_readRider_207 rfl (by omega) (by omega)
  · rw [if_pos h159] at hf
    refine wa_aload_n X 0 dX4_readRider_191 rfl ?_
    refine wa_getP X dX4_readRider_192 lfX4_9 rfl h155 rfl ?_
    refine wa_lconst (v := (0 : Int64)) X dX4_readRider_195 (by decide) ?_
    obtain ⟨r160, μ161, c162, m163, c164, m165, e166, hf, h167, h168⟩ := jcl_some hf
    refine wa_rcallV (st2 := [.int r160]) X dX4_readRider_196 lmX4_84 lMX7_take h157 h158 (mX7_take e166) rfl rfl rfl (va_cats (Nat.le_of_ble_eq_true rfl)) (by decide) (by omega) (by omega) ?_
    refine wa_ifeq (tgt := 206) X dX4_readRider_199 (by decide) (fun h169 => ?_) (fun h169 => ?_)
    · rw [if_pos h169] at hf
      refine wa_iconst (v := (0 : Int32)) X dX4_readRider_206 (by decide) ?_
      obtain ⟨rfl, rfl, rfl, rfl⟩ := jret hf
      exact wa_iret X dX4_readRider_207 rfl (by omega) (by omega)
    · rw [if_neg h169] at hf
      refine wa_iconst (v := (1 : Int32)) X dX4_readRider_202 (by decide) ?_
      refine wa_goto (tgt := 207) X dX4_readRider_203 (by decide) ?_
      obtain ⟨rfl, rfl, rfl, rfl⟩ := jret hf
      exact wa_iret X dX4_readRider_207 rfl (by omega) (by omega)
def fX4_readRider_b4 : Nat → Nat → Option Nat → Int32 → Int32 → JM → JO (Int32)
  | 0, _, _, _, _, _ => none
  | fu + 1, a, p1, x2, x3, μ => if (12 : Int32) < x3 then (fX4_readRider_b181  a μ) else (if x2 = 0 then (fX4_readRider_b181  a μ) else (jck ((jT μ a).1 == 5) <| jde (jP μ a 0) fun q4 => jck ((jT μ q4).1 == 8) <| jcl (fX7_token q4 μ) fun r7 μ8 => if (lg_cmp r7 (-3015 : Int64)) = 0 then (fX4_readRider_b59 (fX4_readRider_b4 fu) a p1 x3 r7 μ8) else (if (lg_cmp r7 (-3016 : Int64)) = 0 then (fX4_readRider_b59 (fX4_readRider_b4 fu) a p1 x3 r7 μ8) else (if (lg_cmp r7 (-3017 : Int64)) = 0 then (fX4_readRider_b59 (fX4_readRider_b4 fu) a p1 x3 r7 μ8) else (jck ((jT μ8 a).1 == 5) <| jde (jP μ8 a 0) fun q20 => jck ((jT μ8 q20).1 == 8) <| jcl (fX7_fail q20 (0 : Int32) μ8) fun r23 μ24 => jck (jbl r23) <| some (r23, μ24, 0, 0))))))
set_option maxHeartbeats 4000000 in
set_option maxRecDepth 100000 in
theorem gX4_readRider_b4 {b : Nat} {Θ : JE} {RC RS : Nat} {r : Int32} {ν : JM} (X : jX b Θ RX4 cX4_readRider 6 (some .boolean) 5 152 RC RS) : ∀ (fu : Nat) (a : Nat) (p1 : Option Nat) (x2 : Int32) (x3 : Int32) (μ : JM) (c m k n : Nat), fX4_readRider_b4 fu a p1 x2 x3 μ = some (r, ν, c, m) → k + c = RC → n + m = RS → WA b Θ 6 (jE b Θ (some (.int r)) ν RC RS) μ k n 4 [(0, va_rf (some a)), (1, va_rf p1), (2, .int x2), (3, .int x3)] [] := by
  intro fu
  induction fu with
  | zero => intro a p1 x2 x3 μ c m k n hf; cases hf
  | succ fu ih =>
    intro a p1 x2 x3 μ c m k n hf hk hn
    rw [fX4_readRider_b4] at hf
    refine wa_iload_n X 3 dX4_readRider_4 rfl ?_
    refine wa_bipush (v := (12 : Int32)) X dX4_readRider_5 (by decide) ?_
    refine wa_icgt (tgt := 181) X dX4_readRider_7 (by decide) (fun h1 => ?_) (fun h1 => ?_)
    · rw [if_pos h1] at hf
      refine wa_sub (L2 := [(0, va_rf (some a))]) [0] rfl ?_
      exact gX4_readRider_b181 X a μ _ _ _ _ hf (by omega) (by omega)
    · rw [if_neg h1] at hf
      refine wa_iload_n X 2 dX4_readRider_10 rfl ?_
      refine wa_ifeq (tgt := 181) X dX4_readRider_11 (by decide) (fun h2 => ?_) (fun h2 => ?_)
      · rw [if_pos h2] at hf
        refine wa_sub (L2 := [(0, va_rf (some a))]) [0] rfl ?_
        exact gX4_readRider_b181 X a μ _ _ _ _ hf (by omega) (by omega)
      · rw [if_neg h2] at hf
        refine wa_aload_n X 0 dX4_readRider_14 rfl ?_
        obtain ⟨h3, hf⟩ := jckT hf
        refine wa_getP X dX4_readRider_15 lfX4_9 rfl h3 rfl ?_
        obtain ⟨q4, h5, hf⟩ := jde_some hf
        obtain ⟨h6, hf⟩ := jckT hf
        obtain ⟨r7, μ8, c9, m10, c11, m12, e13, hf, h14, h15⟩ := jcl_some hf
        refine wa_rcallV (st2 := [.long r7]) X dX4_readRider_18 lmX4_34 lMX7_token h5 h6 (mX7_token e13) rfl rfl rfl (va_cats (Nat.le_of_ble_eq_true rfl)) (by decide) (by omega) (by omega) ?_
        refine wa_lstore (L2 := [(4, .long r7), (0, va_rf (some a)), (1, va_rf p1), (2, .int x2), (3, .int x3)]) X dX4_readRider_21 (by decide) (by first | rfl | (show (4, _) :: List.filter (fun q : Nat × Value => !(q.1 == 4) && (!(q.1 == 5) && !(q.1 + 1 == 4 && q.2.category == 2))) _ = _; simp [va_rf_cat, cat_i, cat_l])) ?_
        refine wa_lload X 0 dX4_readRider_23 rfl ?_
        refine wa_ldc2 (v := (-3015 : Int64)) X dX4_readRider_25 lkX4_111 ?_
        refine wa_lcmp X dX4_readRider_28 ?_
        refine wa_ifeq (tgt := 59) X dX4_readRider_29 (by decide) (fun h16 => ?_) (fun h16 => ?_)
        · rw [if_pos h16] at hf
          refine wa_sub (L2 := [(0, va_rf (some a)), (1, va_rf p1), (3, .int x3), (4, .long r7)]) [1, 2, 4, 0] rfl ?_
          exact gX4_readRider_b59 X ih a p1 x3 r7 μ8 _ _ _ _ hf (by omega) (by omega)
        · rw [if_neg h16] at hf
          refine wa_lload X 0 dX4_readRider_32 rfl ?_
          refine wa_ldc2 (v := (-3016 : Int64)) X dX4_readRider_34 lkX4_113 ?_
          refine wa_lcmp X dX4_readRider_37 ?_
          refine wa_ifeq (tgt := 59) X dX4_readRider_38 (by decide) (fun h17 => ?_) (fun h17 => ?_)
          · rw [if_pos h17] at hf
            refine wa_sub (L2 := [(0, va_rf (some a)), (1, va_rf p1), (3, .int x3), (4, .long r7)]) [1, 2, 4, 0] rfl ?_
            exact gX4_readRider_b59 X ih a p1 x3 r7 μ8 _ _ _ _ hf (by omega) (by omega)
          · rw [if_neg h17] at hf
            refine wa_lload X 0 dX4_readRider_41 rfl ?_
            refine wa_ldc2 (v := (-3017 : Int64)) X dX4_readRider_43 lkX4_115 ?_
            refine wa_lcmp X dX4_readRider_46 ?_
            refine wa_ifeq (tgt := 59) X dX4_readRider_47 (by decide) (fun h18 => ?_) (fun h18 => ?_)
            · rw [if_pos h18] at hf
              refine wa_sub (L2 := [(0, va_rf (some a)), (1, va_rf p1), (3, .int x3), (4, .long r7)]) [1, 2, 4, 0] rfl ?_
              exact gX4_readRider_b59 X ih a p1 x3 r7 μ8 _ _ _ _ hf (by omega) (by omega)
            · rw [if_neg h18] at hf
              refine wa_aload_n X 1 dX4_readRider_50 rfl ?_
              obtain ⟨h19, hf⟩ := jckT hf
              refine wa_getP X dX4_readRider_51 lfX4_9 rfl h19 rfl ?_
              refine wa_iconst (v := (0 : Int32)) X dX4_readRider_54 (by decide) ?_
              obtain ⟨q20, h21, hf⟩ := jde_some hf
              obtain ⟨h22, hf⟩ := jckT hf
              obtain ⟨r23, μ24, c25, m26, c27, m28, e29, hf, h30, h31⟩ := jcl_some hf
              refine wa_rcallV (st2 := [.int r23]) X dX4_readRider_55 lmX4_54 lMX7_fail h21 h22 (mX7_fail e29) rfl rfl rfl (va_cats (Nat.le_of_ble_eq_true rfl)) (by decide) (by omega) (by omega) ?_
              obtain ⟨h32, hf⟩ := jck_some hf
              obtain ⟨rfl, rfl, rfl, rfl⟩ := jret hf
              exact wa_iret X dX4_readRider_58 (jbl_nar h32) (by omega) (by omega)
def fX4_readRider (a : Nat) (p1 : Option Nat) (μ : JM) : JO (Int32) := fX4_readRider_b4  jfuel a p1 (1 : Int32) (0 : Int32) μ
set_option maxHeartbeats 4000000 in
set_option maxRecDepth 100000 in
theorem mX4_readRider {b : Nat} {a : Nat} {p1 : Option Nat} {μ : JM} {r : Int32} {ν : JM} {c m : Nat} (hf : fX4_readRider a p1 μ = some (r, ν, c, m)) : JMet b yX4_readRider cX4_readRider 6 (some .boolean) 5 152 [va_rf (some a), va_rf p1] μ (some (.int r)) ν c m := by
  refine JMet.of (by decide) (lg_sl_le (by simp only [List.map_cons, List.map_nil, List.sum_cons, List.sum_nil, va_rf_cat]; exact Nat.le_of_ble_eq_true rfl)) (fun Θ X hin => ?_)
  refine wa_eq (L2 := [(0, va_rf (some a)), (1, va_rf p1)]) ?_ rfl (by first | rfl | simp [lv_args, va_rf_cat, cat_i, cat_l]) rfl
  obtain ⟨k, hk0⟩ : ∃ k : Nat, k = 0 := ⟨0, rfl⟩
  obtain ⟨n, hn0⟩ : ∃ n : Nat, n = 0 := ⟨0, rfl⟩
  have hk : k + c = c := by omega
  have hn : n + m = m := by omega
  refine wa_costs hk0.symm hn0.symm ?_
  rw [fX4_readRider] at hf
  refine wa_iconst (v := (1 : Int32)) X dX4_readRider_0 (by decide) ?_
  refine wa_istore_n (L2 := [(2, .int (1 : Int32)), (0, va_rf (some a)), (1, va_rf p1)]) X dX4_readRider_1 (by decide) (by first | rfl | (show (2, _) :: List.filter (fun q : Nat × Value => !(q.1 == 2) && !(q.1 + 1 == 2 && q.2.category == 2)) _ = _; simp [va_rf_cat, cat_i, cat_l])) ?_
  refine wa_iconst (v := (0 : Int32)) X dX4_readRider_2 (by decide) ?_
  refine wa_istore_n (L2 := [(3, .int (0 : Int32)), (2, .int (1 : Int32)), (0, va_rf (some a)), (1, va_rf p1)]) X dX4_readRider_3 (by decide) (by first | rfl | (show (3, _) :: List.filter (fun q : Nat × Value => !(q.1 == 3) && !(q.1 + 1 == 3 && q.2.category == 2)) _ = _; simp [va_rf_cat, cat_i, cat_l])) ?_
  refine wa_sub (L2 := [(0, va_rf (some a)), (1, va_rf p1), (2, .int (1 : Int32)), (3, .int (0 : Int32))]) [2, 3, 1, 0] rfl ?_
  exact gX4_readRider_b4 X jfuel a p1 (1 : Int32) (0 : Int32) μ _ _ _ _ hf (by omega) (by omega)
