/-! the String constant: String.length, charAt; Words.addEach -/
def JMx (b : Nat) (E : State → Prop) (y : MethodName) (cc : ByteArray) (ml : Nat) (ret : Option FieldType) (FR LO : Nat) (as : List Value) (μ : JM) (res : Option Value) (ν : JM) (c n : Nat) : Prop :=
  ∀ l : Launch, Met l y (.code y cc ml ret :: jw) { frames := FR, cells := c, slots := n, locals := LO } (va_Pc as (fun U => jR b U μ U.heap ∧ jg b U ∧ E U)) (jQ b res ν) c n (fun q => b ≤ q)
theorem JMx.of {b : Nat} {E : State → Prop} {y : MethodName} {cc : ByteArray} {ml : Nat} {ret : Option FieldType} {FR LO : Nat} {as : List Value} {μ : JM} {res : Option Value} {ν : JM} {c n : Nat} (hy : plainFor y = true) (hn : (lg_sl as).length ≤ ml)
    (body : ∀ Θ : JE, jX b Θ y.cls cc ml ret FR LO c n → E (eS Θ) → WA b Θ ml (jE b Θ res ν c n) μ 0 0 0 (lv_args 0 as) []) : JMx b E y cc ml ret FR LO as μ res ν c n := by
  intro l
  refine va_MetF (cc := cc) (maxL := ml) (ret := ret) hy rfl ?_
  intro p e s m args below meth co s₁ B hml hv
  obtain ⟨rfl, hR, hg, hE⟩ := hv
  have hts := atoms_spec (ws := .code y cc ml ret :: jw) B.pre
  have hb : b ≤ s.heap.size := hR.1
  have hl := lv_entry as hn
  rw [lg_entry_eq]
  exact body (p, l, e, (headSpec (.code y cc ml ret :: jw) { frames := FR, cells := c, slots := n, locals := LO }).room, s, m, as.toArray, below, meth, co) ⟨B.exec, B.bytes, hml, findClass_of_methodNamed B.named, fun w hw => hts w (List.mem_cons_of_mem _ hw), B.returns, B.notSynchronized, rfl, hg, hb⟩ hE s.heap [] _ hR va_S.rf hl
/-- facts of the start that stay -/
def jSta (b : Nat) (E : State → Prop) : Prop := ∀ s U : State, s.vm.Alike U.vm → (∀ q, q < s.heap.size → ¬ b ≤ q → U.heap[q]? = s.heap[q]?) → E s → E U
theorem JMx.blind {b : Nat} {E : State → Prop} {as : List Value} {μ : JM} (hE : jSta b E) : FrameBlind (va_Pc as (fun U => jR b U μ U.heap ∧ jg b U ∧ E U)) := fun a U g mk q => ⟨q.1, q.2.1.moved (u := U) (U := U.calling g mk a) (Vm.Alike.refl U.vm), q.2.2.1.frame, hE U (U.calling g mk a) (Vm.Alike.refl U.vm) (fun _ _ _ => rfl) q.2.2.2⟩
theorem jSta_St (b q : Nat) : jSta b (jSt b q) := fun s U h1 h2 h => h.at h1 h2
def jTb (b t : Nat) (U : State) : Prop := va_T .byte t 89 (fun j => .int (jOURS.getD j 0)) (fun q => b ≤ q) U U.heap
theorem jSta_Tb (b t : Nat) : jSta b (jTb b t) := fun s U h1 h2 h => (h.moved h1).kept h2
theorem jSta_T (b : Nat) : jSta b (fun _ => True) := fun _ _ _ _ _ => trivial
def jRJ (y : MethodName) (cc : ByteArray) (ml : Nat) (ret : Option FieldType) (np : Nat) : Prop := (y.cls ≠ "java/lang/invoke/MethodHandle" ∧ y.cls ≠ "java/lang/invoke/VarHandle") ∧ (parseMethodDescriptor y.desc).map (fun d => d.parameters.length) = some np ∧ Cond.instanceMethod y ∈ jw ∧ Cond.selects RJ0 y y ∈ jw ∧ Cond.initialized y.cls ∈ jw ∧ Cond.code y cc ml ret ∈ jw
section WAR
variable {b : Nat} {Θ : JE} {own : String} {cc : ByteArray} {ml : Nat} {ret : Option FieldType} {FR LO RC RS : Nat} {Γ : JG} {μ : JM} {k n pc : Nat} {L : List (Nat × Value)} {st : List Value}
theorem wx_callV {i q : Nat} {E : State → Prop} {y : MethodName} {cc2 : ByteArray} {ml2 : Nat} {ret2 : Option FieldType} {FR2 LO2 np : Nat} {As rest st2 : List Value} {res : Option Value} {ν : JM} {c1 n1 : Nat} (X : jX b Θ own cc ml ret FR LO RC RS) (d : decode cc pc = .ok (.invokevirtual i, 3)) (hl : Cond.methodLink own i y ∈ jw) (C : jRJ y cc2 ml2 ret2 np) (hq : jSt b q (eS Θ)) (hE : jSta b E) (hEs : E (eS Θ)) (hM : JMx b E y cc2 ml2 ret2 FR2 LO2 (.ref q :: As) μ res ν c1 n1) (hst : st = As.reverse ++ .ref q :: rest) (hnp : As.length = np) (hst2 : st2 = res.toList ++ rest) (hW : (rest.map fun v => v.category).sum ≤ 8) (hRm : FR2 + 1 ≤ FR ∧ 8 + (ml2 + 11) + LO2 ≤ LO) (hc : k + c1 ≤ RC) (hn : n + n1 ≤ RS)
    (h : WA b Θ ml Γ ν (k + c1) (n + n1) (pc + 3) L st2) : WA b Θ ml Γ μ k n pc L st := by
  subst hst hst2
  intro H locs ls hR hS hL
  obtain ⟨hmh, hpd, w1, w2, w3, w4⟩ := C
  obtain ⟨x1, x2, x3, x4, x5, x6, x7, x8, x9, x10⟩ := X
  obtain ⟨tt, hO, -⟩ := id hq
  obtain ⟨cell, g1, g2, g3, g4⟩ := hO.kept hS.2.1
  have hcw : CallW (eR Θ) (eS Θ) (eA Θ) own RJ0 i y cc2 ml2 ret2 (Cond.code y cc2 ml2 ret2 :: jw) { frames := FR2, cells := c1, slots := n1, locals := LO2 } c1 n1 np :=
    ⟨callB_of np x5 (jw_goodw w4) rfl rfl rfl (x5 _ w3) (x5 _ hl) ⟨hmh.1, hmh.2, hpd⟩ (by rw [x8]; exact hRm), x5 _ w1, x5 _ w2⟩
  refine wa_after (aa := (Value.ref q :: As).toArray) (va_runV ⟨x1, x2, x3, x4, x5⟩ (hM (eL Θ)) hcw ⟨JMx.blind hE, ⟨cell, g1, g2, g3⟩, fun U hU hWU => ⟨rfl, by rw [hU]; exact hR.moved hWU.alike, x9.at hWU (by rw [hU]; exact hS.2.1), hE _ _ hWU.alike (by rw [hU]; exact hS.2.1) hEs⟩⟩ rfl hnp hL.1 rfl (lv_room hW) d (by rw [x8]; exact ⟨hc, hn⟩)) hS hL h
theorem wx_callS {i : Nat} {E : State → Prop} {y : MethodName} {cc2 : ByteArray} {ml2 : Nat} {ret2 : Option FieldType} {FR2 LO2 np : Nat} {As rest st2 : List Value} {res : Option Value} {ν : JM} {c1 n1 : Nat} (X : jX b Θ own cc ml ret FR LO RC RS) (d : decode cc pc = .ok (.invokestatic i, 3)) (hl : Cond.methodLink own i y ∈ jw) (C : jMS y cc2 ml2 ret2 np) (hE : jSta b E) (hEs : E (eS Θ)) (hM : JMx b E y cc2 ml2 ret2 FR2 LO2 As μ res ν c1 n1) (hst : st = As.reverse ++ rest) (hnp : As.length = np) (hst2 : st2 = res.toList ++ rest) (hW : (rest.map fun v => v.category).sum ≤ 8) (hRm : FR2 + 1 ≤ FR ∧ 8 + (ml2 + 11) + LO2 ≤ LO) (hc : k + c1 ≤ RC) (hn : n + n1 ≤ RS)
    (h : WA b Θ ml Γ ν (k + c1) (n + n1) (pc + 3) L st2) : WA b Θ ml Γ μ k n pc L st := by
  subst hst hst2
  intro H locs ls hR hS hL
  obtain ⟨hmh, hpd, w1, w3, w4⟩ := C
  obtain ⟨x1, x2, x3, x4, x5, x6, x7, x8, x9, x10⟩ := X
  refine wa_after (aa := As.toArray) (va_runS ⟨x1, x2, x3, x4, x5⟩ (hM (eL Θ)) ⟨callB_of np x5 (jw_goodw w4) rfl rfl rfl (x5 _ w3) (x5 _ hl) ⟨hmh.1, hmh.2, hpd⟩ (by rw [x8]; exact hRm), x5 _ w1⟩ ⟨JMx.blind hE, fun U hU hWU => ⟨rfl, by rw [hU]; exact hR.moved hWU.alike, x9.at hWU (by rw [hU]; exact hS.2.1), hE _ _ hWU.alike (by rw [hU]; exact hS.2.1) hEs⟩⟩ rfl hnp hL.1 rfl (lv_room hW) d (by rw [x8]; exact ⟨hc, hn⟩)) hS hL h
theorem wx_gets {i : Nat} {C nm ds : String} {v : Value} (X : jX b Θ own cc ml ret FR LO RC RS) (d : decode cc pc = .ok (.getstatic i, 3)) (hl : Cond.fieldLink own i C nm ds ∈ jw) (hZ : va_Z C nm ds v (fun q => b ≤ q) (eS Θ) (eS Θ).heap) (h : WA b Θ ml Γ μ k n (pc + 3) L (v :: st)) : WA b Θ ml Γ μ k n pc L st := fun H locs ls hR hS hL => va_gets X.1 X.2.1 hZ hS X.2.2.2.1 (X.2.2.2.2.1 _ hl) (fun _ h9 => h9) d (h H locs ls hR hS hL)
theorem wx_getf {i q : Nat} {C nm ds : String} {v : Value} (X : jX b Θ own cc ml ret FR LO RC RS) (d : decode cc pc = .ok (.getfield i, 3)) (hl : Cond.fieldLink own i C nm ds ∈ jw) (hZ : va_OF C nm ds v q (fun q => b ≤ q) (eS Θ) (eS Θ).heap) (h : WA b Θ ml Γ μ k n (pc + 3) L (v :: st)) : WA b Θ ml Γ μ k n pc L (.ref q :: st) := fun H locs ls hR hS hL => vk_getf X.1 X.2.1 hZ hS X.2.2.2.1 (X.2.2.2.2.1 _ hl) (fun _ h9 => h9) d (h H locs ls hR hS hL)
theorem wx_len {t : Nat} (X : jX b Θ own cc ml ret FR LO RC RS) (d : decode cc pc = .ok (.arraylength, 1)) (hT : jTb b t (eS Θ)) (h : WA b Θ ml Γ μ k n (pc + 1) L (.int 89 :: st)) : WA b Θ ml Γ μ k n pc L (.ref t :: st) := fun H locs ls hR hS hL => va_tlen X.1 X.2.1 hT hS (by decide) d (h H locs ls hR hS hL)
theorem wx_ld {t : Nat} {i : Int32} (X : jX b Θ own cc ml ret FR LO RC RS) (d : decode cc pc = .ok (.baload, 1)) (hT : jTb b t (eS Θ)) (hi : jin i 89 = true) (h : WA b Θ ml Γ μ k n (pc + 1) L (.int (jOURS.getD i.toNatClampNeg 0) :: st)) : WA b Θ ml Γ μ k n pc L (.int i :: .ref t :: st) := fun H locs ls hR hS hL => va_tb X.1 X.2.1 hT hS (jin_in hi) rfl d (h H locs ls hR hS hL)
theorem wx_i2c {x : Int32} (X : jX b Θ own cc ml ret FR LO RC RS) (d : decode cc pc = .ok (.i2c, 1)) (h : WA b Θ ml Γ μ k n (pc + 1) L (.int ((x.toUInt32 % 65536).toInt32) :: st)) : WA b Θ ml Γ μ k n pc L (.int x :: st) := fun H locs ls hR hS hL => lv_i2c X.1 X.2.1 d rfl (h H locs ls hR hS hL)
theorem wx_callM {i t a : Nat} {E : State → Prop} {y : MethodName} {cc2 : ByteArray} {ml2 : Nat} {ret2 : Option FieldType} {FR2 LO2 np : Nat} {As rest st2 : List Value} {res : Option Value} {ν : JM} {c1 n1 : Nat} (X : jX b Θ own cc ml ret FR LO RC RS) (d : decode cc pc = .ok (.invokevirtual i, 3)) (hl : Cond.methodLink own i y ∈ jw) (C : jMV t y cc2 ml2 ret2 np) (hT : (jT μ a).1 = t) (hE : jSta b E) (hEs : E (eS Θ)) (hM : JMx b E y cc2 ml2 ret2 FR2 LO2 (.ref a :: As) μ res ν c1 n1) (hst : st = As.reverse ++ .ref a :: rest) (hnp : As.length = np) (hst2 : st2 = res.toList ++ rest) (hW : (rest.map fun v => v.category).sum ≤ 8) (hRm : FR2 + 1 ≤ FR ∧ 8 + (ml2 + 11) + LO2 ≤ LO) (hc : k + c1 ≤ RC) (hn : n + n1 ≤ RS)
    (h : WA b Θ ml Γ ν (k + c1) (n + n1) (pc + 3) L st2) : WA b Θ ml Γ μ k n pc L st := by
  subst hst hst2
  intro H locs ls hR hS hL
  obtain ⟨⟨h0, h1⟩, hcl, hmh, hpd, w1, w2, w3, w4⟩ := C
  obtain ⟨x1, x2, x3, x4, x5, x6, x7, x8, x9, x10⟩ := X
  have hA := (hR.2.2 a (by omega)).2.2.1 (by omega)
  rw [hT] at hA
  obtain ⟨cC, iS, hK, cell, q1, q2, q3, q4⟩ := hA
  have hcw : CallW (eR Θ) (eS Θ) (eA Θ) own (jC t).1 i y cc2 ml2 ret2 (Cond.code y cc2 ml2 ret2 :: jw) { frames := FR2, cells := c1, slots := n1, locals := LO2 } c1 n1 np :=
    ⟨callB_of np x5 (jw_goodw w4) rfl rfl rfl (x5 _ w3) (x5 _ hl) ⟨hmh.1, hmh.2, hpd⟩ (by rw [x8]; exact hRm), x5 _ w1, x5 _ w2⟩
  refine wa_after (aa := (Value.ref a :: As).toArray) (va_runV ⟨x1, x2, x3, x4, x5⟩ (hM (eL Θ)) hcw ⟨JMx.blind hE, ⟨cell, q1, by rw [q3]; rfl, by rw [q2]; exact hK.2.1⟩, fun U hU hWU => ⟨rfl, by rw [hU]; exact hR.moved hWU.alike, x9.at hWU (by rw [hU]; exact hS.2.1), hE _ _ hWU.alike (by rw [hU]; exact hS.2.1) hEs⟩⟩ rfl hnp hL.1 rfl (lv_room hW) d (by rw [x8]; exact ⟨hc, hn⟩)) hS hL h
end WAR
theorem dJ0_coder_7d493_0 : decode cJ0_coder_7d493 0 = .ok (.getstatic 38, 3) := by decide +kernel
theorem dJ0_coder_7d493_3 : decode cJ0_coder_7d493 3 = .ok (.ifCond .eq 10, 3) := by decide +kernel
theorem dJ0_coder_7d493_6 : decode cJ0_coder_7d493 6 = .ok (.aload_n 0, 1) := by decide +kernel
theorem dJ0_coder_7d493_7 : decode cJ0_coder_7d493 7 = .ok (.getfield 15, 3) := by decide +kernel
theorem dJ0_coder_7d493_10 : decode cJ0_coder_7d493 10 = .ok (.goto 4, 3) := by decide +kernel
theorem dJ0_coder_7d493_13 : decode cJ0_coder_7d493 13 = .ok (.iconst 1, 1) := by decide +kernel
theorem dJ0_coder_7d493_14 : decode cJ0_coder_7d493 14 = .ok (.ireturn, 1) := by decide +kernel
theorem dJ0_length_8abf5_0 : decode cJ0_length_8abf5 0 = .ok (.aload_n 0, 1) := by decide +kernel
theorem dJ0_length_8abf5_1 : decode cJ0_length_8abf5 1 = .ok (.getfield 9, 3) := by decide +kernel
theorem dJ0_length_8abf5_4 : decode cJ0_length_8abf5 4 = .ok (.arraylength, 1) := by decide +kernel
theorem dJ0_length_8abf5_5 : decode cJ0_length_8abf5 5 = .ok (.aload_n 0, 1) := by decide +kernel
theorem dJ0_length_8abf5_6 : decode cJ0_length_8abf5 6 = .ok (.invokevirtual 335, 3) := by decide +kernel
theorem dJ0_length_8abf5_9 : decode cJ0_length_8abf5 9 = .ok (.ishr, 1) := by decide +kernel
theorem dJ0_length_8abf5_10 : decode cJ0_length_8abf5 10 = .ok (.ireturn, 1) := by decide +kernel
theorem dJ0_isLatin1_aae02_0 : decode cJ0_isLatin1_aae02 0 = .ok (.getstatic 38, 3) := by decide +kernel
theorem dJ0_isLatin1_aae02_3 : decode cJ0_isLatin1_aae02 3 = .ok (.ifCond .eq 14, 3) := by decide +kernel
theorem dJ0_isLatin1_aae02_6 : decode cJ0_isLatin1_aae02 6 = .ok (.aload_n 0, 1) := by decide +kernel
theorem dJ0_isLatin1_aae02_7 : decode cJ0_isLatin1_aae02 7 = .ok (.getfield 15, 3) := by decide +kernel
theorem dJ0_isLatin1_aae02_10 : decode cJ0_isLatin1_aae02 10 = .ok (.ifCond .ne 7, 3) := by decide +kernel
theorem dJ0_isLatin1_aae02_13 : decode cJ0_isLatin1_aae02 13 = .ok (.iconst 1, 1) := by decide +kernel
theorem dJ0_isLatin1_aae02_14 : decode cJ0_isLatin1_aae02 14 = .ok (.goto 4, 3) := by decide +kernel
theorem dJ0_isLatin1_aae02_17 : decode cJ0_isLatin1_aae02 17 = .ok (.iconst 0, 1) := by decide +kernel
theorem dJ0_isLatin1_aae02_18 : decode cJ0_isLatin1_aae02 18 = .ok (.ireturn, 1) := by decide +kernel
theorem dJ0_charAt_5068e_0 : decode cJ0_charAt_5068e 0 = .ok (.aload_n 0, 1) := by decide +kernel
theorem dJ0_charAt_5068e_1 : decode cJ0_charAt_5068e 1 = .ok (.invokevirtual 492, 3) := by decide +kernel
theorem dJ0_charAt_5068e_4 : decode cJ0_charAt_5068e 4 = .ok (.ifCond .eq 12, 3) := by decide +kernel
theorem dJ0_charAt_5068e_7 : decode cJ0_charAt_5068e 7 = .ok (.aload_n 0, 1) := by decide +kernel
theorem dJ0_charAt_5068e_8 : decode cJ0_charAt_5068e 8 = .ok (.getfield 9, 3) := by decide +kernel
theorem dJ0_charAt_5068e_11 : decode cJ0_charAt_5068e 11 = .ok (.iload_n 1, 1) := by decide +kernel
theorem dJ0_charAt_5068e_12 : decode cJ0_charAt_5068e 12 = .ok (.invokestatic 495, 3) := by decide +kernel
theorem dJ0_charAt_5068e_15 : decode cJ0_charAt_5068e 15 = .ok (.ireturn, 1) := by decide +kernel
theorem dJ0_charAt_5068e_16 : decode cJ0_charAt_5068e 16 = .ok (.aload_n 0, 1) := by decide +kernel
theorem dJ0_charAt_5068e_17 : decode cJ0_charAt_5068e 17 = .ok (.getfield 9, 3) := by decide +kernel
theorem dJ0_charAt_5068e_20 : decode cJ0_charAt_5068e 20 = .ok (.iload_n 1, 1) := by decide +kernel
theorem dJ0_charAt_5068e_21 : decode cJ0_charAt_5068e 21 = .ok (.invokestatic 498, 3) := by decide +kernel
theorem dJ0_charAt_5068e_24 : decode cJ0_charAt_5068e 24 = .ok (.ireturn, 1) := by decide +kernel
theorem dJ0_checkIndex_df160_0 : decode cJ0_checkIndex_df160 0 = .ok (.iload_n 0, 1) := by decide +kernel
theorem dJ0_checkIndex_df160_1 : decode cJ0_checkIndex_df160 1 = .ok (.iload_n 1, 1) := by decide +kernel
theorem dJ0_checkIndex_df160_2 : decode cJ0_checkIndex_df160 2 = .ok (.getstatic 1053, 3) := by decide +kernel
theorem dJ0_checkIndex_df160_5 : decode cJ0_checkIndex_df160 5 = .ok (.invokestatic 1059, 3) := by decide +kernel
theorem dJ0_checkIndex_df160_8 : decode cJ0_checkIndex_df160 8 = .ok (.pop, 1) := by decide +kernel
theorem dJ0_checkIndex_df160_9 : decode cJ0_checkIndex_df160 9 = .ok (.return_, 1) := by decide +kernel
theorem dJ1_charAt_3b067_0 : decode cJ1_charAt_3b067 0 = .ok (.iload_n 1, 1) := by decide +kernel
theorem dJ1_charAt_3b067_1 : decode cJ1_charAt_3b067 1 = .ok (.aload_n 0, 1) := by decide +kernel
theorem dJ1_charAt_3b067_2 : decode cJ1_charAt_3b067 2 = .ok (.arraylength, 1) := by decide +kernel
theorem dJ1_charAt_3b067_3 : decode cJ1_charAt_3b067 3 = .ok (.invokestatic 9, 3) := by decide +kernel
theorem dJ1_charAt_3b067_6 : decode cJ1_charAt_3b067 6 = .ok (.aload_n 0, 1) := by decide +kernel
theorem dJ1_charAt_3b067_7 : decode cJ1_charAt_3b067 7 = .ok (.iload_n 1, 1) := by decide +kernel
theorem dJ1_charAt_3b067_8 : decode cJ1_charAt_3b067 8 = .ok (.baload, 1) := by decide +kernel
theorem dJ1_charAt_3b067_9 : decode cJ1_charAt_3b067 9 = .ok (.sipush 255, 3) := by decide +kernel
theorem dJ1_charAt_3b067_12 : decode cJ1_charAt_3b067 12 = .ok (.iand, 1) := by decide +kernel
theorem dJ1_charAt_3b067_13 : decode cJ1_charAt_3b067 13 = .ok (.i2c, 1) := by decide +kernel
theorem dJ1_charAt_3b067_14 : decode cJ1_charAt_3b067 14 = .ok (.ireturn, 1) := by decide +kernel
theorem dJ3_checkIndex_8e157_0 : decode cJ3_checkIndex_8e157 0 = .ok (.iload_n 0, 1) := by decide +kernel
theorem dJ3_checkIndex_8e157_1 : decode cJ3_checkIndex_8e157 1 = .ok (.ifCond .lt 8, 3) := by decide +kernel
theorem dJ3_checkIndex_8e157_4 : decode cJ3_checkIndex_8e157 4 = .ok (.iload_n 0, 1) := by decide +kernel
theorem dJ3_checkIndex_8e157_5 : decode cJ3_checkIndex_8e157 5 = .ok (.iload_n 1, 1) := by decide +kernel
theorem dJ3_checkIndex_8e157_6 : decode cJ3_checkIndex_8e157 6 = .ok (.if_icmp .lt 10, 3) := by decide +kernel
theorem dJ3_checkIndex_8e157_9 : decode cJ3_checkIndex_8e157 9 = .ok (.aload_n 2, 1) := by decide +kernel
theorem dJ3_checkIndex_8e157_10 : decode cJ3_checkIndex_8e157 10 = .ok (.iload_n 0, 1) := by decide +kernel
theorem dJ3_checkIndex_8e157_11 : decode cJ3_checkIndex_8e157 11 = .ok (.iload_n 1, 1) := by decide +kernel
theorem dJ3_checkIndex_8e157_12 : decode cJ3_checkIndex_8e157 12 = .ok (.invokestatic 95, 3) := by decide +kernel
theorem dJ3_checkIndex_8e157_15 : decode cJ3_checkIndex_8e157 15 = .ok (.athrow, 1) := by decide +kernel
theorem dJ3_checkIndex_8e157_16 : decode cJ3_checkIndex_8e157 16 = .ok (.iload_n 0, 1) := by decide +kernel
theorem dJ3_checkIndex_8e157_17 : decode cJ3_checkIndex_8e157 17 = .ok (.ireturn, 1) := by decide +kernel
theorem dX9_addEach_0 : decode cX9_addEach 0 = .ok (.lconst 0, 1) := by decide +kernel
theorem dX9_addEach_1 : decode cX9_addEach 1 = .ok (.lstore_n 2, 1) := by decide +kernel
theorem dX9_addEach_2 : decode cX9_addEach 2 = .ok (.iconst 0, 1) := by decide +kernel
theorem dX9_addEach_3 : decode cX9_addEach 3 = .ok (.istore 4, 2) := by decide +kernel
theorem dX9_addEach_5 : decode cX9_addEach 5 = .ok (.iload 4, 2) := by decide +kernel
theorem dX9_addEach_7 : decode cX9_addEach 7 = .ok (.aload_n 1, 1) := by decide +kernel
theorem dX9_addEach_8 : decode cX9_addEach 8 = .ok (.invokevirtual 25, 3) := by decide +kernel
theorem dX9_addEach_11 : decode cX9_addEach 11 = .ok (.if_icmp .ge 42, 3) := by decide +kernel
theorem dX9_addEach_14 : decode cX9_addEach 14 = .ok (.aload_n 1, 1) := by decide +kernel
theorem dX9_addEach_15 : decode cX9_addEach 15 = .ok (.iload 4, 2) := by decide +kernel
theorem dX9_addEach_17 : decode cX9_addEach 17 = .ok (.invokevirtual 31, 3) := by decide +kernel
theorem dX9_addEach_20 : decode cX9_addEach 20 = .ok (.bipush 32, 2) := by decide +kernel
theorem dX9_addEach_22 : decode cX9_addEach 22 = .ok (.if_icmp .ne 14, 3) := by decide +kernel
theorem dX9_addEach_25 : decode cX9_addEach 25 = .ok (.aload_n 0, 1) := by decide +kernel
theorem dX9_addEach_26 : decode cX9_addEach 26 = .ok (.lload_n 2, 1) := by decide +kernel
theorem dX9_addEach_27 : decode cX9_addEach 27 = .ok (.invokevirtual 35, 3) := by decide +kernel
theorem dX9_addEach_30 : decode cX9_addEach 30 = .ok (.pop, 1) := by decide +kernel
theorem dX9_addEach_31 : decode cX9_addEach 31 = .ok (.lconst 0, 1) := by decide +kernel
theorem dX9_addEach_32 : decode cX9_addEach 32 = .ok (.lstore_n 2, 1) := by decide +kernel
theorem dX9_addEach_33 : decode cX9_addEach 33 = .ok (.goto 14, 3) := by decide +kernel
theorem dX9_addEach_36 : decode cX9_addEach 36 = .ok (.lload_n 2, 1) := by decide +kernel
theorem dX9_addEach_37 : decode cX9_addEach 37 = .ok (.aload_n 1, 1) := by decide +kernel
theorem dX9_addEach_38 : decode cX9_addEach 38 = .ok (.iload 4, 2) := by decide +kernel
theorem dX9_addEach_40 : decode cX9_addEach 40 = .ok (.invokevirtual 31, 3) := by decide +kernel
theorem dX9_addEach_43 : decode cX9_addEach 43 = .ok (.invokestatic 39, 3) := by decide +kernel
theorem dX9_addEach_46 : decode cX9_addEach 46 = .ok (.lstore_n 2, 1) := by decide +kernel
theorem dX9_addEach_47 : decode cX9_addEach 47 = .ok (.iinc 4 1, 3) := by decide +kernel
theorem dX9_addEach_50 : decode cX9_addEach 50 = .ok (.goto (-45), 3) := by decide +kernel
theorem dX9_addEach_53 : decode cX9_addEach 53 = .ok (.aload_n 0, 1) := by decide +kernel
theorem dX9_addEach_54 : decode cX9_addEach 54 = .ok (.lload_n 2, 1) := by decide +kernel
theorem dX9_addEach_55 : decode cX9_addEach 55 = .ok (.invokevirtual 35, 3) := by decide +kernel
theorem dX9_addEach_58 : decode cX9_addEach 58 = .ok (.pop, 1) := by decide +kernel
theorem dX9_addEach_59 : decode cX9_addEach 59 = .ok (.return_, 1) := by decide +kernel
set_option maxRecDepth 100000 in
theorem s_f38 : Cond.fieldLink RJ0 38 "java/lang/String" "COMPACT_STRINGS" "Z" ∈ jw := jw_s1 62 rfl rfl
set_option maxRecDepth 100000 in
theorem s_f1053 : Cond.fieldLink RJ0 1053 "jdk/internal/util/Preconditions" "SIOOBE_FORMATTER" "Ljava/util/function/BiFunction;" ∈ jw := jw_s1 78 rfl rfl
set_option maxRecDepth 100000 in
theorem s_f9 : Cond.fieldLink RJ0 9 "java/lang/String" "value" "[B" ∈ jw := jw_s7 94 rfl rfl
set_option maxRecDepth 100000 in
theorem s_f15 : Cond.fieldLink RJ0 15 "java/lang/String" "coder" "B" ∈ jw := jw_s7 95 rfl rfl
set_option maxRecDepth 100000 in
theorem s_mJ0_335 : Cond.methodLink RJ0 335 yJ0_coder_7d493 ∈ jw := jw_s1 58 rfl rfl
set_option maxRecDepth 100000 in
theorem s_mJ0_492 : Cond.methodLink RJ0 492 yJ0_isLatin1_aae02 ∈ jw := jw_s1 68 rfl rfl
set_option maxRecDepth 100000 in
theorem s_mJ0_495 : Cond.methodLink RJ0 495 yJ1_charAt_3b067 ∈ jw := jw_s1 72 rfl rfl
set_option maxRecDepth 100000 in
theorem s_mJ1_9 : Cond.methodLink RJ1 9 yJ0_checkIndex_df160 ∈ jw := jw_s1 75 rfl rfl
set_option maxRecDepth 100000 in
theorem s_mJ0_1059 : Cond.methodLink RJ0 1059 yJ3_checkIndex_8e157 ∈ jw := jw_s1 80 rfl rfl
set_option maxRecDepth 100000 in
theorem s_mX9_25 : Cond.methodLink RX9 25 yJ0_length_8abf5 ∈ jw := jw_s1 54 rfl rfl
set_option maxRecDepth 100000 in
theorem s_mX9_31 : Cond.methodLink RX9 31 yJ0_charAt_5068e ∈ jw := jw_s1 64 rfl rfl
set_option maxRecDepth 100000 in
theorem s_mX9_35 : Cond.methodLink RX9 35 yX9_add ∈ jw := jw_s1 102 rfl rfl
set_option maxRecDepth 100000 in
theorem s_mX9_39 : Cond.methodLink RX9 39 yX9_grown ∈ jw := jw_s1 106 rfl rfl
set_option maxRecDepth 100000 in
theorem s_mX10_16 : Cond.methodLink RX10 16 yX9_addEach ∈ jw := jw_s1 50 rfl rfl
set_option maxRecDepth 100000 in
theorem s_CJ0_coder_7d493 : jRJ yJ0_coder_7d493 cJ0_coder_7d493 1 (some .byte) 0 := ⟨⟨by decide, by decide⟩, by decide +kernel, jw_s1 59 rfl rfl, jw_s1 60 rfl rfl, jw_s1 4 rfl rfl, jw_s1 61 rfl rfl⟩
set_option maxRecDepth 100000 in
theorem s_CJ0_length_8abf5 : jRJ yJ0_length_8abf5 cJ0_length_8abf5 1 (some .int) 0 := ⟨⟨by decide, by decide⟩, by decide +kernel, jw_s1 55 rfl rfl, jw_s1 56 rfl rfl, jw_s1 4 rfl rfl, jw_s1 57 rfl rfl⟩
set_option maxRecDepth 100000 in
theorem s_CJ0_isLatin1_aae02 : jRJ yJ0_isLatin1_aae02 cJ0_isLatin1_aae02 1 (some .boolean) 0 := ⟨⟨by decide, by decide⟩, by decide +kernel, jw_s1 69 rfl rfl, jw_s1 70 rfl rfl, jw_s1 4 rfl rfl, jw_s1 71 rfl rfl⟩
set_option maxRecDepth 100000 in
theorem s_CJ0_charAt_5068e : jRJ yJ0_charAt_5068e cJ0_charAt_5068e 2 (some .char) 1 := ⟨⟨by decide, by decide⟩, by decide +kernel, jw_s1 65 rfl rfl, jw_s1 66 rfl rfl, jw_s1 4 rfl rfl, jw_s1 67 rfl rfl⟩
set_option maxRecDepth 100000 in
theorem s_CJ0_checkIndex_df160 : jMS yJ0_checkIndex_df160 cJ0_checkIndex_df160 2 none 2 := ⟨⟨by decide, by decide⟩, by decide +kernel, jw_s1 76 rfl rfl, jw_s1 4 rfl rfl, jw_s1 77 rfl rfl⟩
set_option maxRecDepth 100000 in
theorem s_CJ1_charAt_3b067 : jMS yJ1_charAt_3b067 cJ1_charAt_3b067 2 (some .char) 2 := ⟨⟨by decide, by decide⟩, by decide +kernel, jw_s1 73 rfl rfl, jw_s1 5 rfl rfl, jw_s1 74 rfl rfl⟩
set_option maxRecDepth 100000 in
theorem s_CJ3_checkIndex_8e157 : jMS yJ3_checkIndex_8e157 cJ3_checkIndex_8e157 3 (some .int) 3 := ⟨⟨by decide, by decide⟩, by decide +kernel, jw_s1 81 rfl rfl, jw_s1 6 rfl rfl, jw_s1 82 rfl rfl⟩
set_option maxRecDepth 100000 in
theorem s_CX9_addEach : jMV 10 yX9_addEach cX9_addEach 5 none 1 := ⟨by decide, rfl, ⟨by decide, by decide⟩, by decide +kernel, jw_s1 51 rfl rfl, jw_s1 52 rfl rfl, jw_s1 2 rfl rfl, jw_s1 53 rfl rfl⟩
set_option maxHeartbeats 4000000 in
set_option maxRecDepth 100000 in
theorem sx_coder {b q : Nat} {μ : JM} : JMx b (jSt b q) yJ0_coder_7d493 cJ0_coder_7d493 1 (some .byte) 0 0 [.ref q] μ (some (.int 0)) μ 0 0 := by
  refine JMx.of (by decide +kernel) (lg_sl_le (Nat.le_of_ble_eq_true rfl)) (fun Θ X hE => ?_)
  obtain ⟨t, hO, hC, hV, hT⟩ := hE
  have hg := X.2.2.2.2.2.2.2.2.1
  refine wa_eq (L2 := [(0, va_rf (some q))]) ?_ rfl rfl rfl
  refine wx_gets X dJ0_coder_7d493_0 s_f38 hg.2.2.2.2.1 ?_
  refine wa_ifeq (tgt := 13) X dJ0_coder_7d493_3 (by decide) (fun h => absurd h (by decide)) (fun _ => ?_)
  refine wa_aload_n X 0 dJ0_coder_7d493_6 rfl ?_
  refine wx_getf X dJ0_coder_7d493_7 s_f15 hC ?_
  refine wa_goto (tgt := 14) X dJ0_coder_7d493_10 (by decide) ?_
  exact wa_iret X dJ0_coder_7d493_14 rfl rfl rfl
set_option maxHeartbeats 4000000 in
set_option maxRecDepth 100000 in
theorem sx_length {b q : Nat} {μ : JM} : JMx b (jSt b q) yJ0_length_8abf5 cJ0_length_8abf5 1 (some .int) 1 20 [.ref q] μ (some (.int 89)) μ 0 0 := by
  refine JMx.of (by decide +kernel) (lg_sl_le (Nat.le_of_ble_eq_true rfl)) (fun Θ X hE => ?_)
  obtain ⟨t, hO, hC, hV, hT⟩ := id hE
  refine wa_eq (L2 := [(0, va_rf (some q))]) ?_ rfl rfl rfl
  refine wa_aload_n X 0 dJ0_length_8abf5_0 rfl ?_
  refine wx_getf X dJ0_length_8abf5_1 s_f9 hV ?_
  refine wx_len X dJ0_length_8abf5_4 hT ?_
  refine wa_aload_n X 0 dJ0_length_8abf5_5 rfl ?_
  refine wx_callV (st2 := [.int 0, .int 89]) X dJ0_length_8abf5_6 s_mJ0_335 s_CJ0_coder_7d493 hE (jSta_St b q) hE sx_coder rfl rfl rfl (va_cats (Nat.le_of_ble_eq_true rfl)) (by decide) (by decide) (by decide) ?_
  refine wa_ishr X dJ0_length_8abf5_9 ?_
  have e : jshr 89 0 = 89 := by decide
  rw [e]
  exact wa_iret X dJ0_length_8abf5_10 rfl rfl rfl
set_option maxHeartbeats 4000000 in
set_option maxRecDepth 100000 in
theorem sx_isLatin1 {b q : Nat} {μ : JM} : JMx b (jSt b q) yJ0_isLatin1_aae02 cJ0_isLatin1_aae02 1 (some .boolean) 0 0 [.ref q] μ (some (.int 1)) μ 0 0 := by
  refine JMx.of (by decide +kernel) (lg_sl_le (Nat.le_of_ble_eq_true rfl)) (fun Θ X hE => ?_)
  obtain ⟨t, hO, hC, hV, hT⟩ := hE
  have hg := X.2.2.2.2.2.2.2.2.1
  refine wa_eq (L2 := [(0, va_rf (some q))]) ?_ rfl rfl rfl
  refine wx_gets X dJ0_isLatin1_aae02_0 s_f38 hg.2.2.2.2.1 ?_
  refine wa_ifeq (tgt := 17) X dJ0_isLatin1_aae02_3 (by decide) (fun h => absurd h (by decide)) (fun _ => ?_)
  refine wa_aload_n X 0 dJ0_isLatin1_aae02_6 rfl ?_
  refine wx_getf X dJ0_isLatin1_aae02_7 s_f15 hC ?_
  refine wa_ifne (tgt := 17) X dJ0_isLatin1_aae02_10 (by decide) (fun h => absurd rfl h) (fun _ => ?_)
  refine wa_iconst (v := 1) X dJ0_isLatin1_aae02_13 (by decide) ?_
  refine wa_goto (tgt := 18) X dJ0_isLatin1_aae02_14 (by decide) ?_
  exact wa_iret X dJ0_isLatin1_aae02_18 rfl rfl rfl
set_option maxHeartbeats 4000000 in
set_option maxRecDepth 100000 in
theorem sx_pcheck {b : Nat} {i n : Int32} {r : Option Nat} {μ : JM} (h0 : ¬ i < 0) (h1 : i < n) : JMx b (fun _ => True) yJ3_checkIndex_8e157 cJ3_checkIndex_8e157 3 (some .int) 0 0 [.int i, .int n, va_rf r] μ (some (.int i)) μ 0 0 := by
  refine JMx.of (by decide +kernel) (lg_sl_le (by simp only [List.map_cons, List.map_nil, List.sum_cons, List.sum_nil, va_rf_cat]; exact Nat.le_of_ble_eq_true rfl)) (fun Θ X hE => ?_)
  refine wa_eq (L2 := [(0, .int i), (1, .int n), (2, va_rf r)]) ?_ rfl rfl rfl
  refine wa_iload_n X 0 dJ3_checkIndex_8e157_0 rfl ?_
  refine wa_iflt (tgt := 9) X dJ3_checkIndex_8e157_1 (by decide) (fun h => absurd h h0) (fun _ => ?_)
  refine wa_iload_n X 0 dJ3_checkIndex_8e157_4 rfl ?_
  refine wa_iload_n X 1 dJ3_checkIndex_8e157_5 rfl ?_
  refine wa_iclt (tgt := 16) X dJ3_checkIndex_8e157_6 (by decide) (fun _ => ?_) (fun h => absurd h1 h)
  refine wa_iload_n X 0 dJ3_checkIndex_8e157_16 rfl ?_
  exact wa_iret X dJ3_checkIndex_8e157_17 rfl rfl rfl
set_option maxHeartbeats 4000000 in
set_option maxRecDepth 100000 in
theorem sx_check {b : Nat} {i n : Int32} {μ : JM} (h0 : ¬ i < 0) (h1 : i < n) : JMx b (fun _ => True) yJ0_checkIndex_df160 cJ0_checkIndex_df160 2 none 1 22 [.int i, .int n] μ none μ 0 0 := by
  refine JMx.of (by decide +kernel) (lg_sl_le (Nat.le_of_ble_eq_true rfl)) (fun Θ X hE => ?_)
  have hg := X.2.2.2.2.2.2.2.2.1
  obtain ⟨r, hr⟩ := hg.2.2.2.2.2
  refine wa_eq (L2 := [(0, .int i), (1, .int n)]) ?_ rfl rfl rfl
  refine wa_iload_n X 0 dJ0_checkIndex_df160_0 rfl ?_
  refine wa_iload_n X 1 dJ0_checkIndex_df160_1 rfl ?_
  refine wx_gets X dJ0_checkIndex_df160_2 s_f1053 hr ?_
  refine wx_callS (st2 := [.int i]) X dJ0_checkIndex_df160_5 s_mJ0_1059 s_CJ3_checkIndex_8e157 (jSta_T b) trivial (sx_pcheck (r := r) h0 h1) rfl rfl rfl (va_cats (Nat.le_of_ble_eq_true rfl)) (by decide) (by decide) (by decide) ?_
  refine wa_pop X dJ0_checkIndex_df160_8 rfl ?_
  exact wa_vret X dJ0_checkIndex_df160_9 rfl rfl
theorem jOURS_ch : ∀ j, j < 89 → ((jOURS.getD j 0 &&& 255).toUInt32 % 65536).toInt32 = jOURS.getD j 0 := by decide +kernel
theorem jOURS_nar : ∀ j, j < 89 → narrow .char (.int (jOURS.getD j 0)) = .int (jOURS.getD j 0) := by
  have h : ∀ j, j < 89 → ∃ q : Nat, q < 128 ∧ jOURS.getD j 0 = nI q := by decide +kernel
  intro j hj
  obtain ⟨q, h1, h2⟩ := h j hj
  rw [h2]
  exact (pk_charN (by omega)).1
theorem jin89 {j : Nat} (h : j < 89) : jin (nI j) 89 = true := by
  simp only [jin, Bool.not_eq_true', Bool.or_eq_false_iff, decide_eq_false_iff_not]
  exact ⟨nI_pos (by omega), by rw [nI_clamp (by omega)]; omega⟩
set_option maxHeartbeats 4000000 in
set_option maxRecDepth 100000 in
theorem sx_lat {b t j : Nat} {μ : JM} (hj : j < 89) : JMx b (jTb b t) yJ1_charAt_3b067 cJ1_charAt_3b067 2 (some .char) 2 43 [.ref t, .int (nI j)] μ (some (.int (jOURS.getD j 0))) μ 0 0 := by
  refine JMx.of (by decide +kernel) (lg_sl_le (Nat.le_of_ble_eq_true rfl)) (fun Θ X hE => ?_)
  refine wa_eq (L2 := [(0, va_rf (some t)), (1, .int (nI j))]) ?_ rfl rfl rfl
  refine wa_iload_n X 1 dJ1_charAt_3b067_0 rfl ?_
  refine wa_aload_n X 0 dJ1_charAt_3b067_1 rfl ?_
  refine wx_len X dJ1_charAt_3b067_2 hE ?_
  refine wx_callS (st2 := []) X dJ1_charAt_3b067_3 s_mJ1_9 s_CJ0_checkIndex_df160 (jSta_T b) trivial (sx_check (nI_pos (by omega)) (nI_lt hj (by omega))) rfl rfl rfl (va_cats (Nat.le_of_ble_eq_true rfl)) (by decide) (by decide) (by decide) ?_
  refine wa_aload_n X 0 dJ1_charAt_3b067_6 rfl ?_
  refine wa_iload_n X 1 dJ1_charAt_3b067_7 rfl ?_
  refine wx_ld X dJ1_charAt_3b067_8 hE (jin89 hj) ?_
  refine wa_sipush (v := 255) X dJ1_charAt_3b067_9 (by decide) ?_
  refine wa_iand X dJ1_charAt_3b067_12 ?_
  refine wx_i2c X dJ1_charAt_3b067_13 ?_
  rw [nI_clamp (by omega), jOURS_ch j hj]
  exact wa_iret X dJ1_charAt_3b067_14 (jOURS_nar j hj) rfl rfl
set_option maxHeartbeats 4000000 in
set_option maxRecDepth 100000 in
theorem sx_charAt {b q j : Nat} {μ : JM} (hj : j < 89) : JMx b (jSt b q) yJ0_charAt_5068e cJ0_charAt_5068e 2 (some .char) 3 64 [.ref q, .int (nI j)] μ (some (.int (jOURS.getD j 0))) μ 0 0 := by
  refine JMx.of (by decide +kernel) (lg_sl_le (Nat.le_of_ble_eq_true rfl)) (fun Θ X hE => ?_)
  obtain ⟨t, hO, hC, hV, hT⟩ := id hE
  refine wa_eq (L2 := [(0, va_rf (some q)), (1, .int (nI j))]) ?_ rfl rfl rfl
  refine wa_aload_n X 0 dJ0_charAt_5068e_0 rfl ?_
  refine wx_callV (st2 := [.int 1]) X dJ0_charAt_5068e_1 s_mJ0_492 s_CJ0_isLatin1_aae02 hE (jSta_St b q) hE sx_isLatin1 rfl rfl rfl (va_cats (Nat.le_of_ble_eq_true rfl)) (by decide) (by decide) (by decide) ?_
  refine wa_ifeq (tgt := 16) X dJ0_charAt_5068e_4 (by decide) (fun h => absurd h (by decide)) (fun _ => ?_)
  refine wa_aload_n X 0 dJ0_charAt_5068e_7 rfl ?_
  refine wx_getf X dJ0_charAt_5068e_8 s_f9 hV ?_
  refine wa_iload_n X 1 dJ0_charAt_5068e_11 rfl ?_
  refine wx_callS (st2 := [.int (jOURS.getD j 0)]) X dJ0_charAt_5068e_12 s_mJ0_495 s_CJ1_charAt_3b067 (jSta_Tb b t) hT (sx_lat hj) rfl rfl rfl (va_cats (Nat.le_of_ble_eq_true rfl)) (by decide) (by decide) (by decide) ?_
  exact wa_iret X dJ0_charAt_5068e_15 (jOURS_nar j hj) rfl rfl
/-- Words.addEach(OURS), from byte j on -/
def fX9_addEach_l : Nat → Nat → Int64 → Nat → JM → JO Unit
  | 0, _, y, a, μ => jck ((jT μ a).1 == 10) <| jcl (fX9_add a y μ) fun _ μ1 => some ((), μ1, 0, 0)
  | f + 1, j, y, a, μ => if jOURS.getD j 0 = 32 then (jck ((jT μ a).1 == 10) <| jcl (fX9_add a y μ) fun _ μ1 => fX9_addEach_l f (j + 1) 0 a μ1) else (jcl (fX9_grown y (jOURS.getD j 0) μ) fun r μ1 => fX9_addEach_l f (j + 1) r a μ1)
def fX9_addEach (a : Nat) (μ : JM) : JO Unit := fX9_addEach_l 89 0 0 a μ
set_option maxHeartbeats 4000000 in
set_option maxRecDepth 100000 in
theorem sx_each {b q a : Nat} {Θ : JE} {RC RS : Nat} {ν : JM} (X : jX b Θ RX9 cX9_addEach 5 none 4 85 RC RS) (hE : jSt b q (eS Θ)) : ∀ (f j : Nat) (y : Int64) (μ : JM) (c m k n : Nat), f + j = 89 → fX9_addEach_l f j y a μ = some ((), ν, c, m) → k + c = RC → n + m = RS → WA b Θ 5 (jE b Θ none ν RC RS) μ k n 5 [(0, va_rf (some a)), (1, va_rf (some q)), (2, .long y), (4, .int (nI j))] [] := by
  intro f
  induction f with
  | zero =>
    intro j y μ c m k n hj hf hk hn
    have ej : j = 89 := by omega
    subst ej
    rw [fX9_addEach_l] at hf
    refine wa_iload X 3 dX9_addEach_5 rfl ?_
    refine wa_aload_n X 1 dX9_addEach_7 rfl ?_
    refine wx_callV (st2 := [.int 89, .int (nI 89)]) X dX9_addEach_8 s_mX9_25 s_CJ0_length_8abf5 hE (jSta_St b q) hE sx_length rfl rfl rfl (va_cats (Nat.le_of_ble_eq_true rfl)) (by decide) (by omega) (by omega) ?_
    refine wa_icge (tgt := 53) X dX9_addEach_11 (by decide) (fun _ => ?_) (fun h => absurd (by decide) h)
    obtain ⟨h1, hf⟩ := jckT hf
    obtain ⟨r, μ1, c1, m1, c2, m2, e1, hf, hc, hm⟩ := jcl_some hf
    refine wa_aload_n X 0 dX9_addEach_53 rfl ?_
    refine wa_lload_n X 2 dX9_addEach_54 rfl ?_
    refine wa_rcallV (st2 := [.int r]) X dX9_addEach_55 s_mX9_35 lMX9_add rfl h1 (mX9_add e1) rfl rfl rfl (va_cats (Nat.le_of_ble_eq_true rfl)) (by decide) (by omega) (by omega) ?_
    refine wa_pop X dX9_addEach_58 rfl ?_
    obtain ⟨-, rfl, rfl, rfl⟩ := jret hf
    exact wa_vret X dX9_addEach_59 (by omega) (by omega)
  | succ f ih =>
    intro j y μ c m k n hj hf hk hn
    rw [fX9_addEach_l] at hf
    have hj2 : j < 89 := by omega
    refine wa_iload X 3 dX9_addEach_5 rfl ?_
    refine wa_aload_n X 1 dX9_addEach_7 rfl ?_
    refine wx_callV (st2 := [.int 89, .int (nI j)]) X dX9_addEach_8 s_mX9_25 s_CJ0_length_8abf5 hE (jSta_St b q) hE sx_length rfl rfl rfl (va_cats (Nat.le_of_ble_eq_true rfl)) (by decide) (by omega) (by omega) ?_
    refine wa_icge (tgt := 53) X dX9_addEach_11 (by decide) (fun h => absurd h (nI_ge (b := 89) hj2 (by decide))) (fun _ => ?_)
    refine wa_aload_n X 1 dX9_addEach_14 rfl ?_
    refine wa_iload X 3 dX9_addEach_15 rfl ?_
    refine wx_callV (st2 := [.int (jOURS.getD j 0)]) X dX9_addEach_17 s_mX9_31 s_CJ0_charAt_5068e hE (jSta_St b q) hE (sx_charAt hj2) rfl rfl rfl (va_cats (Nat.le_of_ble_eq_true rfl)) (by decide) (by omega) (by omega) ?_
    refine wa_bipush (v := 32) X dX9_addEach_20 (by decide) ?_
    refine wa_icne (tgt := 36) X dX9_addEach_22 (by decide) (fun h32 => ?_) (fun h32 => ?_)
    · rw [if_neg h32] at hf
      obtain ⟨r, μ1, c1, m1, c2, m2, e1, hf, hc, hm⟩ := jcl_some hf
      refine wa_lload_n X 2 dX9_addEach_36 rfl ?_
      refine wa_aload_n X 1 dX9_addEach_37 rfl ?_
      refine wa_iload X 3 dX9_addEach_38 rfl ?_
      refine wx_callV (st2 := [.int (jOURS.getD j 0), .long y]) X dX9_addEach_40 s_mX9_31 s_CJ0_charAt_5068e hE (jSta_St b q) hE (sx_charAt hj2) rfl rfl rfl (va_cats (Nat.le_of_ble_eq_true rfl)) (by decide) (by omega) (by omega) ?_
      refine wa_rcallS (st2 := [.long r]) X dX9_addEach_43 s_mX9_39 lMX9_grown (mX9_grown e1) rfl rfl rfl (va_cats (Nat.le_of_ble_eq_true rfl)) (by decide) (by omega) (by omega) ?_
      refine wa_lstore_n (L2 := [(2, .long r), (0, va_rf (some a)), (1, va_rf (some q)), (4, .int (nI j))]) X dX9_addEach_46 (by decide) rfl ?_
      refine wa_iinc (v := nI (j + 1)) (L2 := [(4, .int (nI (j + 1))), (2, .long r), (0, va_rf (some a)), (1, va_rf (some q))]) X 3 dX9_addEach_47 rfl (nI_1 j) (by decide) rfl ?_
      refine wa_goto (tgt := 5) X dX9_addEach_50 (by decide) ?_
      refine wa_sub (L2 := [(0, va_rf (some a)), (1, va_rf (some q)), (2, .long r), (4, .int (nI (j + 1)))]) [2, 3, 1, 0] rfl ?_
      exact ih (j + 1) r μ1 c2 m2 _ _ (by omega) hf (by omega) (by omega)
    · rw [if_pos h32] at hf
      obtain ⟨h1, hf⟩ := jckT hf
      obtain ⟨r, μ1, c1, m1, c2, m2, e1, hf, hc, hm⟩ := jcl_some hf
      refine wa_aload_n X 0 dX9_addEach_25 rfl ?_
      refine wa_lload_n X 2 dX9_addEach_26 rfl ?_
      refine wa_rcallV (st2 := [.int r]) X dX9_addEach_27 s_mX9_35 lMX9_add rfl h1 (mX9_add e1) rfl rfl rfl (va_cats (Nat.le_of_ble_eq_true rfl)) (by decide) (by omega) (by omega) ?_
      refine wa_pop X dX9_addEach_30 rfl ?_
      refine wa_lconst (v := 0) X dX9_addEach_31 (by decide) ?_
      refine wa_lstore_n (L2 := [(2, .long 0), (0, va_rf (some a)), (1, va_rf (some q)), (4, .int (nI j))]) X dX9_addEach_32 (by decide) rfl ?_
      refine wa_goto (tgt := 47) X dX9_addEach_33 (by decide) ?_
      refine wa_iinc (v := nI (j + 1)) (L2 := [(4, .int (nI (j + 1))), (2, .long 0), (0, va_rf (some a)), (1, va_rf (some q))]) X 3 dX9_addEach_47 rfl (nI_1 j) (by decide) rfl ?_
      refine wa_goto (tgt := 5) X dX9_addEach_50 (by decide) ?_
      refine wa_sub (L2 := [(0, va_rf (some a)), (1, va_rf (some q)), (2, .long 0), (4, .int (nI (j + 1)))]) [2, 3, 1, 0] rfl ?_
      exact ih (j + 1) 0 μ1 c2 m2 _ _ (by omega) hf (by omega) (by omega)
set_option maxHeartbeats 4000000 in
set_option maxRecDepth 100000 in
theorem sx_addEach {b q a : Nat} {μ ν : JM} {c m : Nat} (hf : fX9_addEach a μ = some ((), ν, c, m)) : JMx b (jSt b q) yX9_addEach cX9_addEach 5 none 4 85 [.ref a, .ref q] μ none ν c m := by
  refine JMx.of (by decide +kernel) (lg_sl_le (Nat.le_of_ble_eq_true rfl)) (fun Θ X hE => ?_)
  refine wa_eq (L2 := [(0, va_rf (some a)), (1, va_rf (some q))]) ?_ rfl rfl rfl
  refine wa_lconst (v := 0) X dX9_addEach_0 (by decide) ?_
  refine wa_lstore_n (L2 := [(2, .long 0), (0, va_rf (some a)), (1, va_rf (some q))]) X dX9_addEach_1 (by decide) rfl ?_
  refine wa_iconst (v := 0) X dX9_addEach_2 (by decide) ?_
  refine wa_istore (L2 := [(4, .int 0), (2, .long 0), (0, va_rf (some a)), (1, va_rf (some q))]) X dX9_addEach_3 (by decide) rfl ?_
  refine wa_sub (L2 := [(0, va_rf (some a)), (1, va_rf (some q)), (2, .long 0), (4, .int (nI 0))]) [2, 3, 1, 0] rfl ?_
  exact sx_each X hE 89 0 0 μ c m 0 0 rfl hf (by omega) (by omega)
section WAR
variable {b : Nat} {Θ : JE} {own : String} {cc : ByteArray} {ml : Nat} {ret : Option FieldType} {FR LO RC RS : Nat} {Γ : JG} {μ : JM} {k n pc : Nat} {L : List (Nat × Value)} {st : List Value}
/-- ldc OURS; addEach -/
theorem wx_ours {a c1 n1 : Nat} {r : Option Nat} {u : Unit} {ν : JM} (X : jX b Θ RX10 cc ml ret FR LO RC RS) (d1 : decode cc pc = .ok (.ldc 14, 2)) (d2 : decode cc (pc + 2) = .ok (.invokevirtual 16, 3)) (hr : r = some a) (hT : (jT μ a).1 = 10) (hf : fX9_addEach a μ = some (u, ν, c1, n1)) (hW : (st.map fun v => v.category).sum ≤ 8) (hRm : 4 + 1 ≤ FR ∧ 8 + (5 + 11) + 85 ≤ LO) (hc : k + c1 ≤ RC) (hn : n + n1 ≤ RS) (h : WA b Θ ml Γ ν (k + c1) (n + n1) (pc + 5) L st) : WA b Θ ml Γ μ k n pc L (va_rf r :: st) := by
  subst hr
  intro H locs ls hR hS hL
  have x9 := X.2.2.2.2.2.2.2.2.1
  obtain ⟨q, hq, hSt⟩ := x9.2.2.2.1
  refine va_ldcS X.1 X.2.1 X.2.2.2.1 hq d1 ?_
  exact (wx_callM (st2 := st) (rest := st) X d2 s_mX10_16 s_CX9_addEach hT (jSta_St b q) hSt (sx_addEach hf) rfl rfl rfl hW hRm hc hn h) H locs ls hR hS hL
end WAR
