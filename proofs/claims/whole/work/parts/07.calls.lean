/-! stores into fields by type, arrays, new cells, calls -/
theorem jw_goodw {c' : Cond} (h : c' ∈ jw) : GoodIn jw (c' :: jw) := by
  intro w hw
  have hw' : w ∈ jw := by
    rcases List.mem_cons.mp hw with rfl | hw
    · exact h
    · exact hw
  exact ⟨hw', good_of_word (List.mem_filter.mp hw').2⟩
theorem jSt.at {b q : Nat} {s U : State} (h : jSt b q s) (hW : s.vm.Alike U.vm) (hq : ∀ q, q < s.heap.size → ¬ b ≤ q → U.heap[q]? = s.heap[q]?) : jSt b q U := by
  obtain ⟨t, h1, h2, h3, h4⟩ := h
  exact ⟨t, (h1.moved hW).kept hq, (h2.moved hW).kept hq, (h3.moved hW).kept hq, (h4.moved hW).kept hq⟩
theorem jg.at {b : Nat} {s U : State} (h : jg b s) (hW : s.WarmedH U.vm) (hq : ∀ q, q < s.heap.size → ¬ b ≤ q → U.heap[q]? = s.heap[q]?) : jg b U := by
  obtain ⟨h1, h2, ⟨t, h3, h4⟩, ⟨q, h5, h6⟩, h7, r, h8⟩ := h
  refine ⟨fun w hw => ?_, fun C hC => (h2 C hC).moved hW.alike, ⟨t, (h3.moved hW.alike).kept hq, (h4.moved hW.alike).kept hq⟩, ⟨q, h5.warm hW, h6.at hW.alike hq⟩, (h7.moved hW.alike).kept hq, r, (h8.moved hW.alike).kept hq⟩
  have hm := (List.mem_filter.mp hw).2
  have h5 := h1 w hw
  cases w with
  | methodLinkNest a i x h => exact va_Nw.warmM hW h5
  | _ => simp at hm
theorem jg.frame {b : Nat} {U : State} {g : JFrame} {mk : MethodId} {a : Array Value} (h : jg b U) : jg b (U.calling g mk a) := by
  obtain ⟨h1, h2, ⟨t, h3, h4⟩, ⟨q, h5, h6⟩, h7, r, h8⟩ := h
  refine ⟨fun w hw => ?_, fun C hC => (h2 C hC).moved (Vm.Alike.refl U.vm), ⟨t, h3.moved (u := U) (Vm.Alike.refl U.vm), h4.moved (u := U) (Vm.Alike.refl U.vm)⟩, ⟨q, h5.same rfl, h6.at (s := U) (U := U.calling g mk a) (Vm.Alike.refl U.vm) (fun _ _ _ => rfl)⟩, h7.moved (u := U) (Vm.Alike.refl U.vm), r, h8.moved (u := U) (Vm.Alike.refl U.vm)⟩
  have hm := (List.mem_filter.mp hw).2
  have h5 := h1 w hw
  cases w with
  | methodLinkNest a i x h => exact va_Nw.same (u := U) rfl rfl h5
  | _ => simp at hm
def jMV (t : Nat) (y : MethodName) (cc : ByteArray) (ml : Nat) (ret : Option FieldType) (np : Nat) : Prop := (0 < t ∧ t < 13) ∧ y.cls = (jC t).1 ∧ (y.cls ≠ "java/lang/invoke/MethodHandle" ∧ y.cls ≠ "java/lang/invoke/VarHandle") ∧ (parseMethodDescriptor y.desc).map (fun d => d.parameters.length) = some np ∧ Cond.instanceMethod y ∈ jw ∧ Cond.selects (jC t).1 y y ∈ jw ∧ Cond.initialized y.cls ∈ jw ∧ Cond.code y cc ml ret ∈ jw
def jMI (y : MethodName) (cc : ByteArray) (ml : Nat) (np : Nat) : Prop := y.name = "<init>" ∧ (y.cls ≠ "java/lang/invoke/MethodHandle" ∧ y.cls ≠ "java/lang/invoke/VarHandle") ∧ (parseMethodDescriptor y.desc).map (fun d => d.parameters.length) = some np ∧ Cond.instanceMethod y ∈ jw ∧ Cond.initialized y.cls ∈ jw ∧ Cond.code y cc ml none ∈ jw
def jMS (y : MethodName) (cc : ByteArray) (ml : Nat) (ret : Option FieldType) (np : Nat) : Prop := (y.cls ≠ "java/lang/invoke/MethodHandle" ∧ y.cls ≠ "java/lang/invoke/VarHandle") ∧ (parseMethodDescriptor y.desc).map (fun d => d.parameters.length) = some np ∧ Cond.static y ∈ jw ∧ Cond.initialized y.cls ∈ jw ∧ Cond.code y cc ml ret ∈ jw
theorem JMet.blind {b : Nat} {as : List Value} {μ : JM} : FrameBlind (va_Pc as (fun U => jR b U μ U.heap ∧ jg b U)) := fun a U g mk q => ⟨q.1, q.2.1.moved (u := U) (U := U.calling g mk a) (Vm.Alike.refl U.vm), q.2.2.frame⟩
section WAR
variable {b : Nat} {Θ : JE} {own : String} {cc : ByteArray} {ml : Nat} {ret : Option FieldType} {FR LO RC RS : Nat} {Γ : JG} {μ : JM} {k n pc : Nat} {L : List (Nat × Value)} {st : List Value}
theorem wa_after {H : Heap} {locs : List Loc} {ls : Array Slot} {rest : List Value} {res : Option Value} {ν : JM} {c1 n1 : Nat} {aa : Array Value} (hr : va_Run (eP Θ) (eL Θ) (eE Θ) (eR Θ) (eS Θ) (eM Θ) (eA Θ) (eB Θ) (eH Θ) (eC Θ) H locs k n c1 n1 (F0 (eM Θ) pc ls st) rest (jQ b res ν aa) (fun q => b ≤ q)) (hS : va_S (fun q => b ≤ q) (eS Θ).heap H locs) (hL : lv_has ls ml L)
    (h : WA b Θ ml Γ ν (k + c1) (n + n1) (pc + 3) L (res.toList ++ rest)) : W (eP Θ) (eL Θ) (eE Θ) (eR Θ) (eS Θ) (eM Θ) (eA Θ) (eB Θ) (eH Θ) (eC Θ) H locs k n Γ (F0 (eM Θ) pc ls st) := by
  intro T hT X
  obtain ⟨v, st₀, t, T', LL, h0, X', hLL, e1, e2, ⟨hv, hR, hz, hk⟩, go⟩ := hr T hT X
  cases hv
  rw [h0] at hz hk
  obtain ⟨t2, a1, b1⟩ := h T'.heap (locs ++ LL) ls (by rw [e1]; exact hR.moved (by rw [← e2]; exact X'.warmed.alike.symm)) ⟨Nat.le_trans hS.1 (by rw [e1]; exact hz), fun q h1 h2 => by rw [e1, hk q (Nat.lt_of_lt_of_le h1 hS.1) h2]; exact hS.2.1 q h1 h2, fun q hq => by
      rcases List.mem_append.mp hq with h | h
      · exact hS.2.2 q h
      · exact hLL q h⟩ hL T' rfl X'
  exact ⟨t2, go t2 a1, b1⟩
theorem wa_callV {i t a : Nat} {y : MethodName} {cc2 : ByteArray} {ml2 : Nat} {ret2 : Option FieldType} {FR2 LO2 np : Nat} {As rest : List Value} {res : Option Value} {ν : JM} {c1 n1 : Nat} (X : jX b Θ own cc ml ret FR LO RC RS) (d : decode cc pc = .ok (.invokevirtual i, 3)) (hl : Cond.methodLink own i y ∈ jw) (C : jMV t y cc2 ml2 ret2 np) (hT : (jT μ a).1 = t) (hM : JMet b y cc2 ml2 ret2 FR2 LO2 (.ref a :: As) μ res ν c1 n1) (hst : st = As.reverse ++ .ref a :: rest) (hnp : As.length = np) (hW : (rest.map fun v => v.category).sum ≤ 8) (hRm : FR2 + 1 ≤ FR ∧ 8 + (ml2 + 11) + LO2 ≤ LO) (hc : k + c1 ≤ RC) (hn : n + n1 ≤ RS)
    (h : WA b Θ ml Γ ν (k + c1) (n + n1) (pc + 3) L (res.toList ++ rest)) : WA b Θ ml Γ μ k n pc L st := by
  subst hst
  intro H locs ls hR hS hL
  obtain ⟨⟨h0, h1⟩, hcl, hmh, hpd, w1, w2, w3, w4⟩ := C
  obtain ⟨x1, x2, x3, x4, x5, x6, x7, x8, x9, x10⟩ := X
  have hA := (hR.2.2 a (by omega)).2.2.1 (by omega)
  rw [hT] at hA
  obtain ⟨cC, iS, hK, cell, q1, q2, q3, q4⟩ := hA
  have hcw : CallW (eR Θ) (eS Θ) (eA Θ) own (jC t).1 i y cc2 ml2 ret2 (Cond.code y cc2 ml2 ret2 :: jw) { frames := FR2, cells := c1, slots := n1, locals := LO2 } c1 n1 np :=
    ⟨callB_of np x5 (jw_goodw w4) rfl rfl rfl (x5 _ w3) (x5 _ hl) ⟨hmh.1, hmh.2, hpd⟩ (by rw [x8]; exact hRm), x5 _ w1, x5 _ w2⟩
  refine wa_after (aa := (Value.ref a :: As).toArray) (va_runV ⟨x1, x2, x3, x4, x5⟩ (hM (eL Θ)) hcw ⟨JMet.blind, ⟨cell, q1, by rw [q3]; rfl, by rw [q2]; exact hK.2.1⟩, fun U hU hWU => ⟨rfl, by rw [hU]; exact hR.moved hWU.alike, x9.at hWU (by rw [hU]; exact hS.2.1)⟩⟩ rfl hnp hL.1 rfl (lv_room hW) d (by rw [x8]; exact ⟨hc, hn⟩)) hS hL h
theorem wa_callI {i a : Nat} {y : MethodName} {cc2 : ByteArray} {ml2 : Nat} {FR2 LO2 np : Nat} {As rest : List Value} {res : Option Value} {ν : JM} {c1 n1 : Nat} (X : jX b Θ own cc ml ret FR LO RC RS) (d : decode cc pc = .ok (.invokespecial i, 3)) (hl : Cond.methodLink own i y ∈ jw) (C : jMI y cc2 ml2 np) (hM : JMet b y cc2 ml2 none FR2 LO2 (.ref a :: As) μ res ν c1 n1) (hst : st = As.reverse ++ .ref a :: rest) (hnp : As.length = np) (hW : (rest.map fun v => v.category).sum ≤ 8) (hRm : FR2 + 1 ≤ FR ∧ 8 + (ml2 + 11) + LO2 ≤ LO) (hc : k + c1 ≤ RC) (hn : n + n1 ≤ RS)
    (h : WA b Θ ml Γ ν (k + c1) (n + n1) (pc + 3) L (res.toList ++ rest)) : WA b Θ ml Γ μ k n pc L st := by
  subst hst
  intro H locs ls hR hS hL
  obtain ⟨hnm, hmh, hpd, w1, w3, w4⟩ := C
  obtain ⟨x1, x2, x3, x4, x5, x6, x7, x8, x9, x10⟩ := X
  refine wa_after (aa := (Value.ref a :: As).toArray) (va_runI ⟨x1, x2, x3, x4, x5⟩ (hM (eL Θ)) (cwI np x5 (jw_goodw w4) rfl rfl rfl (x5 _ w3) (x5 _ hl) (x5 _ w1) hnm ⟨hmh.1, hmh.2, hpd⟩ (by rw [x8]; exact hRm)) ⟨JMet.blind, fun U hU hWU => ⟨rfl, by rw [hU]; exact hR.moved hWU.alike, x9.at hWU (by rw [hU]; exact hS.2.1)⟩⟩ rfl hnp hL.1 rfl (lv_room hW) d (by rw [x8]; exact ⟨hc, hn⟩)) hS hL h
theorem wa_callS {i : Nat} {y : MethodName} {cc2 : ByteArray} {ml2 : Nat} {ret2 : Option FieldType} {FR2 LO2 np : Nat} {As rest : List Value} {res : Option Value} {ν : JM} {c1 n1 : Nat} (X : jX b Θ own cc ml ret FR LO RC RS) (d : decode cc pc = .ok (.invokestatic i, 3)) (hl : Cond.methodLink own i y ∈ jw) (C : jMS y cc2 ml2 ret2 np) (hM : JMet b y cc2 ml2 ret2 FR2 LO2 As μ res ν c1 n1) (hst : st = As.reverse ++ rest) (hnp : As.length = np) (hW : (rest.map fun v => v.category).sum ≤ 8) (hRm : FR2 + 1 ≤ FR ∧ 8 + (ml2 + 11) + LO2 ≤ LO) (hc : k + c1 ≤ RC) (hn : n + n1 ≤ RS)
    (h : WA b Θ ml Γ ν (k + c1) (n + n1) (pc + 3) L (res.toList ++ rest)) : WA b Θ ml Γ μ k n pc L st := by
  subst hst
  intro H locs ls hR hS hL
  obtain ⟨hmh, hpd, w1, w3, w4⟩ := C
  obtain ⟨x1, x2, x3, x4, x5, x6, x7, x8, x9, x10⟩ := X
  refine wa_after (aa := As.toArray) (va_runS ⟨x1, x2, x3, x4, x5⟩ (hM (eL Θ)) ⟨callB_of np x5 (jw_goodw w4) rfl rfl rfl (x5 _ w3) (x5 _ hl) ⟨hmh.1, hmh.2, hpd⟩ (by rw [x8]; exact hRm), x5 _ w1⟩ ⟨JMet.blind, fun U hU hWU => ⟨rfl, by rw [hU]; exact hR.moved hWU.alike, x9.at hWU (by rw [hU]; exact hS.2.1)⟩⟩ rfl hnp hL.1 rfl (lv_room hW) d (by rw [x8]; exact ⟨hc, hn⟩)) hS hL h
theorem wa_callSN {i : Nat} {host : String} {y : MethodName} {cc2 : ByteArray} {ml2 : Nat} {ret2 : Option FieldType} {FR2 LO2 np : Nat} {As rest : List Value} {res : Option Value} {ν : JM} {c1 n1 : Nat} (X : jX b Θ own cc ml ret FR LO RC RS) (d : decode cc pc = .ok (.invokestatic i, 3)) (hl : Cond.methodLinkNest own i y host ∈ jNest) (C : jMS y cc2 ml2 ret2 np) (hM : JMet b y cc2 ml2 ret2 FR2 LO2 As μ res ν c1 n1) (hst : st = As.reverse ++ rest) (hnp : As.length = np) (hW : (rest.map fun v => v.category).sum ≤ 8) (hRm : FR2 + 1 ≤ FR ∧ 8 + (ml2 + 11) + LO2 ≤ LO) (hc : k + c1 ≤ RC) (hn : n + n1 ≤ RS)
    (h : WA b Θ ml Γ ν (k + c1) (n + n1) (pc + 3) L (res.toList ++ rest)) : WA b Θ ml Γ μ k n pc L st := by
  subst hst
  intro H locs ls hR hS hL
  obtain ⟨hmh, hpd, w1, w3, w4⟩ := C
  obtain ⟨x1, x2, x3, x4, x5, x6, x7, x8, x9, x10⟩ := X
  refine wa_after (aa := As.toArray) (va_runSN ⟨x1, x2, x3, x4, x5⟩ (hM (eL Θ)) ⟨va_cnB np x5 (jw_goodw w4) rfl rfl rfl (x9.1 _ hl) (x5 _ w3) ⟨hmh.1, hmh.2, hpd⟩ (by rw [x8]; exact hRm), x5 _ w1, trivial⟩ ⟨JMet.blind, fun U hU hWU => ⟨rfl, by rw [hU]; exact hR.moved hWU.alike, x9.at hWU (by rw [hU]; exact hS.2.1)⟩⟩ rfl hnp hL.1 rfl (lv_room hW) d (by rw [x8]; exact ⟨hc, hn⟩)) hS hL h
theorem wa_objInit {i a : Nat} (X : jX b Θ own cc ml ret FR LO RC RS) (d : decode cc pc = .ok (.invokespecial i, 3)) (hl : Cond.methodLink own i Lib.objectInit ∈ jw) (h1 : Cond.instanceMethod Lib.objectInit ∈ jw) (h2 : Cond.code Lib.objectInit ⟨#[0xb1]⟩ 1 none ∈ jw) (hF : 1 ≤ FR) (hL2 : (st.map fun v => v.category).sum + 12 ≤ LO) (h : WA b Θ ml Γ μ k n (pc + 3) L st) : WA b Θ ml Γ μ k n pc L (.ref a :: st) := by
  intro H locs ls hR hS hL
  obtain ⟨x1, x2, x3, x4, x5, x6, x7, x8, x9, x10⟩ := X
  refine W.objInit x1 x2 x4 (x5 _ hl) (x5 _ h1) (x5 _ h2) rfl (by rw [x3]; exact hL.1) rfl d (by rw [x8]; exact hF) (by rw [x8]; show 2 * 0 + _ + 12 ≤ LO; omega) ?_
  exact W.eq (g2 := F0 (eM Θ) (pc + 3) ls st) rfl (h H locs ls hR hS hL)
end WAR
