/-! the walk's rows for references that may be null; the functions' own rows -/
def jlt {α β : Type} (x : α) (f : α → β) : β := f x
theorem jlt_e {α β : Type} {x : α} {f : α → β} {y : β} (h : jlt x f = y) : ∃ z, z = x ∧ f z = y := ⟨x, rfl, h⟩
theorem jckT {α : Type} {x y : Nat} {f : Option α} {z : α} (h : jck (x == y) f = some z) : x = y ∧ f = some z := ⟨eq_of_beq (jck_some h).1, (jck_some h).2⟩
theorem jckD {α : Type} {p : Prop} [Decidable p] {f : Option α} {z : α} (h : jck (decide p) f = some z) : p ∧ f = some z := ⟨of_decide_eq_true (jck_some h).1, (jck_some h).2⟩
theorem jnw_some {β : Type} {μ : JM} {t n : Nat} {f : Nat → JM → JO β} {r : β} {ν : JM} {c m : Nat} (h : jnw μ t n f = some (r, ν, c, m)) : ∃ q μ1 c2 m2, q = jZ μ ∧ μ1 = jnew μ t n ∧ f q μ1 = some (r, ν, c2, m2) ∧ c = 1 + c2 ∧ m = n + m2 := by
  obtain ⟨a, μ1, c1, n1, c2, n2, h1, h2, h3, h4⟩ := jcl_some h
  cases h1
  exact ⟨_, _, c2, n2, rfl, rfl, h2, h3, h4⟩
theorem jnwo_some {β : Type} {μ : JM} {t n : Nat} {f : Nat → JM → JO β} {r : β} {ν : JM} {c m : Nat} (h : jnwo μ t n f = some (r, ν, c, m)) : ∃ q μ1 c2 m2, q = jZ μ ∧ μ1 = jnew μ t 0 ∧ f q μ1 = some (r, ν, c2, m2) ∧ c = 1 + c2 ∧ m = n + m2 := by
  obtain ⟨a, μ1, c1, n1, c2, n2, h1, h2, h3, h4⟩ := jcl_some h
  cases h1
  exact ⟨_, _, c2, n2, rfl, rfl, h2, h3, h4⟩
theorem jT_at {μ μ1 : JM} {q t n : Nat} (h1 : q = jZ μ) (h2 : μ1 = jnew μ t n) : jT μ1 q = (t, n) := by subst h1 h2; simp [jT, jZ, jnew, va_up]
def jfuel : Nat := 1000000
section WAR
variable {b : Nat} {Θ : JE} {own : String} {cc : ByteArray} {ml : Nat} {ret : Option FieldType} {FR LO RC RS : Nat} {Γ : JG} {μ : JM} {k n pc : Nat} {L : List (Nat × Value)} {st : List Value}
theorem wa_getI {i t q a : Nat} {r : Option Nat} (X : jX b Θ own cc ml ret FR LO RC RS) (d : decode cc pc = .ok (.getfield i, 3)) (F : jF own i t q) (hr : r = some a) (hT : (jT μ a).1 = t) (hv : jV t μ a q = .int (jI μ a q)) (h : WA b Θ ml Γ μ k n (pc + 3) L (.int (jI μ a q) :: st)) : WA b Θ ml Γ μ k n pc L (va_rf r :: st) := by
  subst hr
  exact wa_get X d F hT hv h
theorem wa_getJ {i t q a : Nat} {r : Option Nat} (X : jX b Θ own cc ml ret FR LO RC RS) (d : decode cc pc = .ok (.getfield i, 3)) (F : jF own i t q) (hr : r = some a) (hT : (jT μ a).1 = t) (hv : jV t μ a q = .long (jJ μ a q)) (h : WA b Θ ml Γ μ k n (pc + 3) L (.long (jJ μ a q) :: st)) : WA b Θ ml Γ μ k n pc L (va_rf r :: st) := by
  subst hr
  exact wa_get X d F hT hv h
theorem wa_getP {i t q a : Nat} {r : Option Nat} (X : jX b Θ own cc ml ret FR LO RC RS) (d : decode cc pc = .ok (.getfield i, 3)) (F : jF own i t q) (hr : r = some a) (hT : (jT μ a).1 = t) (hv : jV t μ a q = va_rf (jP μ a q)) (h : WA b Θ ml Γ μ k n (pc + 3) L (va_rf (jP μ a q) :: st)) : WA b Θ ml Γ μ k n pc L (va_rf r :: st) := by
  subst hr
  exact wa_get X d F hT hv h
theorem wa_rputI {i t q a : Nat} {r : Option Nat} {v : Int32} {ν : JM} (X : jX b Θ own cc ml ret FR LO RC RS) (d : decode cc pc = .ok (.putfield i, 3)) (F : jF own i t q) (hr : r = some a) (hT : (jT μ a).1 = t) (hy : jtys t q = .int) (hfin : ((jC t).2.1 q).2.2.2 = false) (hm : ν = jsI μ a q v) (h : WA b Θ ml Γ ν k n (pc + 3) L st) : WA b Θ ml Γ μ k n pc L (.int v :: va_rf r :: st) := by
  subst hr hm
  exact wa_putI X d F hT hy hfin h
theorem wa_rputZ {i t q a : Nat} {r : Option Nat} {v : Int32} {ν : JM} (X : jX b Θ own cc ml ret FR LO RC RS) (d : decode cc pc = .ok (.putfield i, 3)) (F : jF own i t q) (hr : r = some a) (hT : (jT μ a).1 = t) (hy : jtys t q = .boolean) (hb : jbl v = true) (hfin : ((jC t).2.1 q).2.2.2 = false) (hm : ν = jsI μ a q v) (h : WA b Θ ml Γ ν k n (pc + 3) L st) : WA b Θ ml Γ μ k n pc L (.int v :: va_rf r :: st) := by
  subst hr hm
  exact wa_putZ X d F hT hy hb hfin h
theorem wa_rputJ {i t q a : Nat} {r : Option Nat} {v : Int64} {ν : JM} (X : jX b Θ own cc ml ret FR LO RC RS) (d : decode cc pc = .ok (.putfield i, 3)) (F : jF own i t q) (hr : r = some a) (hT : (jT μ a).1 = t) (hy : jtys t q = .long) (hfin : ((jC t).2.1 q).2.2.2 = false) (hm : ν = jsJ μ a q v) (h : WA b Θ ml Γ ν k n (pc + 3) L st) : WA b Θ ml Γ μ k n pc L (.long v :: va_rf r :: st) := by
  subst hr hm
  exact wa_putJ X d F hT hy hfin h
theorem wa_rputP {i t q a : Nat} {r : Option Nat} {v : Option Nat} {ν : JM} (X : jX b Θ own cc ml ret FR LO RC RS) (d : decode cc pc = .ok (.putfield i, 3)) (F : jF own i t q) (hr : r = some a) (hT : (jT μ a).1 = t) (hy : (∃ C, jtys t q = .object C) ∨ ∃ C, jtys t q = .array C) (hfin : ((jC t).2.1 q).2.2.2 = false) (hm : ν = jsP μ a q v) (h : WA b Θ ml Γ ν k n (pc + 3) L st) : WA b Θ ml Γ μ k n pc L (va_rf v :: va_rf r :: st) := by
  subst hr hm
  exact wa_putP X d F hT hy hfin h
theorem wa_rputFI {i t q a : Nat} {r : Option Nat} {v : Int32} {ν : JM} (X : jX b Θ own cc ml ret FR LO RC RS) (hin : (eH Θ).name = "<init>") (d : decode cc pc = .ok (.putfield i, 3)) (F : jF own i t q) (hr : r = some a) (hT : (jT μ a).1 = t) (hy : jtys t q = .int) (hfin : ((jC t).2.1 q).2.2.2 = true) (hdecl : ((jC t).2.1 q).1 = own) (hm : ν = jsI μ a q v) (h : WA b Θ ml Γ ν k n (pc + 3) L st) : WA b Θ ml Γ μ k n pc L (.int v :: va_rf r :: st) := by
  subst hr hm
  exact wa_putFI X hin d F hT hy hfin hdecl h
theorem wa_rputFP {i t q a : Nat} {r : Option Nat} {v : Option Nat} {ν : JM} (X : jX b Θ own cc ml ret FR LO RC RS) (hin : (eH Θ).name = "<init>") (d : decode cc pc = .ok (.putfield i, 3)) (F : jF own i t q) (hr : r = some a) (hT : (jT μ a).1 = t) (hy : (∃ C, jtys t q = .object C) ∨ ∃ C, jtys t q = .array C) (hfin : ((jC t).2.1 q).2.2.2 = true) (hdecl : ((jC t).2.1 q).1 = own) (hm : ν = jsP μ a q v) (h : WA b Θ ml Γ ν k n (pc + 3) L st) : WA b Θ ml Γ μ k n pc L (va_rf v :: va_rf r :: st) := by
  subst hr hm
  exact wa_putFP X hin d F hT hy hfin hdecl h
theorem wa_riald {i : Int32} {a : Nat} {r : Option Nat} (X : jX b Θ own cc ml ret FR LO RC RS) (d : decode cc pc = .ok (.iaload, 1)) (hr : r = some a) (hT : (jT μ a).1 = 101) (hi : jin i (jT μ a).2 = true) (h : WA b Θ ml Γ μ k n (pc + 1) L (.int (jI μ a i.toNatClampNeg) :: st)) : WA b Θ ml Γ μ k n pc L (.int i :: va_rf r :: st) := by
  subst hr
  exact wa_iald X d hT hi h
theorem wa_rbald {i : Int32} {a : Nat} {r : Option Nat} (X : jX b Θ own cc ml ret FR LO RC RS) (d : decode cc pc = .ok (.baload, 1)) (hr : r = some a) (hT : (jT μ a).1 = 100) (hi : jin i (jT μ a).2 = true) (h : WA b Θ ml Γ μ k n (pc + 1) L (.int (jI μ a i.toNatClampNeg) :: st)) : WA b Θ ml Γ μ k n pc L (.int i :: va_rf r :: st) := by
  subst hr
  exact wa_bald X d hT hi h
theorem wa_rzald {i : Int32} {a : Nat} {r : Option Nat} (X : jX b Θ own cc ml ret FR LO RC RS) (d : decode cc pc = .ok (.baload, 1)) (hr : r = some a) (hT : (jT μ a).1 = 103) (hi : jin i (jT μ a).2 = true) (h : WA b Θ ml Γ μ k n (pc + 1) L (.int (jI μ a i.toNatClampNeg) :: st)) : WA b Θ ml Γ μ k n pc L (.int i :: va_rf r :: st) := by
  subst hr
  exact wa_zald X d hT hi h
theorem wa_rlald {i : Int32} {a : Nat} {r : Option Nat} (X : jX b Θ own cc ml ret FR LO RC RS) (d : decode cc pc = .ok (.laload, 1)) (hr : r = some a) (hT : (jT μ a).1 = 102) (hi : jin i (jT μ a).2 = true) (h : WA b Θ ml Γ μ k n (pc + 1) L (.long (jJ μ a i.toNatClampNeg) :: st)) : WA b Θ ml Γ μ k n pc L (.int i :: va_rf r :: st) := by
  subst hr
  exact wa_lald X d hT hi h
theorem wa_raald {i : Int32} {a t : Nat} {C : String} {r : Option Nat} (X : jX b Θ own cc ml ret FR LO RC RS) (d : decode cc pc = .ok (.aaload, 1)) (hr : r = some a) (hT : (jT μ a).1 = t) (h0 : 103 < t) (hy : jaty t = .object C) (hcn : jcon t μ a = .inr (.inr (.inr (.inr (jP μ a))))) (hi : jin i (jT μ a).2 = true) (h : WA b Θ ml Γ μ k n (pc + 1) L (va_rf (jP μ a i.toNatClampNeg) :: st)) : WA b Θ ml Γ μ k n pc L (.int i :: va_rf r :: st) := by
  subst hr
  exact wa_aald X d hT h0 hy hcn hi h
theorem wa_riast {i : Int32} {v : Int32} {a : Nat} {r : Option Nat} {ν : JM} (X : jX b Θ own cc ml ret FR LO RC RS) (d : decode cc pc = .ok (.iastore, 1)) (hr : r = some a) (hT : (jT μ a).1 = 101) (hi : jin i (jT μ a).2 = true) (hm : ν = jsI μ a i.toNatClampNeg v) (h : WA b Θ ml Γ ν k n (pc + 1) L st) : WA b Θ ml Γ μ k n pc L (.int v :: .int i :: va_rf r :: st) := by
  subst hr hm
  exact wa_iast X d hT hi h
theorem wa_rbast {i : Int32} {v : Int32} {a : Nat} {r : Option Nat} {ν : JM} (X : jX b Θ own cc ml ret FR LO RC RS) (d : decode cc pc = .ok (.bastore, 1)) (hr : r = some a) (hT : (jT μ a).1 = 100) (hi : jin i (jT μ a).2 = true) (hm : ν = jsI μ a i.toNatClampNeg (vp_nar .byte v)) (h : WA b Θ ml Γ ν k n (pc + 1) L st) : WA b Θ ml Γ μ k n pc L (.int v :: .int i :: va_rf r :: st) := by
  subst hr hm
  exact wa_bast X d hT hi h
theorem wa_rzast {i : Int32} {v : Int32} {a : Nat} {r : Option Nat} {ν : JM} (X : jX b Θ own cc ml ret FR LO RC RS) (d : decode cc pc = .ok (.bastore, 1)) (hr : r = some a) (hT : (jT μ a).1 = 103) (hi : jin i (jT μ a).2 = true) (hm : ν = jsI μ a i.toNatClampNeg (vp_nar .boolean v)) (h : WA b Θ ml Γ ν k n (pc + 1) L st) : WA b Θ ml Γ μ k n pc L (.int v :: .int i :: va_rf r :: st) := by
  subst hr hm
  exact wa_zast X d hT hi h
theorem wa_rlast {i : Int32} {v : Int64} {a : Nat} {r : Option Nat} {ν : JM} (X : jX b Θ own cc ml ret FR LO RC RS) (d : decode cc pc = .ok (.lastore, 1)) (hr : r = some a) (hT : (jT μ a).1 = 102) (hi : jin i (jT μ a).2 = true) (hm : ν = jsJ μ a i.toNatClampNeg v) (h : WA b Θ ml Γ ν k n (pc + 1) L st) : WA b Θ ml Γ μ k n pc L (.long v :: .int i :: va_rf r :: st) := by
  subst hr hm
  exact wa_last X d hT hi h
theorem wa_raast {i : Int32} {a t : Nat} {tc : Nat} {r v : Option Nat} {ν : JM} (X : jX b Θ own cc ml ret FR LO RC RS) (d : decode cc pc = .ok (.aastore, 1)) (hr : r = some a) (hT : (jT μ a).1 = t) (h0 : 103 < t) (hc : 0 < tc ∧ tc < 13) (hy : jaty t = .object (jC tc).1) (hcn : ∀ ν : JM, jcon t ν a = .inr (.inr (.inr (.inr (jP ν a))))) (hv : ∀ z, v = some z → (jT μ z).1 = tc) (hi : jin i (jT μ a).2 = true) (hm : ν = jsP μ a i.toNatClampNeg v) (h : WA b Θ ml Γ ν k n (pc + 1) L st) : WA b Θ ml Γ μ k n pc L (va_rf v :: .int i :: va_rf r :: st) := by
  subst hr hm
  exact wa_aastR X d hT h0 hc hy hcn hv hi h
theorem wa_ralen {a t : Nat} {r : Option Nat} (X : jX b Θ own cc ml ret FR LO RC RS) (d : decode cc pc = .ok (.arraylength, 1)) (hr : r = some a) (hT : (jT μ a).1 = t) (h0 : 99 < t) (h : WA b Θ ml Γ μ k n (pc + 1) L (.int (nI (jT μ a).2) :: st)) : WA b Θ ml Γ μ k n pc L (va_rf r :: st) := by
  subst hr
  exact wa_alen X d hT h0 h
theorem wa_robj {i a : Nat} {r : Option Nat} (X : jX b Θ own cc ml ret FR LO RC RS) (d : decode cc pc = .ok (.invokespecial i, 3)) (hl : Cond.methodLink own i Lib.objectInit ∈ jw) (h1 : Cond.instanceMethod Lib.objectInit ∈ jw) (h2 : Cond.code Lib.objectInit ⟨#[0xb1]⟩ 1 none ∈ jw) (hF : 1 ≤ FR) (hL2 : (st.map fun v => v.category).sum + 12 ≤ LO) (hr : r = some a) (h : WA b Θ ml Γ μ k n (pc + 3) L st) : WA b Θ ml Γ μ k n pc L (va_rf r :: st) := by
  subst hr
  exact wa_objInit X d hl h1 h2 hF hL2 h
theorem wa_rcallV {i t a : Nat} {y : MethodName} {cc2 : ByteArray} {ml2 : Nat} {ret2 : Option FieldType} {FR2 LO2 np : Nat} {As rest st2 : List Value} {res : Option Value} {ν : JM} {c1 n1 : Nat} {r : Option Nat} (X : jX b Θ own cc ml ret FR LO RC RS) (d : decode cc pc = .ok (.invokevirtual i, 3)) (hl : Cond.methodLink own i y ∈ jw) (C : jMV t y cc2 ml2 ret2 np) (hr : r = some a) (hT : (jT μ a).1 = t) (hM : JMet b y cc2 ml2 ret2 FR2 LO2 (va_rf (some a) :: As) μ res ν c1 n1) (hst : st = As.reverse ++ va_rf r :: rest) (hnp : As.length = np) (hst2 : st2 = res.toList ++ rest) (hW : (rest.map fun v => v.category).sum ≤ 8) (hRm : FR2 + 1 ≤ FR ∧ 8 + (ml2 + 11) + LO2 ≤ LO) (hc : k + c1 ≤ RC) (hn : n + n1 ≤ RS) (h : WA b Θ ml Γ ν (k + c1) (n + n1) (pc + 3) L st2) : WA b Θ ml Γ μ k n pc L st := by
  subst hr hst2
  exact wa_callV X d hl C hT hM hst hnp hW hRm hc hn h
theorem wa_rcallI {i a : Nat} {y : MethodName} {cc2 : ByteArray} {ml2 : Nat} {FR2 LO2 np : Nat} {As rest st2 : List Value} {res : Option Value} {ν : JM} {c1 n1 : Nat} {r : Option Nat} (X : jX b Θ own cc ml ret FR LO RC RS) (d : decode cc pc = .ok (.invokespecial i, 3)) (hl : Cond.methodLink own i y ∈ jw) (C : jMI y cc2 ml2 np) (hr : r = some a) (hM : JMet b y cc2 ml2 none FR2 LO2 (va_rf (some a) :: As) μ res ν c1 n1) (hst : st = As.reverse ++ va_rf r :: rest) (hnp : As.length = np) (hst2 : st2 = res.toList ++ rest) (hW : (rest.map fun v => v.category).sum ≤ 8) (hRm : FR2 + 1 ≤ FR ∧ 8 + (ml2 + 11) + LO2 ≤ LO) (hc : k + c1 ≤ RC) (hn : n + n1 ≤ RS) (h : WA b Θ ml Γ ν (k + c1) (n + n1) (pc + 3) L st2) : WA b Θ ml Γ μ k n pc L st := by
  subst hr hst2
  exact wa_callI X d hl C hM hst hnp hW hRm hc hn h
theorem wa_rcallS {i : Nat} {y : MethodName} {cc2 : ByteArray} {ml2 : Nat} {ret2 : Option FieldType} {FR2 LO2 np : Nat} {As rest st2 : List Value} {res : Option Value} {ν : JM} {c1 n1 : Nat} (X : jX b Θ own cc ml ret FR LO RC RS) (d : decode cc pc = .ok (.invokestatic i, 3)) (hl : Cond.methodLink own i y ∈ jw) (C : jMS y cc2 ml2 ret2 np) (hM : JMet b y cc2 ml2 ret2 FR2 LO2 As μ res ν c1 n1) (hst : st = As.reverse ++ rest) (hnp : As.length = np) (hst2 : st2 = res.toList ++ rest) (hW : (rest.map fun v => v.category).sum ≤ 8) (hRm : FR2 + 1 ≤ FR ∧ 8 + (ml2 + 11) + LO2 ≤ LO) (hc : k + c1 ≤ RC) (hn : n + n1 ≤ RS) (h : WA b Θ ml Γ ν (k + c1) (n + n1) (pc + 3) L st2) : WA b Θ ml Γ μ k n pc L st := by
  subst hst2
  exact wa_callS X d hl C hM hst hnp hW hRm hc hn h
theorem wa_rcallSN {i : Nat} {host : String} {y : MethodName} {cc2 : ByteArray} {ml2 : Nat} {ret2 : Option FieldType} {FR2 LO2 np : Nat} {As rest st2 : List Value} {res : Option Value} {ν : JM} {c1 n1 : Nat} (X : jX b Θ own cc ml ret FR LO RC RS) (d : decode cc pc = .ok (.invokestatic i, 3)) (hl : Cond.methodLinkNest own i y host ∈ jNest) (C : jMS y cc2 ml2 ret2 np) (hM : JMet b y cc2 ml2 ret2 FR2 LO2 As μ res ν c1 n1) (hst : st = As.reverse ++ rest) (hnp : As.length = np) (hst2 : st2 = res.toList ++ rest) (hW : (rest.map fun v => v.category).sum ≤ 8) (hRm : FR2 + 1 ≤ FR ∧ 8 + (ml2 + 11) + LO2 ≤ LO) (hc : k + c1 ≤ RC) (hn : n + n1 ≤ RS) (h : WA b Θ ml Γ ν (k + c1) (n + n1) (pc + 3) L st2) : WA b Θ ml Γ μ k n pc L st := by
  subst hst2
  exact wa_callSN X d hl C hM hst hnp hW hRm hc hn h
theorem va_cats {st : List Value} {m : Nat} (h : st.length * 2 ≤ m) : (st.map fun v => v.category).sum ≤ m := by
  induction st generalizing m with
  | nil => simp
  | cons v l ih =>
    have h1 : v.category ≤ 2 := by rcases lv_cat v with q | q <;> omega
    have h2 := ih (m := m - 2) (by simp at h; omega)
    simp only [List.map_cons, List.sum_cons]
    simp at h
    omega
end WAR
