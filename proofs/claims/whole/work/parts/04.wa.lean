/-! THE WALK over memories: WA says that the machine, at this pc with these locals and this stack, over any heap that holds the memory, comes to the end that Γ names -/
abbrev JE : Type := Program × Launch × Env × Room × State × MethodId × Array Value × List Frame × Method × Code
abbrev eP (Θ : JE) : Program := Θ.1
abbrev eL (Θ : JE) : Launch := Θ.2.1
abbrev eE (Θ : JE) : Env := Θ.2.2.1
abbrev eR (Θ : JE) : Room := Θ.2.2.2.1
abbrev eS (Θ : JE) : State := Θ.2.2.2.2.1
abbrev eM (Θ : JE) : MethodId := Θ.2.2.2.2.2.1
abbrev eA (Θ : JE) : Array Value := Θ.2.2.2.2.2.2.1
abbrev eB (Θ : JE) : List Frame := Θ.2.2.2.2.2.2.2.1
abbrev eH (Θ : JE) : Method := Θ.2.2.2.2.2.2.2.2.1
abbrev eC (Θ : JE) : Code := Θ.2.2.2.2.2.2.2.2.2
abbrev JG : Type := State → Prop
/-- static things, and words that stand beside the tables -/
def jFB (j : Nat) : Int64 := ([0xAAAAAAAAAAAAAAAA, 0xCCCCCCCCCCCCCCCC, 0xF0F0F0F0F0F0F0F0, 0xFF00FF00FF00FF00, 0xFFFF0000FFFF0000, 0xFFFFFFFF00000000] : List Nat).map Int64.ofNat |>.getD j 0
def jNest : List Cond := lw_tbl.filter (fun w => match w with | .methodLinkNest _ _ _ _ => true | _ => false)
def jOver : List String := [RX1, RX2, RX5, RX8]
/-- a String constant: its object, its bytes -/
def jOURS : List Int32 := [100, 101, 102, 105, 110, 101, 32, 97, 115, 32, 100, 117, 116, 121, 32, 114, 105, 103, 104, 116, 32, 98, 97, 110, 32, 116, 111, 32, 98, 121, 32, 100, 97, 121, 115, 32, 119, 111, 114, 107, 100, 97, 121, 115, 32, 105, 102, 32, 117, 110, 108, 101, 115, 115, 32, 111, 118, 101, 114, 32, 97, 110, 100, 32, 111, 114, 32, 110, 111, 116, 32, 115, 116, 114, 105, 107, 101, 32, 114, 101, 112, 108, 97, 99, 101, 32, 97, 100, 100]
def jSt (b q : Nat) (U : State) : Prop := ∃ t : Nat, va_O "java/lang/String" q (fun q => b ≤ q) U U.heap ∧ va_OF "java/lang/String" "coder" "B" (.int 0) q (fun q => b ≤ q) U U.heap ∧ va_OF "java/lang/String" "value" "[B" (.ref t) q (fun q => b ≤ q) U U.heap ∧ va_T .byte t 89 (fun j => .int (jOURS.getD j 0)) (fun q => b ≤ q) U U.heap
def jgS (b : Nat) (U : State) : Prop := (∃ q : Nat, vk_R RX10 14 "define as duty right ban to by days workdays if unless over and or not strike replace add" q U ∧ jSt b q U) ∧ va_Z "java/lang/String" "COMPACT_STRINGS" "Z" (.int 1) (fun q => b ≤ q) U U.heap ∧ ∃ r : Option Nat, va_Z "jdk/internal/util/Preconditions" "SIOOBE_FORMATTER" "Ljava/util/function/BiFunction;" (va_rf r) (fun q => b ≤ q) U U.heap
def jg (b : Nat) (U : State) : Prop := (∀ w ∈ jNest, va_Nw w U) ∧ (∀ C ∈ jOver, va_AO C U) ∧ (∃ t : Nat, va_Z RX1 "FACT_BITS" "[J" (.ref t) (fun q => b ≤ q) U U.heap ∧ va_T .long t 6 (fun j => .long (jFB j)) (fun q => b ≤ q) U U.heap) ∧ jgS b U
def jQ (b : Nat) (res : Option Value) (μ : JM) : Array Value → State → Outcome → State → Prop := fun _ st oc t => oc = .returned res ∧ jR b t μ t.heap ∧ va_F (fun q => b ≤ q) st t
def jX (b : Nat) (Θ : JE) (own : String) (cc : ByteArray) (ml : Nat) (ret : Option FieldType) (FR LO RC RS : Nat) : Prop :=
  (eP Θ).tables.exec = Jvm.exec ∧ (eC Θ).code = cc ∧ (eC Θ).maxLocals = ml ∧ (eS Θ).vm.findClass own = some (eM Θ).cls ∧ (∀ w ∈ jw, w.before (eA Θ) (eS Θ) = true) ∧ (eH Θ).sig.returnType = ret ∧ (eH Θ).locks = false ∧ (eR Θ) = { frames := FR, cells := RC, slots := RS, locals := LO } ∧ jg b (eS Θ) ∧ b ≤ (eS Θ).heap.size
def jE (b : Nat) (Θ : JE) (res : Option Value) (ν : JM) (RC RS : Nat) : State → Prop := MQ (eB Θ) (jQ b res ν) (eA Θ) (eS Θ) RC RS (fun q => b ≤ q)
def WA (b : Nat) (Θ : JE) (ml : Nat) (Γ : JG) (μ : JM) (k n pc : Nat) (L : List (Nat × Value)) (st : List Value) : Prop :=
  ∀ (H : Heap) (locs : List Loc) (ls : Array Slot), jR b (eS Θ) μ H → va_S (fun q => b ≤ q) (eS Θ).heap H locs → lv_has ls ml L → W (eP Θ) (eL Θ) (eE Θ) (eR Θ) (eS Θ) (eM Θ) (eA Θ) (eB Θ) (eH Θ) (eC Θ) H locs k n Γ (F0 (eM Θ) pc ls st)
/-- a method's contract at a memory -/
def JMet (b : Nat) (y : MethodName) (cc : ByteArray) (ml : Nat) (ret : Option FieldType) (FR LO : Nat) (as : List Value) (μ : JM) (res : Option Value) (ν : JM) (c n : Nat) : Prop :=
  ∀ l : Launch, Met l y (.code y cc ml ret :: jw) { frames := FR, cells := c, slots := n, locals := LO } (va_Pc as (fun U => jR b U μ U.heap ∧ jg b U)) (jQ b res ν) c n (fun q => b ≤ q)
theorem JMet.of {b : Nat} {y : MethodName} {cc : ByteArray} {ml : Nat} {ret : Option FieldType} {FR LO : Nat} {as : List Value} {μ : JM} {res : Option Value} {ν : JM} {c n : Nat} (hy : plainName y.cls = true) (hn : (lg_sl as).length ≤ ml)
    (body : ∀ Θ : JE, jX b Θ y.cls cc ml ret FR LO c n → (y.name = "<init>" → (eH Θ).name = "<init>") → WA b Θ ml (jE b Θ res ν c n) μ 0 0 0 (lv_args 0 as) []) : JMet b y cc ml ret FR LO as μ res ν c n := by
  intro l
  refine Met.ofW (cc := cc) (maxL := ml) (ret := ret) hy rfl ?_
  intro p e s m args below meth co s₁ B hml hv
  obtain ⟨rfl, hR, hg⟩ := hv
  have hts := atoms_spec (ws := .code y cc ml ret :: jw) B.pre
  have hb : b ≤ s.heap.size := hR.1
  have hl := lv_entry as hn
  rw [lg_entry_eq]
  exact body (p, l, e, (headSpec (.code y cc ml ret :: jw) { frames := FR, cells := c, slots := n, locals := LO }).room, s, m, as.toArray, below, meth, co) ⟨B.exec, B.bytes, hml, findClass_of_methodNamed B.named, fun w hw => hts w (List.mem_cons_of_mem _ hw), B.returns, B.notSynchronized, rfl, hg, hb⟩ (fun h => (name_of_methodNamed B.named B.method).1.trans h) s.heap [] _ hR va_S.rf hl
section WAR
variable {b : Nat} {Θ : JE} {own : String} {cc : ByteArray} {ml : Nat} {ret : Option FieldType} {FR LO RC RS : Nat} {Γ : JG} {μ : JM} {k n pc : Nat} {L : List (Nat × Value)} {st : List Value}
theorem wa_eq {pc2 : Nat} {L2 : List (Nat × Value)} {st2 : List Value} (h : WA b Θ ml Γ μ k n pc2 L2 st2) (h1 : pc = pc2) (h2 : L = L2) (h3 : st = st2) : WA b Θ ml Γ μ k n pc L st := by subst h1 h2 h3; exact h
theorem wa_sub {L2 : List (Nat × Value)} (ks : List Nat) (hl : lv_pick L ks = L2) (h : WA b Θ ml Γ μ k n pc L2 st) : WA b Θ ml Γ μ k n pc L st := fun H locs ls hR hS hL => h H locs ls hR hS (lv_sub hL ks hl)
theorem wa_costs {k2 n2 : Nat} (h1 : k = k2) (h2 : n = n2) (h : WA b Θ ml Γ μ k2 n2 pc L st) : WA b Θ ml Γ μ k n pc L st := by subst h1 h2; exact h
-- ends
theorem wa_iret {v : Int32} {ty : FieldType} (X : jX b Θ own cc ml (some ty) FR LO RC RS) (d : decode cc pc = .ok (.ireturn, 1)) (hn : narrow ty (.int v) = .int v) (h1 : k = RC) (h2 : n = RS) : WA b Θ ml (jE b Θ (some (.int v)) μ RC RS) μ k n pc L [.int v] := by
  subst h1 h2
  intro H locs ls hR hS hL
  exact W.zret X.1 X.2.1 X.2.2.2.2.2.1 hn (fun t ht hW => ⟨rfl, by rw [ht]; exact hR.moved hW.alike, hS.F ht⟩) hS.2.2 d X.2.2.2.2.2.2.1
theorem wa_lret {v : Int64} (X : jX b Θ own cc ml (some .long) FR LO RC RS) (d : decode cc pc = .ok (.lreturn, 1)) (h1 : k = RC) (h2 : n = RS) : WA b Θ ml (jE b Θ (some (.long v)) μ RC RS) μ k n pc L [.long v] := by
  subst h1 h2
  intro H locs ls hR hS hL
  exact W.lret X.1 X.2.1 X.2.2.2.2.2.1 (fun t ht hW => ⟨rfl, by rw [ht]; exact hR.moved hW.alike, hS.F ht⟩) hS.2.2 d X.2.2.2.2.2.2.1
theorem wa_vret (X : jX b Θ own cc ml none FR LO RC RS) (d : decode cc pc = .ok (.return_, 1)) (h1 : k = RC) (h2 : n = RS) : WA b Θ ml (jE b Θ none μ RC RS) μ k n pc L [] := by
  subst h1 h2
  intro H locs ls hR hS hL
  exact W.vret X.1 X.2.1 X.2.2.2.2.2.1 (fun t ht hW => ⟨rfl, by rw [ht]; exact hR.moved hW.alike, hS.F ht⟩) hS.2.2 d X.2.2.2.2.2.2.1
theorem wa_aret {r : Option Nat} {ty : FieldType} (X : jX b Θ own cc ml (some ty) FR LO RC RS) (d : decode cc pc = .ok (.areturn, 1)) (hrt : (∃ n, ty = .object n) ∨ ∃ t, ty = .array t) (h1 : k = RC) (h2 : n = RS) : WA b Θ ml (jE b Θ (some (va_rf r)) μ RC RS) μ k n pc L [va_rf r] := by
  subst h1 h2
  intro H locs ls hR hS hL
  exact W.aret X.1 X.2.1 X.2.2.2.2.2.1 hrt (va_rf_or r) (fun t ht hW => ⟨rfl, by rw [ht]; exact hR.moved hW.alike, hS.F ht⟩) hS.2.2 d X.2.2.2.2.2.2.1
-- constants
theorem wa_iconst {z : Int} {v : Int32} (X : jX b Θ own cc ml ret FR LO RC RS) (d : decode cc pc = .ok (.iconst z, 1)) (hv : Int32.ofInt z = v) (h : WA b Θ ml Γ μ k n (pc + 1) L (.int v :: st)) : WA b Θ ml Γ μ k n pc L st := fun H locs ls hR hS hL => lv_iconst X.1 X.2.1 d hv (h H locs ls hR hS hL)
theorem wa_bipush {z : Int} {v : Int32} (X : jX b Θ own cc ml ret FR LO RC RS) (d : decode cc pc = .ok (.bipush z, 2)) (hv : (Int8.ofInt z).toInt32 = v) (h : WA b Θ ml Γ μ k n (pc + 2) L (.int v :: st)) : WA b Θ ml Γ μ k n pc L st := fun H locs ls hR hS hL => lv_bipush X.1 X.2.1 d hv (h H locs ls hR hS hL)
theorem wa_sipush {z : Int} {v : Int32} (X : jX b Θ own cc ml ret FR LO RC RS) (d : decode cc pc = .ok (.sipush z, 3)) (hv : (Int16.ofInt z).toInt32 = v) (h : WA b Θ ml Γ μ k n (pc + 3) L (.int v :: st)) : WA b Θ ml Γ μ k n pc L st := fun H locs ls hR hS hL => lv_sipush X.1 X.2.1 d hv (h H locs ls hR hS hL)
theorem wa_lconst {z : Fin 2} {v : Int64} (X : jX b Θ own cc ml ret FR LO RC RS) (d : decode cc pc = .ok (.lconst z, 1)) (hv : Int64.ofNat (z : Nat) = v) (h : WA b Θ ml Γ μ k n (pc + 1) L (.long v :: st)) : WA b Θ ml Γ μ k n pc L st := fun H locs ls hR hS hL => lv_lconst X.1 X.2.1 d hv (h H locs ls hR hS hL)
theorem wa_ldc {i : Nat} {v : Int32} (X : jX b Θ own cc ml ret FR LO RC RS) (d : decode cc pc = .ok (.ldc i, 2)) (hw : Cond.constant own i v ∈ jw) (h : WA b Θ ml Γ μ k n (pc + 2) L (.int v :: st)) : WA b Θ ml Γ μ k n pc L st := fun H locs ls hR hS hL => lv_ldc X.1 X.2.1 X.2.2.2.1 (X.2.2.2.2.1 _ hw) d (h H locs ls hR hS hL)
theorem wa_ldcw {i : Nat} {v : Int32} (X : jX b Θ own cc ml ret FR LO RC RS) (d : decode cc pc = .ok (.ldc_w i, 3)) (hw : Cond.constant own i v ∈ jw) (h : WA b Θ ml Γ μ k n (pc + 3) L (.int v :: st)) : WA b Θ ml Γ μ k n pc L st := fun H locs ls hR hS hL => lv_ldcw X.1 X.2.1 X.2.2.2.1 (X.2.2.2.2.1 _ hw) d (h H locs ls hR hS hL)
theorem wa_ldc2 {i : Nat} {v : Int64} (X : jX b Θ own cc ml ret FR LO RC RS) (d : decode cc pc = .ok (.ldc2_w i, 3)) (hw : Cond.constantLong own i v ∈ jw) (h : WA b Θ ml Γ μ k n (pc + 3) L (.long v :: st)) : WA b Θ ml Γ μ k n pc L st := fun H locs ls hR hS hL => lv_ldc2 X.1 X.2.1 X.2.2.2.1 (X.2.2.2.2.1 _ hw) d (h H locs ls hR hS hL)
theorem wa_null (X : jX b Θ own cc ml ret FR LO RC RS) (d : decode cc pc = .ok (.aconst_null, 1)) (h : WA b Θ ml Γ μ k n (pc + 1) L (va_rf none :: st)) : WA b Θ ml Γ μ k n pc L st := fun H locs ls hR hS hL => lv_null X.1 X.2.1 d (h H locs ls hR hS hL)
-- locals
theorem wa_iload_n {z : Fin 4} {x : Int32} (X : jX b Θ own cc ml ret FR LO RC RS) (j : Nat) (d : decode cc pc = .ok (.iload_n z, 1)) (hj : L[j]? = some ((z : Nat), .int x)) (h : WA b Θ ml Γ μ k n (pc + 1) L (.int x :: st)) : WA b Θ ml Γ μ k n pc L st := fun H locs ls hR hS hL => lv_iload_n X.1 X.2.1 d rfl (lv_at hL j hj) (h H locs ls hR hS hL)
theorem wa_iload {z : Nat} {x : Int32} (X : jX b Θ own cc ml ret FR LO RC RS) (j : Nat) (d : decode cc pc = .ok (.iload z, 2)) (hj : L[j]? = some (z, .int x)) (h : WA b Θ ml Γ μ k n (pc + 2) L (.int x :: st)) : WA b Θ ml Γ μ k n pc L st := fun H locs ls hR hS hL => lv_iload X.1 X.2.1 d (lv_at hL j hj) (h H locs ls hR hS hL)
theorem wa_lload_n {z : Fin 4} {x : Int64} (X : jX b Θ own cc ml ret FR LO RC RS) (j : Nat) (d : decode cc pc = .ok (.lload_n z, 1)) (hj : L[j]? = some ((z : Nat), .long x)) (h : WA b Θ ml Γ μ k n (pc + 1) L (.long x :: st)) : WA b Θ ml Γ μ k n pc L st := fun H locs ls hR hS hL => lv_lload_n X.1 X.2.1 d rfl (lv_at hL j hj) (h H locs ls hR hS hL)
theorem wa_lload {z : Nat} {x : Int64} (X : jX b Θ own cc ml ret FR LO RC RS) (j : Nat) (d : decode cc pc = .ok (.lload z, 2)) (hj : L[j]? = some (z, .long x)) (h : WA b Θ ml Γ μ k n (pc + 2) L (.long x :: st)) : WA b Θ ml Γ μ k n pc L st := fun H locs ls hR hS hL => lv_lload X.1 X.2.1 d (lv_at hL j hj) (h H locs ls hR hS hL)
theorem wa_aload_n {z : Fin 4} {r : Option Nat} (X : jX b Θ own cc ml ret FR LO RC RS) (j : Nat) (d : decode cc pc = .ok (.aload_n z, 1)) (hj : L[j]? = some ((z : Nat), va_rf r)) (h : WA b Θ ml Γ μ k n (pc + 1) L (va_rf r :: st)) : WA b Θ ml Γ μ k n pc L st := fun H locs ls hR hS hL => by
  cases r with
  | none => exact lv_aload_nN X.1 X.2.1 d rfl (lv_at hL j hj) (h H locs ls hR hS hL)
  | some a => exact lv_aload_n X.1 X.2.1 d rfl (lv_at hL j hj) (h H locs ls hR hS hL)
theorem wa_aload {z : Nat} {r : Option Nat} (X : jX b Θ own cc ml ret FR LO RC RS) (j : Nat) (d : decode cc pc = .ok (.aload z, 2)) (hj : L[j]? = some (z, va_rf r)) (h : WA b Θ ml Γ μ k n (pc + 2) L (va_rf r :: st)) : WA b Θ ml Γ μ k n pc L st := fun H locs ls hR hS hL => by
  cases r with
  | none => exact lv_aloadN X.1 X.2.1 d (lv_at hL j hj) (h H locs ls hR hS hL)
  | some a => exact lv_aload X.1 X.2.1 d (lv_at hL j hj) (h H locs ls hR hS hL)
theorem wa_istore_n {z : Fin 4} {x : Int32} {L2 : List (Nat × Value)} (X : jX b Θ own cc ml ret FR LO RC RS) (d : decode cc pc = .ok (.istore_n z, 1)) (hn : (z : Nat) < ml) (hl : ((z : Nat), Value.int x) :: L.filter (fun q => !(q.1 == (z : Nat)) && !(q.1 + 1 == (z : Nat) && q.2.category == 2)) = L2) (h : WA b Θ ml Γ μ k n (pc + 1) L2 st) : WA b Θ ml Γ μ k n pc L (.int x :: st) := fun H locs ls hR hS hL => lv_istore_n X.1 X.2.1 d rfl hL hn hl (fun ls' hl' => h H locs ls' hR hS hl')
theorem wa_istore {z : Nat} {x : Int32} {L2 : List (Nat × Value)} (X : jX b Θ own cc ml ret FR LO RC RS) (d : decode cc pc = .ok (.istore z, 2)) (hn : z < ml) (hl : (z, Value.int x) :: L.filter (fun q => !(q.1 == z) && !(q.1 + 1 == z && q.2.category == 2)) = L2) (h : WA b Θ ml Γ μ k n (pc + 2) L2 st) : WA b Θ ml Γ μ k n pc L (.int x :: st) := fun H locs ls hR hS hL => lv_istore X.1 X.2.1 d hL hn hl (fun ls' hl' => h H locs ls' hR hS hl')
theorem wa_lstore_n {z : Fin 4} {x : Int64} {L2 : List (Nat × Value)} (X : jX b Θ own cc ml ret FR LO RC RS) (d : decode cc pc = .ok (.lstore_n z, 1)) (hn : (z : Nat) + 1 < ml) (hl : ((z : Nat), Value.long x) :: L.filter (fun q => !(q.1 == (z : Nat)) && (!(q.1 == (z : Nat) + 1) && !(q.1 + 1 == (z : Nat) && q.2.category == 2))) = L2) (h : WA b Θ ml Γ μ k n (pc + 1) L2 st) : WA b Θ ml Γ μ k n pc L (.long x :: st) := fun H locs ls hR hS hL => lv_lstore_n X.1 X.2.1 d rfl hL hn hl (fun ls' hl' => h H locs ls' hR hS hl')
theorem wa_lstore {z : Nat} {x : Int64} {L2 : List (Nat × Value)} (X : jX b Θ own cc ml ret FR LO RC RS) (d : decode cc pc = .ok (.lstore z, 2)) (hn : z + 1 < ml) (hl : (z, Value.long x) :: L.filter (fun q => !(q.1 == z) && (!(q.1 == z + 1) && !(q.1 + 1 == z && q.2.category == 2))) = L2) (h : WA b Θ ml Γ μ k n (pc + 2) L2 st) : WA b Θ ml Γ μ k n pc L (.long x :: st) := fun H locs ls hR hS hL => lv_lstore X.1 X.2.1 d hL hn hl (fun ls' hl' => h H locs ls' hR hS hl')
theorem wa_astore_n {z : Fin 4} {r : Option Nat} {L2 : List (Nat × Value)} (X : jX b Θ own cc ml ret FR LO RC RS) (d : decode cc pc = .ok (.astore_n z, 1)) (hn : (z : Nat) < ml) (hl : ((z : Nat), va_rf r) :: L.filter (fun q => !(q.1 == (z : Nat)) && !(q.1 + 1 == (z : Nat) && q.2.category == 2)) = L2) (h : WA b Θ ml Γ μ k n (pc + 1) L2 st) : WA b Θ ml Γ μ k n pc L (va_rf r :: st) := fun H locs ls hR hS hL => by
  cases r with
  | none => exact lv_astore_nN X.1 X.2.1 d rfl hL hn hl (fun ls' hl' => h H locs ls' hR hS hl')
  | some a => exact lv_astore_n X.1 X.2.1 d rfl hL hn hl (fun ls' hl' => h H locs ls' hR hS hl')
theorem wa_astore {z : Nat} {r : Option Nat} {L2 : List (Nat × Value)} (X : jX b Θ own cc ml ret FR LO RC RS) (d : decode cc pc = .ok (.astore z, 2)) (hn : z < ml) (hl : (z, va_rf r) :: L.filter (fun q => !(q.1 == z) && !(q.1 + 1 == z && q.2.category == 2)) = L2) (h : WA b Θ ml Γ μ k n (pc + 2) L2 st) : WA b Θ ml Γ μ k n pc L (va_rf r :: st) := fun H locs ls hR hS hL => by
  cases r with
  | none => exact lv_astoreN X.1 X.2.1 d hL hn hl (fun ls' hl' => h H locs ls' hR hS hl')
  | some a => exact lv_astore X.1 X.2.1 d hL hn hl (fun ls' hl' => h H locs ls' hR hS hl')
theorem wa_iinc {z : Nat} {w : Int} {x v : Int32} {L2 : List (Nat × Value)} (X : jX b Θ own cc ml ret FR LO RC RS) (j : Nat) (d : decode cc pc = .ok (.iinc z w, 3)) (hj : L[j]? = some (z, .int x)) (hv : x + Int32.ofInt w = v) (hn : z < ml) (hl : (z, Value.int v) :: L.filter (fun q => !(q.1 == z) && !(q.1 + 1 == z && q.2.category == 2)) = L2) (h : WA b Θ ml Γ μ k n (pc + 3) L2 st) : WA b Θ ml Γ μ k n pc L st := fun H locs ls hR hS hL => lv_iinc X.1 X.2.1 d hL hj hv hn hl (fun ls' hl' => h H locs ls' hR hS hl')
end WAR
