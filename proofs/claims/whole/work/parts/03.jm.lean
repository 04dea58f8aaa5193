/-! MEMORY: cells by address: kind and length, ints, longs, references; objects' fields and arrays' elements alike -/
abbrev JM : Type := Nat × (Nat → Nat × Nat) × (Nat → Nat → Int32) × (Nat → Nat → Int64) × (Nat → Nat → Option Nat)
def jZ (μ : JM) : Nat := μ.1
def jT (μ : JM) : Nat → Nat × Nat := μ.2.1
def jI (μ : JM) : Nat → Nat → Int32 := μ.2.2.1
def jJ (μ : JM) : Nat → Nat → Int64 := μ.2.2.2.1
def jP (μ : JM) : Nat → Nat → Option Nat := μ.2.2.2.2
def jsI (μ : JM) (a k : Nat) (v : Int32) : JM := (μ.1, μ.2.1, va_up μ.2.2.1 a (upd (μ.2.2.1 a) k v), μ.2.2.2.1, μ.2.2.2.2)
def jsJ (μ : JM) (a k : Nat) (v : Int64) : JM := (μ.1, μ.2.1, μ.2.2.1, va_up μ.2.2.2.1 a (vp_updL (μ.2.2.2.1 a) k v), μ.2.2.2.2)
def jsP (μ : JM) (a k : Nat) (v : Option Nat) : JM := (μ.1, μ.2.1, μ.2.2.1, μ.2.2.2.1, va_up μ.2.2.2.2 a (va_up (μ.2.2.2.2 a) k v))
def jnew (μ : JM) (t n : Nat) : JM := (μ.1 + 1, va_up μ.2.1 μ.1 (t, n), va_up μ.2.2.1 μ.1 (fun _ => 0), va_up μ.2.2.2.1 μ.1 (fun _ => 0), va_up μ.2.2.2.2 μ.1 (fun _ => none))
/-! the classes: kind 1 .. 12; the arrays: kind 100 .. 107 -/
def jC (t : Nat) : vw_C := match t with
  | 1 => (RX0, TX0, 2)
  | 2 => (RX1, TX1, 1)
  | 3 => (RX2, TX2, 9)
  | 4 => (RX3, TX3, 8)
  | 5 => (RX4, TX4, 7)
  | 6 => (RX5, TX5, 3)
  | 7 => (RX6, TX6, 4)
  | 8 => (RX7, TX7, 6)
  | 9 => (RX8, TX8, 3)
  | 10 => (RX9, TX9, 2)
  | 11 => (RX10, TX10, 17)
  | 12 => (RX11, TX11, 71)
  | _ => ("", fun _ => ("", "", "", false), 0)
def jtys (t : Nat) : Nat → FieldType := match t with
  | 1 => tyX0
  | 2 => tyX1
  | 3 => tyX2
  | 4 => tyX3
  | 5 => tyX4
  | 6 => tyX5
  | 7 => tyX6
  | 8 => tyX7
  | 9 => tyX8
  | 10 => tyX9
  | 11 => tyX10
  | 12 => tyX11
  | _ => fun _ => .int
def jval (ty : FieldType) (i : Int32) (j : Int64) (r : Option Nat) : Value := match ty with
  | .long => .long j
  | .object _ => va_rf r
  | .array _ => va_rf r
  | _ => .int i
def jV (t : Nat) (μ : JM) (a k : Nat) : Value := jval (jtys t k) (jI μ a k) (jJ μ a k) (jP μ a k)
def jaty (t : Nat) : FieldType := match t with
  | 100 => .byte
  | 101 => .int
  | 102 => .long
  | 103 => .boolean
  | 104 => .object RX1
  | 105 => .object RX2
  | 106 => .object RX8
  | _ => .object RX5
def jcon (t : Nat) (μ : JM) (a : Nat) : (Nat → Int32) ⊕ (Nat → Int64) ⊕ (Nat → UInt32) ⊕ (Nat → UInt64) ⊕ (Nat → Option Nat) := match t with
  | 100 => .inl (jI μ a)
  | 101 => .inl (jI μ a)
  | 102 => .inr (.inl (jJ μ a))
  | 103 => .inl (jI μ a)
  | _ => .inr (.inr (.inr (.inr (jP μ a))))
def jOb (U : State) (H : Heap) (μ : JM) (a t : Nat) : Prop := ∃ (cC : ClassId) (iS : Nat → Nat), u_Kn U (jC t).1 (jC t).2.1 (jC t).2.2 cC iS ∧ t_OB a cC (jC t).2.2 iS H (jV t μ a)
def jAr (U : State) (H : Heap) (μ : JM) (a t n : Nat) : Prop := ∃ cA : ClassId, (ArrOfT U cA (jaty t) ∧ va_RA U cA (jaty t)) ∧ H[a]? = some (vp_cell cA (n, jcon t μ a))
def jAt (U : State) (H : Heap) (μ : JM) (a : Nat) : Prop := ((jT μ a).1 < 100 → jOb U H μ a (jT μ a).1) ∧ (100 ≤ (jT μ a).1 → jAr U H μ a (jT μ a).1 (jT μ a).2)
def jR (b : Nat) (U : State) (μ : JM) (H : Heap) : Prop := b ≤ H.size ∧ H.size = jZ μ ∧ ∀ a, (jT μ a).1 ≠ 0 → b ≤ a ∧ a < H.size ∧ jAt U H μ a
theorem jR.moved {b : Nat} {u U : State} {μ : JM} {H : Heap} (hvm : u.vm.Alike U.vm) (h : jR b u μ H) : jR b U μ H := by
  refine ⟨h.1, h.2.1, fun a ha => ⟨(h.2.2 a ha).1, (h.2.2 a ha).2.1, fun h1 => ?_, fun h1 => ?_⟩⟩
  · obtain ⟨cC, iS, k1, k2⟩ := (h.2.2 a ha).2.2.1 h1
    exact ⟨cC, iS, u_Kn_moved hvm k1, k2⟩
  · obtain ⟨cA, ⟨k1, k2⟩, k3⟩ := (h.2.2 a ha).2.2.2 h1
    exact ⟨cA, ⟨arrOfT_moved hvm k1, k2.moved hvm⟩, k3⟩
theorem jAt.kept {U : State} {H H1 : Heap} {μ ν : JM} {x : Nat} (hT : jT ν x = jT μ x) (hI : jI ν x = jI μ x) (hJ : jJ ν x = jJ μ x) (hP : jP ν x = jP μ x) (hH : H1[x]? = H[x]?) (h : jAt U H μ x) : jAt U H1 ν x := by
  have hV : ∀ t, jV t ν x = jV t μ x := fun t => by funext k; simp only [jV, hI, hJ, hP]
  have hc : ∀ t, jcon t ν x = jcon t μ x := fun t => by unfold jcon; split <;> simp only [hI, hJ, hP]
  refine ⟨fun h1 => ?_, fun h1 => ?_⟩
  · rw [hT] at h1 ⊢
    obtain ⟨cC, iS, k1, k2⟩ := h.1 h1
    exact ⟨cC, iS, k1, by rw [hV]; exact k2.kept hH⟩
  · rw [hT] at h1 ⊢
    obtain ⟨cA, k1, k3⟩ := h.2 h1
    exact ⟨cA, k1, by rw [hH, hc]; exact k3⟩
theorem jR.upd {b : Nat} {U : State} {μ ν : JM} {H H1 : Heap} {a : Nat} (h : jR b U μ H) (hZ : jZ ν = jZ μ) (hT : jT ν = jT μ) (hI : ∀ x, x ≠ a → jI ν x = jI μ x) (hJ : ∀ x, x ≠ a → jJ ν x = jJ μ x) (hP : ∀ x, x ≠ a → jP ν x = jP μ x) (hs : H1.size = H.size) (hq : ∀ q, q ≠ a → H1[q]? = H[q]?) (ha : jAt U H1 ν a) : jR b U ν H1 := by
  refine ⟨by rw [hs]; exact h.1, by rw [hs, hZ]; exact h.2.1, fun x hx => ?_⟩
  have hx' : (jT μ x).1 ≠ 0 := by rw [← hT]; exact hx
  obtain ⟨h1, h2, h3⟩ := h.2.2 x hx'
  refine ⟨h1, by rw [hs]; exact h2, ?_⟩
  by_cases e : x = a
  · rw [e]; exact ha
  · exact h3.kept (by rw [hT]) (hI x e) (hJ x e) (hP x e) (hq x e)
theorem jR.new {b : Nat} {U : State} {μ : JM} {H H1 : Heap} {t n : Nat} (h : jR b U μ H) (hs : H1.size = H.size + 1) (hq : ∀ q, q < H.size → H1[q]? = H[q]?) (ha : jAt U H1 (jnew μ t n) H.size) : jR b U (jnew μ t n) H1 := by
  have hz : μ.1 = H.size := h.2.1.symm
  refine ⟨by rw [hs]; exact Nat.le_succ_of_le h.1, by rw [hs, h.2.1]; rfl, fun x hx => ?_⟩
  by_cases e : x = H.size
  · subst e
    exact ⟨h.1, by omega, ha⟩
  · have e2 : x ≠ μ.1 := by rw [hz]; exact e
    have hx' : (jT μ x).1 ≠ 0 := by
      have : jT (jnew μ t n) x = jT μ x := by simp [jT, jnew, va_up, e2]
      rw [← this]; exact hx
    obtain ⟨h1, h2, h3⟩ := h.2.2 x hx'
    exact ⟨h1, by omega, h3.kept (by simp [jT, jnew, va_up, e2]) (by simp [jI, jnew, va_up, e2]) (by simp [jJ, jnew, va_up, e2]) (by simp [jP, jnew, va_up, e2]) (hq x h2)⟩
theorem jZ_sI (μ : JM) (a k : Nat) (v : Int32) : jZ (jsI μ a k v) = jZ μ := rfl
theorem jT_sI (μ : JM) (a k : Nat) (v : Int32) : jT (jsI μ a k v) = jT μ := rfl
theorem jJ_sI (μ : JM) (a k : Nat) (v : Int32) : jJ (jsI μ a k v) = jJ μ := rfl
theorem jP_sI (μ : JM) (a k : Nat) (v : Int32) : jP (jsI μ a k v) = jP μ := rfl
theorem jZ_sJ (μ : JM) (a k : Nat) (v : Int64) : jZ (jsJ μ a k v) = jZ μ := rfl
theorem jT_sJ (μ : JM) (a k : Nat) (v : Int64) : jT (jsJ μ a k v) = jT μ := rfl
theorem jI_sJ (μ : JM) (a k : Nat) (v : Int64) : jI (jsJ μ a k v) = jI μ := rfl
theorem jP_sJ (μ : JM) (a k : Nat) (v : Int64) : jP (jsJ μ a k v) = jP μ := rfl
theorem jZ_sP (μ : JM) (a k : Nat) (v : Option Nat) : jZ (jsP μ a k v) = jZ μ := rfl
theorem jT_sP (μ : JM) (a k : Nat) (v : Option Nat) : jT (jsP μ a k v) = jT μ := rfl
theorem jI_sP (μ : JM) (a k : Nat) (v : Option Nat) : jI (jsP μ a k v) = jI μ := rfl
theorem jJ_sP (μ : JM) (a k : Nat) (v : Option Nat) : jJ (jsP μ a k v) = jJ μ := rfl
theorem jI_sI (μ : JM) (a k : Nat) (v : Int32) (b j : Nat) : jI (jsI μ a k v) b j = if b = a ∧ j = k then v else jI μ b j := by
  by_cases h : b = a
  · subst h; simp [jI, jsI, va_up, upd]
  · simp [jI, jsI, va_up, h]
theorem jJ_sJ (μ : JM) (a k : Nat) (v : Int64) (b j : Nat) : jJ (jsJ μ a k v) b j = if b = a ∧ j = k then v else jJ μ b j := by
  by_cases h : b = a
  · subst h; simp [jJ, jsJ, va_up, vp_updL]
  · simp [jJ, jsJ, va_up, h]
theorem jP_sP (μ : JM) (a k : Nat) (v : Option Nat) (b j : Nat) : jP (jsP μ a k v) b j = if b = a ∧ j = k then v else jP μ b j := by
  by_cases h : b = a
  · subst h; simp [jP, jsP, va_up]
  · simp [jP, jsP, va_up, h]
theorem jI_sI_ne {μ : JM} {a k : Nat} {v : Int32} {x : Nat} (h : x ≠ a) : jI (jsI μ a k v) x = jI μ x := by simp [jI, jsI, va_up, h]
theorem jJ_sJ_ne {μ : JM} {a k : Nat} {v : Int64} {x : Nat} (h : x ≠ a) : jJ (jsJ μ a k v) x = jJ μ x := by simp [jJ, jsJ, va_up, h]
theorem jP_sP_ne {μ : JM} {a k : Nat} {v : Option Nat} {x : Nat} (h : x ≠ a) : jP (jsP μ a k v) x = jP μ x := by simp [jP, jsP, va_up, h]
/-! words that every method may use -/
def jw : List Cond := lw_tbl.filter goodWord
theorem jw_i {w : Cond} (i : Nat) (h : lw_tbl[i]? = some w) (g : goodWord w = true) : w ∈ jw := List.mem_filter.mpr ⟨List.mem_of_getElem? h, g⟩
theorem jw_good {c c' : Cond} (h : c' ∈ jw) : GoodIn (c :: jw) (c' :: jw) := by
  intro w hw
  have hw' : w ∈ jw := by
    rcases List.mem_cons.mp hw with rfl | hw
    · exact h
    · exact hw
  exact ⟨List.mem_cons_of_mem _ hw', good_of_word (List.mem_filter.mp hw').2⟩
