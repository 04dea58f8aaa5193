/-! the start: what the Statement gives is what the walks ask -/
def jM0 (b : Nat) : JM := (b, fun _ => (0, 0), fun _ _ => 0, fun _ _ => 0, fun _ _ => none)
theorem jM0_R (b : Nat) (U : State) (H : Heap) (h : H.size = b) : jR b U (jM0 b) H := ⟨by omega, h, fun a ha => absurd rfl ha⟩
def lw_flat : List Cond := flatC (Jvm.Cond.and given_1 narrow_1)
abbrev lw_str : Term := .string RX10 14
abbrev lw_val : Term := .field lw_str "java/lang/String" "value" "[B"
abbrev lw_fb : Term := .static RX1 "FACT_BITS" "[J"
theorem lw_fb_el : ∀ j, j < 6 → Cond.eq (.elem lw_fb (.int (Int32.ofNat j))) (.long (jFB j)) ∈ lw_flat := by decide +kernel
theorem lw_fb_ar : Cond.arrayOf lw_fb .long ∈ lw_flat := by decide +kernel
theorem lw_fb_ln : Cond.eq (.length lw_fb) (.int (Int32.ofNat 6)) ∈ lw_flat := by decide +kernel
theorem lw_st_el : ∀ j, j < 89 → Cond.eq (.elem lw_val (.int (Int32.ofNat j))) (.int (jOURS.getD j 0)) ∈ lw_flat := by decide +kernel
theorem lw_st_ar : Cond.arrayOf lw_val .byte ∈ lw_flat := by decide +kernel
theorem lw_st_ln : Cond.eq (.length lw_val) (.int (Int32.ofNat 89)) ∈ lw_flat := by decide +kernel
theorem lw_st_ex : Cond.exactly lw_str "java/lang/String" ∈ lw_flat := by decide +kernel
theorem lw_st_co : Cond.eq (.field lw_str "java/lang/String" "coder" "B") (.int 0) ∈ lw_flat := by decide +kernel
theorem lw_cs : Cond.eq (.static "java/lang/String" "COMPACT_STRINGS" "Z") (.int 1) ∈ lw_flat := by decide +kernel
theorem lw_sf : Cond.isRef (.static "jdk/internal/util/Preconditions" "SIOOBE_FORMATTER" "Ljava/util/function/BiFunction;") ∈ lw_flat := by decide +kernel
theorem lw_over : ∀ C ∈ jOver, Cond.arrayOver (.object C) ∈ lw_tbl := by decide +kernel
theorem lw_t1 : Cond.laysStatic RX1 "FACT_BITS" "[J" ∈ lw_tbl := by decide +kernel
theorem lw_t2 : Cond.initialized RX1 ∈ lw_tbl := by decide +kernel
theorem lw_t3 : Cond.laysStatic "java/lang/String" "COMPACT_STRINGS" "Z" ∈ lw_tbl := by decide +kernel
theorem lw_t4 : Cond.initialized "java/lang/String" ∈ lw_tbl := by decide +kernel
theorem lw_t5 : Cond.laysStatic "jdk/internal/util/Preconditions" "SIOOBE_FORMATTER" "Ljava/util/function/BiFunction;" ∈ lw_tbl := by decide +kernel
theorem lw_t6 : Cond.initialized "jdk/internal/util/Preconditions" ∈ lw_tbl := by decide +kernel
theorem lw_t7 : Cond.stringRef RX10 14 "define as duty right ban to by days workdays if unless over and or not strike replace add" ∈ lw_tbl := by decide +kernel
theorem jg_start {s : State} {args : Array Value} (hts : ∀ w ∈ lw_tbl, w.before args s = true) (hgv : (Jvm.Cond.and given_1 narrow_1).before args s = true) : jg s.heap.size s := by
  have hs : ∀ c ∈ lw_flat, c.before args s = true := flat_of_before _ hgv
  have hA : ∀ a : Nat, a < s.heap.size → ¬ (fun q => s.heap.size ≤ q) a := fun a h => Nat.not_le.mpr h
  refine ⟨fun w hw => ?_, fun C hC => va_AO.of (hts _ (lw_over C hC)), ?_, ⟨?_, ?_, ?_⟩⟩
  · obtain ⟨h1, h2⟩ := List.mem_filter.mp hw
    have h3 := hts w h1
    cases w with
    | methodLinkNest a i x h => exact va_Nw.of rfl h3
    | _ => simp at h2
  · obtain ⟨t, ht, hT⟩ := va_Tof (f := fun j => .long (jFB j)) (A := fun q => s.heap.size ≤ q) (by decide) (hs _ lw_fb_ar) (va_eqt (hs _ lw_fb_ln)) (fun j hj => va_eqtl (hs _ (lw_fb_el j hj))) hA
    exact ⟨t, va_Zref (hts _ lw_t1) (hts _ lw_t2) ht hA, hT⟩
  · obtain ⟨a, c, cA, kA, q1, q2, q3, q4, q5, q6, -⟩ := Cond.exactly_spec (args := args) (first := s) (o := none) (s := s) (idx := []) (t := lw_str) (cls := "java/lang/String") (hs _ lw_st_ex)
    obtain ⟨t, ht, hT⟩ := va_Tof (f := fun j => .int (jOURS.getD j 0)) (A := fun q => s.heap.size ≤ q) (by decide) (hs _ lw_st_ar) (va_eqt (hs _ lw_st_ln)) (fun j hj => va_eqt (hs _ (lw_st_el j hj))) hA
    refine ⟨a, vk_R.of (hts _ lw_t7) q1, t, ⟨cA, q3, q5, by rw [q6]; exact q2, hA a (Array.getElem?_eq_some_iff.mp q3).1⟩, vk_OFof q1 (va_eqt (hs _ lw_st_co)) hA, vk_OFof q1 ht hA, hT⟩
  · exact va_Zof (hts _ lw_t3) (hts _ lw_t4) (va_eqt (hs _ lw_cs)) hA
  · have h := hs _ lw_sf
    have : ∃ r : Option Nat, (Term.static "jdk/internal/util/Preconditions" "SIOOBE_FORMATTER" "Ljava/util/function/BiFunction;").eval args s none [] s = some (va_rf r) := by
      cases hv : (Term.static "jdk/internal/util/Preconditions" "SIOOBE_FORMATTER" "Ljava/util/function/BiFunction;").eval args s none [] s with
      | none => simp [Cond.before, Cond.holds, Cond.value, hv] at h
      | some w =>
        cases w with
        | null => exact ⟨none, rfl⟩
        | ref a => exact ⟨some a, rfl⟩
        | _ => simp [Cond.before, Cond.holds, Cond.value, hv, Value.isRef] at h
    obtain ⟨r, hr⟩ := this
    exact ⟨r, va_Zof (hts _ lw_t5) (hts _ lw_t6) hr hA⟩
set_option maxHeartbeats 4000000 in
theorem whole_from (hmain : ∀ (b LL : Nat) (xs : Nat → Int32), LL ≤ 3072 → ∃ (ν : JM) (c m : Nat), fL_law xs LL (jM0 b) = some ((), ν, c, m) ∧ c ≤ 600000 ∧ m ≤ 7302250) {p : Program} {e : Env} {s : State} {m : MethodId} {below : List Frame} {meth : Method} {c : Code} (l : Launch) {b L : Nat} {xs : Nat → Int32} (hL : L ≤ 3072) (C0 : lw_At p s m meth c b L xs) : W p l e room_1 s m #[Value.ref b] below meth c s.heap [] 0 0 (lw_Z below #[Value.ref b] s) (entryFrame m ([Value.ref b] : List Value).toArray 4) := by
  obtain ⟨hx, hb, hr, hml, hown, hts, hX, hbl, hlocks, hgv⟩ := C0
  obtain ⟨ν, cc, mm, hf, h1, h2⟩ := hmain s.heap.size L xs hL
  have X : jX s.heap.size (lwT p l e s m below meth c b) RL code 4 ret 12 462 600000 7302250 := ⟨hx, hb, hml, hown, fun w hw => hts w (List.mem_filter.mp hw).1, hr, hlocks, rfl, jg_start hts hgv, Nat.le_refl _⟩
  have hl := lv_entry ([.ref b]) (n := 4) (Nat.le_of_ble_eq_true rfl)
  rw [lg_entry_eq]
  exact gL_law X hX hbl rfl hf (by omega) (by omega) s.heap [] _ (jM0_R _ _ _ rfl) va_S.rf hl
