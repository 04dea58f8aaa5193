/-! entry slots -/
theorem lg_sl_len (vs : List Value) : (lg_sl vs).length = (vs.map fun v => v.category).sum := by
  induction vs with
  | nil => rfl
  | cons v l ih =>
    have hv : (lg_sl (v :: l)).length = v.category + (lg_sl l).length := by
      cases v <;> simp [lg_sl, Value.category] <;> omega
    rw [hv, ih]; simp
theorem lg_sl_le {vs : List Value} {m : Nat} (h : (vs.map fun v => v.category).sum ≤ m) : (lg_sl vs).length ≤ m := by
  rw [lg_sl_len]; exact h
theorem cat_i (x : Int32) : (Value.int x).category = 1 := rfl
theorem cat_l (x : Int64) : (Value.long x).category = 2 := rfl
def jmax (x y : Int32) : Int32 := if x < y then y else x
def jmin (x y : Int32) : Int32 := if y < x then y else x
section WAR
variable {b : Nat} {Θ : JE} {own : String} {cc : ByteArray} {ml : Nat} {ret : Option FieldType} {FR LO RC RS : Nat} {Γ : JG} {μ : JM} {k n pc : Nat} {L : List (Nat × Value)} {st : List Value}
theorem wa_mmax {i : Nat} {x y : Int32} (X : jX b Θ own cc ml ret FR LO RC RS) (d : decode cc pc = .ok (.invokestatic i, 3)) (hl : Cond.methodLink own i Lib.Math.max.name ∈ jw) (h1 : Cond.static Lib.Math.max.name ∈ jw) (h2 : Cond.initialized "java/lang/Math" ∈ jw) (h3 : Cond.code Lib.Math.max.name Lib.Math.max.code 2 (some .int) ∈ jw) (hF : 1 ≤ FR) (hL2 : (st.map fun v => v.category).sum + 13 ≤ LO) (hc : k ≤ RC) (hn : n ≤ RS) (h : WA b Θ ml Γ μ k n (pc + 3) L (.int (jmax x y) :: st)) : WA b Θ ml Γ μ k n pc L (.int y :: .int x :: st) := by
  intro H locs ls hR hS hL
  obtain ⟨x1, x2, x3, x4, x5, x6, x7, x8, x9, x10⟩ := X
  exact va_mmax x1 x2 (by rw [x3]; exact hL.1.symm) x4 (x5 _ hl) (x5 _ h1) (x5 _ h2) (x5 _ h3) (by rw [x8]; exact hF) (by rw [x8]; exact hL2) (by rw [x8]; exact hc) (by rw [x8]; exact hn) d (h H locs ls hR hS hL)
theorem wa_mmin {i : Nat} {x y : Int32} (X : jX b Θ own cc ml ret FR LO RC RS) (d : decode cc pc = .ok (.invokestatic i, 3)) (hl : Cond.methodLink own i Lib.Math.min.name ∈ jw) (h1 : Cond.static Lib.Math.min.name ∈ jw) (h2 : Cond.initialized "java/lang/Math" ∈ jw) (h3 : Cond.code Lib.Math.min.name Lib.Math.min.code 2 (some .int) ∈ jw) (hF : 1 ≤ FR) (hL2 : (st.map fun v => v.category).sum + 13 ≤ LO) (hc : k ≤ RC) (hn : n ≤ RS) (h : WA b Θ ml Γ μ k n (pc + 3) L (.int (jmin x y) :: st)) : WA b Θ ml Γ μ k n pc L (.int y :: .int x :: st) := by
  intro H locs ls hR hS hL
  obtain ⟨x1, x2, x3, x4, x5, x6, x7, x8, x9, x10⟩ := X
  exact va_mmin x1 x2 (by rw [x3]; exact hL.1.symm) x4 (x5 _ hl) (x5 _ h1) (x5 _ h2) (x5 _ h3) (by rw [x8]; exact hF) (by rw [x8]; exact hL2) (by rw [x8]; exact hc) (by rw [x8]; exact hn) d (h H locs ls hR hS hL)
end WAR
