/-! entry slots -/
theorem lg_sl_len (vs : List Value) : (lg_sl vs).length = (vs.map fun v => v.category).sum := by
  induction vs with
  | nil => rfl
  | cons v l ih =>
    have hv : (lg_sl (v :: l)).length = v.category + (lg_sl l).length := by
      cases v <;> simp [lg_sl, Value.category] <;> omega
    rw [hv, ih]; simp
theorem lg_sl_le {vs : List Value} {m : Nat} (h : (vs.map fun v => v.category).sum ≤ m) : (lg_sl vs).length ≤ m := by
  rw [lg_sl_len]; exact h
theorem cat_i (x : Int32) : (Value.int x).category = 1 := rfl
theorem cat_l (x : Int64) : (Value.long x).category = 2 := rfl
def jmax (x y : Int32) : Int32 := if x < y then y else x
def jmin (x y : Int32) : Int32 := if y < x then y else x
def jcp (μ : JM) (a a0 sp dp n : Nat) : JM := (μ.1, μ.2.1, μ.2.2.1, va_up μ.2.2.2.1 a (va_cpy (μ.2.2.2.1 a0) (μ.2.2.2.1 a) sp dp n), μ.2.2.2.2)
theorem jret {α : Type} {x r : α} {μ ν : JM} {c0 m0 c m : Nat} (h : (some (x, μ, c0, m0) : JO α) = some (r, ν, c, m)) : x = r ∧ μ = ν ∧ c0 = c ∧ m0 = m := by
  have h1 := Option.some.inj h
  exact ⟨congrArg (·.1) h1, congrArg (·.2.1) h1, congrArg (·.2.2.1) h1, congrArg (·.2.2.2) h1⟩
section WAR
variable {b : Nat} {Θ : JE} {own : String} {cc : ByteArray} {ml : Nat} {ret : Option FieldType} {FR LO RC RS : Nat} {Γ : JG} {μ : JM} {k n pc : Nat} {L : List (Nat × Value)} {st : List Value}
theorem wa_mmax {i : Nat} {x y : Int32} (X : jX b Θ own cc ml ret FR LO RC RS) (d : decode cc pc = .ok (.invokestatic i, 3)) (hl : Cond.methodLink own i Lib.Math.max.name ∈ jw) (h1 : Cond.static Lib.Math.max.name ∈ jw) (h2 : Cond.initialized "java/lang/Math" ∈ jw) (h3 : Cond.code Lib.Math.max.name Lib.Math.max.code 2 (some .int) ∈ jw) (hF : 1 ≤ FR) (hL2 : (st.map fun v => v.category).sum + 13 ≤ LO) (hc : k ≤ RC) (hn : n ≤ RS) (h : WA b Θ ml Γ μ k n (pc + 3) L (.int (jmax x y) :: st)) : WA b Θ ml Γ μ k n pc L (.int y :: .int x :: st) := by
  intro H locs ls hR hS hL
  obtain ⟨x1, x2, x3, x4, x5, x6, x7, x8, x9, x10⟩ := X
  exact va_mmax x1 x2 (by rw [x3]; exact hL.1.symm) x4 (x5 _ hl) (x5 _ h1) (x5 _ h2) (x5 _ h3) (by rw [x8]; exact hF) (by rw [x8]; exact hL2) (by rw [x8]; exact hc) (by rw [x8]; exact hn) d (h H locs ls hR hS hL)
theorem wa_mmin {i : Nat} {x y : Int32} (X : jX b Θ own cc ml ret FR LO RC RS) (d : decode cc pc = .ok (.invokestatic i, 3)) (hl : Cond.methodLink own i Lib.Math.min.name ∈ jw) (h1 : Cond.static Lib.Math.min.name ∈ jw) (h2 : Cond.initialized "java/lang/Math" ∈ jw) (h3 : Cond.code Lib.Math.min.name Lib.Math.min.code 2 (some .int) ∈ jw) (hF : 1 ≤ FR) (hL2 : (st.map fun v => v.category).sum + 13 ≤ LO) (hc : k ≤ RC) (hn : n ≤ RS) (h : WA b Θ ml Γ μ k n (pc + 3) L (.int (jmin x y) :: st)) : WA b Θ ml Γ μ k n pc L (.int y :: .int x :: st) := by
  intro H locs ls hR hS hL
  obtain ⟨x1, x2, x3, x4, x5, x6, x7, x8, x9, x10⟩ := X
  exact va_mmin x1 x2 (by rw [x3]; exact hL.1.symm) x4 (x5 _ hl) (x5 _ h1) (x5 _ h2) (x5 _ h3) (by rw [x8]; exact hF) (by rw [x8]; exact hL2) (by rw [x8]; exact hc) (by rw [x8]; exact hn) d (h H locs ls hR hS hL)
/-- System.arraycopy of longs -/
theorem wa_acopy {i a a0 : Nat} {rd rs : Option Nat} {sp dp z : Int32} {ν : JM} (X : jX b Θ own cc ml ret FR LO RC RS) (d : decode cc pc = .ok (.invokestatic i, 3)) (hl : Cond.methodLink own i arraycopyName ∈ jw) (h1 : Cond.native arraycopyName ∈ jw) (h2 : Cond.static arraycopyName ∈ jw) (h3 : Cond.initialized "java/lang/System" ∈ jw) (hd : rd = some a) (hs : rs = some a0) (hT : (jT μ a).1 = 102) (hT0 : (jT μ a0).1 = 102) (g1 : ¬ sp < 0) (g2 : ¬ dp < 0) (g3 : ¬ z < 0) (g4 : sp.toNatClampNeg + z.toNatClampNeg ≤ (jT μ a0).2) (g5 : dp.toNatClampNeg + z.toNatClampNeg ≤ (jT μ a).2) (hF : 1 ≤ FR) (hL2 : (st.map fun v => v.category).sum + (nativeFrameWords "java/lang/System" "arraycopy" 5 + 11) ≤ LO) (hm : ν = jcp μ a a0 sp.toNatClampNeg dp.toNatClampNeg z.toNatClampNeg)
    (h : WA b Θ ml Γ ν k n (pc + 3) L st) : WA b Θ ml Γ μ k n pc L (.int z :: .int dp :: va_rf rd :: .int sp :: va_rf rs :: st) := by
  subst hd hs hm
  intro H locs ls hR hS hL
  obtain ⟨x1, x2, x3, x4, x5, x6, x7, x8, x9, x10⟩ := X
  obtain ⟨hba, -, -, hA⟩ := hR.2.2 a (by omega)
  obtain ⟨c1, ⟨hA1, hA2⟩, hc1⟩ := hA (by omega)
  rw [hT] at hA1 hA2 hc1
  obtain ⟨c0, ⟨hB1, hB2⟩, hc0⟩ := (hR.2.2 a0 (by omega)).2.2.2 (by omega)
  rw [hT0] at hB1 hB2 hc0
  have nn : ∀ z : Int32, ¬ z < 0 → z.toInt = (z.toNatClampNeg : Int) := by
    intro z hz
    have hz0 : (0 : Int) ≤ z.toInt := by
      have := Int32.not_lt.mp hz
      simpa using Int32.le_iff_toInt_le.mp this
    show z.toInt = ((z.toInt.toNat : Nat) : Int)
    omega
  intro T hTh X
  obtain ⟨-, k0, hk0, cm0, hkk0⟩ := hB1 (jT μ a0).2 (fun j => .long (jJ μ a0 j))
  obtain ⟨-, k1, hk1, cm1, hkk1⟩ := hA1 (jT μ a).2 (fun j => .long (jJ μ a j))
  obtain ⟨vm', X', step⟩ := X.arraycopy x1 x4 (x5 _ hl) (x5 _ h1) (x5 _ h2) (x5 _ h3) (src := a0) (dst := a) (cs := vp_cell c0 ((jT μ a0).2, .inr (.inl (jJ μ a0)))) (cd := vp_cell c1 ((jT μ a).2, .inr (.inl (jJ μ a)))) (srcPos := sp) (destPos := dp) (n := z) (by rw [hTh]; exact hc0) (by rw [hTh]; exact hc1)
    (fun _ h => by cases h) (fun _ h => by cases h) (fun h => by cases h) (fun h => by cases h) hk0 hk1 hkk0 hkk1 (by simp [jaty, refKind]) g1 g2 g3
    (by rw [nn sp g1, nn z g3]; show ¬ _ > ((arrV c0 (jT μ a0).2 (fun j => .long (jJ μ a0 j))).slots.size : Int); rw [arrV_size]; omega)
    (by rw [nn dp g2, nn z g3]; show ¬ _ > ((arrV c1 (jT μ a).2 (fun j => .long (jJ μ a j))).slots.size : Int); rw [arrV_size]; omega)
    (fun vm₁ _ i hi => by
      have e : (vp_cell c0 ((jT μ a0).2, .inr (.inl (jJ μ a0)))).slots.getD (sp.toNatClampNeg + i) .null = .long (jJ μ a0 (sp.toNatClampNeg + i)) := by
        show (arrV c0 (jT μ a0).2 (fun j => .long (jJ μ a0 j))).slots.getD _ _ = _
        rw [Array.getD_eq_getD_getElem?, arrV_read _ _ (by omega)]
        rfl
      refine ⟨?_, ?_⟩
      · rw [e]
        rfl
      · rw [e]
        exact trivial)
    (g := F0 (eM Θ) pc ls (.int z :: .int dp :: .ref a :: .int sp :: .ref a0 :: st)) rfl (by rw [x3]; exact hL.1) (rest := st) rfl (by rw [x2]; exact d) (by rw [x8]; exact hF) (by rw [x8]; show 2 * 0 + _ + _ ≤ LO; omega)
  have e1 : copied (vp_cell c0 ((jT μ a0).2, .inr (.inl (jJ μ a0)))) (vp_cell c1 ((jT μ a).2, .inr (.inl (jJ μ a)))) sp dp z = vp_cell c1 ((jT μ a).2, .inr (.inl (va_cpy (jJ μ a0) (jJ μ a) sp.toNatClampNeg dp.toNatClampNeg z.toNatClampNeg))) := va_copied (fun z => .long z) c0 c1 (jJ μ a0) (jJ μ a) g4
  rw [e1] at X' step
  have hl2 : a < H.size := (Array.getElem?_eq_some_iff.mp hc1).1
  generalize hc2 : vp_cell c1 ((jT μ a).2, .inr (.inl (va_cpy (jJ μ a0) (jJ μ a) sp.toNatClampNeg dp.toNatClampNeg z.toNatClampNeg))) = cell2 at X' step
  have hheap : ((T.setVm vm').setCell a cell2).heap = H.setIfInBounds a cell2 := by rw [← hTh]; rfl
  have oq : ∀ q : Nat, q ≠ a → (H.setIfInBounds a cell2)[q]? = H[q]? := fun q hq => by simp [Array.getElem?_setIfInBounds, Ne.symm hq]
  have hT1 : jT (jcp μ a a0 sp.toNatClampNeg dp.toNatClampNeg z.toNatClampNeg) = jT μ := rfl
  have hJ1 : jJ (jcp μ a a0 sp.toNatClampNeg dp.toNatClampNeg z.toNatClampNeg) a = va_cpy (jJ μ a0) (jJ μ a) sp.toNatClampNeg dp.toNatClampNeg z.toNatClampNeg := by simp [jJ, jcp, va_up]
  have hR1 : jR b (eS Θ) (jcp μ a a0 sp.toNatClampNeg dp.toNatClampNeg z.toNatClampNeg) (H.setIfInBounds a cell2) := by
    refine hR.upd rfl rfl (fun x hx => rfl) (fun x hx => by simp [jJ, jcp, va_up, hx]) (fun x hx => rfl) (by simp) oq ⟨fun z2 => ?_, fun _ => ?_⟩
    · rw [hT1, hT] at z2; omega
    · rw [hT1, hT]
      refine ⟨c1, ⟨hA1, hA2⟩, ?_⟩
      have : jcon 102 (jcp μ a a0 sp.toNatClampNeg dp.toNatClampNeg z.toNatClampNeg) a = .inr (.inl (va_cpy (jJ μ a0) (jJ μ a) sp.toNatClampNeg dp.toNatClampNeg z.toNatClampNeg)) := by simp only [jcon, hJ1]
      rw [this, hc2]
      simp [Array.getElem?_setIfInBounds, hl2]
  obtain ⟨t, a1, b1⟩ := h _ _ ls hR1 ⟨by simp; exact hS.1, fun q g1 g2 => by
      rw [oq q (fun e => g2 (by rw [e]; exact hba))]
      exact hS.2.1 q g1 g2, fun q hq => by
      rcases List.mem_append.mp hq with h | h
      · exact hS.2.2 q h
      · obtain ⟨z, -, hz⟩ := List.mem_map.mp h
        rw [← hz]
        exact hba⟩ hL _ hheap X'
  exact ⟨t, step t a1, b1⟩
end WAR
