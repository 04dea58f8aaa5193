/-! the class: differs -/
def setO (cls : List Cl) (k : Int32) (c : Nat) : Bool := cls.any (fun y => !isDf y && decide (okey y = k) && hasC (Cl.cas y) c)
def unl (A B : List Cl) (c : Nat) (y : Cl) : Bool := !isDf y && (setO A (okey y) c != setO B (okey y) c)
theorem i32_lt {a b : Int32} : a < b ↔ a.toInt < b.toInt := Int32.lt_iff_toInt_lt
theorem insK_mem2 (o : Int32) : ∀ (L : List Int32) (x : Int32), x ∈ insK o L ↔ x = o ∨ x ∈ L
  | [], x => by rw [insK, List.mem_singleton]; simp
  | y :: r, x => by
    rw [insK]
    by_cases q : y < o
    · rw [if_pos q, List.mem_cons, insK_mem2 o r x, List.mem_cons]
      constructor
      · rintro (h | h | h)
        · exact Or.inr (Or.inl h)
        · exact Or.inl h
        · exact Or.inr (Or.inr h)
      · rintro (h | h | h)
        · exact Or.inr (Or.inl h)
        · exact Or.inl h
        · exact Or.inr (Or.inr h)
    · rw [if_neg q]
      by_cases q2 : y = o
      · rw [if_pos q2]
        constructor
        · exact fun h => Or.inr h
        · rintro (h | h)
          · rw [h, q2]; exact List.mem_cons_self
          · exact h
      · rw [if_neg q2, List.mem_cons]
def srt (L : List Int32) : Prop := L.Pairwise (fun a b => a < b)
theorem insK_srt (o : Int32) : ∀ L : List Int32, srt L → srt (insK o L)
  | [], _ => by rw [insK]; exact List.pairwise_singleton _ _
  | y :: r, h => by
    obtain ⟨h1, h2⟩ := List.pairwise_cons.mp h
    rw [insK]
    by_cases q : y < o
    · rw [if_pos q]
      refine List.pairwise_cons.mpr ⟨fun x hx => ?_, insK_srt o r h2⟩
      rcases (insK_mem2 o r x).mp hx with e | e
      · rw [e]; exact q
      · exact h1 x e
    · rw [if_neg q]
      by_cases q2 : y = o
      · rw [if_pos q2]; exact h
      · rw [if_neg q2]
        have lt : o < y := by
          rw [i32_lt] at *
          have : y.toInt ≠ o.toInt := fun e => q2 (Int32.toInt_inj.mp e)
          omega
        refine List.pairwise_cons.mpr ⟨fun x hx => ?_, h⟩
        rcases List.mem_cons.mp hx with e | e
        · rw [e]; exact lt
        · have := h1 x e
          rw [i32_lt] at *
          omega
theorem kys_srt (n : Nat) : ∀ (cls : List Cl) (L : List Int32), srt L → srt (kys n cls L)
  | [], _, h => h
  | c :: r, L, h => by
    rw [kys]
    refine kys_srt n r _ ?_
    split
    · exact h
    · exact insK_srt _ _ h
theorem kys_memO (n : Nat) : ∀ (cls : List Cl) (L : List Int32) (k : Int32), k ∈ kys n cls L ↔ k ∈ L ∨ setO cls k n = true
  | [], L, k => by rw [kys]; unfold setO; simp
  | c :: r, L, k => by
    rw [kys, kys_memO n r]
    have e : setO (c :: r) k n = ((!isDf c && decide (okey c = k) && hasC (Cl.cas c) n) || setO r k n) := by unfold setO; rw [List.any_cons]
    rw [e, Bool.or_eq_true]
    by_cases q : isDf c = true ∨ hasC (Cl.cas c) n = false
    · rw [if_pos q]
      have : (!isDf c && decide (okey c = k) && hasC (Cl.cas c) n) = false := by
        rcases q with q | q
        · rw [q]; simp
        · rw [q]; simp
      rw [this]
      constructor
      · rintro (h | h)
        · exact Or.inl h
        · exact Or.inr (Or.inr h)
      · rintro (h | h | h)
        · exact Or.inl h
        · cases h
        · exact Or.inr h
    · rw [if_neg q, insK_mem2]
      have q1 : isDf c = false := by
        cases hh : isDf c
        · rfl
        · exact absurd (Or.inl hh) q
      have q2 : hasC (Cl.cas c) n = true := by
        cases hh : hasC (Cl.cas c) n
        · exact absurd (Or.inr hh) q
        · rfl
      rw [q1, q2, Bool.and_true, Bool.not_false, Bool.true_and, decide_eq_true_eq]
      constructor
      · rintro ((h | h) | h)
        · exact Or.inr (Or.inl h.symm)
        · exact Or.inl h
        · exact Or.inr (Or.inr h)
      · rintro (h | h | h)
        · exact Or.inl (Or.inr h)
        · exact Or.inl (Or.inl h.symm)
        · exact Or.inr h
theorem srt_ext : ∀ (A B : List Int32), srt A → srt B → (∀ k, k ∈ A ↔ k ∈ B) → A = B
  | [], [], _, _, _ => rfl
  | [], b :: B, _, _, h => by have := (h b).mpr List.mem_cons_self; cases this
  | a :: A, [], _, _, h => by have := (h a).mp List.mem_cons_self; cases this
  | a :: A, b :: B, hA, hB, h => by
    obtain ⟨a1, a2⟩ := List.pairwise_cons.mp hA
    obtain ⟨b1, b2⟩ := List.pairwise_cons.mp hB
    have ab : a = b := by
      rcases List.mem_cons.mp ((h a).mp List.mem_cons_self) with e | e
      · exact e
      · rcases List.mem_cons.mp ((h b).mpr List.mem_cons_self) with f | f
        · exact f.symm
        · have x1 := b1 a e
          have x2 := a1 b f
          rw [i32_lt] at x1 x2
          omega
    subst ab
    have : A = B := srt_ext A B a2 b2 fun k => by
      have hk := h k
      rw [List.mem_cons, List.mem_cons] at hk
      constructor
      · intro z
        rcases hk.mp (Or.inr z) with e | e
        · have := a1 k z; rw [e, i32_lt] at this; omega
        · exact e
      · intro z
        rcases hk.mpr (Or.inr z) with e | e
        · have := b1 k z; rw [e, i32_lt] at this; omega
        · exact e
    rw [this]
theorem unl_eq (A B : List Cl) (c : Nat) : (A.any (unl A B c) || B.any (unl B A c)) = decide (kys c A [] ≠ kys c B []) := by
  have s0 : srt [] := List.Pairwise.nil
  have mA := fun k => kys_memO c A [] k
  have mB := fun k => kys_memO c B [] k
  have wit : ∀ (C : List Cl) (k : Int32), setO C k c = true → ∃ y ∈ C, isDf y = false ∧ okey y = k := fun C k h => by
    unfold setO at h
    obtain ⟨y, y1, y2⟩ := List.any_eq_true.mp h
    simp only [Bool.and_eq_true, decide_eq_true_eq, Bool.not_eq_true'] at y2
    exact ⟨y, y1, y2.1.1, y2.1.2⟩
  by_cases q : kys c A [] = kys c B []
  · rw [decide_eq_false (fun z => z q)]
    have eq : ∀ k, setO A k c = setO B k c := fun k => by
      have h1 := mA k
      have h2 := mB k
      rw [q] at h1
      have h3 := h1.symm.trans h2
      simp only [List.not_mem_nil, false_or] at h3
      cases hh : setO A k c <;> cases hg : setO B k c <;> simp_all
    rw [Bool.or_eq_false_iff]
    constructor
    · refine List.any_eq_false.mpr fun y _ => ?_
      unfold unl; rw [eq]; simp
    · refine List.any_eq_false.mpr fun y _ => ?_
      unfold unl; rw [eq]; simp
  · rw [decide_eq_true q]
    have : ∃ k, setO A k c ≠ setO B k c := by
      refine Classical.byContradiction fun n => q ?_
      refine srt_ext _ _ (kys_srt c A [] s0) (kys_srt c B [] s0) fun k => ?_
      have e : setO A k c = setO B k c := Classical.byContradiction fun z => n ⟨k, z⟩
      rw [mA k, mB k, e]
    obtain ⟨k, hk⟩ := this
    rw [Bool.or_eq_true]
    cases hA : setO A k c with
    | true =>
      obtain ⟨y, y1, y2, y3⟩ := wit A k hA
      refine Or.inl (List.any_eq_true.mpr ⟨y, y1, ?_⟩)
      unfold unl; rw [y2, y3, hA]
      cases hB : setO B k c with
      | true => exact absurd (hA.trans hB.symm) hk
      | false => rfl
    | false =>
      cases hB : setO B k c with
      | false => exact absurd (hA.trans hB.symm) hk
      | true =>
        obtain ⟨y, y1, y2, y3⟩ := wit B k hB
        refine Or.inr (List.any_eq_true.mpr ⟨y, y1, ?_⟩)
        unfold unl; rw [y2, y3, hA, hB]; rfl
