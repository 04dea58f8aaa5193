/-! a new reference: its arrays, one behind the other -/
def ISt (M : Nat) (μ : JM) (es : List (Nat × Nat × Nat)) : Prop := jZ μ = M + 1 + es.length ∧ (jT μ M).1 = 12 ∧ ∀ i, i < es.length → jP μ M (es.getD i (0, 0, 0)).1 = some (M + 1 + i) ∧ jT μ (M + 1 + i) = (es.getD i (0, 0, 0)).2 ∧ (∀ k, jI μ (M + 1 + i) k = 0) ∧ ∀ k, jJ μ (M + 1 + i) k = 0
theorem ISt.step {M t n f : Nat} {μ : JM} {es : List (Nat × Nat × Nat)} (h : ISt M μ es) (hf : ∀ e ∈ es, e.1 ≠ f) : ISt M (jsP (jnew μ t n) M f (some (jZ μ))) (es ++ [(f, t, n)]) := by
  obtain ⟨h1, h2, h3⟩ := h
  have zz : μ.1 = M + 1 + es.length := h1
  have jTn : ∀ a, jT (jsP (jnew μ t n) M f (some (jZ μ))) a = if a = M + 1 + es.length then (t, n) else jT μ a := by
    intro a
    simp only [jT, jsP, jnew, va_up, zz]
  have jIn : ∀ a, jI (jsP (jnew μ t n) M f (some (jZ μ))) a = if a = M + 1 + es.length then (fun _ => 0) else jI μ a := by
    intro a
    simp only [jI, jsP, jnew, va_up, zz]
  have jJn : ∀ a, jJ (jsP (jnew μ t n) M f (some (jZ μ))) a = if a = M + 1 + es.length then (fun _ => 0) else jJ μ a := by
    intro a
    simp only [jJ, jsP, jnew, va_up, zz]
  have jPn : ∀ k, jP (jsP (jnew μ t n) M f (some (jZ μ))) M k = if k = f then some (M + 1 + es.length) else jP μ M k := by
    intro k
    rw [jP_sP]
    by_cases q : k = f
    · rw [if_pos ⟨rfl, q⟩, if_pos q, h1]
    · rw [if_neg (fun z => q z.2), if_neg q]
      simp only [jP, jnew, va_up, zz]
      rw [if_neg (by omega)]
  refine ⟨?_, by rw [jTn, if_neg (by omega)]; exact h2, fun i hi => ?_⟩
  · rw [List.length_append, List.length_singleton]
    show μ.1 + 1 = _
    omega
  · have hi : i < es.length + 1 := by simpa using hi
    rw [jPn, jTn, jIn, jJn]
    by_cases q : i = es.length
    · have e : (es ++ [(f, t, n)]).getD i (0, 0, 0) = (f, t, n) := by rw [q]; simp [List.getD]
      rw [e, q, if_pos rfl, if_pos rfl, if_pos rfl, if_pos rfl]
      exact ⟨rfl, rfl, fun _ => rfl, fun _ => rfl⟩
    · have hi2 : i < es.length := by omega
      have e : (es ++ [(f, t, n)]).getD i (0, 0, 0) = es.getD i (0, 0, 0) := by simp [List.getD, List.getElem?_append_left hi2]
      have hm : es.getD i (0, 0, 0) ∈ es := by rw [List.getD_eq_getElem?_getD, List.getElem?_eq_getElem hi2]; exact List.getElem_mem hi2
      rw [e, if_neg (hf _ hm), if_neg (by omega), if_neg (by omega), if_neg (by omega)]
      exact h3 i hi2
/-- as Res, with what is made: cells and slots -/
def Rsn {α : Type} (x : JO α) (c m : Nat) (Q : α → JM → Prop) : Prop := ∃ r ν, x = some (r, ν, c, m) ∧ Q r ν
theorem Rsn.nw {β : Type} {M t n f c m : Nat} {μ : JM} {K : JM → JO β} {Q : β → JM → Prop} (hT : (jT μ M).1 = 12) (hz : M < jZ μ) (h : Rsn (K (jsP (jnew μ t n) M f (some (jZ μ)))) c m Q) : Rsn (jnw μ t n fun q μ2 => jck ((jT μ2 M).1 == 12) <| jlt (jsP μ2 M f (some q)) K) (1 + c) (n + m) Q := by
  obtain ⟨r, ν, e, q⟩ := h
  refine ⟨r, ν, ?_, q⟩
  have e12 : (jT (jnew μ t n) M).1 = 12 := by
    have zz : M < μ.1 := hz
    simp only [jT, jnew, va_up]
    rw [if_neg (by omega)]; exact hT
  unfold jnw
  simp only [jcl, jlt_is]
  rw [jck_of (by rw [e12]; rfl), e]
