/-! the reference: tape -/
def four (x : Int32) : List Int32 := [nb (jushr x 24), nb (jushr x 16), nb (jushr x 8), nb x]
def mTape (M : Nat) (μ : JM) (l : List Int32) : Prop := jI μ M 1 = nI l.length ∧ Sg (jI μ (M + 1)) 0 l ∧ l.length ≤ 900
def wTape (M : Nat) (a k : Nat) : Prop := (a = M ∧ k = 1) ∨ a = M + 1
theorem Sg.snoc {f : Nat → Int32} {o : Nat} {l : List Int32} {v : Int32} (h : Sg f o l) : Sg (upd f (o + l.length) v) o (l ++ [v]) := by
  intro i hi
  simp only [List.length_append, List.length_cons, List.length_nil] at hi
  by_cases e : i = l.length
  · subst e
    simp [upd]
  · have h1 : i < l.length := by omega
    rw [show upd f (o + l.length) v (o + i) = f (o + i) from pk_un (by omega), h i h1]
    simp [List.getD, List.getElem?_append_left h1]
theorem Sg.eq {f g : Nat → Int32} {o : Nat} {l : List Int32} (h : Sg f o l) (e : ∀ i, i < l.length → g (o + i) = f (o + i)) : Sg g o l := fun i hi => (e i hi).trans (h i hi)
theorem jI_at {μ : JM} {a k : Nat} {v : Int32} : jI (jsI μ a k v) a = upd (jI μ a) k v := by simp [jI, jsI, va_up]
theorem four_step {M fu : Nat} {μ : JM} {l : List Int32} {x k : Int32} (h : MT M μ) (ht : mTape M μ l) (hl : l.length < 900) (hk : ¬ k < 0) : ∃ ν, fX11_four_b3 (fu + 1) M x k μ = fX11_four_b3 fu M x (k + (-8)) ν ∧ smI (wTape M) μ ν ∧ mTape M ν (l ++ [nb (jshr x k)]) := by
  obtain ⟨h1, h2, h3⟩ := ht
  refine ⟨jsI (jsI μ (M + 1) l.length (nb (jshr x k))) M 1 (nI (l.length + 1)), ?_, (smI.set (Or.inr rfl)).tr (smI.set (Or.inl ⟨rfl, rfl⟩)), ?_, ?_, ?_⟩
  · rw [fX11_four_b3, if_neg hk]
    simp only [jck_true, jde_is, jlt_is, jcl_0, beq_self_eq_true, jT_sI, jT_sJ, jP_sI, jP_sJ, jJ_sI, jI_sJ, jZ_sI, jZ_sJ, h.1, mP_tape h, mT_tape h, h1, jin_nI hl (by decide), nI_clamp (show l.length < 2 ^ 31 by omega), vp_byte, nb_b8]
    have e : jI (jsI μ (M + 1) l.length (nb (jshr x k))) M 1 = nI l.length := by rw [jI_sI, if_neg (by omega), h1]
    rw [e, nI_1]
  · rw [jI_sI, if_pos ⟨rfl, rfl⟩]; simp
  · have := h2.snoc (v := nb (jshr x k))
    refine this.eq fun i _ => ?_
    rw [jI_sI, if_neg (by omega), jI_at]; simp
  · simp; omega
theorem jfuel_5 : jfuel = 999994 + 1 + 1 + 1 + 1 + 1 + 1 := rfl
theorem m_four {M : Nat} {μ : JM} {l : List Int32} (x : Int32) (h : MT M μ) (ht : mTape M μ l) (hl : l.length + 4 ≤ 900) : ∃ ν, fX11_four M x μ = some ((), ν, 0, 0) ∧ smI (wTape M) μ ν ∧ mTape M ν (l ++ four x) := by
  unfold fX11_four
  rw [jfuel_5]
  obtain ⟨ν1, e1, s1, t1⟩ := four_step (fu := 999994 + 1 + 1 + 1 + 1 + 1) (x := x) (k := 24) h ht (by omega) (by decide)
  obtain ⟨ν2, e2, s2, t2⟩ := four_step (fu := 999994 + 1 + 1 + 1 + 1) (x := x) (k := 24 + -8) (s1.mt h) t1 (by simp; omega) (by decide)
  obtain ⟨ν3, e3, s3, t3⟩ := four_step (fu := 999994 + 1 + 1 + 1) (x := x) (k := 24 + -8 + -8) (s2.mt (s1.mt h)) t2 (by simp; omega) (by decide)
  obtain ⟨ν4, e4, s4, t4⟩ := four_step (fu := 999994 + 1 + 1) (x := x) (k := 24 + -8 + -8 + -8) (s3.mt (s2.mt (s1.mt h))) t3 (by simp; omega) (by decide)
  refine ⟨ν4, ?_, ((s1.tr s2).tr s3).tr s4, ?_⟩
  · rw [e1, e2, e3, e4, fX11_four_b3, if_pos (by decide)]
  · have q : l ++ [nb (jshr x 24)] ++ [nb (jshr x (24 + -8))] ++ [nb (jshr x (24 + -8 + -8))] ++ [nb (jshr x (24 + -8 + -8 + -8))] = l ++ four x := by
      have a1 : nb (jshr x 24) = nb (jushr x 24) := jshr_n 24 (by omega) x
      have a2 : nb (jshr x (24 + -8)) = nb (jushr x 16) := jshr_n 16 (by omega) x
      have a3 : nb (jshr x (24 + -8 + -8)) = nb (jushr x 8) := jshr_n 8 (by omega) x
      have a4 : jshr x (24 + -8 + -8 + -8) = x := jshr_0 x
      rw [a1, a2, a3, a4]; simp [four]
    rw [← q]; exact t4
theorem m_feed {M : Nat} {μ : JM} {l : List Int32} (x1 x2 x3 x4 x5 : Int32) (h : MT M μ) (ht : mTape M μ l) : ∃ ν, fX11_feed M x1 x2 x3 x4 x5 μ = some (if l.length + 20 ≤ 900 then nI (l.length + 20) else -1, ν, 0, 0) ∧ smI (wTape M) μ ν ∧ mTape M ν (if l.length + 20 ≤ 900 then l ++ (four x1 ++ four x2 ++ four x3 ++ four x4 ++ four x5) else l) := by
  unfold fX11_feed
  simp only [jck_true, jde_is, jlt_is, jcl_0, beq_self_eq_true, jT_sI, jT_sJ, jP_sI, jP_sJ, jJ_sI, jI_sJ, jZ_sI, jZ_sJ, h.1, ht.1]
  have e : nI l.length + (20 : Int32) = nI (l.length + 20) := nI_add l.length 20
  have hl := ht.2.2
  by_cases q : l.length + 20 ≤ 900
  · rw [e, if_pos (show nI (l.length + 20) ≤ (900 : Int32) from nI_le (b := 900) q (by decide))]
    simp only [if_pos q]
    obtain ⟨n1, e1, s1, t1⟩ := m_four x1 h ht (by omega)
    obtain ⟨n2, e2, s2, t2⟩ := m_four x2 (s1.mt h) t1 (by simp [four]; omega)
    obtain ⟨n3, e3, s3, t3⟩ := m_four x3 ((s1.tr s2).mt h) t2 (by simp [four]; omega)
    obtain ⟨n4, e4, s4, t4⟩ := m_four x4 (((s1.tr s2).tr s3).mt h) t3 (by simp [four]; omega)
    obtain ⟨n5, e5, s5, t5⟩ := m_four x5 ((((s1.tr s2).tr s3).tr s4).mt h) t4 (by simp [four]; omega)
    have s := (((s1.tr s2).tr s3).tr s4).tr s5
    refine ⟨n5, ?_, s, by simpa using t5⟩
    simp only [e1, e2, e3, e4, e5, jck_true, jde_is, jlt_is, jcl_0, beq_self_eq_true, jT_sI, jT_sJ, jP_sI, jP_sJ, jJ_sI, jI_sJ, jZ_sI, jZ_sJ, (s1.mt h).1, ((s1.tr s2).mt h).1, (((s1.tr s2).tr s3).mt h).1, ((((s1.tr s2).tr s3).tr s4).mt h).1, (s.mt h).1, t5.1]
    simp [four]
  · rw [e, if_neg (show ¬ nI (l.length + 20) ≤ (900 : Int32) from nI_ge (b := l.length + 20) (a := 900) (by omega) (by omega))]
    simp only [if_neg q]
    exact ⟨μ, rfl, smI.rf, ht⟩
