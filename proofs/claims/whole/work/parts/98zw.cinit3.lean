/-! the class: its making: the language's words -/
def aeS : Nat → Nat → Int64 → List Int64
  | 0, _, y => [y]
  | f + 1, j, y => if jOURS.getD j 0 = 32 then y :: aeS f (j + 1) 0 else aeS f (j + 1) ((jlshl y (5 : Int32)) + (((jOURS.getD j 0 - (97 : Int32)) + (1 : Int32))).toInt64)
theorem aeS_ours : aeS 89 0 0 = langC := by decide +kernel
def RLg (B : Nat) (μ0 : JM) (P : List Int64) (μ : JM) : Prop := ∃ c1 c2, RM B μ0 3 [(1, 0, 2)] c1 c2 μ ∧ c1 1 = nI P.length ∧ ∀ j, j < P.length → c2 j = P.getD j 0
theorem RLg.add {B : Nat} {μ0 μ : JM} {P : List Int64} (y : Int64) (h : RLg B μ0 P μ) (hl : P.length < 18) : Res (fX9_add (B + 1) y μ) (fun _ ν => RLg B μ0 (P ++ [y]) ν) := by
  obtain ⟨c1, c2, R, i1, j2⟩ := h
  obtain ⟨z, a1, a2, a3, a4, a5⟩ := id R
  have t1 : jT μ (B + 1) = (10, 0) := a2 1 (by omega)
  have t2 : jT μ (B + 2) = (102, 18) := a2 2 (by omega)
  have p1 : jP μ (B + 1) 0 = some (B + 2) := a3 1 0 (by omega)
  have e1 : jI μ (B + 1) 1 = nI P.length := by rw [a4 1 (by omega)]; exact i1
  unfold fX9_add
  simp only [jck_true, jde_is, jlt_is, jcl_0, beq_self_eq_true, jT_sI, jT_sJ, jP_sI, jP_sJ, jJ_sI, jI_sJ, jZ_sI, jZ_sJ, t1, t2, p1, e1]
  rw [if_pos (show nI P.length < nI 18 from nI_lt hl (by decide))]
  simp only [jck_true, jde_is, jlt_is, jcl_0, beq_self_eq_true, jT_sI, jT_sJ, jP_sI, jP_sJ, jJ_sI, jI_sJ, jZ_sI, jZ_sJ, jin_nI hl (show 18 < 2 ^ 31 by decide), nI_clamp (show P.length < 2 ^ 31 by omega), e1, nI_1]
  refine .ret ⟨fun k => if k = 1 then nI (P.length + 1) else c1 k, fun k => if k = P.length then y else c2 k, ⟨z, fun a ha => (a1 a ha).tr ((sameC.sJ (by omega)).tr (sameC.sI (by omega))), a2, a3, fun i hi => ?_, fun i hi => ?_⟩, ?_, fun j hj => ?_⟩
  · funext k
    rw [jI_sI]
    by_cases c : i = 1
    · subst c
      rw [if_pos rfl]
      by_cases d : k = 1
      · rw [if_pos ⟨rfl, d⟩, if_pos d]
      · rw [if_neg (fun t => d t.2), if_neg d]
        show jI μ (B + 1) k = _
        rw [a4 1 hi]; rfl
    · rw [if_neg (fun t => c (by omega)), if_neg c]
      show jI μ (B + i) k = _
      rw [a4 i hi, if_neg c]
  · funext k
    rw [jJ_sI, jJ_sJ]
    by_cases c : i = 2
    · subst c
      rw [if_pos rfl]
      by_cases d : k = P.length
      · rw [if_pos ⟨rfl, d⟩, if_pos d]
      · rw [if_neg (fun t => d t.2), if_neg d, a5 2 hi]; rfl
    · rw [if_neg (fun t => c (by omega)), if_neg c, a5 i hi, if_neg c]
  · simp
  · dsimp only
    by_cases d : j = P.length
    · rw [if_pos d, d]; simp [List.getD]
    · have hj2 : j < P.length := by simp at hj; omega
      rw [if_neg d, j2 j hj2]; simp [List.getD, List.getElem?_append_left hj2]
theorem ae_l {B : Nat} {μ0 : JM} : ∀ (f j : Nat) (y : Int64) (P : List Int64) (μ : JM), RLg B μ0 P μ → P.length + (aeS f j y).length ≤ 18 → Res (fX9_addEach_l f j y (B + 1) μ) (fun _ ν => RLg B μ0 (P ++ aeS f j y) ν)
  | 0, j, y, P, μ, h, hl => by
    have t1 : jT μ (B + 1) = (10, 0) := by obtain ⟨c1, c2, R, -⟩ := h; exact R.2.2.1 1 (by omega)
    rw [fX9_addEach_l, jck_of (by rw [t1]; rfl)]
    rw [aeS] at hl ⊢
    rw [List.length_singleton] at hl
    refine Res.cl (h.add y (by omega)) fun _ ν g => .ret g
  | f + 1, j, y, P, μ, h, hl => by
    have t1 : jT μ (B + 1) = (10, 0) := by obtain ⟨c1, c2, R, -⟩ := h; exact R.2.2.1 1 (by omega)
    rw [fX9_addEach_l]
    rw [aeS] at hl ⊢
    by_cases c : jOURS.getD j 0 = 32
    · rw [if_pos c] at hl ⊢
      rw [if_pos c, jck_of (by rw [t1]; rfl)]
      rw [List.length_cons] at hl
      refine Res.cl (h.add y (by omega)) fun _ ν g => ?_
      refine (ae_l f (j + 1) 0 (P ++ [y]) ν g (by simp; omega)).mono fun _ ρ q => ?_
      rw [List.append_assoc] at q; exact q
    · rw [if_neg c] at hl ⊢
      rw [if_neg c, fX9_grown, jcl_0]
      exact ae_l f (j + 1) _ P μ h hl
theorem c_ours {B : Nat} {μ0 μ : JM} (h : RM B μ0 3 [(1, 0, 2)] (fun _ => 0) (fun _ => 0) μ) : Res (fX9_addEach (B + 1) μ) (fun _ ν => RLg B μ0 langC ν) := by
  unfold fX9_addEach
  have r : RLg B μ0 [] μ := ⟨_, _, h, rfl, fun j hj => absurd hj (by simp)⟩
  have l18 : langC.length = 18 := by decide
  have := ae_l 89 0 0 [] μ r (by rw [aeS_ours, l18]; decide)
  rw [aeS_ours, List.nil_append] at this
  exact this
