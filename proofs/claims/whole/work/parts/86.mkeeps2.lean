/-! the reference: keeps -/
def mPool (M : Nat) (μ : JM) (Ts : List (List Int32)) (pt : Nat) : Prop := jI μ M 48 = nI Ts.length ∧ jI μ M 49 = nI pt ∧ pt ≤ 300000 ∧ ∀ t, t < Ts.length → ∃ o, jI μ (M + 32) t = nI o ∧ jI μ (M + 33) t = nI (Ts.getD t []).length ∧ o + (Ts.getD t []).length ≤ pt ∧ Sg (jI μ (M + 31)) o (Ts.getD t []) ∧ (Ts.getD t []).length ≤ 1900 ∧ byt (Ts.getD t [])
theorem mPool.pt {M t pt : Nat} {μ : JM} {Ts : List (List Int32)} (h : mPool M μ Ts pt) (ht : t < Ts.length) : mPt M μ t (Ts.getD t []) := by
  obtain ⟨h1, h2, h3, h4⟩ := h
  obtain ⟨o, o1, o2, o3, o4⟩ := h4 t ht
  exact ⟨o, o1, o2, by omega, o4⟩
theorem mPool.sm {M pt : Nat} {μ ν : JM} {Ts : List (List Int32)} {fs as : List Nat} (h : mPool M μ Ts pt) (s : sm M fs as μ ν) (hf : ∀ i ∈ [48, 49], i ∉ fs) (ha : ∀ i ∈ [31, 32, 33], i ∉ as) : mPool M ν Ts pt := by
  unfold mPool
  rw [s.fI (hf 48 (by decide)), s.fI (hf 49 (by decide)), s.aI (by decide) (ha 31 (by decide)), s.aI (by decide) (ha 32 (by decide)), s.aI (by decide) (ha 33 (by decide))]; exact h
def KA : List Nat := [20, 21, 22, 23, 24, 25, 26, 27, 28, 29, 30, 31, 32, 33, 34]
def mKp (M v pt : Nat) (μ ν : JM) (cls : List Cl) (Ts : List (List Int32)) (B : List Int32) (r : Int32) : Prop := r = nI cls.length ∧ sm M [48, 49] KA μ ν ∧ clsV M μ ν v ∧ mCls M ν (24 * v) cls ∧ (∀ u, jI ν (M + 20) u = if u = v then nI cls.length else jI μ (M + 20) u) ∧ mPool M ν (Ts ++ [B]) (pt + B.length) ∧ (∀ u, jI ν (M + 34) u = if u = v then nI Ts.length else jI μ (M + 34) u)
theorem kp_l {M v pt : Nat} {cls : List Cl} {Ts : List (List Int32)} {B : List Int32} (hv : v < 4) (hn : cls.length ≤ 24) (hb : byt B) (hBl : B.length ≤ 1900) (hT : Ts.length < 600) (hr : pt + B.length ≤ 300000) : ∀ (fu i : Nat) (μ : JM), MT M μ → mCn M μ B → mPool M μ Ts pt → jI μ (M + 20) 4 = nI cls.length → mCls M μ 96 cls → jI μ (M + 32) Ts.length = nI pt → jI μ (M + 33) Ts.length = nI B.length → Sg (jI μ (M + 31)) pt (B.take i) → i ≤ B.length → B.length - i < fu →
    Res (fX11_keeps_b28 fu M (nI v) (nI i) μ) (fun r ν => mKp M v pt μ ν cls Ts B r) := by
  intro fu
  induction fu with
  | zero => intro i μ _ _ _ _ _ _ _ _ _ h; omega
  | succ fu ih =>
    intro i μ h hC hP h20 hK h32 h33 hs hi hf
    obtain ⟨p1, p2, p3, p4⟩ := id hP
    rw [fX11_keeps_b28]
    simp only [jck_true, jde_is, jlt_is, jcl_0, beq_self_eq_true, jT_sI, jT_sJ, jP_sI, jP_sJ, jJ_sI, jI_sJ, jZ_sI, jZ_sJ, h.1, hC.1, p2, nI_add]
    by_cases q : i = B.length
    · rw [if_pos (nI_le (by omega) (by omega))]
      rw [q, List.take_length] at hs
      have f48 : jI (jsI μ M 49 (nI (pt + B.length))) M 48 = nI Ts.length := by rw [jI_sI, if_neg (by omega)]; exact p1
      have g48 : jI (jsI (jsI μ M 49 (nI (pt + B.length))) (M + 34) v (nI Ts.length)) M 48 = nI Ts.length := by rw [jI_sI, if_neg (by omega)]; exact f48
      simp only [jck_true, jde_is, jlt_is, jcl_0, beq_self_eq_true, jT_sI, jT_sJ, jP_sI, jP_sJ, jJ_sI, jI_sJ, jZ_sI, jZ_sJ, mP_version h, mT_version h, jin_nI hv (show 4 < 2 ^ 31 by decide), nI_clamp (show v < 2 ^ 31 by omega), f48, g48, nI_1]
      generalize hμ1 : jsI (jsI (jsI μ M 49 (nI (pt + B.length))) (M + 34) v (nI Ts.length)) M 48 (nI (Ts.length + 1)) = μ1
      have s1 : sm M [48, 49] [34] μ μ1 := by rw [← hμ1]; exact (sm.sF (by decide)).tr ((sm.sA (by decide) (by decide)).tr (sm.sF (by decide)))
      have v48 : jI μ1 M 48 = nI (Ts.length + 1) := by rw [← hμ1, jI_sI, if_pos ⟨rfl, rfl⟩]
      have v49 : jI μ1 M 49 = nI (pt + B.length) := by rw [← hμ1, jI_sI, if_neg (by omega), jI_sI, if_neg (by omega), jI_sI, if_pos ⟨rfl, rfl⟩]
      have v34 : ∀ u, jI μ1 (M + 34) u = if u = v then nI Ts.length else jI μ (M + 34) u := by
        intro u
        rw [← hμ1, jI_sI, if_neg (by omega), jI_sI]
        by_cases z : u = v
        · rw [if_pos ⟨rfl, z⟩, if_pos z]
        · rw [if_neg (fun y => z y.2), if_neg z, jI_sI, if_neg (by omega)]
      refine Res.cl (m_becomes hv hn (s1.mt h) (by rw [s1.aI (by decide) (by decide)]; exact h20) (fun i hi => (hK i hi).sm s1 (by decide))) fun _ ν ⟨q1, q2, q3, q4⟩ => ?_
      have hMν := q1.mt (s1.mt h)
      simp only [jck_true, jde_is, jlt_is, jcl_0, beq_self_eq_true, jT_sI, jT_sJ, jP_sI, jP_sJ, jJ_sI, jI_sJ, jZ_sI, jZ_sJ, hMν.1, mP_clauses hMν, mT_clauses hMν, jin_nI (show v < 5 by omega) (show 5 < 2 ^ 31 by decide), nI_clamp (show v < 2 ^ 31 by omega), q4 v, if_true]
      have S : sm M [48, 49] (34 :: 20 :: BA) μ ν := (s1.wk (by decide) (by decide)).tr (q1.wk (by decide) (by decide))
      refine .ret ⟨rfl, S.wk (by decide) (by decide), fun f c hf hc => q2 f c hf (hc.sm s1 (by decide)), q3, fun u => by rw [q4 u, s1.aI (by decide) (by decide)], ⟨?_, ?_, hr, fun t ht => ?_⟩, fun u => by rw [q1.aI (by decide) (by decide)]; exact v34 u⟩
      · rw [q1.fI (by decide), v48]; simp
      · rw [q1.fI (by decide), v49]
      · rw [S.aI (by decide) (by decide), S.aI (by decide) (by decide), S.aI (by decide) (by decide)]
        rw [List.length_append, List.length_singleton] at ht
        by_cases z : t = Ts.length
        · subst z
          have e : (Ts ++ [B]).getD Ts.length [] = B := by simp [List.getD]
          rw [e]
          exact ⟨pt, h32, h33, by omega, hs, hBl, hb⟩
        · have e : (Ts ++ [B]).getD t [] = Ts.getD t [] := by simp [List.getD, List.getElem?_append_left (show t < Ts.length by omega)]
          rw [e]
          obtain ⟨o, o1, o2, o3, o4⟩ := p4 t (by omega)
          exact ⟨o, o1, o2, by omega, o4⟩
    · have hi2 : i < B.length := by omega
      rw [if_neg (nI_ge hi2 (by omega))]
      have ev : jI μ (M + 9) i = B.getD i 0 := by have := hC.2.1 i hi2; rwa [Nat.zero_add] at this
      simp only [jck_true, jde_is, jlt_is, jcl_0, beq_self_eq_true, jT_sI, jT_sJ, jP_sI, jP_sJ, jJ_sI, jI_sJ, jZ_sI, jZ_sJ, mP_canon h, mT_canon h, mP_pool h, mT_pool h, jin_nI (show i < 4000 by omega) (show 4000 < 2 ^ 31 by decide), jin_nI (show pt + i < 300000 by omega) (show 300000 < 2 ^ 31 by decide), nI_clamp (show i < 2 ^ 31 by omega), nI_clamp (show pt + i < 2 ^ 31 by omega), vp_byte, ev, hb.at hi2, nI_1]
      have s1 : sm M [] [31] μ (jsI μ (M + 31) (pt + i) (B.getD i 0)) := sm.sA (by decide) (by decide)
      have hseg : Sg (jI (jsI μ (M + 31) (pt + i) (B.getD i 0)) (M + 31)) pt (B.take (i + 1)) := by
        rw [jI_at]; exact hs.step hi2
      have hP1 : mPool M (jsI μ (M + 31) (pt + i) (B.getD i 0)) Ts pt := by
        refine ⟨(s1.fI (by decide)).trans p1, (s1.fI (by decide)).trans p2, p3, fun t ht => ?_⟩
        obtain ⟨o, o1, o2, o3, o4, o5⟩ := p4 t ht
        refine ⟨o, by rw [s1.aI (by decide) (by decide)]; exact o1, by rw [s1.aI (by decide) (by decide)]; exact o2, o3, o4.eq fun j hj => ?_, o5⟩
        rw [jI_sI, if_neg (by omega)]
      generalize jsI μ (M + 31) (pt + i) (B.getD i 0) = μ1 at hseg s1 hP1 ⊢
      refine (ih (i + 1) μ1 (s1.mt h) ⟨(s1.fI (by decide)).trans hC.1, by rw [s1.aI (by decide) (by decide)]; exact hC.2.1, hC.2.2⟩ hP1 (by rw [s1.aI (by decide) (by decide)]; exact h20) (fun i hi => (hK i hi).sm s1 (by decide)) (by rw [s1.aI (by decide) (by decide)]; exact h32) (by rw [s1.aI (by decide) (by decide)]; exact h33) hseg (by omega) (by omega)).mono ?_
      rintro r ν ⟨q1, q2, q3, q4, q5, q6, q7⟩
      exact ⟨q1, (s1.wk (by decide) (by decide)).tr q2, fun f c hf hc => q3 f c hf (hc.sm s1 (by decide)), q4, fun u => by rw [q5 u, s1.aI (by decide) (by decide)], q6, fun u => by rw [q7 u, s1.aI (by decide) (by decide)]⟩
theorem m_keeps {M v pt : Nat} {μ : JM} {cls : List Cl} {Ts : List (List Int32)} {B : List Int32} (hv : v < 4) (hn : cls.length ≤ 24) (hb : byt B) (hBl : B.length ≤ 1900) (hT : Ts.length < 600) (hr : pt + B.length ≤ 300000) (h : MT M μ) (hC : mCn M μ B) (hP : mPool M μ Ts pt) (h20 : jI μ (M + 20) 4 = nI cls.length) (hK : mCls M μ 96 cls) : Res (fX11_keeps M (nI v) μ) (fun r ν => mKp M v pt μ ν cls Ts B r) := by
  obtain ⟨p1, p2, p3, p4⟩ := id hP
  rw [fX11_keeps]
  have g48 : ∀ x, jI (jsI μ (M + 32) Ts.length x) M 48 = nI Ts.length := fun x => by rw [jI_sI, if_neg (by omega)]; exact p1
  have g20 : ∀ x, jI (jsI μ (M + 32) Ts.length x) M 20 = nI B.length := fun x => by rw [jI_sI, if_neg (by omega)]; exact hC.1
  simp only [jck_true, jde_is, jlt_is, jcl_0, beq_self_eq_true, jT_sI, jT_sJ, jP_sI, jP_sJ, jJ_sI, jI_sJ, jZ_sI, jZ_sJ, h.1, mP_poolFrom h, mT_poolFrom h, mP_poolSize h, mT_poolSize h, p1, p2, g48, g20, jin_nI hT (show 600 < 2 ^ 31 by decide), nI_clamp (show Ts.length < 2 ^ 31 by omega)]
  have s1 : sm M [] [32, 33] μ (jsI (jsI μ (M + 32) Ts.length (nI pt)) (M + 33) Ts.length (nI B.length)) := (sm.sA (by decide) (by decide)).tr (sm.sA (by decide) (by decide))
  have v32 : jI (jsI (jsI μ (M + 32) Ts.length (nI pt)) (M + 33) Ts.length (nI B.length)) (M + 32) Ts.length = nI pt := by rw [jI_sI, if_neg (by omega), jI_sI, if_pos ⟨rfl, rfl⟩]
  have v33 : jI (jsI (jsI μ (M + 32) Ts.length (nI pt)) (M + 33) Ts.length (nI B.length)) (M + 33) Ts.length = nI B.length := by rw [jI_sI, if_pos ⟨rfl, rfl⟩]
  have hP1 : mPool M (jsI (jsI μ (M + 32) Ts.length (nI pt)) (M + 33) Ts.length (nI B.length)) Ts pt := by
    refine ⟨(s1.fI (by decide)).trans p1, (s1.fI (by decide)).trans p2, p3, fun t ht => ?_⟩
    obtain ⟨o, o1, o2, o3, o4, o5⟩ := p4 t ht
    refine ⟨o, ?_, ?_, o3, by rw [s1.aI (by decide) (by decide)]; exact o4, o5⟩
    · rw [jI_sI, if_neg (by omega), jI_sI, if_neg (by omega)]; exact o1
    · rw [jI_sI, if_neg (by omega), jI_sI, if_neg (by omega)]; exact o2
  generalize jsI (jsI μ (M + 32) Ts.length (nI pt)) (M + 33) Ts.length (nI B.length) = μ1 at s1 v32 v33 hP1 ⊢
  refine (kp_l hv hn hb hBl hT hr jfuel 0 μ1 (s1.mt h) ⟨(s1.fI (by decide)).trans hC.1, by rw [s1.aI (by decide) (by decide)]; exact hC.2.1, hC.2.2⟩ hP1 (by rw [s1.aI (by decide) (by decide)]; exact h20) (fun i hi => (hK i hi).sm s1 (by decide)) v32 v33 Sg.nil (by omega) (jfuel_gt (by omega))).mono ?_
  rintro r ν ⟨q1, q2, q3, q4, q5, q6, q7⟩
  exact ⟨q1, (s1.wk (by decide) (by decide)).tr q2, fun f c hf hc => q3 f c hf (hc.sm s1 (by decide)), q4, fun u => by rw [q5 u, s1.aI (by decide) (by decide)], q6, fun u => by rw [q7 u, s1.aI (by decide) (by decide)]⟩
