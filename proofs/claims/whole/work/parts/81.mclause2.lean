/-! the reference: clause -/
theorem tk_cases (C : Nat → Int64) (k : Nat) : (∃ e, tk C k = .error e) ∨ tk C k = .ok (k + 1) := by
  unfold tk; split
  · exact Or.inl ⟨_, rfl⟩
  · exact Or.inr rfl
theorem exC_cases (C : Nat → Int64) (c : Int64) (k : Nat) : (∃ e, exC C c k = .error e) ∨ (exC C c k = .ok (k + 1) ∧ C k = c) := by
  unfold exC
  by_cases q : C k = c
  · rw [if_pos q]
    rcases tk_cases C k with h | h
    · exact Or.inl h
    · exact Or.inr ⟨h, q⟩
  · rw [if_neg q]; exact Or.inl ⟨_, rfl⟩
def cnv (C : Nat → Int64) (k : Nat) (x : (Int32 × List Int64 × Nat) × (Int32 × List Int64 × Nat) × Int32 × Int32 × Int32 × CS × Nat) : Except Er (Cl × List Int64 × List Int64 × Nat) := .ok ((sKind (C (k + 2)), C k, x.1.1, x.2.1.1, x.2.2.1, x.2.2.2.1, x.2.2.2.2.1, x.2.2.2.2.2.1, sl C k x.2.2.2.2.2.2), x.1.2.1, x.2.1.2.1, x.2.2.2.2.2.2)
theorem sD4_is (C : Nat → Int64) (F : List Int64) (md : Nat) (cls : List Cl) (P A : List Int64) (k : Nat) (h : ¬ (md = 0 ∧ 24 ≤ cls.length)) : (if md = 2 ∧ lfnd cls (C k) false = none then .error (k, 3) else if md = 0 ∧ 24 ≤ cls.length then .error (k, 4) else eb (tk C k) fun k1 => sDeed C F (decide (md = 0)) cls P A k k1) = eb (sD4 C F md cls P A k) (cnv C k) := by
  unfold sD4
  by_cases q : md = 2 ∧ lfnd cls (C k) false = none
  · rw [if_pos q, if_pos q]; rfl
  · rw [if_neg q, if_neg q, if_neg h]
    rcases tk_cases C k with ⟨e, h1⟩ | h1
    · rw [h1]; rfl
    · rw [h1, eb_ok, eb_ok]
      unfold sDeed
      rcases exC_cases C (-59) (k + 1) with ⟨e, h2⟩ | ⟨h2, -⟩
      · rw [h2]; rfl
      · rw [h2, eb_ok, eb_ok, eb_if, eb_err]
        split
        · rfl
        · unfold sD2 cnv
          simp only [eb_assoc, eb_ok]
theorem m_clause {M md kk : Nat} {μ : JM} {l : List Int32} {ts : List Int64} {k : Nat} {F : List Int64} {cls : List Cl} {P A : List Int64} (h : mAt M μ l ts k) (hX : Cx M μ l F md cls kk) (hP : mWl M μ 5 4 5 6 P) (hA : mWl M μ 8 6 7 12 A) :
    Res (fX11_clause M (nI kk) μ) (fun r ν => sm M XF XA μ ν ∧ clsBut M μ ν (96 + kk) ∧ mCz M ν l md cls ts k kk P A r (sClause (Cd l) F md cls P A k)) := by
  obtain ⟨h1, h2, h3⟩ := mA_ok h
  have hX0 := hX
  obtain ⟨x1, x2, x3, x4, x5, x6⟩ := hX
  have he : 96 + kk < 120 := by omega
  have e96 : (96 : Int32) + nI kk = nI (96 + kk) := by rw [show (96 : Int32) = nI 96 from rfl, nI_add]
  rw [fX11_clause]
  simp only [jck_true, jde_is, jlt_is, jcl_0, beq_self_eq_true, jT_sI, jT_sJ, jP_sI, jP_sJ, jJ_sI, jI_sJ, jZ_sI, jZ_sJ, h1.1, e96, mP_party h1, mT_party h1, mP_act h1, mT_act h1, mP_number h1, mT_number h1, mP_byWork h1, mT_byWork h1, mP_overMany h1, mT_overMany h1, mP_overBits h1, mT_overBits h1, jin_nI he (show 120 < 2 ^ 31 by decide), nI_clamp (show 96 + kk < 2 ^ 31 by omega)]
  generalize hμ1 : jsI (jsI (jsI (jsI (jsI (jsI μ (M + 22) (96 + kk) (-1)) (M + 23) (96 + kk) (-1)) (M + 24) (96 + kk) (-1)) (M + 25) (96 + kk) (-1)) (M + 26) (96 + kk) 0) (M + 27) (96 + kk) 0 = μ1
  have s1 : sm M [] [22, 23, 24, 25, 26, 27] μ μ1 := by
    rw [← hμ1]
    exact (sm.sA (by decide) (by decide)).tr ((sm.sA (by decide) (by decide)).tr ((sm.sA (by decide) (by decide)).tr ((sm.sA (by decide) (by decide)).tr ((sm.sA (by decide) (by decide)).tr (sm.sA (by decide) (by decide))))))
  have c1 : clsBut M μ μ1 (96 + kk) := by
    rw [← hμ1]
    exact (clsBut.setI (by decide)).tr ((clsBut.setI (by decide)).tr ((clsBut.setI (by decide)).tr ((clsBut.setI (by decide)).tr ((clsBut.setI (by decide)).tr (clsBut.setI (by decide))))))
  have hI1 : mIni M μ1 (96 + kk) := by
    rw [← hμ1]; unfold mIni
    refine ⟨?_, ?_, ?_, ?_, ?_, ?_⟩ <;> simp only [jI_sI] <;> simp
  have hM1 := s1.mt h1
  have hA1 := h.sm s1 (by decide) (by decide)
  have hX1 : Cx M μ1 l F md cls kk := ⟨x1.sm s1 (by decide) (by decide), (s1.fI (by decide)).trans x2, fun z => ⟨(x3 z).1, (x3 z).2.but c1 (Or.inr (by have := (x3 z).1; omega))⟩, fun z => (x4 z).sm s1 (by decide) (by decide), x5, x6⟩
  have hP1 := hP.sm s1 (by decide) (by decide) (by decide) (by decide) (by decide)
  have hAc1 := hA.sm s1 (by decide) (by decide) (by decide) (by decide) (by decide)
  rw [(mA_ok hA1).2.1, if_pos (by decide)]
  unfold sClause
  refine st_word 139666885 (-3000) 0 (by decide) (by decide) (by decide) hA1 (fun y yT => ?_) (fun y => ?_)
  · rw [if_neg (by decide), if_pos y]
    simp only [jck_true, jde_is, jlt_is, jcl_0, beq_self_eq_true, jT_sI, jT_sJ, jP_sI, jP_sJ, jJ_sI, jI_sJ, jZ_sI, jZ_sJ, hM1.1]
    refine Res.cl (m_defines hA1 y hX1 hI1 hP1 hAc1) fun r ν ⟨q1, q2, q3⟩ => ?_
    have hr : jbl r = true := by
      generalize sDefine (Cd l) F md cls P A k = x at q3
      cases x with
      | error f => rw [q3.1]; decide
      | ok v => rw [q3.1]; decide
    exact .ck hr (.ret ⟨(s1.wk (by decide) (by decide)).tr q1, c1.tr q2, q3⟩)
  · rw [if_pos rfl, if_neg y]
    have bad : ∀ {ν : JM} {f : Er} {fs as : List Nat}, sm M fs as μ1 ν → (∀ i ∈ fs, i ∈ XF) → (∀ i ∈ as, i ∈ XA) → (∀ i ∈ [4, 5, 6, 7], i ∉ as) → (∀ i ∈ [5, 8], i ∉ fs) → clsBut M μ1 ν (96 + kk) → mBad M ν l f → sm M XF XA μ ν ∧ clsBut M μ ν (96 + kk) ∧ mCz M ν l md cls ts k kk P A 0 (.error f) := by
      intro ν f fs as s q1 q2 q3 q0 q4 q5
      exact ⟨(s1.wk (by decide) (by decide)).tr (s.wk q1 q2), c1.tr q4, rfl, q5, (hP1.sm s (q0 5 (by decide)) (by decide) (by decide) (q3 4 (by decide)) (q3 5 (by decide))).we0, (hAc1.sm s (q0 8 (by decide)) (by decide) (by decide) (q3 6 (by decide)) (q3 7 (by decide))).we0⟩
    simp only [jck_true, jde_is, jlt_is, jcl_0, beq_self_eq_true, jT_sI, jT_sJ, jP_sI, jP_sJ, jJ_sI, jI_sJ, jZ_sI, jZ_sJ, hM1.1]
    unfold sLabel
    refine st_name hA1 (fun ν f hf hs hb => ?_) (fun he1 hc => ?_)
    · rw [if_pos rfl, hf, eb_err]
      exact .ret (bad hs (by decide) (by decide) (by decide) (by decide) (clsBut.sm hs (by decide)) hb)
    · rw [if_neg (by decide), he1, eb_ok]
      simp only [jck_true, jde_is, jlt_is, jcl_0, beq_self_eq_true, jT_sI, jT_sJ, jP_sI, jP_sJ, jJ_sI, jI_sJ, jZ_sI, jZ_sJ, hM1.1, hX1.1.2.2]
      have b107 : Res (fX11_clause_b107 M (nI kk) (nI (96 + kk)) μ1) (fun r ν => sm M XF XA μ ν ∧ clsBut M μ ν (96 + kk) ∧ mCz M ν l md cls ts k kk P A r (if md = 2 ∧ lfnd cls (Cd l k) false = none then .error (k, 3) else if md = 0 ∧ 24 ≤ cls.length then .error (k, 4) else eb (tk (Cd l) k) fun k1 => sDeed (Cd l) F (decide (md = 0)) cls P A k k1)) := by
        rw [sD4_is _ _ _ _ _ _ _ (by rintro ⟨z1, z2⟩; have := (x3 z1).1; omega)]
        refine (m_b107 hA1 hc hX1 hI1 hP1 hAc1).mono ?_
        rintro r ν ⟨q1, q2, q3, q4⟩
        refine ⟨(s1.wk (by decide) (by decide)).tr (q1.wk (by decide) (by decide)), c1.tr q2, ?_⟩
        generalize sD4 (Cd l) F md cls P A k = x at q3 q4 ⊢
        cases x with
        | error f => exact q3
        | ok v =>
          obtain ⟨d1, d2, d3, d4, d5⟩ := q4 v rfl
          obtain ⟨p, a, y⟩ := v
          obtain ⟨z1, z2, z3, z4, z5, z6, z7, z8, z9⟩ := q3
          have nd : isDf (((sKind (Cd l (k + 2)), Cd l k, p.1, a.1, y.1, y.2.1, y.2.2.1, y.2.2.2.1, sl (Cd l) k y.2.2.2.2)) : Cl) = false := by
            show decide (sKind (Cd l (k + 2)) = 0) = false
            rcases sKind_T d3 with ⟨-, t⟩ | ⟨-, t⟩ | ⟨-, t⟩ <;> rw [t] <;> decide
          refine ⟨z1, z2, z3, z4, z5, z6, z7, ⟨z8, d4, z9⟩, ?_, fun z => ?_, ?_⟩
          · have hN := hX1.1.2.1.sm q1 (by decide) (by decide)
            show mNa M ν (dfs (decide (md = 0)) (cls ++ [_]))
            unfold dfs at hN ⊢
            rw [defs_snoc, nd]
            exact hN
          · show jI ν M 57 = oI 0 (lfnd cls (Cd l k) (isDf _))
            rw [nd]; exact d5 z
          · obtain ⟨-, w2, w3⟩ := hA1.wd hc
            refine ⟨_, w2, w3, ?_⟩
            rw [if_neg (by rw [nd]; decide)]
            refine ⟨sl (Cd l) (k + 1 + 1) y.2.2.2.2, ?_⟩
            show sl (Cd l) k y.2.2.2.2 = _
            have d1 : k + 2 ≤ y.2.2.2.2 := d1
            rw [sl_cons _ (by omega), sl_cons _ (by omega), d2]
      by_cases z : md = 0
      · have zt : decide (md = 0) = true := by simpa using z
        have kl := (x3 z).1
        have ml := m_labelled hA1 hc (by omega) (hX1.2.2.1 z).2
        rw [← kl] at ml
        rw [if_neg (by rw [zt]; decide), ml, jcl_0]
        by_cases hl : lfnd cls (Cd l k) false = none
        · rw [if_pos (by rw [hl]; decide), if_neg (by rintro ⟨-, t⟩; rw [hl] at t; cases t)]
          exact b107
        · obtain ⟨i, hi⟩ := Option.ne_none_iff_exists'.mp hl
          have := lfnd_lt hi
          rw [if_neg (by rw [hi]; simp only [oI]; exact nI_pos (by omega)), if_pos ⟨z, by rw [hi]; rfl⟩]
          simp only [jck_true, jde_is, jlt_is, jcl_0, beq_self_eq_true, jT_sI, jT_sJ, jP_sI, jP_sJ, jJ_sI, jI_sJ, jZ_sI, jZ_sJ, hM1.1]
          refine st_fail 2 2 rfl (by decide) hA1 (fun ν hs hb => ?_)
          exact .ck jbl_0 (.ret (bad hs (by decide) (by decide) (by decide) (by decide) (clsBut.sm hs (by decide)) hb))
      · rw [if_pos (by rw [if_neg (by simpa using z)]), if_neg (fun y => z y.1)]
        exact b107
theorem m_beyond {M : Nat} {μ : JM} {l : List Int32} {ts : List Int64} {k : Nat} {F : List Int64} {cls : List Cl} {P A : List Int64} (h : mAt M μ l ts k) (hl : cls.length = 24) (hK : mCls M μ 96 cls) : Res (fX11_beyond M μ) (fun r ν => r = 0 ∧ sm M TK [9] μ ν ∧ ∃ f, sClause (Cd l) F 0 cls P A k = .error f ∧ mBad M ν l f) := by
  obtain ⟨h1, h2, h3⟩ := mA_ok h
  have k6 := h.1.2.2.1.2.2.2.2.2.1
  have kc := tokc_1 h.2 h3
  rw [fX11_beyond]
  simp only [jck_true, jde_is, jlt_is, jcl_0, beq_self_eq_true, jT_sI, jT_sJ, jP_sI, jP_sJ, jJ_sI, jI_sJ, jZ_sI, jZ_sJ, h1.1, h2, k6]
  rw [if_pos (by decide)]
  unfold sClause sLabel
  have b70 : ∀ (kd : Nat) (w : Int32) (f : Er), nI kd = w → kd ≤ 7 → f = (k, kd) → Res (fX11_beyond_b70 M w (some M) μ) (fun r ν => r = 0 ∧ sm M TK [9] μ ν ∧ mBad M ν l f) := by
    intro kd w f hw hk hf
    rw [fX11_beyond_b70]
    simp only [jck_true, jde_is, jlt_is, jcl_0, beq_self_eq_true, jT_sI, jT_sJ, jP_sI, jP_sJ, jJ_sI, jI_sJ, jZ_sI, jZ_sJ, h1.1]
    refine st_fail kd w hw hk h (fun ν hs hb => ?_)
    exact .ck jbl_0 (.ret ⟨rfl, hs, by rw [hf]; exact hb⟩)
  by_cases q : 0 < Cd l k ∨ Cd l k ≤ -3000
  · rw [if_pos (kc.mpr q)]
    refine st_word 139666885 (-3000) 0 (by decide) (by decide) (by decide) h (fun y yT => ?_) (fun y => ?_)
    · rw [if_neg (by decide), fX11_beyond_b58, fX11_beyond_b59, if_pos rfl]
      refine (b70 4 4 (k, 4) rfl (by decide) rfl).mono fun r ν ⟨z1, z2, z3⟩ => ⟨z1, z2, (k, 4), ?_, z3⟩
      rw [if_pos y]; unfold sDefine
      rw [if_pos ⟨rfl, by omega⟩]
    · rw [if_pos rfl]
      simp only [jck_true, jde_is, jlt_is, jcl_0, beq_self_eq_true, jT_sI, jT_sJ, jP_sI, jP_sJ, jJ_sI, jI_sJ, jZ_sI, jZ_sJ, h1.1, mA_isOwn h]
      by_cases q1 : 0 < Cd l k
      · have q2 : ¬ Cd l k ≤ -3000 := by rw [gt_toI] at q1; rw [le_toI (z := -3000) (by decide)]; omega
        rw [if_neg q2, if_pos rfl]
        have ml := m_labelled h q1 (by omega) hK
        rw [hl] at ml
        have ml' : fX11_labelled M 4 24 μ = some (oI 0 (lfnd cls (Cd l k) false), μ, 0, 0) := ml
        simp only [jck_true, jde_is, jlt_is, jcl_0, beq_self_eq_true, jT_sI, jT_sJ, jP_sI, jP_sJ, jJ_sI, jI_sJ, jZ_sI, jZ_sJ, h1.1, ml']
        have nm : nmC (Cd l) k = .ok () := by unfold nmC; rw [if_pos q1]
        cases hf : lfnd cls (Cd l k) false with
        | none =>
          rw [if_pos (by decide), fX11_beyond_b58, fX11_beyond_b59, if_pos rfl]
          refine (b70 4 4 (k, 4) rfl (by decide) rfl).mono fun r ν ⟨z1, z2, z3⟩ => ⟨z1, z2, (k, 4), ?_, z3⟩
          rw [if_neg y, nm, eb_ok, if_neg (by rintro ⟨-, t⟩; cases t), if_neg (by rintro ⟨t, -⟩; cases t), if_pos ⟨by trivial, by omega⟩]
        | some i =>
          have := lfnd_lt hf
          rw [if_neg (by simp only [oI]; exact nI_pos (by omega)), fX11_beyond_b54, fX11_beyond_b59, if_neg (by decide)]
          refine (b70 2 2 (k, 2) rfl (by decide) rfl).mono fun r ν ⟨z1, z2, z3⟩ => ⟨z1, z2, (k, 2), ?_, z3⟩
          rw [if_neg y, nm, eb_ok, if_pos ⟨by trivial, rfl⟩]
      · have q2 : Cd l k ≤ -3000 := by rcases q with q | q; exact absurd q q1; exact q
        rw [if_pos q2, if_neg (by decide), fX11_beyond_b54, fX11_beyond_b59, if_neg (by decide)]
        refine (b70 2 2 (k, 2) rfl (by decide) rfl).mono fun r ν ⟨z1, z2, z3⟩ => ⟨z1, z2, (k, 2), ?_, z3⟩
        have nm : nmC (Cd l) k = .error (k, 2) := by unfold nmC; rw [if_neg q1, if_pos q2]
        rw [if_neg y, nm, eb_err]
  · rw [if_neg (fun z => q (kc.mp z))]
    refine st_fail 0 0 rfl (by decide) h (fun ν hs hb => ?_)
    refine .ck jbl_0 (.ret ⟨rfl, hs, (k, 0), ?_, hb⟩)
    have q1 : ¬ 0 < Cd l k := fun z => q (Or.inl z)
    have q2 : ¬ Cd l k ≤ -3000 := fun z => q (Or.inr z)
    have nm : nmC (Cd l) k = .error (k, 0) := by unfold nmC; rw [if_neg q1, if_neg q2]
    rw [if_neg (fun z => q2 (by rw [z]; decide)), nm, eb_err]
