/-! the reference: condition(), its loops -/
theorem m_joinLv {M : Nat} {μ : JM} {t : Lv} {r : List Lv} {v : CS} (h : MT M μ) (hr : r.length < 12) (ht : t.1 < 1000) (hl : mLs M μ (t :: r)) (hn : mNow M μ v) : ∃ ν, fX11_joins M (nI r.length) μ = some ((), ν, 0, 0) ∧ sm M [] [14, 15] μ ν ∧ mLs M ν (lvJoin t v :: r) := by
  obtain ⟨ν, e1, e2, e3, e4⟩ := m_joins hr ht h hl.1
  have hA : jJ ν (M + 10) = jJ μ (M + 10) := e2.aJ (by decide) (by decide)
  refine ⟨ν, e1, e2, ?_, mLs.but e4 hA r (Nat.le_refl _) hl.2⟩
  unfold mLv
  rw [hA]
  refine e3.cg (fun i hi => rfl) (fun i hi => ?_)
  show (t.2.2 i &&& jJ μ (M + 10) i) &&& jnv t.1 (jJ μ (M + 16) i) (jJ μ (M + 10) i) = (t.2.2 i &&& cfl t.1 v i) &&& jJ μ (M + 10) i
  rw [hn i hi, jnv_is, lx_and]
theorem m_orLv {M : Nat} {μ : JM} {t : Lv} {r : List Lv} (h : MT M μ) (hr : r.length < 12) (hl : mLs M μ (t :: r)) : ∃ ν, fX11_ors M (nI r.length) μ = some ((), ν, 0, 0) ∧ sm M [] [13, 14] μ ν ∧ mLs M ν ((t.1, lvVal t, fun _ => -1) :: r) := by
  obtain ⟨ν, e1, e2, e3, e4⟩ := m_ors hr h hl.1
  have hA : jJ ν (M + 10) = jJ μ (M + 10) := e2.aJ (by decide) (by decide)
  refine ⟨ν, e1, e2, ?_, mLs.but e4 hA r (Nat.le_refl _) hl.2⟩
  unfold mLv
  rw [hA]
  refine e3.cg (fun i hi => ?_) (fun i hi => ?_)
  · exact lx_or _ _ _
  · exact (lx_m1 _).symm
theorem m_openLv {M : Nat} {μ : JM} {r : List Lv} (h : MT M μ) (hr : r.length < 12) (hl : mLs M μ r) : ∃ ν, fX11_opens M (nI r.length) μ = some ((), ν, 0, 0) ∧ sm M [] [13, 14, 15] μ ν ∧ mLs M ν (lv0 :: r) := by
  obtain ⟨ν, e1, e2, e3, e4⟩ := m_opens hr h
  have hA : jJ ν (M + 10) = jJ μ (M + 10) := e2.aJ (by decide) (by decide)
  refine ⟨ν, e1, e2, ?_, mLs.but e4 hA r (Nat.le_refl _) hl⟩
  unfold mLv
  rw [hA]
  refine e3.cg (fun i hi => ?_) (fun i hi => ?_)
  · exact (lx_z _).symm
  · exact (lx_m1 _).symm
theorem b171_l {M d : Nat} {rec11 rec143 : Nat → Int32 → Int32 → Int32 → JM → JO Int32} {x2 x3 : Int32} (hd : d < 12) : ∀ (fu i : Nat) (μ : JM), MT M μ → i ≤ 4 → 4 - i < fu → (∀ e, e < i → jJ μ (M + 16) e = jJ μ (M + 13) (4 * d + e)) →
    ∃ fu2 ν, fX11_condition_b171 rec11 rec143 fu M (nI d) x2 x3 (nI i) μ = fX11_condition_b171 rec11 rec143 (fu2 + 1) M (nI d) x2 x3 (nI 4) ν ∧ sm M [] [16] μ ν ∧ ∀ e, e < 4 → jJ ν (M + 16) e = jJ μ (M + 13) (4 * d + e) := by
  intro fu
  induction fu with
  | zero => intro i μ _ _ h; omega
  | succ fu ih =>
    intro i μ h hi hf hp
    by_cases q : i = 4
    · subst q; exact ⟨fu, μ, rfl, sm.rf, hp⟩
    · have i4 : i < 4 := by omega
      rw [fX11_condition_b171, if_neg (show ¬ (4 : Int32) ≤ nI i from nI_ge (b := 4) (by omega) (by decide))]
      simp only [jck_true, jde_is, jlt_is, jcl_0, beq_self_eq_true, jT_sI, jT_sJ, jP_sI, jP_sJ, jJ_sI, jI_sJ, jZ_sI, jZ_sJ, h.1, mP_orSet h, mT_orSet h, mP_now h, mT_now h, ix4, jin_nI i4 (show 4 < 2 ^ 31 by decide), jin_nI (show 4 * d + i < 48 by omega) (by decide), nI_clamp (show 4 * d + i < 2 ^ 31 by omega), nI_clamp (show i < 2 ^ 31 by omega), nI_1]
      have s1 : sm M [] [16] μ (jsJ μ (M + 16) i (jJ μ (M + 13) (4 * d + i))) := sm.sJ (by decide)
      have e13 : jJ (jsJ μ (M + 16) i (jJ μ (M + 13) (4 * d + i))) (M + 13) = jJ μ (M + 13) := s1.aJ (by decide) (by decide)
      obtain ⟨fu2, ν, e1, e2, e3⟩ := ih (i + 1) (jsJ μ (M + 16) i (jJ μ (M + 13) (4 * d + i))) (s1.mt h) (by omega) (by omega) (fun e he => by
        rw [e13, jJ_sJ]
        by_cases y : e = i
        · subst y; rw [if_pos ⟨rfl, rfl⟩]
        · rw [if_neg (by omega)]; exact hp e (by omega))
      rw [e13] at e3
      exact ⟨fu2, ν, e1, s1.tr e2, e3⟩
theorem b300_l {M : Nat} : ∀ (fu i : Nat) (μ : JM), MT M μ → i ≤ 4 → 4 - i < fu → (∀ e, e < i → jJ μ (M + 16) e = jJ μ (M + 13) e) →
    ∃ ν, fX11_condition_b300 fu M (nI i) μ = some (1, ν, 0, 0) ∧ sm M [] [16] μ ν ∧ ∀ e, e < 4 → jJ ν (M + 16) e = jJ μ (M + 13) e := by
  intro fu
  induction fu with
  | zero => intro i μ _ _ h; omega
  | succ fu ih =>
    intro i μ h hi hf hp
    rw [fX11_condition_b300]
    by_cases q : i = 4
    · subst q; rw [if_pos (by decide)]; exact ⟨μ, rfl, sm.rf, hp⟩
    · have i4 : i < 4 := by omega
      rw [if_neg (show ¬ (4 : Int32) ≤ nI i from nI_ge (b := 4) (by omega) (by decide))]
      simp only [jck_true, jde_is, jlt_is, jcl_0, beq_self_eq_true, jT_sI, jT_sJ, jP_sI, jP_sJ, jJ_sI, jI_sJ, jZ_sI, jZ_sJ, h.1, mP_orSet h, mT_orSet h, mP_now h, mT_now h, jin_nI i4 (show 4 < 2 ^ 31 by decide), jin_nI (show i < 48 by omega) (by decide), nI_clamp (show i < 2 ^ 31 by omega), nI_1]
      have s1 : sm M [] [16] μ (jsJ μ (M + 16) i (jJ μ (M + 13) i)) := sm.sJ (by decide)
      have e13 : jJ (jsJ μ (M + 16) i (jJ μ (M + 13) i)) (M + 13) = jJ μ (M + 13) := s1.aJ (by decide) (by decide)
      obtain ⟨ν, e1, e2, e3⟩ := ih (i + 1) (jsJ μ (M + 16) i (jJ μ (M + 13) i)) (s1.mt h) (by omega) (by omega) (fun e he => by
        rw [e13, jJ_sJ]
        by_cases y : e = i
        · subst y; rw [if_pos ⟨rfl, rfl⟩]
        · rw [if_neg (by omega)]; exact hp e (by omega))
      rw [e13] at e3
      exact ⟨ν, e1, s1.tr e2, e3⟩
theorem dpt_len (t : Lv) (r : List Lv) : r.length ≤ dpt t r := by
  unfold dpt
  induction r with
  | nil => simp
  | cons b r ih => simp only [List.map_cons, List.sum_cons, List.length_cons]; omega
/-- the sets behind a ( that is closed -/
theorem m_clo {M : Nat} {l : List Int32} {rec11 : Nat → Int32 → Int32 → Int32 → JM → JO Int32} {x2 : Int32} : ∀ (r : List Lv) (t : Lv) (fu k : Nat) (ts : List Int64) (μ : JM), r.length < fu → t.1 = 0 → dpt t r ≤ 10 → mAt M μ l ts k → mLs M μ (t :: r) →
    match sClo (Cd l) t r k with
    | .error e => ∃ ν, fX11_condition_b143 rec11 fu M (nI r.length) x2 (nI (dpt t r)) μ = some (0, ν, 0, 0) ∧ sm M TK CA μ ν ∧ mBad M ν l e
    | .ok x => ∃ ν, fX11_condition_b143 rec11 fu M (nI r.length) x2 (nI (dpt t r)) μ = fX11_condition_b228 rec11 M (nI x.2.1.length) x2 (nI (dpt x.1 x.2.1)) ν ∧ sm M TK CA μ ν ∧ x.1.1 = 0 ∧ dpt x.1 x.2.1 ≤ dpt t r ∧ k ≤ x.2.2 ∧ mAt M ν l (ts ++ sl (Cd l) k x.2.2) x.2.2 ∧ mLs M ν (x.1 :: x.2.1) := by
  intro r
  induction r with
  | nil =>
    intro t fu k ts μ hfu ht hd hA hL
    obtain ⟨f, rfl⟩ : ∃ f, fu = f + 1 := ⟨fu - 1, by simp at hfu; omega⟩
    obtain ⟨h1, h2, h3⟩ := mA_ok hA
    rw [sClo]
    refine ⟨μ, ?_, sm.rf, ht, Nat.le_refl _, Nat.le_refl _, by rw [sl_self, List.append_nil]; exact hA, hL⟩
    rw [fX11_condition_b143]
    simp only [jck_true, jde_is, jlt_is, jcl_0, beq_self_eq_true, jT_sI, jT_sJ, jP_sI, jP_sJ, jJ_sI, jI_sJ, jZ_sI, jZ_sJ, h1.1, h2, if_true, ms_41 hA]
    rw [if_pos (show nI ([] : List Lv).length ≤ 0 by decide), ite_self]
  | cons b r ih =>
    intro t fu k ts μ hfu ht hd hA hL
    obtain ⟨f, rfl⟩ : ∃ f, fu = f + 1 := ⟨fu - 1, by simp at hfu; omega⟩
    obtain ⟨h1, h2, h3⟩ := mA_ok hA
    have hlen := dpt_len t (b :: r)
    simp only [List.length_cons] at hlen hfu
    rw [sClo]
    rw [fX11_condition_b143]
    simp only [jck_true, jde_is, jlt_is, jcl_0, beq_self_eq_true, jT_sI, jT_sJ, jP_sI, jP_sJ, jJ_sI, jI_sJ, jZ_sI, jZ_sJ, h1.1, h2, if_true, ms_41 hA]
    by_cases q : Cd l k = -42
    · simp only [if_pos q]
      rw [if_neg (by decide), if_neg (show ¬ nI (b :: r).length ≤ 0 from nI_nle (by simp) (by simp only [List.length_cons]; omega))]
      obtain ⟨μ1, a1, a2, a3⟩ := m_orLv h1 (show (b :: r).length < 12 by simp only [List.length_cons]; omega) hL
      rw [a1]; simp only [jcl_0]
      obtain ⟨fu2, μ2, b1, b2, b3⟩ := b171_l (rec11 := rec11) (rec143 := fX11_condition_b143 rec11 f) (x2 := x2) (x3 := nI (dpt t (b :: r))) (show (b :: r).length < 12 by simp only [List.length_cons]; omega) jfuel 0 μ1 (a2.mt h1) (by omega) (jfuel_gt (by omega)) (fun e he => by omega)
      have b1' : fX11_condition_b171 rec11 (fX11_condition_b143 rec11 f) jfuel M (nI (b :: r).length) x2 (nI (dpt t (b :: r))) 0 μ1 = fX11_condition_b171 rec11 (fX11_condition_b143 rec11 f) (fu2 + 1) M (nI (b :: r).length) x2 (nI (dpt t (b :: r))) (nI 4) μ2 := b1
      rw [b1', fX11_condition_b171, if_pos (by decide)]
      have s2 : sm M TK CA μ μ2 := (a2.wk (by decide) (by decide)).tr (b2.wk (by decide) (by decide))
      have h12 := s2.mt h1
      have hm1 : nI (b :: r).length + (-1 : Int32) = nI r.length := by rw [List.length_cons, ← nI_1]; simp [Int32.add_assoc]
      have L2 : mLs M μ2 r := mLs.sm b2 (by decide) r (a3.2).2
      have Lb : mLs M μ2 (b :: r) := mLs.sm b2 (by decide) (b :: r) a3.2
      simp only [jck_true, jde_is, jlt_is, jcl_0, beq_self_eq_true, jT_sI, jT_sJ, jP_sI, jP_sJ, jJ_sI, jI_sJ, jZ_sI, jZ_sJ, h12.1, mP_nots h12, mT_nots h12, hm1, jin_nI (show r.length < 12 by omega) (by decide), nI_clamp (show r.length < 2 ^ 31 by omega), Lb.1.1]
      have hnow : mNow M μ2 (lvVal t) := by
        intro i hi
        rw [b3 i hi, b2.aJ (by decide) (by decide)]
        exact (a3.1.2 i hi).1
      have hdb : b.1 + 1 + (r.map (fun x => x.1 + 1)).sum = dpt t (b :: r) := by unfold dpt; rw [ht]; simp
      obtain ⟨μ3, c1, c2, c3⟩ := m_joinLv h12 (show r.length < 12 by omega) (show b.1 < 1000 by omega) Lb hnow
      rw [c1]; simp only [jcl_0]
      have s3 : sm M TK CA μ μ3 := s2.tr (c2.wk (by decide) (by decide))
      simp only [jck_true, jde_is, jlt_is, jcl_0, beq_self_eq_true, jT_sI, jT_sJ, jP_sI, jP_sJ, jJ_sI, jI_sJ, jZ_sI, jZ_sJ, (s3.mt h1).1]
      have hA3 : mAt M μ3 l ts k := ((hA.sm a2 (by decide) (by decide)).sm b2 (by decide) (by decide)).sm c2 (by decide) (by decide)
      obtain ⟨rr, μ4, d1, d2, d3⟩ := mA_take hA3 (isT_lit (z := -42) (-42) q (by decide) (by decide))
      rw [d1]; simp only [jcl_0]
      have s4 : sm M TK CA μ μ4 := s3.tr (d2.wk (by decide) (by decide))
      have hx3 : nI (dpt t (b :: r)) - ((1 : Int32) + nI b.1) = nI (dpt (lvJoin b (lvVal t)) r) := by
        have e1 : (1 : Int32) + nI b.1 = nI (1 + b.1) := nI_add 1 b.1
        rw [e1, pk_sub (by omega)]
        congr 1
        unfold lvJoin
        unfold dpt at hdb ⊢
        simp only; omega
      rw [hx3]
      cases hs : tk (Cd l) k with
      | error e =>
        rw [hs] at d3
        rw [eb_err]
        refine ⟨μ4, ?_, s4, d3.2⟩
        obtain ⟨f2, rfl⟩ : ∃ f2, f = f2 + 1 := ⟨f - 1, by omega⟩
        rw [fX11_condition_b143]
        simp only [jck_true, jde_is, jlt_is, jcl_0, beq_self_eq_true, jT_sI, jT_sJ, jP_sI, jP_sJ, jJ_sI, jI_sJ, jZ_sI, jZ_sJ, d3.2.1.1]
        rw [if_neg d3.2.2.2.1, fX11_condition_b228]
        simp only [jck_true, jde_is, jlt_is, jcl_0, beq_self_eq_true, jT_sI, jT_sJ, jP_sI, jP_sJ, jJ_sI, jI_sJ, jZ_sI, jZ_sJ, d3.2.1.1]
        rw [if_neg d3.2.2.2.2]
      | ok k2 =>
        rw [hs] at d3
        rw [eb_ok]
        have hd2 : dpt (lvJoin b (lvVal t)) r ≤ dpt t (b :: r) := by
          unfold lvJoin
          unfold dpt at hdb ⊢
          simp only; omega
        have L4 : mLs M μ4 (lvJoin b (lvVal t) :: r) := mLs.sm d2 (by decide) _ c3
        have := ih (lvJoin b (lvVal t)) f k2 _ μ4 (by omega) rfl (by omega) d3.2.2 L4
        cases hx : sClo (Cd l) (lvJoin b (lvVal t)) r k2 with
        | error e =>
          rw [hx] at this
          obtain ⟨ν, g1, g2, g3⟩ := this
          exact ⟨ν, g1, s4.tr g2, g3⟩
        | ok x =>
          rw [hx] at this
          obtain ⟨ν, g1, g2, g3, g4, g5, g6, g7⟩ := this
          refine ⟨ν, g1, s4.tr g2, g3, by omega, by have := d3.2.1; omega, ?_, g7⟩
          rw [List.append_assoc, sl_app _ d3.2.1 g5] at g6; exact g6
    · simp only [if_neg q]
      refine ⟨μ, ?_, sm.rf, ht, Nat.le_refl _, Nat.le_refl _, by rw [sl_self, List.append_nil]; exact hA, hL⟩
      rw [if_pos trivial]
