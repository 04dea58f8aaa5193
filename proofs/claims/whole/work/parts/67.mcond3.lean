/-! the reference: condition() reads as the spec does -/
def mC (M : Nat) (ν : JM) (l : List Int32) (ts : List Int64) (k : Nat) (r : Int32) (x : Except Er (CS × Nat)) : Prop := match x with
  | .error e => r = 0 ∧ mBad M ν l e
  | .ok v => r = 1 ∧ k ≤ v.2 ∧ mAt M ν l (ts ++ sl (Cd l) k v.2) v.2 ∧ mNow M ν v.1
theorem mC.err {M : Nat} {ν : JM} {l : List Int32} {ts : List Int64} {k : Nat} {e : Er} (h : mBad M ν l e) : mC M ν l ts k 0 (.error e) := ⟨rfl, h⟩
theorem mC.pre {M : Nat} {ν : JM} {l : List Int32} {ts : List Int64} {k k2 : Nat} {r : Int32} {x : Except Er (CS × Nat)} (h : mC M ν l (ts ++ sl (Cd l) k k2) k2 r x) (hk : k ≤ k2) : mC M ν l ts k r x := by
  cases x with
  | error e => exact h
  | ok v =>
    obtain ⟨h1, h2, h3, h4⟩ := h
    rw [List.append_assoc, sl_app _ hk h2] at h3
    exact ⟨h1, by omega, h3, h4⟩
theorem sm_fail {M : Nat} {μ ν : JM} {r k p : Int32} (h : MT M μ) (e : fX11_fails M k p μ = some (r, ν, 0, 0)) : sm M TK CA μ ν := by
  rw [m_fails h] at e
  have e2 : mFail M μ k p = ν := by injection e with e; injection e with e0 e; injection e
  rw [← e2]; unfold mFail
  by_cases q : jI μ M 18 = 0
  · rw [if_pos q]; exact sm.sF (by decide)
  · rw [if_neg q]; exact sm.rf
theorem cond_stop {M fu : Nat} {μ : JM} {l : List Int32} {e : Er} {x1 x2 x3 : Int32} (h : mBad M μ l e) : fX11_condition_b11 (fu + 1) M x1 x2 x3 μ = some (0, μ, 0, 0) := by
  rw [fX11_condition_b11]
  simp only [jck_true, jde_is, jlt_is, jcl_0, beq_self_eq_true, jT_sI, jT_sJ, jP_sI, jP_sJ, jJ_sI, jI_sJ, jZ_sI, jZ_sJ, h.1.1]
  rw [if_neg h.2.2.1]
theorem m_condL {M : Nat} {l : List Int32} {F : List Int64} {N : List (Int64 × CS)} {wh : Bool} : ∀ (n fu : Nat) (t : Lv) (r : List Lv) (ops k : Nat) (ts : List Int64) (μ : JM), n < fu → l.length - pl l k < n → ops ≤ 60 → dpt t r ≤ 10 → mAt M μ l ts k → mLs M μ (t :: r) → CI M μ l F N wh →
    ∃ res ν, fX11_condition_b11 fu M (nI r.length) (nI ops) (nI (dpt t r)) μ = some (res, ν, 0, 0) ∧ sm M TK CA μ ν ∧ mC M ν l ts k res (sCond (Cd l) F N wh n t r ops k) := by
  intro n
  induction n with
  | zero => intro fu t r ops k ts μ _ h; omega
  | succ n ih =>
    intro fu t r ops k ts μ hfu hn hops hd hA hL hC
    obtain ⟨f, rfl⟩ : ∃ f, fu = f + 1 := ⟨fu - 1, by omega⟩
    obtain ⟨h1, h2, h3⟩ := mA_ok hA
    have hlen := dpt_len t r
    have hln : l.length ≤ 1900 := hA.1.2.2.2.2.2.2.2.2
    -- a step to the next token, then the loop again
    have again : ∀ (μ1 : JM) (ts1 : List Int64) (k1 : Nat) (t1 : Lv) (r1 : List Lv) (ops1 : Nat) (x : Nat → Except Er (CS × Nat)), sm M TK CA μ μ1 → mAt M μ1 l ts1 k1 → isT (Cd l k1) → k ≤ k1 → ts1 = ts ++ sl (Cd l) k k1 → mLs M μ1 (t1 :: r1) → ops1 ≤ 60 → dpt t1 r1 ≤ 10 → pl l k ≤ pl l k1 →
        ∃ res rr μ2 ν, fX11_takes M μ1 = some (rr, μ2, 0, 0) ∧ fX11_condition_b11 f M (nI r1.length) (nI ops1) (nI (dpt t1 r1)) μ2 = some (res, ν, 0, 0) ∧ sm M TK CA μ ν ∧ mC M ν l ts k res (eb (tk (Cd l) k1) fun k2 => sCond (Cd l) F N wh n t1 r1 ops1 k2) := by
      intro μ1 ts1 k1 t1 r1 ops1 x s1 A1 hT hk1 hts L1 ho1 hd1 hp
      obtain ⟨rr, μ2, d1, d2, d3⟩ := mA_take A1 hT
      have s2 : sm M TK CA μ μ2 := s1.tr (d2.wk (by decide) (by decide))
      have hlt := isT_lt hT hA.2
      have hple := pl_le l (k1 + 1)
      cases hs : tk (Cd l) k1 with
      | error e =>
        rw [hs] at d3
        obtain ⟨f2, rfl⟩ : ∃ f2, f = f2 + 1 := ⟨f - 1, by omega⟩
        exact ⟨0, rr, μ2, μ2, d1, cond_stop d3.2, s2, mC.err d3.2⟩
      | ok k2 =>
        have hk2 : k2 = k1 + 1 := by
          unfold tk at hs
          split at hs
          · cases hs
          · injection hs with hs; exact hs.symm
        rw [hs] at d3
        obtain ⟨g1, g2, g3⟩ := d3
        subst hk2
        obtain ⟨res, ν, e1, e2, e3⟩ := ih f t1 r1 ops1 (k1 + 1) _ μ2 (by omega) (by omega) ho1 hd1 g3 (mLs.sm d2 (by decide) _ L1) (hC.sm s2 (by decide) (by decide))
        refine ⟨res, rr, μ2, ν, d1, e1, s2.tr e2, ?_⟩
        rw [eb_ok]
        rw [hts] at e3
        exact (e3.pre g2).pre hk1
    rw [fX11_condition_b11, sCond]
    simp only [jck_true, jde_is, jlt_is, jcl_0, beq_self_eq_true, jT_sI, jT_sJ, jP_sI, jP_sJ, jJ_sI, jI_sJ, jZ_sI, jZ_sJ, h1.1, h2, if_true, mw_14 hA]
    by_cases q1 : Cd l k = -3014
    · -- not
      simp only [if_pos q1]
      rw [if_neg (by decide), fX11_condition_b41]
      by_cases q2 : dpt t r = 10
      · rw [if_pos (by rw [q2]; rfl), if_pos q2]
        obtain ⟨ν, e1, e2, e3⟩ := mA_fail hA 6 (by omega)
        have e1' : fX11_fails M 6 (jI μ M 15) μ = some (0, ν, 0, 0) := e1
        simp only [jck_true, jde_is, jlt_is, jcl_0, beq_self_eq_true, jT_sI, jT_sJ, jP_sI, jP_sJ, jJ_sI, jI_sJ, jZ_sI, jZ_sJ, h1.1, e1']
        exact ⟨0, ν, by rw [jck_of (by decide)], sm_fail h1 e1, mC.err e3⟩
      · rw [if_neg (show ¬ nI (dpt t r) = (10 : Int32) from fun z => q2 ((nI_eq (b := 10) (by omega) (by omega)).mp z)), if_neg q2, if_neg (by decide)]
        simp only [jck_true, jde_is, jlt_is, jcl_0, beq_self_eq_true, jT_sI, jT_sJ, jP_sI, jP_sJ, jJ_sI, jI_sJ, jZ_sI, jZ_sJ, h1.1, mP_nots h1, mT_nots h1, jin_nI (show r.length < 12 by omega) (by decide), nI_clamp (show r.length < 2 ^ 31 by omega), hL.1.1, nI_1]
        rw [fX11_condition_b87]
        have s1 : sm M [] [15] μ (jsI μ (M + 15) r.length (nI (t.1 + 1))) := sm.sA (by decide) (by decide)
        simp only [jck_true, jde_is, jlt_is, jcl_0, beq_self_eq_true, jT_sI, jT_sJ, jP_sI, jP_sJ, jJ_sI, jI_sJ, jZ_sI, jZ_sJ, h1.1]
        have hd' : dpt (t.1 + 1, t.2) r = dpt t r + 1 := by unfold dpt; simp only; omega
        have rb : rowsBut M μ (jsI μ (M + 15) r.length (nI (t.1 + 1))) r.length := fun e n o a he hr => ⟨by rw [jI_sI, if_neg (by omega)]; exact hr.1, hr.2⟩
        obtain ⟨res, rr, μ2, ν, e1, e2, e3, e4⟩ := again (jsI μ (M + 15) r.length (nI (t.1 + 1))) ts k (t.1 + 1, t.2) r ops (fun _ => .error (0, 0)) (s1.wk (by decide) (by decide)) (hA.sm s1 (by decide) (by decide)) (isT_lit (z := -3014) (-3014) q1 (by decide) (by decide)) (Nat.le_refl _) (by rw [sl_self, List.append_nil]) ⟨⟨by rw [jI_sI, if_pos ⟨rfl, rfl⟩], hL.1.2⟩, mLs.but rb rfl r (Nat.le_refl _) hL.2⟩ hops (by omega) (Nat.le_refl _)
        rw [e1]; simp only [jcl_0]
        rw [hd'] at e2
        rw [e2]
        exact ⟨res, ν, rfl, e3, e4⟩
    · simp only [if_neg q1]
      rw [if_pos trivial]
      simp only [jck_true, jde_is, jlt_is, jcl_0, beq_self_eq_true, jT_sI, jT_sJ, jP_sI, jP_sJ, jJ_sI, jI_sJ, jZ_sI, jZ_sJ, h1.1, ms_40 hA]
      by_cases q2 : Cd l k = -41
      · -- (
        simp only [if_pos q2]
        rw [if_neg (by decide), fX11_condition_b41]
        by_cases q3 : dpt t r = 10
        · rw [if_pos (by rw [q3]; rfl), if_pos q3]
          obtain ⟨ν, e1, e2, e3⟩ := mA_fail hA 6 (by omega)
          have e1' : fX11_fails M 6 (jI μ M 15) μ = some (0, ν, 0, 0) := e1
          simp only [jck_true, jde_is, jlt_is, jcl_0, beq_self_eq_true, jT_sI, jT_sJ, jP_sI, jP_sJ, jJ_sI, jI_sJ, jZ_sI, jZ_sJ, h1.1, e1']
          exact ⟨0, ν, by rw [jck_of (by decide)], sm_fail h1 e1, mC.err e3⟩
        · rw [if_neg (show ¬ nI (dpt t r) = (10 : Int32) from fun z => q3 ((nI_eq (b := 10) (by omega) (by omega)).mp z)), if_neg q3, if_pos rfl]
          obtain ⟨μ1, a1, a2, a3⟩ := m_openLv (r := t :: r) h1 (by simp only [List.length_cons]; omega) hL
          rw [List.length_cons] at a1
          simp only [jck_true, jde_is, jlt_is, jcl_0, beq_self_eq_true, jT_sI, jT_sJ, jP_sI, jP_sJ, jJ_sI, jI_sJ, jZ_sI, jZ_sJ, h1.1, nI_1, a1]
          rw [fX11_condition_b87]
          simp only [jck_true, jde_is, jlt_is, jcl_0, beq_self_eq_true, jT_sI, jT_sJ, jP_sI, jP_sJ, jJ_sI, jI_sJ, jZ_sI, jZ_sJ, (a2.mt h1).1]
          have hd' : dpt lv0 (t :: r) = dpt t r + 1 := by unfold dpt lv0; simp only [List.map_cons, List.sum_cons]; omega
          obtain ⟨res, rr, μ2, ν, e1, e2, e3, e4⟩ := again μ1 ts k lv0 (t :: r) ops (fun _ => .error (0, 0)) (a2.wk (by decide) (by decide)) (hA.sm a2 (by decide) (by decide)) (isT_lit (z := -41) (-41) q2 (by decide) (by decide)) (Nat.le_refl _) (by rw [sl_self, List.append_nil]) a3 hops (by omega) (Nat.le_refl _)
          rw [e1]; simp only [jcl_0]
          rw [hd', List.length_cons] at e2
          rw [e2]
          exact ⟨res, ν, rfl, e3, e4⟩
      · simp only [if_neg q2]
        rw [if_pos trivial]
        obtain ⟨r1, μ1, a1, a2, a3⟩ := m_one hA hC.1 hC.2.1 hC.2.2
        simp only [jck_true, jde_is, jlt_is, jcl_0, beq_self_eq_true, jT_sI, jT_sJ, jP_sI, jP_sJ, jJ_sI, jI_sJ, jZ_sI, jZ_sJ, h1.1, a1]
        by_cases q3 : 0 < Cd l k
        · rw [if_neg (show ¬ ¬ 0 < Cd l k from fun z => z q3)] at a3
          rw [if_neg (show ¬ ¬ 0 < Cd l k from fun z => z q3)]
          cases hop : opv F N wh (Cd l k) with
          | none =>
            rw [hop] at a3
            obtain ⟨g1, g2⟩ := a3
            subst g1
            rw [if_pos rfl]
            exact ⟨0, μ1, rfl, a2.wk (by decide) (by decide), mC.err g2⟩
          | some v =>
            rw [hop] at a3
            obtain ⟨g1, A1, g3⟩ := a3
            subst g1
            have h11 := a2.mt h1
            have s1 : sm M TK CA μ μ1 := a2.wk (by decide) (by decide)
            rw [if_neg (by decide)]
            dsimp only
            by_cases q4 : ops = 60
            · rw [if_pos (by rw [q4]; rfl), if_pos q4]
              obtain ⟨ν, e1, e2, e3⟩ := mA_fail A1 6 (by omega)
              have e1' : fX11_fails M 6 (jI μ1 M 15) μ1 = some (0, ν, 0, 0) := e1
              simp only [jck_true, jde_is, jlt_is, jcl_0, beq_self_eq_true, jT_sI, jT_sJ, jP_sI, jP_sJ, jJ_sI, jI_sJ, jZ_sI, jZ_sJ, h11.1, e1']
              exact ⟨0, ν, by rw [jck_of (by decide)], s1.tr (sm_fail h11 e1), mC.err e3⟩
            · rw [if_neg (show ¬ nI ops = (60 : Int32) from fun z => q4 ((nI_eq (b := 60) (by omega) (by omega)).mp z)), if_neg q4]
              have L1 : mLs M μ1 (t :: r) := mLs.sm a2 (by decide) _ hL
              have ht : t.1 ≤ dpt t r := by unfold dpt; omega
              obtain ⟨μ2, b1, b2, b3⟩ := m_joinLv h11 (show r.length < 12 by omega) (show t.1 < 1000 by omega) L1 g3
              simp only [jck_true, jde_is, jlt_is, jcl_0, beq_self_eq_true, jT_sI, jT_sJ, jP_sI, jP_sJ, jJ_sI, jI_sJ, jZ_sI, jZ_sJ, h11.1, mP_nots h11, mT_nots h11, jin_nI (show r.length < 12 by omega) (by decide), nI_clamp (show r.length < 2 ^ 31 by omega), L1.1.1, nI_1, b1, (b2.mt h11).1]
              have s2 : sm M TK CA μ μ2 := s1.tr (b2.wk (by decide) (by decide))
              have A2 : mAt M μ2 l ts k := A1.sm b2 (by decide) (by decide)
              obtain ⟨rr, μ3, d1, d2, d3⟩ := mA_take A2 (isT_free q3)
              rw [d1]; simp only [jcl_0]
              have s3 : sm M TK CA μ μ3 := s2.tr (d2.wk (by decide) (by decide))
              have hx3 : nI (dpt t r) - nI t.1 = nI (dpt (lvJoin t v) r) := by
                rw [pk_sub ht]; congr 1; unfold dpt lvJoin; simp only; omega
              rw [hx3]
              have hd3 : dpt (lvJoin t v) r ≤ dpt t r := by unfold dpt lvJoin; simp only; omega
              have hlt := isT_lt (isT_free q3) hA.2
              cases hs : tk (Cd l) k with
              | error e =>
                rw [hs] at d3
                rw [eb_err]
                refine ⟨0, μ3, ?_, s3, mC.err d3.2⟩
                rw [jfuel_5, fX11_condition_b143]
                simp only [jck_true, jde_is, jlt_is, jcl_0, beq_self_eq_true, jT_sI, jT_sJ, jP_sI, jP_sJ, jJ_sI, jI_sJ, jZ_sI, jZ_sJ, d3.2.1.1]
                rw [if_neg d3.2.2.2.1, fX11_condition_b228]
                simp only [jck_true, jde_is, jlt_is, jcl_0, beq_self_eq_true, jT_sI, jT_sJ, jP_sI, jP_sJ, jJ_sI, jI_sJ, jZ_sI, jZ_sJ, d3.2.1.1]
                rw [if_neg d3.2.2.2.2]
              | ok k2 =>
                have hk2 : k2 = k + 1 := by
                  unfold tk at hs
                  split at hs
                  · cases hs
                  · injection hs with hs; exact hs.symm
                rw [hs] at d3
                obtain ⟨-, u2, u3⟩ := d3
                rw [eb_ok]
                have L3 : mLs M μ3 (lvJoin t v :: r) := mLs.sm d2 (by decide) _ b3
                have clo := m_clo (rec11 := fX11_condition_b11 f) (x2 := nI (ops + 1)) r (lvJoin t v) jfuel k2 _ μ3 (jfuel_gt (by omega)) rfl (by omega) u3 L3
                cases hx : sClo (Cd l) (lvJoin t v) r k2 with
                | error e =>
                  rw [hx] at clo
                  obtain ⟨ν, w1, w2, w3⟩ := clo
                  rw [eb_err]
                  exact ⟨0, ν, w1, s3.tr w2, mC.err w3⟩
                | ok x =>
                  rw [hx] at clo
                  obtain ⟨μ4, w1, w2, w3, w4, w5, w6, w7⟩ := clo
                  rw [eb_ok, w1]
                  have s4 := s3.tr w2
                  have h14 := s4.mt h1
                  obtain ⟨-, h24, -⟩ := mA_ok w6
                  have hpl : pl l k ≤ pl l x.2.2 := by
                    have mono : ∀ a b, a ≤ b → pl l a ≤ pl l b := by
                      intro a b hab
                      induction hab with
                      | refl => exact Nat.le_refl _
                      | step _ ih2 => exact Nat.le_trans ih2 (by show _ ≤ nxj l _; unfold nxj; omega)
                    exact mono _ _ (by omega)
                  have hts4 : ts ++ sl (Cd l) k k2 ++ sl (Cd l) k2 x.2.2 = ts ++ sl (Cd l) k x.2.2 := by rw [List.append_assoc, sl_app _ u2 w5]
                  have hk4 : k ≤ x.2.2 := by omega
                  rw [fX11_condition_b228]
                  simp only [jck_true, jde_is, jlt_is, jcl_0, beq_self_eq_true, jT_sI, jT_sJ, jP_sI, jP_sJ, jJ_sI, jI_sJ, jZ_sI, jZ_sJ, h14.1, h24, mw_13 w6, mw_12 w6]
                  rw [if_pos (by decide)]
                  have hlen4 := dpt_len x.1 x.2.1
                  by_cases p1 : Cd l x.2.2 = -3013
                  · simp only [if_pos p1]
                    rw [if_neg (by decide)]
                    obtain ⟨μ5, y1, y2, y3⟩ := m_orLv h14 (show x.2.1.length < 12 by omega) w7
                    simp only [jck_true, jde_is, jlt_is, jcl_0, beq_self_eq_true, jT_sI, jT_sJ, jP_sI, jP_sJ, jJ_sI, jI_sJ, jZ_sI, jZ_sJ, y1, (y2.mt h14).1]
                    rw [w3] at y3
                    have hd5 : dpt (0, lvVal x.1, fun _ => -1) x.2.1 = dpt x.1 x.2.1 := by unfold dpt; rw [w3]
                    obtain ⟨res, rr5, μ6, ν, e1, e2, e3, e4⟩ := again μ5 _ x.2.2 (0, lvVal x.1, fun _ => -1) x.2.1 (ops + 1) (fun _ => .error (0, 0)) (s4.tr (y2.wk (by decide) (by decide))) (w6.sm y2 (by decide) (by decide)) (isT_lit (z := -3013) (-3013) p1 (by decide) (by decide)) hk4 hts4 y3 (by omega) (by omega) hpl
                    rw [e1]; simp only [jcl_0, fX11_condition_b328]
                    rw [hd5] at e2
                    rw [e2]
                    exact ⟨res, ν, rfl, e3, e4⟩
                  · simp only [if_neg p1]
                    rw [if_pos trivial]
                    by_cases p2 : Cd l x.2.2 = -3012
                    · simp only [if_pos p2]
                      rw [if_neg (by decide)]
                      obtain ⟨res, rr5, μ6, ν, e1, e2, e3, e4⟩ := again μ4 _ x.2.2 x.1 x.2.1 (ops + 1) (fun _ => .error (0, 0)) s4 w6 (isT_lit (z := -3012) (-3012) p2 (by decide) (by decide)) hk4 hts4 w7 (by omega) (by omega) hpl
                      rw [e1]; simp only [jcl_0, fX11_condition_b328]
                      rw [e2]
                      exact ⟨res, ν, rfl, e3, e4⟩
                    · simp only [if_neg p2]
                      rw [if_pos trivial]
                      cases hr4 : x.2.1 with
                      | nil =>
                        rw [hr4] at w7
                        rw [if_pos (show nI ([] : List Lv).length ≤ 0 by decide), if_pos rfl]
                        obtain ⟨μ5, y1, y2, y3⟩ := m_orLv (r := []) h14 (by decide) w7
                        have y1' : fX11_ors M 0 μ4 = some ((), μ5, 0, 0) := y1
                        simp only [jck_true, jde_is, jlt_is, jcl_0, beq_self_eq_true, jT_sI, jT_sJ, jP_sI, jP_sJ, jJ_sI, jI_sJ, jZ_sI, jZ_sJ, y1']
                        obtain ⟨ν, z1, z2, z3⟩ := b300_l jfuel 0 μ5 (y2.mt h14) (by omega) (jfuel_gt (by omega)) (fun e he => by omega)
                        have z1' : fX11_condition_b300 jfuel M 0 μ5 = some (1, ν, 0, 0) := z1
                        rw [z1']
                        have A5 := (w6.sm y2 (by decide) (by decide)).sm z2 (by decide) (by decide)
                        rw [hts4] at A5
                        refine ⟨1, ν, rfl, (s4.tr (y2.wk (by decide) (by decide))).tr (z2.wk (by decide) (by decide)), rfl, hk4, A5, fun i hi => ?_⟩
                        have e := (y3.1.2 i hi).1
                        simp only [List.length_nil, Nat.mul_zero, Nat.zero_add] at e
                        rw [z3 i hi, e, z2.aJ (by decide) (by decide)]
                      | cons b r4 =>
                        rw [if_neg (show ¬ nI (b :: r4).length ≤ 0 from nI_nle (by simp) (by rw [← hr4]; omega)), if_neg (by simp)]
                        obtain ⟨ν, e1, e2, e3⟩ := mA_fail w6 0 (by omega)
                        have e1' : fX11_fails M 0 (jI μ4 M 15) μ4 = some (0, ν, 0, 0) := e1
                        simp only [jck_true, jde_is, jlt_is, jcl_0, beq_self_eq_true, jT_sI, jT_sJ, jP_sI, jP_sJ, jJ_sI, jI_sJ, jZ_sI, jZ_sJ, e1']
                        exact ⟨0, ν, by rw [jck_of (by decide)], s4.tr (sm_fail h14 e1), mC.err e3⟩
        · rw [if_pos q3] at a3
          rw [if_pos q3]
          obtain ⟨g1, g2⟩ := a3
          subst g1
          rw [if_pos rfl]
          exact ⟨0, μ1, rfl, a2.wk (by decide) (by decide), mC.err g2⟩
def sCon (C : Nat → Int64) (F : List Int64) (N : List (Int64 × CS)) (wh : Bool) (n k : Nat) : Except Er (CS × Nat) := sCond C F N wh n lv0 [] 0 k
theorem m_cond {M : Nat} {μ : JM} {l : List Int32} {ts : List Int64} {k : Nat} {F : List Int64} {N : List (Int64 × CS)} {wh : Bool} (hA : mAt M μ l ts k) (hC : CI M μ l F N wh) : ∃ r ν, fX11_condition M μ = some (r, ν, 0, 0) ∧ sm M TK CA μ ν ∧ mC M ν l ts k r (sCon (Cd l) F N wh 2000 k) := by
  obtain ⟨h1, h2, h3⟩ := mA_ok hA
  have hln : l.length ≤ 1900 := hA.1.2.2.2.2.2.2.2.2
  obtain ⟨μ1, a1, a2, a3⟩ := m_openLv (r := []) h1 (by decide) trivial
  have a1' : fX11_opens M 0 μ = some ((), μ1, 0, 0) := a1
  rw [fX11_condition]
  simp only [jck_true, jde_is, jlt_is, jcl_0, beq_self_eq_true, jT_sI, jT_sJ, jP_sI, jP_sJ, jJ_sI, jI_sJ, jZ_sI, jZ_sJ, h1.1, a1']
  obtain ⟨res, ν, e1, e2, e3⟩ := m_condL 2000 jfuel lv0 [] 0 k ts μ1 (jfuel_gt (by omega)) (by omega) (by omega) (by decide) (hA.sm a2 (by decide) (by decide)) a3 (hC.sm a2 (by decide) (by decide))
  have e1' : fX11_condition_b11 jfuel M 0 0 0 μ1 = some (res, ν, 0, 0) := e1
  rw [e1']
  exact ⟨res, ν, rfl, (a2.wk (by decide) (by decide)).tr e2, e3⟩
