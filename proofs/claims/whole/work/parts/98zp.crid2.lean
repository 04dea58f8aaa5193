/-! the class: one change of a rider -/
def cX2 (B z : Nat) (F P A : List Int64) (μ ν : JM) : Prop := cr B z RDM μ ν ∧ jI ν (B + 66) 0 = 0 ∧ cW B 9 8 ν F ∧ cW B 11 6 ν P ∧ cW B 13 12 ν A
theorem cX2.cs {B z : Nat} {F P A : List Int64} {μ0 μ ν : JM} {as : List Nat} (h : cX2 B z F P A μ0 μ) (s : cs B z as μ ν) (hz : B + 121 ≤ z) (ha : ∀ i ∈ as, i = 15) : cX2 B z F P A μ0 ν := by
  have n : ∀ i, i ≠ 15 → i ∉ as := fun i hi hm => hi (ha i hm)
  obtain ⟨h1, h2, h3, h4, h5⟩ := h
  exact ⟨h1.tr ((s.wk (bs := RDM) (fun i hi => by rw [ha i hi]; decide)).tocr), by rw [s.iI (by omega) (n 66 (by decide))]; exact h2, h3.ke s (by omega) (n 9 (by decide)) (n 10 (by decide)), h4.ke s (by omega) (n 11 (by decide)) (n 12 (by decide)), h5.ke s (by omega) (n 13 (by decide)) (n 14 (by decide))⟩
theorem c_ch1 {B z n k j v q : Nat} {μ0 μ : JM} {F P A : List Int64} {cls : List Cl} {l : List Int32} {rec4 : Nat → Option Nat → Int32 → Int32 → JM → JO Int32} {Q : Int32 → JM → Nat → Nat → Prop} (hz : B + 121 ≤ z) (hzj : z ≤ jZ μ) (hv : z ≤ v) (hq : z ≤ q) (hC : CT B μ) (X : cX2 B z F P A μ0 μ) (hL : cL (B + 121) (jZ μ) false 36 μ v q cls) (hl : cls.length < 36) (h : cAt B μ l n k) (hj : j < 12) (hk : Cd l k = -3015 ∨ Cd l k = -3016 ∨ Cd l k = -3017)
    (bad : ∀ ν e c m, c ≤ 4 → m ≤ 14 → z ≤ jZ ν → CT B ν → cX2 B z F P A μ0 ν → ov (Cd l) k (sCh1 (Cd l) F P A cls k) = .error e → cF B ν l e → Rq (fX4_readRider_b134 rec4 (B + 18) (some v) (nI j) ν) (fun r ρ c2 m2 => Q r ρ (c + c2) (m + m2)))
    (good : ∀ ν y c m, c ≤ 4 → m ≤ 14 + (y.2 - k) → z ≤ jZ ν → CT B ν → cX2 B z F P A μ0 ν → k ≤ y.2 → ov (Cd l) k (sCh1 (Cd l) F P A cls k) = ov (Cd l) y.2 (.ok y) → cAt B ν l n y.2 → cL (B + 121) (jZ ν) false 36 ν v q y.1 → y.1.length ≤ cls.length + 1 → Rq (fX4_readRider_b134 rec4 (B + 18) (some v) (nI j) ν) (fun r ρ c2 m2 => Q r ρ (c + c2) (m + m2))) :
    Rq (fX4_readRider_b59 rec4 (B + 18) (some v) (nI j) (Cd l k) μ) Q := by
  have nov : ¬ Cd l k = -2000 := by intro e; rw [e] at hk; rcases hk with t | t | t <;> exact absurd t (by decide)
  have ne0 : ¬ Cd l k = 0 := by intro e; rw [e] at hk; rcases hk with t | t | t <;> exact absurd t (by decide)
  rw [fX4_readRider_b59, if_neg (show ¬ nI j = 12 from fun e => by have := (nI_eq (a := j) (b := 12) (by omega) (by decide)).mp e; omega)]
  simp only [jck_true, jde_is, jlt_is, jcl_0, beq_self_eq_true, jT_sI, jT_sJ, jP_sI, jP_sJ, jJ_sI, jI_sJ, jZ_sI, jZ_sJ, cT18 hC, cP18_0 hC, cT15 hC]
  refine Rq.cl0 (c_step (z := jZ μ) hC h ne0 (by omega)) fun _ μ1 ⟨s1, a1⟩ => ?_
  have hC1 := s1.1.ct hC (by omega)
  have hB1 := hC1.2.2
  have X1 := X.cs (s1.1.lo hzj) hz (fun i hi => by simpa using hi)
  have L1 : cL (B + 121) (jZ μ1) false 36 μ1 v q cls := by rw [s1.2]; exact hL.ke s1.1 (by decide) (Nat.le_refl _) (Nat.le_refl _)
  have zj1 : z ≤ jZ μ1 := by rw [s1.2]; exact hzj
  simp only [lg_cmp_0]
  -- a clause that is read
  have ctx : ∀ (ν : JM) (P' A' : List Int64), cr B (jZ μ1) RDM μ1 ν → jI ν (B + 66) 0 = 0 → pfx false P P' → pfx false A A' → cW B 11 6 ν P' → cW B 13 12 ν A' → CT B ν ∧ cX2 B z F P A μ0 ν ∧ z ≤ jZ ν ∧ cL (B + 121) (jZ μ1) false 36 ν v q cls := by
    intro ν P' A' r n66 p1 p2 w1 w2
    rw [pfx_f p1] at w1
    rw [pfx_f p2] at w2
    exact ⟨r.ct hC1 hB1, ⟨X1.1.tr (r.lo zj1), n66, X1.2.2.1.kr r (by omega) (by decide) (by decide), w1, w2⟩, Nat.le_trans zj1 r.1, L1.kp (r.dyn rdm_lt (Nat.le_refl _))⟩
  by_cases k1 : Cd l k = -3015
  · rw [if_pos k1, jck_of (by rw [cT18 hC1]; rfl)]
    have sp : ov (Cd l) k (sCh1 (Cd l) F P A cls k) = ov (Cd l) (k + 1) (eb (nmC (Cd l) (k + 1)) fun _ => match lfnd cls (Cd l (k + 1)) false with | none => (.error (k + 1, 3) : Except Er (List Cl × Nat)) | some p => eb (tk (Cd l) (k + 1)) fun k2 => .ok (cls.eraseIdx p, k2)) := by
      rw [ov_ne nov]; unfold sCh1; rw [if_pos k1, eb_tk]; rfl
    refine Rq.cl0 (c_lab (z := jZ μ1) hC1 L1 (by decide) a1 (by omega)) fun r μ2 ⟨s2, Q2⟩ => ?_
    have hC2 := s2.1.ct hC1 (by omega)
    have X2 := X1.cs (s2.1.lo zj1) hz (fun i hi => by simpa using hi)
    have L2 : cL (B + 121) (jZ μ2) false 36 μ2 v q cls := by rw [s2.2]; exact L1.ke s2.1 (by decide) (Nat.le_refl _) (Nat.le_refl _)
    simp only [jck_true, jde_is, jlt_is, jcl_0, beq_self_eq_true, jT_sI, jT_sJ, jP_sI, jP_sJ, jJ_sI, jI_sJ, jZ_sI, jZ_sJ, L2.2.2.1]
    rcases Q2 with ⟨e, es, rfl, f⟩ | ⟨p, hp, es, rfl, a2⟩
    · rw [c_lrem0, jcl_0]
      refine (bad μ2 e 0 0 (by omega) (by omega) (by rw [s2.2]; exact zj1) hC2 X2 (sp.trans es) f).mono fun r ρ c m q => ?_
      rw [Nat.zero_add, Nat.zero_add] at q; exact q
    · refine Rq.cl0 (c_lrem (B := B) (z := z) (as := []) L2 (by decide) hp hv hq) fun _ μ3 ⟨s3, z3, L3⟩ => ?_
      refine (good μ3 (cls.eraseIdx p, k + 2) 0 0 (by omega) (by omega) (by rw [z3, s2.2]; exact zj1) (s3.ct hC2 hz) (X2.cs s3 hz (fun i hi => by cases hi)) (by show k ≤ k + 2; omega) (sp.trans es) (a2.ke s3 (by omega) (by decide) (by decide) (by decide)) (by rw [z3]; exact L3) ?_).mono fun r ρ c m q => ?_
      · show (cls.eraseIdx p).length ≤ _
        rw [List.length_eraseIdx]; split <;> omega
      · rw [Nat.zero_add, Nat.zero_add] at q; exact q
  · rw [if_neg k1]
    by_cases k2 : Cd l k = -3017
    · rw [if_pos k2, jck_of (by rw [cT18 hC1]; rfl)]
      have sp : ov (Cd l) k (sCh1 (Cd l) F P A cls k) = eb (ov (Cd l) (k + 1) (sClause (Cd l) F 1 cls P A (k + 1))) fun y => .ok (cls ++ [y.1], y.2.2.2) := by
        rw [ov_ne nov]; unfold sCh1; rw [if_neg k1, if_neg (by rw [k2]; decide), if_pos k2, eb_tk, eb_ov]
      refine Rq.cl (c_clause (md := 1) hC1 X1.2.2.1 X1.2.2.2.1 X1.2.2.2.2 X1.2.1 (by omega) L1 (by decide) (Nat.le_refl _) a1) fun r μ2 c2 m2 ⟨hc2, r2, n66, P', A', p1, p2, w1, w2, Q2⟩ => ?_
      obtain ⟨hC2, X2, zj2, L2⟩ := ctx μ2 P' A' r2 n66 p1 p2 w1 w2
      simp only [jck_true, jde_is, jlt_is, jcl_0, beq_self_eq_true, jT_sI, jT_sJ, jP_sI, jP_sJ, jJ_sI, jI_sJ, jZ_sI, jZ_sJ, L2.2.2.1]
      rcases Q2 with ⟨rfl, hm, z2, e, es, f⟩ | ⟨y, -, rfl, hm, z2, es, a2, k3, g1, g2, E⟩
      · have : fX8_add v none μ2 = some ((), μ2, 0, 0) := by unfold fX8_add; rw [if_pos rfl]
        rw [this, jcl_0]
        exact bad μ2 e c2 m2 hc2 hm zj2 hC2 X2 (by rw [sp, es, eb_err]) f
      · have L2' : cL (B + 121) (jZ μ2) false 36 μ2 v q cls := L2.wk (Nat.le_refl _) (by omega)
        have E' : cE (B + 121) (jZ μ2) false μ2 (jZ μ1) y.1 := by rw [z2]; exact cE.wk E (by omega) (Nat.le_refl _)
        refine Rq.cl0 (c_ladd (B := B) (z := z) (as := []) L2' (by decide) hl E' hv hq) fun _ μ3 ⟨s3, z3, _, _, L3⟩ => ?_
        refine good μ3 (cls ++ [y.1], y.2.2.2) c2 m2 hc2 (by show m2 ≤ 14 + (y.2.2.2 - k); omega) (by rw [z3]; exact zj2) (s3.ct hC2 hz) (X2.cs s3 hz (fun i hi => by cases hi)) (by show k ≤ y.2.2.2; omega) (by rw [sp, es, eb_ov, eb_ok]) (a2.ke s3 (by omega) (by decide) (by decide) (by decide)) (by rw [z3]; exact L3) (by simp)
    · have k3 : Cd l k = -3016 := by rcases hk with t | t | t
                                     · exact absurd t k1
                                     · exact t
                                     · exact absurd t k2
      rw [if_neg k2, jck_of (by rw [cT18 hC1]; rfl)]
      have sp : ov (Cd l) k (sCh1 (Cd l) F P A cls k) = eb (ov (Cd l) (k + 1) (sClause (Cd l) F 2 cls P A (k + 1))) fun y => match lfnd cls y.1.2.1 (isDf y.1) with
          | none => .error (k + 1, 3)
          | some p => .ok (cls.set p y.1, y.2.2.2) := by
        rw [ov_ne nov]; unfold sCh1; rw [if_neg k1, if_pos k3, eb_tk, eb_ov]; rfl
      refine Rq.cl (c_clause (md := 2) hC1 X1.2.2.1 X1.2.2.2.1 X1.2.2.2.2 X1.2.1 (by omega) L1 (by decide) (Nat.le_refl _) a1) fun r μ2 c2 m2 ⟨hc2, r2, n66, P', A', p1, p2, w1, w2, Q2⟩ => ?_
      obtain ⟨hC2, X2, zj2, L2⟩ := ctx μ2 P' A' r2 n66 p1 p2 w1 w2
      rcases Q2 with ⟨rfl, hm, z2, e, es, f⟩ | ⟨y, -, rfl, hm, z2, es, a2, k3, g1, g2, E⟩
      · have : fX4_replaceIn (some v) none μ2 = some ((), μ2, 0, 0) := by unfold fX4_replaceIn; rw [if_pos rfl]
        rw [this, jcl_0]
        exact bad μ2 e c2 m2 hc2 hm zj2 hC2 X2 (by rw [sp, es, eb_err]) f
      · have L2' : cL (B + 121) (jZ μ2) false 36 μ2 v q cls := L2.wk (Nat.le_refl _) (by omega)
        have E' : cE (B + 121) (jZ μ2) false μ2 (jZ μ1) y.1 := by rw [z2]; exact cE.wk E (by omega) (Nat.le_refl _)
        obtain ⟨_, _, _, -, -, -, -, b5, b6, b7, -⟩ := id E'
        unfold fX4_replaceIn
        rw [if_neg (by intro e; cases e)]
        have dd : (if y.1.1 = 0 then (some ((1 : Int32), μ2, 0, 0) : JO Int32) else some (0, μ2, 0, 0)) = some (if isDf y.1 then 1 else 0, μ2, 0, 0) := by
          by_cases d : y.1.1 = 0
          · rw [if_pos d, isDf_t.mpr d]; rfl
          · have nd : isDf y.1 = false := by
              cases hq : isDf y.1
              · rfl
              · exact absurd (isDf_t.mp hq) d
            rw [if_neg d, nd]; rfl
        simp only [jck_true, jde_is, jlt_is, jcl_0, beq_self_eq_true, jT_sI, jT_sJ, jP_sI, jP_sJ, jJ_sI, jI_sJ, jZ_sI, jZ_sJ, b5, fX2_isDefine, b6, b7, dd, L2'.2.2.1, c_lfind (isDf y.1) _ rfl L2' (by decide)]
        rw [es, eb_ov, eb_ok] at sp
        cases hf : lfnd cls y.1.2.1 (isDf y.1) with
        | none =>
          have : ∀ a, fX8_replace v (oI 0 none) a μ2 = some ((), μ2, 0, 0) := fun a => by unfold fX8_replace; rw [if_pos (show oI 0 none < 0 by decide)]
          rw [this, jcl_0, jcl_0]
          refine good μ2 (cls, y.2.2.2) c2 m2 hc2 (by show m2 ≤ 14 + (y.2.2.2 - k); omega) zj2 hC2 X2 (by show k ≤ y.2.2.2; omega) ?_ a2 L2' (Nat.le_succ _)
          rw [sp]
          by_cases c0 : Cd l y.2.2.2 = -2000
          · rw [ov_yes c0, ov_yes c0]
          · rw [ov_ne c0] at es
            by_cases c1 : Cd l (k + 1) = -2000
            · rw [ov_yes c1] at es; cases es
            · rw [ov_ne c1] at es
              exact absurd hf (sClause_2 es)
        | some p =>
          rw [hf] at sp
          have hp := lfnd_lt hf
          have : oI 0 (some p) = nI p := by simp only [oI, Nat.zero_add]
          rw [this]
          obtain ⟨_, μ3, e3, s3, z3, -, L3⟩ := c_lrepl (B := B) (z := z) (as := []) L2' (by decide) hp E' hv hq
          rw [e3, jcl_0, jcl_0]
          exact good μ3 (cls.set p y.1, y.2.2.2) c2 m2 hc2 (by show m2 ≤ 14 + (y.2.2.2 - k); omega) (by rw [z3]; exact zj2) (s3.ct hC2 hz) (X2.cs s3 hz (fun i hi => by cases hi)) (by show k ≤ y.2.2.2; omega) sp (a2.ke s3 (by omega) (by decide) (by decide) (by decide)) (by rw [z3]; exact L3) (by simp)
