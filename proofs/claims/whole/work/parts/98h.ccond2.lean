/-! the class: Cond, openings and operands -/
theorem c_opens {B z n : Nat} {l : List Int32} {wh : Bool} {F : List Int64} {N : List (Int64 × CS)} {ops : Nat} (hz : B + 121 ≤ z) : ∀ (fu i k fl : Nat) (t : Lv) (r : List Lv) (μ : JM), CT B μ → cAt B μ l n k → cD B μ wh t r ops → i ≤ dpt t r → 11 - i < fu → n - k < fl →
    Res (fX3_readOpenings_b2 fu (B + 19) (nI i) μ) (fun x ν => cc B z μ ν ∧ ((∃ e, ov (Cd l) k (sCond (Cd l) F N wh fl t r ops k) = .error e ∧ x = 0 ∧ cF B ν l e) ∨ (∃ t' r' k' fl', ov (Cd l) k (sCond (Cd l) F N wh fl t r ops k) = ov (Cd l) k' (sCond (Cd l) F N wh fl' t' r' ops k') ∧ x = 1 ∧ cAt B ν l n k' ∧ cD B ν wh t' r' ops ∧ ¬ Cd l k' = -3014 ∧ ¬ Cd l k' = -41 ∧ n - k' < fl' ∧ k ≤ k'))) := by
  intro fu
  induction fu with
  | zero => intro i k fl t r μ _ _ _ _ q; omega
  | succ fu ih =>
    intro i k fl t r μ hC h hD hi hf hfl
    have hd10 := hD.2.1
    rw [fX3_readOpenings_b2, if_neg (show ¬ (10 : Int32) < nI i from nI_nlt (a := 10) (by omega) (by decide))]
    simp only [jck_true, jde_is, jlt_is, jcl_0, beq_self_eq_true, jT_sI, jT_sJ, jP_sI, jP_sJ, jJ_sI, jI_sJ, jZ_sI, jZ_sJ, cT19 hC, cP19_0 hC, cT15 hC, c_token hC h, lg_cmp_0]
    obtain ⟨fl, rfl⟩ : ∃ f, fl = f + 1 := ⟨fl - 1, by omega⟩
    have main : (Cd l k = -3014 ∨ Cd l k = -41) → Res (fX3_readOpenings_b34 (fX3_readOpenings_b2 fu) (B + 19) (nI i) (Cd l k) μ) (fun x ν => cc B z μ ν ∧ ((∃ e, ov (Cd l) k (sCond (Cd l) F N wh (fl + 1) t r ops k) = .error e ∧ x = 0 ∧ cF B ν l e) ∨ (∃ t' r' k' fl', ov (Cd l) k (sCond (Cd l) F N wh (fl + 1) t r ops k) = ov (Cd l) k' (sCond (Cd l) F N wh fl' t' r' ops k') ∧ x = 1 ∧ cAt B ν l n k' ∧ cD B ν wh t' r' ops ∧ ¬ Cd l k' = -3014 ∧ ¬ Cd l k' = -41 ∧ n - k' < fl' ∧ k ≤ k'))) := by
      intro hk
      have nov : ¬ Cd l k = -2000 := by rcases hk with e | e <;> rw [e] <;> decide
      have ne0 : ¬ Cd l k = 0 := by rcases hk with e | e <;> rw [e] <;> decide
      have hkn := h.lt ne0
      by_cases hd : dpt t r = 10
      · have es : ov (Cd l) k (sCond (Cd l) F N wh (fl + 1) t r ops k) = .error (k, fk (Cd l) k 6) := by
          rw [← ov_er, sCond]
          rcases hk with e | e
          · rw [if_pos e, if_pos hd]
          · rw [if_neg (by rw [e]; decide), if_pos e, if_pos hd]
        rw [fX3_readOpenings_b34]
        simp only [jck_true, jde_is, jlt_is, jcl_0, beq_self_eq_true, jT_sI, jT_sJ, jP_sI, jP_sJ, jJ_sI, jI_sJ, jZ_sI, jZ_sJ, cT19 hC, hD.1]
        rw [if_neg (show ¬ nI (dpt t r) < 10 from nI_nlt (b := 10) (by omega) (by omega))]
        simp only [jck_true, jde_is, jlt_is, jcl_0, beq_self_eq_true, jT_sI, jT_sJ, jP_sI, jP_sJ, jJ_sI, jI_sJ, jZ_sI, jZ_sJ, cP19_0 hC, cT15 hC]
        refine Res.cl (c_fail (z := z) 6 6 rfl (by decide) hC h) fun x ν ⟨e1, s1, f1⟩ => ?_
        subst e1
        refine .ck (by decide) (.ret ⟨⟨s1.1.wk (by decide), ?_, s1.2⟩, Or.inl ⟨_, es, rfl, f1⟩⟩)
        rw [s1.1.iI (by omega) (by decide)]
      · obtain ⟨ν, e, c1, a1, g1, g2⟩ := c_open (z := z) (x1 := nI i) (rec2 := fX3_readOpenings_b2 fu) hC h hD hk (by omega) hz
        rw [e, nI_1]
        have hC1 := c1.1.ct hC hz
        rcases hk with hk | hk
        · have es : ov (Cd l) k (sCond (Cd l) F N wh (fl + 1) t r ops k) = ov (Cd l) (k + 1) (sCond (Cd l) F N wh fl (t.1 + 1, t.2) r ops (k + 1)) := by
            rw [ov_ne nov, sCond, if_pos hk, if_neg hd, eb_tk]
          have hdp : dpt (t.1 + 1, t.2) r = dpt t r + 1 := by rw [dpt_bs, dpt_bs]; show t.1 + 1 + bs r = _; omega
          rw [es]
          refine (ih (i + 1) (k + 1) fl _ _ ν hC1 a1 (g1 hk) (by omega) (by omega) (by omega)).mono ?_
          rintro x ρ ⟨c2, q | ⟨t', r', k', fl', q1, q2, q3, q4, q5, q6, q7, q8⟩⟩
          · exact ⟨c1.tr c2, Or.inl q⟩
          · exact ⟨c1.tr c2, Or.inr ⟨t', r', k', fl', q1, q2, q3, q4, q5, q6, q7, by omega⟩⟩
        · have es : ov (Cd l) k (sCond (Cd l) F N wh (fl + 1) t r ops k) = ov (Cd l) (k + 1) (sCond (Cd l) F N wh fl lv0 (t :: r) ops (k + 1)) := by
            rw [ov_ne nov, sCond, if_neg (by rw [hk]; decide), if_pos hk, if_neg hd, eb_tk]
          have hdp : dpt lv0 (t :: r) = dpt t r + 1 := by show 0 + bs (t :: r) = _; rw [bs_cons]; omega
          rw [es]
          refine (ih (i + 1) (k + 1) fl _ _ ν hC1 a1 (g2 hk) (by omega) (by omega) (by omega)).mono ?_
          rintro x ρ ⟨c2, q | ⟨t', r', k', fl', q1, q2, q3, q4, q5, q6, q7, q8⟩⟩
          · exact ⟨c1.tr c2, Or.inl q⟩
          · exact ⟨c1.tr c2, Or.inr ⟨t', r', k', fl', q1, q2, q3, q4, q5, q6, q7, by omega⟩⟩
    by_cases q1 : Cd l k = -3014
    · rw [if_pos q1]; exact main (Or.inl q1)
    · rw [if_neg q1]
      by_cases q2 : Cd l k = -41
      · rw [if_pos q2]; exact main (Or.inr q2)
      · rw [if_neg q2]
        exact .ret ⟨cc.rf, Or.inr ⟨t, r, k, fl + 1, rfl, rfl, h, hD, q1, q2, hfl, Nat.le_refl _⟩⟩
/-! the CASES of a FACT -/
theorem fb_fb : ∀ f, f < 6 → jFB f = fbits.getD f 0 := by decide
theorem fs_hi : ∀ f, f < 8 → ∀ i, i < 4 → 6 ≤ f → (decide ((jshr (nI i) (nI f - 6) &&& 1) = 1)) = decide (i / 2 ^ (f - 6) % 2 = 1) := by decide
theorem sf_step {μ : JM} {a q fu f i : Nat} (h : CAS μ a q) (hf : f < 8) (hi : i < 4) : fX1_setFact_b2 (fu + 1) a (nI f) (nI i) μ = fX1_setFact_b2 fu a (nI f) (nI (i + 1)) (jsJ μ q i (fcs f i)) := by
  rw [fX1_setFact_b2, if_neg (show ¬ (4 : Int32) ≤ nI i from nI_ge (b := 4) hi (by decide)), if_neg (nI_pos (by omega))]
  by_cases c : f < 6
  · rw [if_neg (show ¬ (6 : Int32) ≤ nI f from nI_ge (b := 6) c (by decide))]
    simp only [jck_true, jde_is, jlt_is, jcl_0, beq_self_eq_true, jT_sI, jT_sJ, jP_sI, jP_sJ, jJ_sI, jI_sJ, jZ_sI, jZ_sJ, h.1, h.2.1, h.2.2, jin_nI c (by decide), jin_nI hi (by decide), nI_clamp (show f < 2 ^ 31 by omega), nI_clamp (show i < 2 ^ 31 by omega), fX1_setFact_b56, nI_1]
    unfold fcs
    rw [if_pos c, fb_fb f c]
  · rw [if_pos (show (6 : Int32) ≤ nI f from nI_le (a := 6) (by omega) (by omega)), fX1_setFact_b31]
    simp only [jck_true, jde_is, jlt_is, jcl_0, beq_self_eq_true, jT_sI, jT_sJ, jP_sI, jP_sJ, jJ_sI, jI_sJ, jZ_sI, jZ_sJ, h.1, h.2.1]
    have := fs_hi f hf i hi (by omega)
    have e : ((jshr (nI i) (nI f - 6) &&& 1) = 1) ↔ (i / 2 ^ (f - 6) % 2 = 1) := by
      constructor
      · intro z; rw [decide_eq_true z] at this; exact of_decide_eq_true this.symm
      · intro z; rw [decide_eq_true z] at this; exact of_decide_eq_true this
    unfold fcs
    rw [if_neg c]
    by_cases w : i / 2 ^ (f - 6) % 2 = 1
    · rw [if_pos (e.mpr w), if_pos w, fX1_setFact_b55]
      simp only [jck_true, jde_is, jlt_is, jcl_0, beq_self_eq_true, jT_sI, jT_sJ, jP_sI, jP_sJ, jJ_sI, jI_sJ, jZ_sI, jZ_sJ, h.2.2, jin_nI hi (by decide), nI_clamp (show i < 2 ^ 31 by omega), fX1_setFact_b56, nI_1]
    · rw [if_neg (fun z => w (e.mp z)), if_neg w, fX1_setFact_b55]
      simp only [jck_true, jde_is, jlt_is, jcl_0, beq_self_eq_true, jT_sI, jT_sJ, jP_sI, jP_sJ, jJ_sI, jI_sJ, jZ_sI, jZ_sJ, h.2.2, jin_nI hi (by decide), nI_clamp (show i < 2 ^ 31 by omega), fX1_setFact_b56, nI_1]
theorem c_setFact {μ : JM} {a q f : Nat} (h : CAS μ a q) (hf : f < 8) : fX1_setFact a (nI f) μ = some ((), s4 μ q (fcs f), 0, 0) := by
  unfold fX1_setFact
  obtain ⟨g, hg⟩ := jfu5
  have m : ∀ {μ : JM} {x k : Nat} {v : Int64}, CAS μ a q → CAS (jsJ μ x k v) a q := fun h => h
  rw [hg, z_nI, sf_step h hf (by decide), sf_step (m h) hf (by decide), sf_step (m (m h)) hf (by decide), sf_step (m (m (m h))) hf (by decide), fX1_setFact_b2, if_pos (by decide)]
  rfl
theorem defs_look (c : Int64) : ∀ cls : List Cl, (match ((defs cls).map (·.1)).idxOf? c with | some n => some ((defs cls).getD n (0, fun _ => 0)).2 | none => none) = (lfnd cls c true).map (fun i => Cl.cas (cls.getD i cl0))
  | [] => rfl
  | x :: r => by
    have ih := defs_look c r
    unfold lfnd at ih ⊢
    rw [List.findIdx?_cons]
    by_cases d : isDf x = true
    · have e : defs (x :: r) = (x.2.1, Cl.cas x) :: defs r := by unfold defs; rw [List.filter_cons, if_pos d, List.map_cons]
      rw [e, List.map_cons, List.idxOf?_cons]
      by_cases y : x.2.1 = c
      · rw [if_pos (by simpa using y), if_pos (by rw [decide_eq_true y, d]; rfl)]; rfl
      · rw [if_neg (by simpa using y), if_neg (by rw [decide_eq_false y]; simp)]
        cases hx : ((defs r).map (·.1)).idxOf? c with
        | none =>
          rw [hx] at ih
          cases hy : r.findIdx? (fun x => decide (x.2.1 = c) && (isDf x == true)) with
          | none => rfl
          | some i => rw [hy] at ih; cases ih
        | some n =>
          rw [hx] at ih
          cases hy : r.findIdx? (fun x => decide (x.2.1 = c) && (isDf x == true)) with
          | none => rw [hy] at ih; cases ih
          | some i => rw [hy] at ih; exact ih
    · have e : defs (x :: r) = defs r := by unfold defs; rw [List.filter_cons, if_neg d]
      rw [e, if_neg (by rw [show isDf x = false by simpa using d]; simp), ih]
      cases r.findIdx? (fun x => decide (x.2.1 = c) && (isDf x == true)) with
      | none => rfl
      | some i => rfl
/-- the value is told: of a FACT, or of a define -/
theorem c_op78 {B z n k ops : Nat} {μ : JM} {l : List Int32} {fo : Option Nat} {s0 : Option Nat} (hC : CT B μ) (hz : B + 121 ≤ z) (h : cAt B μ l n k) (hc : 0 < Cd l k) (h6 : jI μ (B + 19) 6 = nI ops) (ho : ops ≤ 60) (hf : ∀ f, fo = some f → f < 8) (hs : ∀ a, s0 = some a → (jT μ a).1 = 3 ∧ ∃ q b, jP μ a 8 = some q ∧ CAS μ q b) : Res (fX3_readOperand_b78 (B + 19) (oI 0 fo) s0 μ) (fun x ν => cs B z [15, 19, 68] μ ν ∧ jZ ν = jZ μ ∧ jI ν (B + 19) 5 = jI μ (B + 19) 5 ∧ ((x = 0 ∧ cF B ν l (k, fk (Cd l) k 6) ∧ ops = 60) ∨ (¬ ops = 60 ∧ x = 1 ∧ cAt B ν l n (k + 1) ∧ jI ν (B + 19) 6 = nI (ops + 1) ∧ (∀ f, fo = some f → ∀ i, i < 4 → jJ ν (B + 68) i = fcs f i) ∧ (fo = none → ∀ a q b, s0 = some a → jP μ a 8 = some q → CAS μ q b → ∀ i, i < 4 → jJ ν (B + 68) i = jJ μ b i)))) := by
  have ne0 : ¬ Cd l k = 0 := by intro e; rw [e] at hc; exact absurd hc (by decide)
  rw [fX3_readOperand_b78]
  simp only [jck_true, jde_is, jlt_is, jcl_0, beq_self_eq_true, jT_sI, jT_sJ, jP_sI, jP_sJ, jJ_sI, jI_sJ, jZ_sI, jZ_sJ, cT19 hC, h6]
  by_cases q : ops = 60
  · rw [if_neg (show ¬ nI ops < 60 from nI_nlt (b := 60) (by omega) (by omega))]
    simp only [jck_true, jde_is, jlt_is, jcl_0, beq_self_eq_true, jT_sI, jT_sJ, jP_sI, jP_sJ, jJ_sI, jI_sJ, jZ_sI, jZ_sJ, cP19_0 hC, cT15 hC]
    refine Res.cl (c_fail (z := z) 6 6 rfl (by decide) hC h) fun x ν ⟨e1, s1, f1⟩ => ?_
    subst e1
    exact .ck (by decide) (.ret ⟨s1.1.wk (by decide), s1.2, by rw [s1.1.iI (by omega) (by decide)], Or.inl ⟨rfl, f1, q⟩⟩)
  · rw [if_pos (show nI ops < 60 from nI_lt (b := 60) (by omega) (by decide)), nI_1]
    have s1 : cs B z [19] μ (jsI μ (B + 19) 6 (nI (ops + 1))) := cs.sI (by decide)
    have k6 : jI (jsI μ (B + 19) 6 (nI (ops + 1))) (B + 19) 6 = nI (ops + 1) := by rw [jI_sI, if_pos ⟨rfl, rfl⟩]
    have k5 : jI (jsI μ (B + 19) 6 (nI (ops + 1))) (B + 19) 5 = jI μ (B + 19) 5 := by rw [jI_sI, if_neg (by omega)]
    have kJ : jJ (jsI μ (B + 19) 6 (nI (ops + 1))) = jJ μ := rfl
    have kZ : jZ (jsI μ (B + 19) 6 (nI (ops + 1))) = jZ μ := rfl
    have kT : jT (jsI μ (B + 19) 6 (nI (ops + 1))) = jT μ := rfl
    have kP : jP (jsI μ (B + 19) 6 (nI (ops + 1))) = jP μ := rfl
    have a1 : cAt B (jsI μ (B + 19) 6 (nI (ops + 1))) l n k := h.ke s1 (by omega) (by decide) (by decide) (by decide)
    generalize jsI μ (B + 19) 6 (nI (ops + 1)) = μ1 at s1 k6 k5 kJ kZ kT kP a1 ⊢
    have hC1 := s1.ct hC hz
    have fin : ∀ μ2, cs B z [68] μ1 μ2 → jZ μ2 = jZ μ1 → Res (fX3_readOperand_b142 (B + 19) μ2) (fun x ν => cs B z [15] μ2 ν ∧ jZ ν = jZ μ2 ∧ x = 1 ∧ cAt B ν l n (k + 1)) := by
      intro μ2 s2 z2
      have hC2 := s2.ct hC1 hz
      have a2 := a1.ke s2 (by omega) (by decide) (by decide) (by decide)
      rw [fX3_readOperand_b142]
      simp only [jck_true, jde_is, jlt_is, jcl_0, beq_self_eq_true, jT_sI, jT_sJ, jP_sI, jP_sJ, jJ_sI, jI_sJ, jZ_sI, jZ_sJ, cT19 hC2, cP19_0 hC2, cT15 hC2]
      obtain ⟨u, ν, e, s3, a3⟩ := c_step (z := z) hC2 a2 ne0 (by omega)
      rw [e, jcl_0]
      exact .ret ⟨s3.1, s3.2, rfl, a3⟩
    have post : ∀ (μ2 : JM) (x : Int32) (ν : JM), cs B z [68] μ1 μ2 → jZ μ2 = jZ μ1 → jI μ2 = jI μ1 → (cs B z [15] μ2 ν ∧ jZ ν = jZ μ2 ∧ x = 1 ∧ cAt B ν l n (k + 1)) → cs B z [15, 19, 68] μ ν ∧ jZ ν = jZ μ ∧ jI ν (B + 19) 5 = jI μ (B + 19) 5 ∧ jI ν (B + 19) 6 = nI (ops + 1) ∧ jJ ν (B + 68) = jJ μ2 (B + 68) := by
      intro μ2 x ν s2 z2 i2 ⟨s3, z3, _, a3⟩
      refine ⟨((s1.wk (by decide)).tr (s2.wk (by decide))).tr (s3.wk (by decide)), by rw [z3, z2, kZ], ?_, ?_, s3.iJ (by omega) (by decide)⟩
      · rw [s3.iI (by omega) (by decide), i2]; exact k5
      · rw [s3.iI (by omega) (by decide), i2]; exact k6
    cases fo with
    | some f =>
      have f8 := hf f rfl
      have e : ¬ (oI 0 (some f) = -1) := by
        simp only [oI, Nat.zero_add]
        intro e
        have := congrArg Int32.toInt e
        rw [nI_toInt (by omega)] at this
        have e2 : (-1 : Int32).toInt = -1 := by decide
        omega
      rw [if_neg e]
      simp only [jck_true, jde_is, jlt_is, jcl_0, beq_self_eq_true, jT_sI, jT_sJ, jP_sI, jP_sJ, jJ_sI, jI_sJ, jZ_sI, jZ_sJ, cP19_7 hC, cT67 hC, oI, Nat.zero_add, c_setFact (ca_v hC1) f8]
      refine (fin _ (cs.q4 (i := 68) (by decide)) rfl).mono fun x ν hp => ?_
      obtain ⟨p1, p2, p3, p4, p5⟩ := post _ x ν (cs.q4 (i := 68) (by decide)) rfl rfl hp
      exact ⟨p1, p2, p3, Or.inr ⟨q, hp.2.2.1, hp.2.2.2, p4, fun f' hf' i hi => by injection hf' with hf'; subst hf'; rw [p5, jJ_s4 hi], fun z => by cases z⟩⟩
    | none =>
      rw [if_pos (show oI 0 none = -1 from rfl)]
      cases s0 with
      | none =>
        rw [if_pos rfl]
        refine (fin μ1 cs.rf rfl).mono fun x ν hp => ?_
        obtain ⟨p1, p2, p3, p4, p5⟩ := post μ1 x ν cs.rf rfl rfl hp
        exact ⟨p1, p2, p3, Or.inr ⟨q, hp.2.2.1, hp.2.2.2, p4, (fun f' hf' => by cases hf'), (fun _ a q b ha => by cases ha)⟩⟩
      | some a =>
        obtain ⟨t3, q2, b, e8, ⟨g1, g2, g3⟩⟩ := hs a rfl
        rw [if_neg (by intro z; cases z)]
        have g : CAS μ1 q2 b := ⟨by rw [kT]; exact g1, by rw [kP]; exact g2, by rw [kT]; exact g3⟩
        simp only [jck_true, jde_is, jlt_is, jcl_0, beq_self_eq_true, jT_sI, jT_sJ, jP_sI, jP_sJ, jJ_sI, jI_sJ, jZ_sI, jZ_sJ, cP19_7 hC, t3, cT67 hC, e8, c_copy (ca_v hC1) g]
        refine (fin _ (cs.q4 (i := 68) (by decide)) rfl).mono fun x ν hp => ?_
        obtain ⟨p1, p2, p3, p4, p5⟩ := post _ x ν (cs.q4 (i := 68) (by decide)) rfl rfl hp
        refine ⟨p1, p2, p3, Or.inr ⟨q, hp.2.2.1, hp.2.2.2, p4, (fun f' hf' => by cases hf'), fun _ a' q' b' ha hq hb i hi => ?_⟩⟩
        injection ha with ha
        subst ha
        rw [e8] at hq; injection hq with hq; subst hq
        have : b = b' := by have h1 := hb.2.1; rw [g2] at h1; injection h1
        subst this
        rw [p5, jJ_s4 hi, kJ]
theorem c_operand {B hi z n k ops : Nat} {μ : JM} {l : List Int32} {wh : Bool} {p1 : Option Nat} {F : List Int64} {N : List (Int64 × CS)} {x2 : Int32} (E : cEn B hi z μ wh p1 F N) (h : cAt B μ l n k) (h6 : jI μ (B + 19) 6 = nI ops) (ho : ops ≤ 60) (hx : x2 = if wh then 0 else 1) : Res (fX3_readOperand (B + 19) p1 x2 μ) (fun x ν => cs B z [15, 19, 68] μ ν ∧ jZ ν = jZ μ ∧ jI ν (B + 19) 5 = jI μ (B + 19) 5 ∧ ((∃ d, x = 0 ∧ cF B ν l (k, fk (Cd l) k d) ∧ ((¬ 0 < Cd l k ∧ d = 0) ∨ (0 < Cd l k ∧ opv F N wh (Cd l k) = none ∧ d = 3) ∨ (0 < Cd l k ∧ (∃ v, opv F N wh (Cd l k) = some v) ∧ ops = 60 ∧ d = 6))) ∨ (∃ v, 0 < Cd l k ∧ opv F N wh (Cd l k) = some v ∧ ¬ ops = 60 ∧ x = 1 ∧ cAt B ν l n (k + 1) ∧ jI ν (B + 19) 6 = nI (ops + 1) ∧ (wh = true → ∀ i, i < 4 → jJ ν (B + 68) i = v i)))) := by
  obtain ⟨hC, hF, hN, hh, hzj, hz⟩ := E
  unfold fX3_readOperand
  simp only [jck_true, jde_is, jlt_is, jcl_0, beq_self_eq_true, jT_sI, jT_sJ, jP_sI, jP_sJ, jJ_sI, jI_sJ, jZ_sI, jZ_sJ, cT19 hC, cP19_0 hC, cT15 hC, c_token hC h, c_isFree]
  by_cases q : 0 < Cd l k
  · rw [if_pos q, if_neg (by decide)]
    simp only [jck_true, jde_is, jlt_is, jcl_0, beq_self_eq_true, jT_sI, jT_sJ, jP_sI, jP_sJ, jJ_sI, jI_sJ, jZ_sI, jZ_sJ, cP19_1 hC, cT9 hC, c_find (wh9 hC) hF (by decide)]
    have hfo : ∀ f, F.idxOf? (Cd l k) = some f → f < 8 := fun f e => by have := (List.idxOf?_eq_some_iff.mp e).1; have := hF.2.1; omega
    -- behind the look-up
    have fin : ∀ s0 : Option Nat, (∀ a, s0 = some a → (jT μ a).1 = 3 ∧ ∃ q b, jP μ a 8 = some q ∧ CAS μ q b) → (wh = true → F.idxOf? (Cd l k) = none → ∀ v, opv F N wh (Cd l k) = some v → ∃ a q b, s0 = some a ∧ jP μ a 8 = some q ∧ CAS μ q b ∧ ∀ i, i < 4 → jJ μ b i = v i) → (wh = true → F.idxOf? (Cd l k) = none → (opv F N wh (Cd l k) = none ↔ s0 = none)) → Res (fX3_readOperand_b52 (B + 19) x2 (oI 0 (F.idxOf? (Cd l k))) s0 μ) (fun x ν => cs B z [15, 19, 68] μ ν ∧ jZ ν = jZ μ ∧ jI ν (B + 19) 5 = jI μ (B + 19) 5 ∧ ((∃ d, x = 0 ∧ cF B ν l (k, fk (Cd l) k d) ∧ ((¬ 0 < Cd l k ∧ d = 0) ∨ (0 < Cd l k ∧ opv F N wh (Cd l k) = none ∧ d = 3) ∨ (0 < Cd l k ∧ (∃ v, opv F N wh (Cd l k) = some v) ∧ ops = 60 ∧ d = 6))) ∨ (∃ v, 0 < Cd l k ∧ opv F N wh (Cd l k) = some v ∧ ¬ ops = 60 ∧ x = 1 ∧ cAt B ν l n (k + 1) ∧ jI ν (B + 19) 6 = nI (ops + 1) ∧ (wh = true → ∀ i, i < 4 → jJ ν (B + 68) i = v i)))) := by
      intro s0 hs hv hn
      have go : (opv F N wh (Cd l k) ≠ none) → Res (fX3_readOperand_b78 (B + 19) (oI 0 (F.idxOf? (Cd l k))) s0 μ) (fun x ν => cs B z [15, 19, 68] μ ν ∧ jZ ν = jZ μ ∧ jI ν (B + 19) 5 = jI μ (B + 19) 5 ∧ ((∃ d, x = 0 ∧ cF B ν l (k, fk (Cd l) k d) ∧ ((¬ 0 < Cd l k ∧ d = 0) ∨ (0 < Cd l k ∧ opv F N wh (Cd l k) = none ∧ d = 3) ∨ (0 < Cd l k ∧ (∃ v, opv F N wh (Cd l k) = some v) ∧ ops = 60 ∧ d = 6))) ∨ (∃ v, 0 < Cd l k ∧ opv F N wh (Cd l k) = some v ∧ ¬ ops = 60 ∧ x = 1 ∧ cAt B ν l n (k + 1) ∧ jI ν (B + 19) 6 = nI (ops + 1) ∧ (wh = true → ∀ i, i < 4 → jJ ν (B + 68) i = v i)))) := by
        intro ho2
        obtain ⟨v, hov⟩ : ∃ v, opv F N wh (Cd l k) = some v := by
          cases hov : opv F N wh (Cd l k) with
          | none => exact absurd hov ho2
          | some v => exact ⟨v, rfl⟩
        refine (c_op78 (z := z) hC hz h q h6 ho hfo hs).mono fun x ν ⟨p1, p2, p3, p4⟩ => ⟨p1, p2, p3, ?_⟩
        rcases p4 with ⟨e1, e2, e3⟩ | ⟨e1, e2, e3, e4, e5, e6⟩
        · exact Or.inl ⟨6, e1, e2, Or.inr (Or.inr ⟨q, ⟨v, hov⟩, e3, rfl⟩)⟩
        · refine Or.inr ⟨v, q, hov, e1, e2, e3, e4, fun w i hi => ?_⟩
          cases hfx : F.idxOf? (Cd l k) with
          | some f =>
            have : v = fcs f := by
              unfold opv at hov; rw [hfx] at hov; injection hov with hov; exact hov.symm
            rw [this]; exact e5 f hfx i hi
          | none =>
            obtain ⟨a, qq, b, g1, g2, g3, g4⟩ := hv w hfx v hov
            rw [e6 hfx a qq b g1 g2 g3 i hi]; exact g4 i hi
      rw [fX3_readOperand_b52]
      cases hfx : F.idxOf? (Cd l k) with
      | some f =>
        rw [hfx] at go
        have e : ¬ (oI 0 (some f) = -1) := by
          simp only [oI, Nat.zero_add]
          intro e
          have := congrArg Int32.toInt e
          rw [nI_toInt (by have := hfo f hfx; omega)] at this
          have e2 : (-1 : Int32).toInt = -1 := by decide
          omega
        rw [if_neg e]
        exact go (by unfold opv; rw [hfx]; intro z; cases z)
      | none =>
        rw [hfx] at go
        rw [if_pos (show oI 0 none = -1 from rfl)]
        cases wh with
        | true =>
          cases s0 with
          | none =>
            rw [if_pos rfl, if_pos (by rw [hx]; rfl)]
            simp only [jck_true, jde_is, jlt_is, jcl_0, beq_self_eq_true, jT_sI, jT_sJ, jP_sI, jP_sJ, jJ_sI, jI_sJ, jZ_sI, jZ_sJ, cT19 hC, cP19_0 hC, cT15 hC]
            refine Res.cl (c_fail (z := z) 3 3 rfl (by decide) hC h) fun x ν ⟨e1, s1, f1⟩ => ?_
            subst e1
            exact .ck (by decide) (.ret ⟨s1.1.wk (by decide), s1.2, by rw [s1.1.iI (by omega) (by decide)], Or.inl ⟨3, rfl, f1, Or.inr (Or.inl ⟨q, (hn rfl hfx).mpr rfl, rfl⟩)⟩⟩)
          | some a =>
            rw [if_neg (by intro z; cases z)]
            exact go (fun z => by have := (hn rfl hfx).mp z; cases this)
        | false =>
          have g := go (by unfold opv; rw [hfx]; intro z; cases z)
          by_cases w : s0 = none
          · rw [if_pos w, if_neg (by rw [hx]; decide)]; exact g
          · rw [if_neg w]; exact g
    cases p1 with
    | none =>
      rw [if_pos rfl]
      obtain ⟨hw, hN⟩ := hN
      refine fin none (fun a ha => by cases ha) (fun _ hf v hv => ?_) (fun _ hf => ?_)
      · unfold opv at hv; rw [hf, hN, hw] at hv; cases hv
      · unfold opv; rw [hf, hN, hw]; exact ⟨fun _ => rfl, fun _ => rfl⟩
    | some v =>
      obtain ⟨qq, cap, cls, hL, hcap, hN⟩ := hN
      rw [if_neg (by intro z; cases z)]
      have k9 : (jT μ v).1 = 9 := hL.2.2.1
      simp only [jck_true, jde_is, jlt_is, jcl_0, beq_self_eq_true, jT_sI, jT_sJ, jP_sI, jP_sJ, jJ_sI, jI_sJ, jZ_sI, jZ_sJ, k9, c_lfind true 1 rfl hL hcap, c_lfa hL hcap]
      have el : ∀ i, lfnd cls (Cd l k) true = some i → ∃ a, jP μ qq i = some a ∧ cE (B + 121) hi wh μ a (cls.getD i cl0) := fun i hi => hL.2.2.2.2.2.2.2 i (lfnd_lt hi)
      have ov2 : wh = true → F.idxOf? (Cd l k) = none → opv F N wh (Cd l k) = (lfnd cls (Cd l k) true).map (fun i => Cl.cas (cls.getD i cl0)) := by
        intro w hf
        rw [← defs_look]
        unfold opv
        rw [hf, w, hN w]; rfl
      cases hx2 : lfnd cls (Cd l k) true with
      | none =>
        refine fin none (fun a ha => by cases ha) (fun w hf v hv => ?_) (fun w hf => ?_)
        · rw [ov2 w hf, hx2] at hv; cases hv
        · rw [ov2 w hf, hx2]; exact ⟨fun _ => rfl, fun _ => rfl⟩
      | some i =>
        obtain ⟨a, e1, q2, b, t, -, -, -, -, a5, a6, a7, a8, a9, a10, a11, a12, a13⟩ := el i hx2
        show Res (fX3_readOperand_b52 (B + 19) x2 (oI 0 (F.idxOf? (Cd l k))) (jP μ qq i) μ) _
        rw [e1]
        refine fin (some a) (fun a' ha => ?_) (fun w hf v hv => ?_) (fun w hf => ?_)
        · injection ha with ha; subst ha; exact ⟨a5, q2, b, a8, a9⟩
        · rw [ov2 w hf, hx2] at hv
          injection hv with hv
          subst hv
          exact ⟨a, q2, b, rfl, a8, a9, (a13 w).2.2.2.2.2⟩
        · rw [ov2 w hf, hx2]; exact ⟨fun z => (by cases z), fun z => (by cases z)⟩
  · rw [if_neg q, if_pos rfl]
    refine Res.cl (c_fail (z := z) 0 0 rfl (by decide) hC h) fun x ν ⟨e1, s1, f1⟩ => ?_
    subst e1
    exact .ck (by decide) (.ret ⟨s1.1.wk (by decide), s1.2, by rw [s1.1.iI (by omega) (by decide)], Or.inl ⟨0, rfl, f1, Or.inl ⟨q, rfl⟩⟩⟩)
