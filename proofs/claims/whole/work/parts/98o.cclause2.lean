/-! the class: Reader: defines, whole CLAUSES -/
theorem sNm_lab {C : Nat → Int64} {F : List Int64} {md : Nat} {cls : List Cl} {P A : List Int64} {k : Nat} : sLabel C F md cls P A k = eb (sNm C F md cls false k) fun _ => eb (tk C k) fun k1 => sDeed C F (decide (md = 0)) cls P A k k1 := by
  unfold sLabel sNm
  rw [eb_as]; congr 1; funext u
  by_cases q1 : md = 0 ∧ (lfnd cls (C k) false).isSome = true
  · rw [if_pos q1, if_pos ⟨q1.1, Or.inr q1.2⟩]; rfl
  · have n1 : ¬ (md = 0 ∧ ((false = true ∧ (F.idxOf? (C k)).isSome = true) ∨ (lfnd cls (C k) false).isSome = true)) := fun z => by
      rcases z.2 with w | w
      · exact absurd w.1 (by decide)
      · exact q1 ⟨z.1, w⟩
    rw [if_neg q1, if_neg n1]
    by_cases q2 : md = 2 ∧ lfnd cls (C k) false = none
    · rw [if_pos q2, if_pos q2]; rfl
    · rw [if_neg q2, if_neg q2]
      by_cases q3 : md = 0 ∧ 24 ≤ cls.length
      · rw [if_pos q3, if_pos q3]; rfl
      · rw [if_neg q3, if_neg q3]; rfl
theorem sNm_def {C : Nat → Int64} {F : List Int64} {md : Nat} {cls : List Cl} {P A : List Int64} {k : Nat} (h : ¬ (md = 0 ∧ 24 ≤ cls.length)) : sDefine C F md cls P A k = eb (tk C k) fun k1 => eb (sNm C F md cls true k1) fun _ => eb (tk C k1) fun k2 => eb (exC C (-3001) k2) fun k3 => eb (sCon C F (dfs (decide (md = 0)) cls) (decide (md = 0)) 2000 k3) fun x => .ok ((0, C k1, -1, -1, -1, -1, 0, x.1, sl C k x.2), P, A, x.2) := by
  unfold sDefine sNm
  rw [if_neg h]; congr 1; funext k1
  rw [eb_as]; congr 1; funext u
  by_cases q1 : md = 0 ∧ ((F.idxOf? (C k1)).isSome = true ∨ (lfnd cls (C k1) true).isSome = true)
  · rw [if_pos q1, if_pos ⟨q1.1, by
      rcases q1.2 with w | w
      · exact Or.inl ⟨rfl, w⟩
      · exact Or.inr w⟩]; rfl
  · have n1 : ¬ (md = 0 ∧ ((true = true ∧ (F.idxOf? (C k1)).isSome = true) ∨ (lfnd cls (C k1) true).isSome = true)) := fun z => q1 ⟨z.1, by
      rcases z.2 with w | w
      · exact Or.inl w.2
      · exact Or.inr w⟩
    rw [if_neg q1, if_neg n1]
    by_cases q2 : md = 2 ∧ lfnd cls (C k1) true = none
    · rw [if_pos q2, if_pos q2]; rfl
    · rw [if_neg q2, if_neg q2, if_neg h]; rfl
/-- what a CLAUSE at a is, of what was read -/
def clG (ν : JM) (l : List Int32) (k a md : Nat) (cls : List Cl) (P' A' : List Int64) (y : Cl × List Int64 × List Int64 × Nat) : Prop := (md = 0 → cls.length < 24) ∧ y.2.1 = P' ∧ y.2.2.1 = A' ∧ Cl.tks y.1 = sl (Cd l) k y.2.2.2 ∧ ∃ p ac o, cY ν a (decide (md = 0)) y.1.1 y.1.2.1 p ac y.1.2.2.2.2.1 y.1.2.2.2.2.2.1 o (Cl.cas y.1) ∧ (md = 0 → p = y.1.2.2.1 ∧ ac = y.1.2.2.2.1 ∧ o = Cl.ovr y.1)
theorem c_define {B hi z n k a : Nat} {μ : JM} {md v q cap : Nat} {cls : List Cl} {F P A : List Int64} {l : List Int32} (R : rEn B hi z μ md v q cap cls F) (h : cAt B μ l n k) (hk : Cd l k = -3000) (ha : z ≤ a) (hj : a + 3 ≤ jZ μ) (X : cX μ a 0 0 (-1) (-1) (-1) (-1) 0) : Res (fX4_readDefine (B + 18) (some a) μ) (fun x ν => cc B z μ ν ∧ cRd B ν l n (k + 1) x (sDefine (Cd l) F md cls P A k) (fun y => y.2.2.2) (clG ν l k a md cls P A)) := by
  obtain ⟨hC, hF, h5, hmd, h6, hL, hcap, hhz, hzj, hz, h66⟩ := id R
  have nov : ¬ Cd l k = -2000 := by rw [hk]; decide
  have ne0 : ¬ Cd l k = 0 := by rw [hk]; decide
  unfold fX4_readDefine
  simp only [jck_true, jde_is, jlt_is, jcl_0, beq_self_eq_true, jT_sI, jT_sJ, jP_sI, jP_sJ, jJ_sI, jI_sJ, jZ_sI, jZ_sJ, cT18 hC, h5]
  have main : ¬ (md = 0 ∧ 24 ≤ cls.length) → Res (fX4_readDefine_b28 (B + 18) (some a) μ) (fun x ν => cc B z μ ν ∧ cRd B ν l n (k + 1) x (sDefine (Cd l) F md cls P A k) (fun y => y.2.2.2) (clG ν l k a md cls P A)) := by
    intro hc
    rw [fX4_readDefine_b28, sNm_def hc, eb_tk, ← eb_ov]
    simp only [jck_true, jde_is, jlt_is, jcl_0, beq_self_eq_true, jT_sI, jT_sJ, jP_sI, jP_sJ, jJ_sI, jI_sJ, jZ_sI, jZ_sJ, cT18 hC, cP18_0 hC, cT15 hC]
    refine Res.cl (c_step (z := jZ μ) hC h ne0 (by omega)) fun _ μ1 ⟨s1, a1⟩ => ?_
    have s1z : cn B z [15] μ μ1 := ⟨s1.1.lo (by omega), s1.2⟩
    have R1 := R.k15 s1z.1
    have hC1 := R1.1
    have X1 := s1.cl hz ha hj X
    have hj1 : a + 3 ≤ jZ μ1 := by rw [s1.2]; exact hj
    simp only [jck_true, jde_is, jlt_is, jcl_0, beq_self_eq_true, jT_sI, jT_sJ, jP_sI, jP_sJ, jJ_sI, jI_sJ, jZ_sI, jZ_sJ, cT18 hC1]
    refine Res.cl (c_name (a := a) true 1 rfl R1 a1 ha hj1 X1) fun x μ2 ⟨s2, j2, P2⟩ => ?_
    have R2 := R1.k15 s2.1
    have hC2 := R2.1
    have hj2 : a + 3 ≤ jZ μ2 := by rw [s2.2]; exact hj1
    have c12 := (s1z.tc hz).tr (s2.tc hz)
    rcases P2 with ⟨e, es, rfl, f2⟩ | ⟨es, q1, rfl, a2, X2⟩
    · rw [if_pos rfl, es, eb_err]
      exact .ret ⟨c12, Or.inl ⟨e, rfl, rfl, f2⟩⟩
    · have nov1 : ¬ Cd l (k + 1) = -2000 := by intro e; rw [e] at q1; exact absurd q1 (by decide)
      rw [if_neg (by decide), es, ov_ne nov1, eb_ok, eb_tk, ov_exC (by decide)]
      simp only [jck_true, jde_is, jlt_is, jcl_0, beq_self_eq_true, jT_sI, jT_sJ, jP_sI, jP_sJ, jJ_sI, jI_sJ, jZ_sI, jZ_sJ, cT18 hC2, cP18_0 hC2, cT15 hC2]
      refine Res.cl (c_take (z := jZ μ2) (-3001) (by decide) hC2 a2 (by omega)) fun x μ3 ⟨s3, P3⟩ => ?_
      have s3z : cn B z [15] μ2 μ3 := ⟨s3.1.lo (by omega), s3.2⟩
      have R3 := R2.k15 s3z.1
      have hC3 := R3.1
      have X3 := s3.cl hz ha hj2 X2
      have hj3 : a + 3 ≤ jZ μ3 := by rw [s3.2]; exact hj2
      have c13 := c12.tr (s3z.tc hz)
      rcases P3 with ⟨c3, rfl, a3⟩ | ⟨c3, rfl, f3⟩
      · rw [if_neg (by decide), if_pos c3]
        simp only [jck_true, jde_is, jlt_is, jcl_0, beq_self_eq_true, jT_sI, jT_sJ, jP_sI, jP_sJ, jJ_sI, jI_sJ, jZ_sI, jZ_sJ, cT18 hC3, R3.2.2.1, R3.2.2.2.2.1, cP18_4 hC3]
        have fin : ∀ x2 : Int32, (x2 = if decide (md = 0) then 0 else 1) → Res (fX4_readDefine_b77 (B + 18) (some a) x2 (some v) (some (B + 19)) μ3) (fun x ν => cc B z μ ν ∧ cRd B ν l n (k + 1) x (ov (Cd l) (k + 1 + 1 + 1) (eb (sCon (Cd l) F (dfs (decide (md = 0)) cls) (decide (md = 0)) 2000 (k + 1 + 1 + 1)) fun x => .ok ((0, Cd l (k + 1), -1, -1, -1, -1, 0, x.1, sl (Cd l) k x.2), P, A, x.2))) (fun y => y.2.2.2) (clG ν l k a md cls P A)) := by
          intro x2 hx
          rw [fX4_readDefine_b77, ← eb_ov]
          simp only [jck_true, jde_is, jlt_is, jcl_0, beq_self_eq_true, jT_sI, jT_sJ, jP_sI, jP_sJ, jJ_sI, jI_sJ, jZ_sI, jZ_sJ, cT19 hC3]
          refine Res.cl (c_read hx R3.ce a3 R3.2.2.2.2.2.2.2.2.2.2) fun x μ4 ⟨c4, P4⟩ => ?_
          have c4z := c4.lo R3.2.2.2.2.2.2.2.2.1
          have R4 := R3.kcc c4z
          have hC4 := R4.1
          have X4 := X3.ke c4.1 cda_lt (Nat.le_refl _) (by omega) hj3
          have c14 := c13.tr c4z
          rcases P4 with ⟨e, es, rfl, f4⟩ | ⟨y, es, rfl, a4, k4, hv⟩
          · rw [if_pos rfl, es, eb_err]
            exact .ret ⟨c14, Or.inl ⟨e, rfl, rfl, f4⟩⟩
          · rw [if_neg (by decide), es, eb_ov, eb_ok]
            simp only [jck_true, jde_is, jlt_is, jcl_0, beq_self_eq_true, jT_sI, jT_sJ, jP_sI, jP_sJ, jJ_sI, jI_sJ, jZ_sI, jZ_sJ, X4.1, cT18 hC4, cP18_4 hC4, cT19 hC4, X4.2.1, X4.2.2.1.1, cP19_7 hC4, c_copy X4.2.2.1 (ca_v hC4)]
            have s5 : cs B z [15] μ4 (s4 μ4 (a + 2) (fun i => jJ μ4 (B + 68) i)) := cs.z4 (by omega)
            have a5 := a4.ke (z := z) (as := []) (ν := s4 μ4 (a + 2) (fun i => jJ μ4 (B + 68) i)) (cs.z4 (by omega)) (by omega) (by decide) (by decide) (by decide)
            have k4 : k + 1 + 1 + 1 ≤ y.2 := k4
            exact .ret ⟨c14.tr ⟨s5.wk (by decide), rfl, rfl⟩, Or.inr ⟨((0, Cd l (k + 1), -1, -1, -1, -1, 0, y.1, sl (Cd l) k y.2), P, A, y.2), rfl, rfl, a5, by show k + 1 ≤ y.2; omega, fun m => by omega, rfl, rfl, rfl, -1, -1, 0, ⟨X4.w4, fun t i hi => by rw [jJ_s4 hi, hv t i hi]; rfl⟩, fun _ => ⟨rfl, rfl, rfl⟩⟩⟩
        by_cases m0 : md = 0
        · rw [if_pos (by rw [m0]; rfl)]
          exact fin 0 (by rw [decide_eq_true m0]; rfl)
        · rw [if_neg (nI_ne0 (by omega) (by omega))]
          exact fin 1 (by rw [decide_eq_false m0]; rfl)
      · rw [if_pos rfl, if_neg c3]
        exact .ret ⟨c13, Or.inl ⟨_, rfl, rfl, f3⟩⟩
  have k9 : (jT μ v).1 = 9 := hL.2.2.1
  have hlen := hL.2.2.2.2.1
  by_cases m0 : md = 0
  · rw [if_pos (by rw [m0]; rfl)]
    simp only [jck_true, jde_is, jlt_is, jcl_0, beq_self_eq_true, jT_sI, jT_sJ, jP_sI, jP_sJ, jJ_sI, jI_sJ, jZ_sI, jZ_sJ, h6, k9, hL.2.2.2.1]
    by_cases c24 : cls.length < 24
    · rw [if_pos (show nI cls.length < 24 from nI_lt (b := 24) c24 (by decide))]
      exact main (fun t => by omega)
    · rw [if_neg (show ¬ nI cls.length < 24 from nI_nlt (b := 24) (by omega) (by omega))]
      simp only [jck_true, jde_is, jlt_is, jcl_0, beq_self_eq_true, jT_sI, jT_sJ, jP_sI, jP_sJ, jJ_sI, jI_sJ, jZ_sI, jZ_sJ, cP18_0 hC, cT15 hC]
      refine (c_fl (z := z) 4 4 rfl (by decide) hC h).mono ?_
      rintro x ν ⟨rfl, s1, f1⟩
      refine ⟨s1.tc hz, Or.inl ⟨_, ?_, rfl, f1⟩⟩
      unfold sDefine fk
      rw [if_pos ⟨m0, by omega⟩, if_neg nov]
  · rw [if_neg (nI_ne0 (by omega) (by omega))]
    exact main (fun t => m0 t.1)
