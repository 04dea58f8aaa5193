/-! the class: facts, world -/
theorem c_facts {B : Nat} {μ : JM} {s : SS} (h : cSt B μ s) : Rq (fX10_facts B μ) (cQ B 0 0 μ (spFacts s)) := by
  have hB := h.1.2.2
  unfold fX10_facts
  rw [jck_of (by rw [cT0 h.1]; rfl)]
  refine Rq.cl0 (c_useTape h) fun _ μ1 ⟨s1, z1, h1, n, a1⟩ => ?_
  have hC1 := h1.1
  have hB1 := hC1.2.2
  have k1 : kM B μ μ1 := s1.km hB hB (by decide)
  have hF1 : cW B 9 8 μ1 (sF s) := h1.2.1.2.1
  simp only [jck_true, jde_is, jlt_is, jcl_0, beq_self_eq_true, jT_sI, jT_sJ, jP_sI, jP_sJ, jJ_sI, jI_sJ, jZ_sI, jZ_sJ, cT0 hC1, cP0_3 hC1, cT9 hC1, hF1.1]
  unfold spFacts
  by_cases q1 : sF s = []
  · rw [if_pos q1, if_pos (by rw [q1]; decide)]
    simp only [jck_true, jde_is, jlt_is, jcl_0, beq_self_eq_true, jT_sI, jT_sJ, jP_sI, jP_sJ, jJ_sI, jI_sJ, jZ_sI, jZ_sJ, cP0_7 hC1, cT18 hC1]
    unfold fX4_readFacts
    have hF0 : cW B 9 8 μ1 [] := by rw [q1] at hF1; exact hF1
    have RR := c_fact_l (z := jZ μ1) (l := sTp s) (n := n) hB1 jfuel 10 [] 0 μ1 hC1 a1 hF0 (jfuel_gt (by decide)) (by decide)
    have es : ov (Cd (sTp s)) 0 (sFa (Cd (sTp s)) 10 [] 0) = sFacts (Cd (sTp s)) := rfl
    rw [es] at RR
    refine Rq.cl0 RR fun x μ2 ⟨s2, Q⟩ => ?_
    have hC2 := s2.1.ct hC1 hB1
    have k2 : kM B μ1 μ2 := s2.1.km hB1 hB1 (by decide)
    obtain ⟨g1, g2, g3, g4, g5, g6, g7, g8⟩ := h1
    have r2 := s2.1.tocr
    have n66 : jI μ2 (B + 66) 0 = 0 := by rw [s2.1.iI (by omega) (by decide)]; exact g2.2.2.2.2
    have w1 := cW.kr g2.1 r2 (by omega) (by decide) (by decide)
    have w11 := g2.2.2.1.kr r2 (by omega) (by decide) (by decide)
    have w13 := g2.2.2.2.1.kr r2 (by omega) (by decide) (by decide)
    have t2 := g3.kr r2 hB1 (by decide) (by decide)
    have o2 := g4.kr r2 hB1 (by decide) (by decide)
    have v2 := g5.kr r2 (by decide) hB1
    have u2 := g6.kr r2 hB1 (by decide)
    have d2 := g7.kr r2 hB1 (by decide)
    have c2 := g8.kr r2 hB1 (by decide) (by decide)
    rcases Q with ⟨e, ee, rfl, f, w9⟩ | ⟨F2, ee, rfl, w9, ne⟩
    · rw [if_pos rfl, ee]
      simp only [jck_true, jde_is, jlt_is, jcl_0, beq_self_eq_true, jT_sI, jT_sJ, jP_sI, jP_sJ, jJ_sI, jI_sJ, jZ_sI, jZ_sJ, cT0 hC2, cP0_6 hC2, cT15 hC2]
      rw [f.1]
      exact .ret ⟨Nat.le_refl _, Nat.le_refl _, rfl, ⟨hC2, ⟨w1, by show cW B 9 8 μ2 (sF s); rw [q1]; exact w9, w11, w13, n66⟩, t2, o2, v2, u2, d2, c2⟩, k1.tr k2⟩
    · rw [if_neg (by decide), ee]
      have hl := w9.2.1
      have hB2 := hC2.2.2
      simp only [jck_true, jde_is, jlt_is, jcl_0, beq_self_eq_true, jT_sI, jT_sJ, jP_sI, jP_sJ, jJ_sI, jI_sJ, jZ_sI, jZ_sJ, cT0 hC2, c_caseCount hC2 w9, cP0_10 hC2, cT71 hC2, c_setFirst (ca_w hC2) (show F2.length < 9 by omega), jT_s4, jP_s4, jI_s4, cP0_3 hC2, cT9 hC2, w9.1]
      have s3 : cs B (jZ μ2) [72] μ2 (s4 μ2 (B + 72) (allC F2.length)) := cs.q4 (by decide)
      have r3 := s3.tocr
      refine .ret ⟨Nat.le_refl _, Nat.le_refl _, rfl, ⟨s3.ct hC2 hB2, ⟨cW.kr w1 r3 (by omega) (by decide) (by decide), w9.kr r3 (by omega) (by decide) (by decide), w11.kr r3 (by omega) (by decide) (by decide), w13.kr r3 (by omega) (by decide) (by decide), n66⟩, t2.kr r3 hB2 (by decide) (by decide), o2.kr r3 hB2 (by decide) (by decide), v2.kr r3 (by decide) hB2, u2.kr r3 hB2 (by decide), fun i hi => jJ_s4 hi, c2.kr r3 hB2 (by decide) (by decide)⟩, (k1.tr k2).tr (s3.km hB2 hB2 (by decide))⟩
  · have hl : 0 < (sF s).length := List.length_pos_iff.mpr q1
    have := hF1.2.1
    rw [if_neg q1, if_neg (nI_nle hl (by omega))]
    exact .ret ⟨Nat.le_refl _, Nat.le_refl _, rfl, h1, k1⟩
theorem c_world {B : Nat} {μ : JM} {s : SS} (h : cSt B μ s) : Rq (fX10_world B μ) (cQ B 0 0 μ (spWorld s)) := by
  have hB := h.1.2.2
  unfold fX10_world
  rw [jck_of (by rw [cT0 h.1]; rfl)]
  refine Rq.cl0 (c_useTape h) fun _ μ1 ⟨s1, z1, h1, n, a1⟩ => ?_
  have hC1 := h1.1
  have hB1 := hC1.2.2
  have k1 : kM B μ μ1 := s1.km hB hB (by decide)
  have hF1 : cW B 9 8 μ1 (sF s) := h1.2.1.2.1
  simp only [jck_true, jde_is, jlt_is, jcl_0, beq_self_eq_true, jT_sI, jT_sJ, jP_sI, jP_sJ, jJ_sI, jI_sJ, jZ_sI, jZ_sJ, cT0 hC1, cP0_3 hC1, cT9 hC1, hF1.1]
  unfold spWorld
  by_cases q1 : sF s = []
  · rw [if_pos q1, if_pos (by rw [q1]; rfl)]
    exact .ret ⟨Nat.le_refl _, Nat.le_refl _, rfl, h1, k1⟩
  · have hl : 0 < (sF s).length := List.length_pos_iff.mpr q1
    have hl8 := hF1.2.1
    rw [if_neg q1, if_neg (nI_ne0 hl (by omega))]
    simp only [jck_true, jde_is, jlt_is, jcl_0, beq_self_eq_true, jT_sI, jT_sJ, jP_sI, jP_sJ, jJ_sI, jI_sJ, jZ_sI, jZ_sJ, cP0_7 hC1, cT18 hC1]
    unfold fX4_readWorld
    simp only [jck_true, jde_is, jlt_is, jcl_0, beq_self_eq_true, jT_sI, jT_sJ, jP_sI, jP_sJ, jJ_sI, jI_sJ, jZ_sI, jZ_sJ, cT18 hC1, cP18_0 hC1, cT15 hC1, c_token hC1 a1, lg_cmp_0]
    -- told: the WORLD
    have fin : ∀ (μ2 : JM) (v : CS), cc B (jZ μ1) μ1 μ2 → CV μ2 (B + 68) v → Rq (if (some (B + 67) : Option Nat) = none then (jck ((jT μ2 B).1 == 11) <| jde (jP μ2 B 6) fun q78 => jck ((jT μ2 q78).1 == 8) <| some (((-2 : Int32) - (jI μ2 q78 5)), μ2, 0, 0)) else (jck ((jT μ2 B).1 == 11) <| jcl (fX10_caseCount B μ2) fun r30 μ31 => jde (jP μ2 B 10) fun q39 => jck ((jT μ31 q39).1 == 2) <| jcl (fX1_setFirst q39 r30 μ31) fun u42 μ43 => jck ((jT μ43 B).1 == 11) <| jde (jP μ43 B 10) fun q52 => jck ((jT μ43 q52).1 == 2) <| jcl (fX1_and q52 (some (B + 67)) μ43) fun u55 μ56 => jck ((jT μ56 B).1 == 11) <| jde (jP μ56 B 10) fun q65 => jck ((jT μ56 q65).1 == 2) <| jcl (fX1_total q65 μ56) fun r68 μ69 => some (r68, μ69, 0, 0))) (cQ B 0 0 μ (cntW (wW (wTp s []) (fun i => allC (sF s).length i &&& v i)), wW (wTp s []) (fun i => allC (sF s).length i &&& v i))) := by
      intro μ2 v c2 hv
      have h2 : cSt B μ2 (wTp s []) := h1.kr c2.1.tocr cda_lt (by decide) (c2.2.1.trans h1.2.1.2.2.2.2)
      have hC2 := h2.1
      have hB2 := hC2.2.2
      have w9 : cW B 9 8 μ2 (sF s) := h2.2.1.2.1
      rw [if_neg (by intro z; cases z)]
      simp only [jck_true, jde_is, jlt_is, jcl_0, beq_self_eq_true, jT_sI, jT_sJ, jP_sI, jP_sJ, jJ_sI, jI_sJ, jZ_sI, jZ_sJ, cT0 hC2, c_caseCount hC2 w9, cP0_10 hC2, cT71 hC2, c_setFirst (ca_w hC2) (show (sF s).length < 9 by omega), jT_s4, jP_s4]
      have s3 : cs B (jZ μ2) [72] μ2 (s4 μ2 (B + 72) (allC (sF s).length)) := cs.q4 (by decide)
      have hC3 := s3.ct hC2 hB2
      rw [c_and (ca_w hC3) (ca_v hC3), jcl_0]
      have ev : s4 (s4 μ2 (B + 72) (allC (sF s).length)) (B + 72) (fun i => jJ (s4 μ2 (B + 72) (allC (sF s).length)) (B + 72) i &&& jJ (s4 μ2 (B + 72) (allC (sF s).length)) (B + 68) i) = s4 (s4 μ2 (B + 72) (allC (sF s).length)) (B + 72) (fun i => allC (sF s).length i &&& v i) := s4_cg fun i hi => by rw [jJ_s4 hi, jJ_s4_ne (by omega), hv i hi]
      rw [ev]
      have s4x : cs B (jZ μ2) [72] μ2 (s4 (s4 μ2 (B + 72) (allC (sF s).length)) (B + 72) (fun i => allC (sF s).length i &&& v i)) := s3.tr (cs.q4 (by decide))
      have V4 : CV (s4 (s4 μ2 (B + 72) (allC (sF s).length)) (B + 72) (fun i => allC (sF s).length i &&& v i)) (B + 72) (fun i => allC (sF s).length i &&& v i) := fun i hi => jJ_s4 hi
      generalize s4 (s4 μ2 (B + 72) (allC (sF s).length)) (B + 72) (fun i => allC (sF s).length i &&& v i) = μ4 at s4x V4 ⊢
      have hC4 := s4x.ct hC2 hB2
      have r4 := s4x.tocr
      simp only [jck_true, jde_is, jlt_is, jcl_0, beq_self_eq_true, jT_sI, jT_sJ, jP_sI, jP_sJ, jJ_sI, jI_sJ, jZ_sI, jZ_sJ, cT0 hC4, cP0_10 hC4, cT71 hC4, c_total (ca_w hC4) V4]
      obtain ⟨g1, g2, g3, g4, g5, g6, g7, g8⟩ := h2
      exact .ret ⟨Nat.le_refl _, Nat.le_refl _, rfl, ⟨hC4, g2.kr r4 hB2 (by decide) (by rw [s4x.iI (by omega) (by decide)]; exact g2.2.2.2.2), g3.kr r4 hB2 (by decide) (by decide), g4.kr r4 hB2 (by decide) (by decide), g5.kr r4 (by decide) hB2, g6.kr r4 hB2 (by decide), V4, g8.kr r4 hB2 (by decide) (by decide)⟩, (k1.tr (c2.1.tocr.km hB1 hB1 (by decide))).tr (s4x.km hB2 hB2 (by decide))⟩
    -- refused
    have bad : ∀ (μ2 : JM) (e : Er), cc B (jZ μ1) μ1 μ2 → cF B μ2 (sTp s) e → Rq (if (none : Option Nat) = none then (jck ((jT μ2 B).1 == 11) <| jde (jP μ2 B 6) fun q78 => jck ((jT μ2 q78).1 == 8) <| some (((-2 : Int32) - (jI μ2 q78 5)), μ2, 0, 0)) else (jck ((jT μ2 B).1 == 11) <| jcl (fX10_caseCount B μ2) fun r30 μ31 => jde (jP μ2 B 10) fun q39 => jck ((jT μ31 q39).1 == 2) <| jcl (fX1_setFirst q39 r30 μ31) fun u42 μ43 => jck ((jT μ43 B).1 == 11) <| jde (jP μ43 B 10) fun q52 => jck ((jT μ43 q52).1 == 2) <| jcl (fX1_and q52 none μ43) fun u55 μ56 => jck ((jT μ56 B).1 == 11) <| jde (jP μ56 B 10) fun q65 => jck ((jT μ56 q65).1 == 2) <| jcl (fX1_total q65 μ56) fun r68 μ69 => some (r68, μ69, 0, 0))) (cQ B 0 0 μ (fltI (sTp s) e, wTp s [])) := by
      intro μ2 e c2 f
      have h2 : cSt B μ2 (wTp s []) := h1.kr c2.1.tocr cda_lt (by decide) (c2.2.1.trans h1.2.1.2.2.2.2)
      have hC2 := h2.1
      rw [if_pos rfl]
      simp only [jck_true, jde_is, jlt_is, jcl_0, beq_self_eq_true, jT_sI, jT_sJ, jP_sI, jP_sJ, jJ_sI, jI_sJ, jZ_sI, jZ_sJ, cT0 hC2, cP0_6 hC2, cT15 hC2]
      rw [f.1]
      exact .ret ⟨Nat.le_refl _, Nat.le_refl _, rfl, h2, k1.tr (c2.1.tocr.km hB1 hB1 (by decide))⟩
    by_cases q0 : Cd (sTp s) 0 = 0
    · rw [if_pos q0, if_neg (by rw [q0]; decide), if_pos q0]
      simp only [jck_true, jde_is, jlt_is, jcl_0, beq_self_eq_true, jT_sI, jT_sJ, jP_sI, jP_sJ, jJ_sI, jI_sJ, jZ_sI, jZ_sJ, cT18 hC1, cP18_4 hC1, cT19 hC1, cP19_7 hC1, cT67 hC1, c_fill (ca_v hC1), jT_s4, jP_s4]
      have s2 : cs B (jZ μ1) CDA μ1 (s4 μ1 (B + 68) (fun _ => -1)) := cs.q4 (by decide)
      have ew : (fun i => allC (sF s).length i &&& (fun _ => (-1 : Int64)) i) = allC (sF s).length := funext fun i => by show allC _ i &&& (-1) = _; rw [Int64.and_comm, lx_m1]
      have F := fin _ (fun _ => -1) ⟨s2, rfl, rfl⟩ (fun i hi => jJ_s4 hi)
      rw [ew] at F
      simp only [jT_s4, jP_s4] at F
      exact F
    · rw [if_neg q0]
      simp only [jck_true, jde_is, jlt_is, jcl_0, beq_self_eq_true, jT_sI, jT_sJ, jP_sI, jP_sJ, jJ_sI, jI_sJ, jZ_sI, jZ_sJ, cT18 hC1, cP18_4 hC1, cT19 hC1]
      have E : cEn B 0 (jZ μ1) μ1 true none (sF s) [] := ⟨hC1, hF1, ⟨rfl, rfl⟩, Nat.zero_le _, Nat.le_refl _, hB1⟩
      obtain ⟨x, μ2, e2, c2, P⟩ := c_read (x2 := 0) rfl E a1 h1.2.1.2.2.2.2
      rw [e2, jcl_0]
      have hC2 := c2.1.ct hC1 hB1
      rcases P with ⟨e, es, rfl, f⟩ | ⟨v, es, rfl, a2, -, hv⟩
      · rw [if_pos rfl, jcl_0]
        by_cases q2 : Cd (sTp s) 0 = -2000
        · rw [if_pos q2]
          rw [ov_yes q2] at es
          injection es with es
          rw [← es] at f
          exact bad μ2 _ c2 f
        · rw [if_neg q2, if_neg q0]
          rw [ov_ne q2] at es
          rw [es]
          exact bad μ2 e c2 f
      · rw [if_neg (by decide)]
        simp only [jck_true, jde_is, jlt_is, jcl_0, beq_self_eq_true, jT_sI, jT_sJ, jP_sI, jP_sJ, jJ_sI, jI_sJ, jZ_sI, jZ_sJ, cT18 hC2, cP18_0 hC2, cT15 hC2]
        obtain ⟨x3, μ3, e3, s3, P3⟩ := c_takeEnd (z := jZ μ1) hC2 a2 (by omega)
        rw [e3, jcl_0]
        rcases P3 with ⟨q3, rfl, rfl⟩ | ⟨q3, rfl, f3⟩
        · rw [if_neg (by decide)]
          simp only [jck_true, jde_is, jlt_is, jcl_0, beq_self_eq_true, jT_sI, jT_sJ, jP_sI, jP_sJ, jJ_sI, jI_sJ, jZ_sI, jZ_sJ, cT18 hC2, cP18_4 hC2, cT19 hC2, cP19_7 hC2]
          have nov : ¬ Cd (sTp s) v.2 = -2000 := by rw [q3]; decide
          rw [ov_ne nov] at es
          have n0 : ¬ Cd (sTp s) 0 = -2000 := fun z => by rw [ov_yes z] at es; cases es
          rw [ov_ne n0] at es
          rw [if_neg n0, if_neg q0, es]
          dsimp only
          rw [if_pos q3]
          have ew : (fun i => v.1 i &&& allC (sF s).length i) = fun i => allC (sF s).length i &&& v.1 i := funext fun i => Int64.and_comm _ _
          rw [ew]
          exact fin μ3 v.1 c2 (fun i hi => hv rfl i hi)
        · rw [if_pos rfl, jcl_0]
          have c3 : cc B (jZ μ1) μ1 μ3 := c2.tr (s3.tc hB1)
          by_cases q2 : Cd (sTp s) 0 = -2000
          · rw [if_pos q2]
            rw [ov_yes q2] at es
            by_cases q4 : Cd (sTp s) v.2 = -2000
            · rw [ov_yes q4] at es
              injection es with es
              unfold fk at f3
              rw [if_pos q4, ← es] at f3
              exact bad μ3 _ c3 f3
            · rw [ov_ne q4] at es; cases es
          · rw [if_neg q2, if_neg q0]
            rw [ov_ne q2] at es
            by_cases q4 : Cd (sTp s) v.2 = -2000
            · rw [ov_yes q4] at es
              unfold fk at f3
              rw [if_pos q4] at f3
              rw [es]
              exact bad μ3 _ c3 f3
            · rw [ov_ne q4] at es
              unfold fk at f3
              rw [if_neg q4] at f3
              rw [es]
              dsimp only
              rw [if_neg q3]
              exact bad μ3 _ c3 f3
