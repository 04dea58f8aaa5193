/-! the class: rider -/
def mV (cls : List Cl) : Prop := (∀ c ∈ cls, ∀ k ∈ Cl.tks c, isV k) ∧ (∀ c ∈ cls, (Cl.tks c).length ≤ 1000) ∧ (∀ k, k ≤ cls.length → 13 * (jT2 (cls.take k)).length + 13 < 2 ^ 29) ∧ byt (txB cls)
/-- what a rider makes of a text can be WRITTEN -/
def gM (s : SS) : Prop := ∀ t y, t < (sTx s).length → sRid (Cd (sTp s)) (sF s) (sP s) (sA s) (txA s t) = .ok y → mV y.1
theorem c_rider {B : Nat} {μ : JM} {s : SS} (v w : Int32) (h : cSt B μ s) (hR : (sR s).length < 256) (hM : gM s) : Rq (fX10_rider B v w μ) (cQ B 153 2500 μ (spRider v w s)) := by
  have hB := h.1.2.2
  unfold fX10_rider
  rw [jck_of (by rw [cT0 h.1]; rfl)]
  refine Rq.cl0 (c_useTape h) fun _ μ1 ⟨s1, z1, h1, n, a1⟩ => ?_
  have hC1 := h1.1
  have hB1 := hC1.2.2
  have k1 : kM B μ μ1 := s1.km hB hB (by decide)
  obtain ⟨va, v1, v2, v3⟩ := c_vAt h1
  have eV : vAt (wTp s []) v = vAt s v := rfl
  rw [jck_of (by rw [cT0 hC1]; rfl), v3 v, jcl_0, eV]
  unfold spRider
  cases hv : vAt s v with
  | none => exact .ret ⟨by omega, by omega, rfl, h1, k1⟩
  | some t =>
    have ht : t < (sTx s).length := v2 v t (by rw [eV]; exact hv)
    obtain ⟨qt, clt, -⟩ := v1 t ht
    have clt : cL (B + 121) (jZ μ1) true 24 μ1 (va t) qt (txA s t) := clt
    simp only [Option.map_some]
    rw [if_neg (by intro e; cases e)]
    cases hw : inR w 4 with
    | none =>
      by_cases c : w < 0
      · rw [if_pos c]; exact .ret ⟨by omega, by omega, rfl, h1, k1⟩
      · rw [if_neg c]
        obtain ⟨j, hj, rfl⟩ := nI_of c
        have : ¬ j < 4 := fun t => by
          unfold inR at hw
          rw [if_pos ⟨nI_pos' hj, by rw [nI_clamp hj]; exact t⟩] at hw
          cases hw
        rw [if_pos (show (4 : Int32) ≤ nI j from nI_le (a := 4) (by omega) hj)]
        exact .ret ⟨by omega, by omega, rfl, h1, k1⟩
    | some u =>
      obtain ⟨rfl, hu⟩ := inR_some hw
      rw [if_neg (nI_pos (by omega)), if_neg (show ¬ (4 : Int32) ≤ nI u from nI_ge (b := 4) hu (by decide)), jck_of (by rw [cT0 hC1]; rfl)]
      have e14 : jI μ1 B 14 = nI (sR s).length := h1.2.2.2.2.2.1.2.1
      rw [e14, if_pos (show nI (sR s).length < (256 : Int32) from nI_lt (b := 256) hR (by decide))]
      -- the list
      refine Rq.nwo ?_
      obtain ⟨μ2, e2, z2, o2, L2⟩ := c_newV (B := B) (μ := μ1) hB1
      refine Rq.eq e2 ?_
      simp only [jck_true, jde_is, jlt_is, jcl_0, beq_self_eq_true, jT_sI, jT_sJ, jP_sI, jP_sJ, jJ_sI, jI_sJ, jZ_sI, jZ_sJ, L2.2.2.1]
      have c2 : cs B (jZ μ1) [] μ1 μ2 := same_cs o2 rfl (by omega)
      unfold fX8_addAll
      have l24 := clt.2.2.2.2.1
      refine Rq.cl0 (aa_l (B := B) (z := jZ μ1) (lo := B + 121) (hi := jZ μ1) (cap := 36) (v := jZ μ1) (q := jZ μ1 + 1) (all := txA s t) (by decide) (by decide) (by omega) (Nat.le_refl _) (by omega) (Nat.le_refl _) (by omega) (Nat.le_refl _) jfuel 0 μ2 (clt.kp fun x _ hx => o2 x hx) (by rw [List.take_zero]; exact L2) (Nat.zero_le _) (jfuel_gt (by omega)) (by omega)) fun _ μ3 ⟨s3, z3, L3⟩ => ?_
      have c3 := c2.tr (s3.lo (Nat.le_refl _))
      have hC3 := c3.ct hC1 hB1
      have a3 := a1.ke c3 (by omega) (by decide) (by decide) (by decide)
      have X3 : cX2 B (jZ μ1) (sF s) (sP s) (sA s) μ1 μ3 := ⟨(c3.wk (by decide)).tocr, by rw [c3.iI (by omega) (by decide)]; exact h1.2.1.2.2.2.2, h1.2.1.2.1.ke c3 (by omega) (by decide) (by decide), h1.2.1.2.2.1.ke c3 (by omega) (by decide) (by decide), h1.2.1.2.2.2.1.ke c3 (by omega) (by decide) (by decide)⟩
      simp only [jck_true, jde_is, jlt_is, jcl_0, beq_self_eq_true, jT_sI, jT_sJ, jP_sI, jP_sJ, jJ_sI, jI_sJ, jZ_sI, jZ_sJ, cT0 hC3, cP0_7 hC3, cT18 hC3]
      refine Rq.cl (c_readR hB1 (Nat.le_refl _) (by omega) (by omega) hC3 X3 L3 l24 a3) fun r μ4 c4 m4 ⟨q1, q2, q3, hC4, X4, Q4⟩ => ?_
      obtain ⟨r4, n66, wF, wP, wA⟩ := X4
      have hB4 := hC4.2.2
      have k4 : kM B μ μ4 := k1.tr (r4.km hB1 hB1 (by decide))
      obtain ⟨g1, g2, g3, g4, g5, g6, g7, g8, g9⟩ := h1.rd r4 n66 wP wA
      have S4 : cSt B μ4 (wTp s []) := ⟨g1, ⟨g2, g3, wP, wA, n66⟩, g4, g5, g6, g7, g8, g9⟩
      rcases Q4 with ⟨e, es, rfl, f⟩ | ⟨y, es, rfl, L4⟩
      · rw [if_pos rfl]
        simp only [jck_true, jde_is, jlt_is, jcl_0, beq_self_eq_true, jT_sI, jT_sJ, jP_sI, jP_sJ, jJ_sI, jI_sJ, jZ_sI, jZ_sJ, cT0 hC4, cP0_6 hC4, cT15 hC4]
        rw [f.1, es]
        exact .ret ⟨by omega, by omega, rfl, S4, k4⟩
      · obtain ⟨M1, M2, M3, M4⟩ := hM t y ht es
        rw [if_neg (by decide), es]
        simp only [jck_true, jde_is, jlt_is, jcl_0, beq_self_eq_true, jT_sI, jT_sJ, jP_sI, jP_sJ, jJ_sI, jI_sJ, jZ_sI, jZ_sJ, cT0 hC4, cP0_2 hC4, cT7 hC4]
        refine Rq.cl0 (c_clr (z := jZ μ4) (sh7 hC4)) fun _ μ5 ⟨s5, W5, z5⟩ => ?_
        have hC5 := s5.ct hC4 hB4
        have S5 : cSt B μ5 (wTp s []) := S4.kr s5.tocr (by decide) (by decide) (by rw [s5.iI (by omega) (by decide)]; exact n66)
        have L5 : cL (B + 121) (jZ μ5) false 36 μ5 (jZ μ1) (jZ μ1 + 1) y.1 := by rw [z5]; exact L4.ke s5 (by decide) (Nat.le_refl _) (Nat.le_refl _)
        simp only [jck_true, jde_is, jlt_is, jcl_0, beq_self_eq_true, jT_sI, jT_sJ, jP_sI, jP_sJ, jJ_sI, jI_sJ, jZ_sI, jZ_sJ, cT0 hC5, cP0_2 hC5, L5.2.2.1]
        refine Rq.cl0 (c_putOn (i := 7) (room := 900) (z := jZ μ5) (by decide) (by omega) (by decide) M1 M3 M2 (Nat.le_refl _) (by decide) hC5 S5.2.1.1 (sh7 hC5) (Nat.le_refl _) L5 W5) fun _ μ6 ⟨s6, z6, W6⟩ => ?_
        have hC6 := s6.ct hC5 (by omega)
        have S6 : cSt B μ6 (wTp s []) := S5.kr s6.tocr (by decide) (by decide) (by rw [s6.iI (by omega) (by decide)]; exact S5.2.1.2.2.2.2)
        have k6 : kM B μ μ6 := (k4.tr (s5.km hB4 hB4 (by decide))).tr (s6.km (by omega) (by omega) (by decide))
        have hB6 := hC6.2.2
        have l30 := W6.2.1
        simp only [jck_true, jde_is, jlt_is, jcl_0, beq_self_eq_true, jT_sI, jT_sJ, jP_sI, jP_sJ, jJ_sI, jI_sJ, jZ_sI, jZ_sJ, cT0 hC6, cP0_2 hC6, cT7 hC6, W6.1]
        by_cases b9 : 900 < (txB y.1).length
        · rw [if_neg (show ¬ nI (txB y.1).length ≤ (900 : Int32) from nI_ge (a := 900) b9 (by omega)), if_pos b9]
          exact .ret ⟨by omega, by omega, rfl, S6, k6⟩
        · rw [if_pos (show nI (txB y.1).length ≤ (900 : Int32) from nI_le (b := 900) (by omega) (by decide)), if_neg b9]
          simp only [jck_true, jde_is, jlt_is, jcl_0, beq_self_eq_true, jT_sI, jT_sJ, jP_sI, jP_sJ, jJ_sI, jI_sJ, jZ_sI, jZ_sJ, cP0_6 hC6, cT15 hC6]
          refine Rq.cl0 (c_scan (i := 7) (z := jZ μ6) (Or.inr rfl) (by omega) hC6 ⟨sh7 hC6, W6, by omega, M4⟩ S6.2.1.1) fun _ μ7 ⟨s7, z7, n7, a7⟩ => ?_
          have hC7 := s7.ct hC6 (by omega)
          have hB7 := hC7.2.2
          have S7 : cSt B μ7 (wTp s []) := S6.kr s7.tocr (by decide) (by decide) (by rw [s7.iI (by omega) (by decide)]; exact S6.2.1.2.2.2.2)
          have k7 : kM B μ μ7 := k6.tr (s7.km (by omega) (by omega) (by decide))
          have e13 : jI μ7 B 13 = nI (sTx s).length := S7.2.2.2.2.2.1.1
          simp only [jck_true, jde_is, jlt_is, jcl_0, beq_self_eq_true, jT_sI, jT_sJ, jP_sI, jP_sJ, jJ_sI, jI_sJ, jZ_sI, jZ_sJ, cT0 hC7, cP0_7 hC7, cT18 hC7, e13]
          refine Rq.cl (c_readV (nI (sTx s).length) hC7 S7.2.1.2.1 S7.2.1.2.2.1 S7.2.1.2.2.2.1 S7.2.1.2.2.2.2 a7) fun r μ8 c8 m8 ⟨b1, b2, b3, b4, b5⟩ => ?_
          have k8 : kM B μ μ8 := k7.tr (b3.km hB7 hB7 (by decide))
          rcases b5 with ⟨e, es8, rfl, f, w1, w2⟩ | ⟨x, es8, rfl, w1, w2, D, hh⟩
          · have es8 : sRead (Cd (txB y.1)) (sF s) (sP s) (sA s) = .error e := es8
            obtain ⟨t1, t2, t3, t4, t5, t6, t7, t8, t9⟩ := S7.rd b3 b4 w1 w2
            rw [if_pos rfl, es8]
            exact .ret ⟨by omega, by omega, rfl, ⟨t1, ⟨t2, t3, w1, w2, b4⟩, t4, t5, t6, t7, t8, t9⟩, k8⟩
          · have es8 : sRead (Cd (txB y.1)) (sF s) (sP s) (sA s) = .ok x := es8
            obtain ⟨t1, t2, t3, t4, t5, t6, t7, t8, t9⟩ := S7.rd b3 b4 w1 w2
            rw [if_neg (by intro e; cases e), es8]
            have V8 : cVr B (jZ μ8) μ8 (jZ μ7) (stlC x.1) (sTx (wTp s [])).length := D.vr (by omega) (by rw [stlC_len]; exact hh)
            refine (c_ridTail (s := wTp s []) (u := u) t1 t2 t3 w1 w2 b4 t4 t5 t6 t7 t8 t9 V8 hu hR).mono fun r ρ c m ⟨p1, p2, p3, p4, p5⟩ => ?_
            exact ⟨by omega, by omega, by rw [p3, stlC_len], p4, k8.tr p5⟩
