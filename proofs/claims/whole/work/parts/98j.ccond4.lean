/-! the class: Cond.read -/
theorem c_finish {B z n k ops : Nat} {μ : JM} {l : List Int32} {wh : Bool} {t : Lv} {r : List Lv} (hz : B + 121 ≤ z) (hC : CT B μ) (h : cAt B μ l n k) (hD : cD B μ wh t r ops) (ht : t.1 = 0) : Res (fX3_finish (B + 19) μ) (fun x ν => cc B z μ ν ∧ ((r = [] ∧ x = 1 ∧ cAt B ν l n k ∧ (wh = true → ∀ i, i < 4 → jJ ν (B + 68) i = lvVal t i)) ∨ (¬ r = [] ∧ x = 0 ∧ cF B ν l (k, fk (Cd l) k 0)))) := by
  obtain ⟨d1, d2, d3, d4⟩ := hD
  unfold fX3_finish
  simp only [jck_true, jde_is, jlt_is, jcl_0, beq_self_eq_true, jT_sI, jT_sJ, jP_sI, jP_sJ, jJ_sI, jI_sJ, jZ_sI, jZ_sJ, cT19 hC, d1]
  by_cases q : r = []
  · subst q
    have e0 : dpt t [] = 0 := by rw [dpt_bs, ht]; rfl
    rw [e0, if_pos (by decide)]
    have h11 : (0 : Nat) < 11 := by decide
    have c0 : ((0 : Int32)).toNatClampNeg = 0 := by decide
    simp only [jck_true, jde_is, jlt_is, jcl_0, beq_self_eq_true, jT_sI, jT_sJ, jP_sI, jP_sJ, jJ_sI, jI_sJ, jZ_sI, jZ_sJ, cP19_2 hC, cT20 hC, show jin 0 11 = true from by decide, cP19_3 hC, cT21 hC, c0, (ca_d hC h11).1, (ca_d hC h11).2.1, (ca_g hC h11).1, c_or (ca_d hC h11).2 (ca_g hC h11).2, jT_s4, jP_s4, cT19 hC, cP19_7 hC, cT67 hC]
    have s1 : cs B z [23] μ (s4 μ (B + (23 + 4 * 0)) (fun i => jJ μ (B + (23 + 4 * 0)) i ||| jJ μ (B + (25 + 4 * 0)) i)) := cs.q4 (by decide)
    have hC1 := s1.ct hC hz
    rw [c_copy (ca_v hC1) (ca_d hC1 h11).2, jcl_0]
    have s2 : cs B z [68] (s4 μ (B + (23 + 4 * 0)) (fun i => jJ μ (B + (23 + 4 * 0)) i ||| jJ μ (B + (25 + 4 * 0)) i)) (s4 (s4 μ (B + (23 + 4 * 0)) (fun i => jJ μ (B + (23 + 4 * 0)) i ||| jJ μ (B + (25 + 4 * 0)) i)) (B + 68) (fun i => jJ (s4 μ (B + (23 + 4 * 0)) (fun i => jJ μ (B + (23 + 4 * 0)) i ||| jJ μ (B + (25 + 4 * 0)) i)) (B + (23 + 4 * 0)) i)) := cs.q4 (by decide)
    refine .ret ⟨⟨(s1.wk (by decide)).tr (s2.wk (by decide)), rfl, rfl⟩, Or.inl ⟨by trivial, rfl, (h.ke s1 (by omega) (by decide) (by decide) (by decide)).ke s2 (by omega) (by decide) (by decide) (by decide), fun w i hi => ?_⟩⟩
    rw [jJ_s4 hi, jJ_s4 hi, (d4.2.2 w i hi).1, (d4.2.2 w i hi).2]; rfl
  · have e1 : 1 ≤ dpt t r := by
      cases r with
      | nil => exact absurd rfl q
      | cons b s => rw [dpt_bs, bs_cons]; omega
    rw [if_neg (nI_nle (by omega) (by omega))]
    simp only [jck_true, jde_is, jlt_is, jcl_0, beq_self_eq_true, jT_sI, jT_sJ, jP_sI, jP_sJ, jJ_sI, jI_sJ, jZ_sI, jZ_sJ, cP19_0 hC, cT15 hC]
    refine Res.cl (c_fail (z := z) 0 0 rfl (by decide) hC h) fun x ν ⟨e1, s1, f1⟩ => ?_
    subst e1
    exact .ck (by decide) (.ret ⟨⟨s1.1.wk (by decide), by rw [s1.1.iI (by omega) (by decide)], s1.2⟩, Or.inr ⟨q, rfl, f1⟩⟩)
/-- what comes of a reading with value a, whose place is pos a -/
def cRd {α : Type} (B : Nat) (ν : JM) (l : List Int32) (n k : Nat) (x : Int32) (y : Except Er α) (pos : α → Nat) (G : α → Prop) : Prop := (∃ e, y = .error e ∧ x = 0 ∧ cF B ν l e) ∨ (∃ a, y = ov (Cd l) (pos a) (.ok a) ∧ x = 1 ∧ cAt B ν l n (pos a) ∧ k ≤ pos a ∧ G a)
theorem c_read_l {B hi z n : Nat} {l : List Int32} {wh : Bool} {p1 : Option Nat} {F : List Int64} {N : List (Int64 × CS)} {x2 : Int32} (hx : x2 = if wh then 0 else 1) : ∀ (fu i k fl : Nat) (t : Lv) (r : List Lv) (ops : Nat) (μ : JM), cEn B hi z μ wh p1 F N → cAt B μ l n k → cD B μ wh t r ops → ops ≤ 60 → i ≤ k → n - k < fl → 901 - i < fu →
    Res (fX3_read_b30 fu (B + 19) p1 x2 (nI i) μ) (fun x ν => cc B z μ ν ∧ cRd B ν l n k x (ov (Cd l) k (sCond (Cd l) F N wh fl t r ops k)) (fun a => a.2) (fun a => wh = true → ∀ i, i < 4 → jJ ν (B + 68) i = a.1 i)) := by
  intro fu
  induction fu with
  | zero => intro i k fl t r ops μ _ _ _ _ _ _ q; omega
  | succ fu ih =>
    intro i k fl t r ops μ E h hD ho hik hfl hf
    have hz := E.2.2.2.2.2
    have hn := h.1.2.1
    have hkn := h.2.2.2
    have hC := E.1
    rw [fX3_read_b30, if_neg (show ¬ (900 : Int32) < nI i from nI_nlt (a := 900) (by omega) (by decide))]
    rw [jck_of (by rw [cT19 hC]; rfl)]
    unfold fX3_readOpenings
    refine Res.cl (c_opens (z := z) (F := F) (N := N) hz jfuel 0 k fl t r μ hC h hD (by omega) (jfuel_gt (by omega)) hfl) fun x μ1 ⟨c1, P1⟩ => ?_
    rcases P1 with ⟨e, es, rfl, f1⟩ | ⟨t1, r1, k1, fl1, es, rfl, a1, D1, n1, n2, hfl1, hk1⟩
    · rw [if_pos rfl]
      exact .ret ⟨c1, Or.inl ⟨e, es, rfl, f1⟩⟩
    · rw [if_neg (by decide), es]
      have E1 := E.kc c1.1
      have hC1 := E1.1
      rw [jck_of (by rw [cT19 hC1]; rfl)]
      refine Res.cl (c_operand (x2 := x2) E1 a1 D1.2.2.1 ho hx) fun x μ2 ⟨s2, z2, h5, P2⟩ => ?_
      have c2 : cc B z μ1 μ2 := ⟨s2.wk (by decide), by rw [s2.iI (by omega) (by decide)], z2⟩
      obtain ⟨f, rfl⟩ : ∃ f, fl1 = f + 1 := ⟨fl1 - 1, by omega⟩
      rcases P2 with ⟨d, rfl, f2, P3⟩ | ⟨v, q1, q2, q3, rfl, a2, h6, hv⟩
      · rw [if_pos rfl]
        refine .ret ⟨c1.tr c2, Or.inl ⟨_, ?_, rfl, f2⟩⟩
        rw [← ov_er]
        congr 1
        rw [sCond, if_neg n1, if_neg n2]
        rcases P3 with ⟨g1, rfl⟩ | ⟨g1, g2, rfl⟩ | ⟨g1, ⟨v, g2⟩, g3, rfl⟩
        · rw [if_pos g1]
        · rw [if_neg (fun z => z g1), g2]
        · rw [if_neg (fun z => z g1), g2]; dsimp only; rw [if_pos g3]
      · rw [if_neg (by decide)]
        have E2 := E1.kc c2.1
        have hC2 := E2.1
        have D2 : cD B μ2 wh t1 r1 (ops + 1) := D1.op s2 hz h5 h6
        rw [jck_of (by rw [cT19 hC2]; rfl)]
        unfold fX3_closeLevels
        have hd10 := D2.2.1
        refine Res.cl (c_close (z := z) hz r1 t1 (k1 + 1) jfuel 0 μ2 v hC2 a2 D2 hv (by omega) (jfuel_gt (by omega))) fun _ μ3 ⟨c3, t3, r3, k3, es3, a3, D3, t30, hk3⟩ => ?_
        have E3 := E2.kc c3.1
        have hC3 := E3.1
        have c123 := (c1.tr c2).tr c3
        have nov1 : ¬ Cd l k1 = -2000 := by intro e; rw [e] at q1; exact absurd q1 (by decide)
        -- the spec, up to here
        have sp : ov (Cd l) k1 (sCond (Cd l) F N wh (f + 1) t1 r1 ops k1) = ov (Cd l) k3 (if Cd l k3 = -3013 then eb (tk (Cd l) k3) fun k4 => sCond (Cd l) F N wh f (0, lvVal t3, fun _ => -1) r3 (ops + 1) k4 else if Cd l k3 = -3012 then eb (tk (Cd l) k3) fun k4 => sCond (Cd l) F N wh f t3 r3 (ops + 1) k4 else if r3 = [] then .ok (lvVal t3, k3) else .error (k3, 0)) := by
          rw [ov_ne nov1, sCond, if_neg n1, if_neg n2, if_neg (fun z => z q1), q2]
          dsimp only
          rw [if_neg q3, eb_tk, ← eb_ov, es3, eb_ov, eb_ok]
        rw [sp]
        rw [jck_of (by rw [cT19 hC3]; rfl)]
        simp only [jck_true, jde_is, jlt_is, jcl_0, beq_self_eq_true, jT_sI, jT_sJ, jP_sI, jP_sJ, jJ_sI, jI_sJ, jZ_sI, jZ_sJ, cP19_0 hC3, cT15 hC3, c_token hC3 a3, lg_cmp_0]
        have hk13 : k + 1 ≤ k3 := by omega
        by_cases u1 : Cd l k3 = -3012
        · rw [if_pos u1, if_neg (by rw [u1]; decide), if_pos u1, ov_ne (by rw [u1]; decide), eb_tk, fX3_read_b91]
          simp only [lg_cmp_0]
          rw [if_neg (by rw [u1]; decide), fX3_read_b133]
          simp only [jck_true, jde_is, jlt_is, jcl_0, beq_self_eq_true, jT_sI, jT_sJ, jP_sI, jP_sJ, jJ_sI, jI_sJ, jZ_sI, jZ_sJ, cT19 hC3, cP19_0 hC3, cT15 hC3]
          have hlt := a3.lt (by rw [u1]; decide)
          refine Res.cl (c_step (z := z) hC3 a3 (by rw [u1]; decide) (by omega)) fun _ μ4 ⟨s4, a4⟩ => ?_
          have c4 : cc B z μ3 μ4 := ⟨s4.1.wk (by decide), by rw [s4.1.iI (by omega) (by decide)], s4.2⟩
          have D4 : cD B μ4 wh t3 r3 (ops + 1) := D3.op (s4.1.wk (by decide)) hz (by rw [s4.1.iI (by omega) (by decide)]) (by rw [s4.1.iI (by omega) (by decide)]; exact D3.2.2.1)
          rw [nI_1]
          refine (ih (i + 1) (k3 + 1) f t3 r3 (ops + 1) μ4 (E3.kc c4.1) a4 D4 (by omega) (by omega) (by omega) (by omega)).mono ?_
          rintro x ν ⟨c5, P⟩
          refine ⟨(c123.tr c4).tr c5, ?_⟩
          rcases P with P | ⟨a, p1, p2, p3, p4, p5⟩
          · exact Or.inl P
          · exact Or.inr ⟨a, p1, p2, p3, by omega, p5⟩
        · rw [if_neg u1]
          by_cases u2 : Cd l k3 = -3013
          · rw [if_pos u2, if_pos u2, ov_ne (by rw [u2]; decide), eb_tk, fX3_read_b91]
            simp only [lg_cmp_0]
            rw [if_pos u2]
            have hd3 := D3.2.1
            have e5 : jI μ3 (B + 19) 5 = nI (bs r3) := by rw [D3.1, dpt_bs, t30, Nat.zero_add]
            have hb : bs r3 < 11 := by rw [dpt_bs, t30] at hd3; omega
            simp only [jck_true, jde_is, jlt_is, jcl_0, beq_self_eq_true, jT_sI, jT_sJ, jP_sI, jP_sJ, jJ_sI, jI_sJ, jZ_sI, jZ_sJ, cT19 hC3, cP19_2 hC3, cT20 hC3, e5, jin_nI hb (by decide), nI_clamp (show bs r3 < 2 ^ 31 by omega), cP19_3 hC3, cT21 hC3, (ca_d hC3 hb).1, (ca_d hC3 hb).2.1, (ca_g hC3 hb).1, c_or (ca_d hC3 hb).2 (ca_g hC3 hb).2, jT_s4, jP_s4, jI_s4, (ca_g hC3 hb).2.1]
            have sa : cs B z [23 + 4 * bs r3] μ3 (s4 μ3 (B + (23 + 4 * bs r3)) (fun i => jJ μ3 (B + (23 + 4 * bs r3)) i ||| jJ μ3 (B + (25 + 4 * bs r3)) i)) := cs.q4 (by simp)
            have ja : ∀ i, i < 4 → jJ (s4 μ3 (B + (23 + 4 * bs r3)) (fun i => jJ μ3 (B + (23 + 4 * bs r3)) i ||| jJ μ3 (B + (25 + 4 * bs r3)) i)) (B + (23 + 4 * bs r3)) i = jJ μ3 (B + (23 + 4 * bs r3)) i ||| jJ μ3 (B + (25 + 4 * bs r3)) i := fun i hi => jJ_s4 hi
            have jan : ∀ x, x ≠ B + (23 + 4 * bs r3) → jJ (s4 μ3 (B + (23 + 4 * bs r3)) (fun i => jJ μ3 (B + (23 + 4 * bs r3)) i ||| jJ μ3 (B + (25 + 4 * bs r3)) i)) x = jJ μ3 x := fun x hx => jJ_s4_ne hx
            have ia : jI (s4 μ3 (B + (23 + 4 * bs r3)) (fun i => jJ μ3 (B + (23 + 4 * bs r3)) i ||| jJ μ3 (B + (25 + 4 * bs r3)) i)) = jI μ3 := rfl
            have za : jZ (s4 μ3 (B + (23 + 4 * bs r3)) (fun i => jJ μ3 (B + (23 + 4 * bs r3)) i ||| jJ μ3 (B + (25 + 4 * bs r3)) i)) = jZ μ3 := rfl
            generalize s4 μ3 (B + (23 + 4 * bs r3)) (fun i => jJ μ3 (B + (23 + 4 * bs r3)) i ||| jJ μ3 (B + (25 + 4 * bs r3)) i) = μa at sa ja jan ia za ⊢
            have hCa := sa.ct hC3 hz
            rw [c_fill (ca_g hCa hb).2, jcl_0, fX3_read_b133]
            have aa := a3.ke sa (by omega) (by simp; omega) (by simp; omega) (by simp; omega)
            have sb : cs B z [25 + 4 * bs r3] μa (s4 μa (B + (25 + 4 * bs r3)) (fun _ => -1)) := cs.q4 (by simp)
            have jb : ∀ i, i < 4 → jJ (s4 μa (B + (25 + 4 * bs r3)) (fun _ => -1)) (B + (25 + 4 * bs r3)) i = -1 := fun i hi => jJ_s4 hi
            have jbn : ∀ x, x ≠ B + (25 + 4 * bs r3) → jJ (s4 μa (B + (25 + 4 * bs r3)) (fun _ => -1)) x = jJ μa x := fun x hx => jJ_s4_ne hx
            have ib : jI (s4 μa (B + (25 + 4 * bs r3)) (fun _ => -1)) = jI μa := rfl
            have zb : jZ (s4 μa (B + (25 + 4 * bs r3)) (fun _ => -1)) = jZ μa := rfl
            generalize s4 μa (B + (25 + 4 * bs r3)) (fun _ => -1) = μb at sb jb jbn ib zb ⊢
            have hCb := sb.ct hCa hz
            have ab := aa.ke sb (by omega) (by simp; omega) (by simp; omega) (by simp; omega)
            simp only [jck_true, jde_is, jlt_is, jcl_0, beq_self_eq_true, jT_sI, jT_sJ, jP_sI, jP_sJ, jJ_sI, jI_sJ, jZ_sI, jZ_sJ, cT19 hCb, cP19_0 hCb, cT15 hCb]
            have hlt := a3.lt (by rw [u2]; decide)
            refine Res.cl (c_step (z := z) hCb ab (by rw [u2]; decide) (by omega)) fun _ μ4 ⟨sc, a4⟩ => ?_
            have ic : ∀ j, j ≠ 15 → B + j < z → jI μ4 (B + j) = jI μ3 (B + j) := fun j hj hz => by rw [sc.1.iI hz (by simpa using hj), ib, ia]
            have jc : ∀ j, j ≠ 15 → B + j < z → jJ μ4 (B + j) = jJ μb (B + j) := fun j hj hz => sc.1.iJ hz (by simpa using hj)
            have c4 : cc B z μ3 μ4 := ⟨((sa.wk (fun i hi => by simp at hi; rw [hi]; exact cda_d _ hb)).tr (sb.wk (fun i hi => by simp at hi; rw [hi]; exact cda_g _ hb))).tr (sc.1.wk (by decide)), by rw [ic 66 (by decide) (by omega)], by rw [sc.2, zb, za]⟩
            have D4 : cD B μ4 wh (0, lvVal t3, fun _ => -1) r3 (ops + 1) := by
              have T := D3.2.2.2.top
              refine ⟨?_, ?_, by rw [ic 19 (by decide) (by omega)]; exact D3.2.2.1, lvs.mk ⟨?_, ?_, ?_⟩ (fun b s hr => ?_)⟩
              · rw [ic 19 (by decide) (by omega), e5]; congr 1; show bs r3 = 0 + bs r3; omega
              · show 0 + bs r3 ≤ 10; omega
              · rw [ic 66 (by decide) (by omega)]; exact T.1
              · intro j h1 h2
                have h2 : j ≤ 0 := h2
                omega
              · intro w i hi
                refine ⟨?_, ?_⟩
                · rw [jc _ (by omega) (by omega), jbn _ (by omega), ja i hi, (T.2.2 w i hi).1, (T.2.2 w i hi).2]; rfl
                · rw [jc _ (by omega) (by omega), jb i hi]
              · subst hr
                have hb2 := bs_cons b s
                exact lvs.lo s b D3.2.2.2.2 (fun j hj => by rw [ic 66 (by decide) (by omega)]) (fun d hd => ⟨by rw [jc _ (by omega) (by omega), jbn _ (by omega), jan _ (by omega)], by rw [jc _ (by omega) (by omega), jbn _ (by omega), jan _ (by omega)]⟩)
            rw [nI_1]
            refine (ih (i + 1) (k3 + 1) f _ r3 (ops + 1) μ4 (E3.kc c4.1) a4 D4 (by omega) (by omega) (by omega) (by omega)).mono ?_
            rintro x ν ⟨c5, P⟩
            refine ⟨(c123.tr c4).tr c5, ?_⟩
            rcases P with P | ⟨a, p1, p2, p3, p4, p5⟩
            · exact Or.inl P
            · exact Or.inr ⟨a, p1, p2, p3, by omega, p5⟩
          · rw [if_neg u2, if_neg u2, if_neg u1]
            rw [jck_of (by rw [cT19 hC3]; rfl)]
            refine Res.cl (c_finish (z := z) hz hC3 a3 D3 t30) fun x μ4 ⟨c4, P⟩ => ?_
            rcases P with ⟨g1, rfl, g2, g3⟩ | ⟨g1, rfl, g2⟩
            · refine .ck (by decide) (.ret ⟨c123.tr c4, Or.inr ⟨(lvVal t3, k3), ?_, rfl, g2, by show k ≤ k3; omega, g3⟩⟩)
              rw [if_pos g1]
            · refine .ck (by decide) (.ret ⟨c123.tr c4, Or.inl ⟨_, ?_, rfl, g2⟩⟩)
              rw [if_neg g1, ov_er]
/-- a COND -/
theorem c_read {B hi z n k : Nat} {μ : JM} {l : List Int32} {wh : Bool} {p1 : Option Nat} {F : List Int64} {N : List (Int64 × CS)} {x2 : Int32} (hx : x2 = if wh then 0 else 1) (E : cEn B hi z μ wh p1 F N) (h : cAt B μ l n k) (h0 : jI μ (B + 66) 0 = 0) : Res (fX3_read (B + 19) p1 x2 μ) (fun x ν => cc B z μ ν ∧ cRd B ν l n k x (ov (Cd l) k (sCon (Cd l) F N wh 2000 k)) (fun a => a.2) (fun a => wh = true → ∀ i, i < 4 → jJ ν (B + 68) i = a.1 i)) := by
  have hz := E.2.2.2.2.2
  have hC := E.1
  have hn := h.1.2.1
  have hkn := h.2.2.2
  unfold fX3_read
  have c0 : ((0 : Int32)).toNatClampNeg = 0 := by decide
  have h11 : (0 : Nat) < 11 := by decide
  simp only [jck_true, jde_is, jlt_is, jcl_0, beq_self_eq_true, jT_sI, jT_sJ, jP_sI, jP_sJ, jJ_sI, jI_sJ, jZ_sI, jZ_sJ, cT19 hC]
  have s1 : cs B z [19] μ (jsI (jsI μ (B + 19) 5 0) (B + 19) 6 0) := (cs.sI (by decide)).tr (cs.sI (by decide))
  have k5 : jI (jsI (jsI μ (B + 19) 5 0) (B + 19) 6 0) (B + 19) 5 = 0 := by simp [jI_sI]
  have k6 : jI (jsI (jsI μ (B + 19) 5 0) (B + 19) 6 0) (B + 19) 6 = 0 := by simp [jI_sI]
  have kZ : jZ (jsI (jsI μ (B + 19) 5 0) (B + 19) 6 0) = jZ μ := rfl
  have k66 : jI (jsI (jsI μ (B + 19) 5 0) (B + 19) 6 0) (B + 66) = jI μ (B + 66) := by rw [jI_sI_ne (by omega), jI_sI_ne (by omega)]
  have a1 := h.ke s1 (by omega) (by decide) (by decide) (by decide)
  generalize jsI (jsI μ (B + 19) 5 0) (B + 19) 6 0 = μ1 at s1 k5 k6 kZ k66 a1 ⊢
  have hC1 := s1.ct hC hz
  simp only [jck_true, jde_is, jlt_is, jcl_0, beq_self_eq_true, jT_sI, jT_sJ, jP_sI, jP_sJ, jJ_sI, jI_sJ, jZ_sI, jZ_sJ, cP19_2 hC, cT20 hC, show jin 0 11 = true from by decide, c0, (ca_d hC h11).1, (ca_d hC h11).2.1, c_clear (ca_d hC1 h11).2, jT_s4, jP_s4, jI_s4, cT19 hC1, cP19_3 hC1, cT21 hC1, (ca_g hC1 h11).1, (ca_g hC1 h11).2.1]
  have s2 : cs B z [23] μ1 (s4 μ1 (B + (23 + 4 * 0)) (fun _ => 0)) := cs.q4 (by decide)
  have hC2 := s2.ct hC1 hz
  rw [c_fill (ca_g hC2 h11).2, jcl_0]
  have s3 : cs B z [25] (s4 μ1 (B + (23 + 4 * 0)) (fun _ => 0)) (s4 (s4 μ1 (B + (23 + 4 * 0)) (fun _ => 0)) (B + (25 + 4 * 0)) (fun _ => -1)) := cs.q4 (by decide)
  have a3 := (a1.ke s2 (by omega) (by decide) (by decide) (by decide)).ke s3 (by omega) (by decide) (by decide) (by decide)
  have c3 : cc B z μ (s4 (s4 μ1 (B + (23 + 4 * 0)) (fun _ => 0)) (B + (25 + 4 * 0)) (fun _ => -1)) := ⟨((s1.wk (by decide)).tr (s2.wk (by decide))).tr (s3.wk (by decide)), by rw [jI_s4, jI_s4, k66], kZ⟩
  have D : cD B (s4 (s4 μ1 (B + (23 + 4 * 0)) (fun _ => 0)) (B + (25 + 4 * 0)) (fun _ => -1)) wh lv0 [] 0 := by
    refine ⟨by rw [jI_s4, jI_s4, k5]; rfl, by show 0 ≤ 10; omega, by rw [jI_s4, jI_s4, k6]; rfl, by rw [jI_s4, jI_s4, k66]; exact h0, fun j h1 h2 => ?_, fun w i hi => ⟨by rw [jJ_s4_ne (by omega), jJ_s4 hi]; rfl, by rw [jJ_s4 hi]; rfl⟩⟩
    have h2 : j ≤ 0 := h2
    omega
  refine (c_read_l hx jfuel 0 k 2000 lv0 [] 0 _ (E.kc c3.1) a3 D (by omega) (by omega) (by omega) (jfuel_gt (by omega))).mono ?_
  rintro x ν ⟨c4, P⟩
  exact ⟨c3.tr c4, P⟩
