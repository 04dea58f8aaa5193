/-! the reference: a clause that isn't a define -/
theorem sOver_f (C : Nat → Int64) (cls : List Cl) : ∀ (n k : Nat) (o : Int32), sOver C false cls n k o = sOver C false [] n k o
  | 0, _, _ => rfl
  | n + 1, k, o => by
    rw [sOver, sOver]
    simp only [Bool.false_eq_true, if_false]
    simp only [sOver_f C cls n]
theorem sTail_f (C : Nat → Int64) (F : List Int64) (cls : List Cl) (k : Nat) : sTail C F false cls k = sTail C F false [] k := by
  unfold sTail
  simp only [sOver_f C cls]
  rfl
theorem mBad.sm {M : Nat} {μ ν : JM} {l : List Int32} {e : Er} {fs as : List Nat} (h : mBad M μ l e) (s : sm M fs as μ ν) (hf : 18 ∉ fs) : mBad M ν l e := by
  obtain ⟨h1, h2, h3, h4⟩ := h
  have e18 : jI ν M 18 = jI μ M 18 := s.fI hf
  exact ⟨s.mt h1, by rw [e18]; exact h2, by rw [e18]; exact h3, by rw [e18]; exact h4⟩
theorem ex_bad {M : Nat} {μ : JM} {l : List Int32} {e : Er} (w : Int64) (h : mBad M μ l e) : fX11_expects M w μ = some (0, μ, 0, 0) := by
  rw [fX11_expects]
  simp only [jck_true, jde_is, jlt_is, jcl_0, beq_self_eq_true, jT_sI, jT_sJ, jP_sI, jP_sJ, jJ_sI, jI_sJ, jZ_sI, jZ_sJ, h.1.1]
  rw [if_neg h.2.2.1]
def mT1 (M : Nat) (ν : JM) (l : List Int32) (ts : List Int64) (k e : Nat) (r : Int32) (x : Except Er (Int32 × Int32 × Int32 × CS × Nat)) : Prop := match x with
  | .error f => r = 0 ∧ mBad M ν l f
  | .ok y => r = 1 ∧ k ≤ y.2.2.2.2 ∧ mAt M ν l (ts ++ sl (Cd l) k y.2.2.2.2) y.2.2.2.2 ∧ jI ν (M + 24) e = y.1 ∧ jI ν (M + 25) e = y.2.1 ∧ jI ν (M + 26) e = pcI y.2.2.1 ∧ jI ν (M + 27) e = y.2.2.1 ∧ mHo M ν e y.2.2.2.1
def D1A : List Nat := [9, 13, 14, 15, 16, 24, 25, 26, 27, 30]
theorem m_dd1 {M e : Nat} {l : List Int32} {wh : Bool} {cls : List Cl} {F : List Int64} {k : Nat} {ts : List Int64} {μ : JM} (kd : Int32) (he : e < 120) (hcl : cls.length ≤ 24) (hec : 96 + cls.length ≤ e) (h : mAt M μ l ts k) (hC : CI M μ l F (dfs wh cls) wh) (hK : wh = true → mCls M μ 96 cls) (h24 : jI μ (M + 24) e = -1) (h25 : jI μ (M + 25) e = -1) (h26 : jI μ (M + 26) e = 0) (h27 : jI μ (M + 27) e = 0) :
    Res (if kd = 1 then (jcl (fX11_byDays M (nI e) μ) fun r269 μ270 => if r269 = 0 then (some ((0 : Int32), μ270, 0, 0)) else (fX11_clause_b291 M (nI cls.length) (nI e) μ270)) else (fX11_clause_b291 M (nI cls.length) (nI e) μ))
      (fun r ν => sm M TK D1A μ ν ∧ clsBut M μ ν e ∧ mT1 M ν l ts k e r (eb (if kd = 1 then sTerm (Cd l) k else .ok (-1, -1, k)) fun t => eb (sTail (Cd l) F wh cls t.2.2) fun z => .ok (t.1, t.2.1, z))) := by
  have tail : ∀ (μ1 : JM) (k1 : Nat) (n w : Int32), sm M TK [9, 24, 25] μ μ1 → clsBut M μ μ1 e → k ≤ k1 → mAt M μ1 l (ts ++ sl (Cd l) k k1) k1 → jI μ1 (M + 24) e = n → jI μ1 (M + 25) e = w → Res (fX11_clause_b291 M (nI cls.length) (nI e) μ1) (fun r ν => sm M TK D1A μ ν ∧ clsBut M μ ν e ∧ mT1 M ν l ts k e r (eb (sTail (Cd l) F wh cls k1) fun z => .ok (n, w, z))) := by
    intro μ1 k1 n w s1 c1 hk hA hn hw
    refine (m_tail he hcl hec hA (hC.sm s1 (by decide) (by decide)) (fun z => (hK z).but c1 (Or.inr hec)) (by rw [s1.aI (by decide) (by decide)]; exact h26) (by rw [s1.aI (by decide) (by decide)]; exact h27)).mono ?_
    rintro r ν ⟨q1, q2, q3⟩
    refine ⟨(s1.wk (by decide) (by decide)).tr (q1.wk (by decide) (by decide)), c1.tr q2, ?_⟩
    generalize sTail (Cd l) F wh cls k1 = x at q3 ⊢
    cases x with
    | error f => exact q3
    | ok y =>
      obtain ⟨z1, z2, z3, z4, z5, z6⟩ := q3
      rw [List.append_assoc, sl_app _ hk z2] at z3
      exact ⟨z1, by show k ≤ y.2.2; omega, z3, by rw [q1.aI (by decide) (by decide)]; exact hn, by rw [q1.aI (by decide) (by decide)]; exact hw, z4, z5, z6⟩
  by_cases q : kd = 1
  · rw [if_pos q, if_pos q]
    refine Res.cl (m_byDays h he) fun r μ1 ⟨s1, c1, t1⟩ => ?_
    generalize sTerm (Cd l) k = x at t1 ⊢
    cases x with
    | error f =>
      obtain ⟨rfl, t2⟩ := t1
      rw [if_pos rfl, eb_err]
      exact .ret ⟨s1.wk (by decide) (by decide), c1, rfl, t2⟩
    | ok y =>
      obtain ⟨rfl, t2, t3, t4, t5⟩ := t1
      rw [if_neg (by decide), eb_ok]
      exact tail μ1 y.2.2 y.1 y.2.1 s1 c1 t2 t3 t4 t5
  · rw [if_neg q, if_neg q, eb_ok]
    exact tail μ k (-1) (-1) sm.rf clsBut.rf (Nat.le_refl _) (by rw [sl_self, List.append_nil]; exact h) h24 h25
def mT2 (wh : Bool) (M : Nat) (ν : JM) (l : List Int32) (ts : List Int64) (k e : Nat) (kd : Int32) (P A : List Int64) (r : Int32) (x : Except Er ((Int32 × List Int64 × Nat) × (Int32 × List Int64 × Nat) × Int32 × Int32 × Int32 × CS × Nat)) : Prop := match x with
  | .error f => r = 0 ∧ mBad M ν l f ∧ mWe wh M ν 5 4 5 P ∧ mWe wh M ν 8 6 7 A
  | .ok (p, a, y) => r = 1 ∧ k ≤ y.2.2.2.2 ∧ mAt M ν l (ts ++ sl (Cd l) k y.2.2.2.2) y.2.2.2.2 ∧ mWl M ν 5 4 5 6 p.2.1 ∧ pfx wh P p.2.1 ∧ mWl M ν 8 6 7 12 a.2.1 ∧ pfx wh A a.2.1 ∧ mCp M ν e kd p.1 a.1 y.1 y.2.1 y.2.2.1 ∧ mHo M ν e y.2.2.2.1
def D2A : List Nat := [4, 5, 6, 7, 9, 13, 14, 15, 16, 21, 22, 23, 24, 25, 26, 27, 30]
def D2F : List Nat := [13, 14, 15, 16, 17, 18, 20, 21, 5, 8]
def sD2 (C : Nat → Int64) (F : List Int64) (wh : Bool) (cls : List Cl) (P A : List Int64) (kd : Int32) (k : Nat) : Except Er ((Int32 × List Int64 × Nat) × (Int32 × List Int64 × Nat) × Int32 × Int32 × Int32 × CS × Nat) :=
  eb (sNum wh P 6 C k) fun p => eb (exC C (-3005) p.2.2) fun k4 => eb (sNum wh A 12 C k4) fun a =>
  eb (eb (if kd = 1 then sTerm C a.2.2 else .ok (-1, -1, a.2.2)) fun t => eb (sTail C F wh cls t.2.2) fun z => .ok (t.1, t.2.1, z)) fun y => .ok (p, a, y)
theorem m_dd2 {M e : Nat} {l : List Int32} {wh : Bool} {cls : List Cl} {F : List Int64} {k : Nat} {ts : List Int64} {μ : JM} {P A : List Int64} {kd : Int32} (he : e < 120) (hcl : cls.length ≤ 24) (hec : 96 + cls.length ≤ e) (h : mAt M μ l ts k) (hC : CI M μ l F (dfs wh cls) wh) (hK : wh = true → mCls M μ 96 cls) (hI : mIni M μ e) (hkd : jI μ (M + 21) e = kd) (hP : mWl M μ 5 4 5 6 P) (hA : mWl M μ 8 6 7 12 A) :
    Res (jcl (fX11_partyOf M μ) fun r218 μ219 => jde (jP μ M 36) fun q227 => jck ((jT μ219 q227).1 == 101) <| jck (jin (nI e) (jT μ219 q227).2) <| jlt (jsI μ219 q227 (nI e).toNatClampNeg r218) fun μ231 => jck ((jT μ219 M).1 == 12) <| jcl (fX11_expects M (655 : Int64) μ231) fun r235 μ236 => if r235 = 0 then (some ((0 : Int32), μ236, 0, 0)) else (jck ((jT μ236 M).1 == 12) <| jcl (fX11_actOf M μ236) fun r246 μ247 => jde (jP μ236 M 37) fun q255 => jck ((jT μ247 q255).1 == 101) <| jck (jin (nI e) (jT μ247 q255).2) <| jlt (jsI μ247 q255 (nI e).toNatClampNeg r246) fun μ259 => jck ((jT μ247 M).1 == 12) <| if 0 < (jI μ259 M 18) then (some ((0 : Int32), μ259, 0, 0)) else (jde (jP μ259 M 35) fun q264 => jck ((jT μ247 q264).1 == 101) <| jck (jin (nI e) (jT μ247 q264).2) <| if (jI μ259 q264 (nI e).toNatClampNeg) = (1 : Int32) then (jcl (fX11_byDays M (nI e) μ259) fun r269 μ270 => if r269 = 0 then (some ((0 : Int32), μ270, 0, 0)) else (fX11_clause_b291 M (nI cls.length) (nI e) μ270)) else (fX11_clause_b291 M (nI cls.length) (nI e) μ259))))
      (fun r ν => sm M D2F D2A μ ν ∧ clsBut M μ ν e ∧ mT2 wh M ν l ts k e kd P A r (sD2 (Cd l) F wh cls P A kd k)) := by
  obtain ⟨h1, h2, h3⟩ := mA_ok h
  unfold sD2
  refine Res.cl (m_partyOf h hC.2.2 hP) fun r μ1 ⟨s1, n1⟩ => ?_
  have hM1 := s1.mt h1
  simp only [jck_true, jde_is, jlt_is, jcl_0, beq_self_eq_true, jT_sI, jT_sJ, jP_sI, jP_sJ, jJ_sI, jI_sJ, jZ_sI, jZ_sJ, hM1.1, mP_party h1, mT_party hM1, jin_nI he (show 120 < 2 ^ 31 by decide), nI_clamp (show e < 2 ^ 31 by omega)]
  generalize hμ2 : jsI μ1 (M + 22) e r = μ2
  have s2 : sm M [] [22] μ1 μ2 := by rw [← hμ2]; exact sm.sA (by decide) (by decide)
  have c2 : clsBut M μ μ2 e := by rw [← hμ2]; exact (clsBut.sm s1 (by decide)).tr (clsBut.setI (by decide))
  have v2 : jI μ2 (M + 22) e = r := by rw [← hμ2, jI_sI, if_pos ⟨rfl, rfl⟩]
  have S2 : sm M (5 :: TK) [4, 5, 9, 22] μ μ2 := (s1.wk (by decide) (by decide)).tr (s2.wk (by decide) (by decide))
  have hM2 := S2.mt h1
  generalize sNum wh P 6 (Cd l) k = x at n1 ⊢
  cases x with
  | error f =>
    obtain ⟨b1, b2⟩ := n1
    have b3 := b1.sm s2 (by decide)
    rw [ex_bad _ b3, jcl_0, if_pos rfl, eb_err]
    exact .ret ⟨S2.wk (by decide) (by decide), c2, rfl, b3, b2.sm s2 (by decide) (by decide) (by decide) (by decide) (by decide), (hA.sm S2 (by decide) (by decide) (by decide) (by decide) (by decide)).we0⟩
  | ok p =>
    obtain ⟨rfl, b2, b3, b4, b5⟩ := n1
    rw [eb_ok, b2]
    have hP2 := b4.sm s2 (by decide) (by decide) (by decide) (by decide) (by decide)
    have hA2 := hA.sm S2 (by decide) (by decide) (by decide) (by decide) (by decide)
    refine st_exW 655 (-3005) 5 (by decide) (by decide) (by decide) (b3.sm s2 (by decide) (by decide)) (fun ν f hf hs hb => ?_) (fun μ3 hf3 s3 hA3 => ?_)
    · rw [if_pos rfl, hf, eb_err]
      exact .ret ⟨(S2.wk (by decide) (by decide)).tr (hs.wk (by decide) (by decide)), c2.tr (clsBut.sm hs (by decide)), rfl, hb, (hP2.sm hs (by decide) (by decide) (by decide) (by decide) (by decide)).we b5, (hA2.sm hs (by decide) (by decide) (by decide) (by decide) (by decide)).we0⟩
    · have S3 : sm M (5 :: TK) [4, 5, 9, 22] μ μ3 := S2.tr (s3.wk (by decide) (by decide))
      have hM3 := S3.mt h1
      have c3 : clsBut M μ μ3 e := c2.tr (clsBut.sm s3 (by decide))
      have hP3 := hP2.sm s3 (by decide) (by decide) (by decide) (by decide) (by decide)
      have hAc3 := hA2.sm s3 (by decide) (by decide) (by decide) (by decide) (by decide)
      rw [if_neg (by decide), hf3, eb_ok]
      simp only [jck_true, jde_is, jlt_is, jcl_0, beq_self_eq_true, jT_sI, jT_sJ, jP_sI, jP_sJ, jJ_sI, jI_sJ, jZ_sI, jZ_sJ, hM3.1]
      refine Res.cl (m_actOf hA3 ((S3.fI (by decide)).trans hC.2.2) hAc3) fun r μ4 ⟨s4, n4⟩ => ?_
      have hM4 := s4.mt hM3
      simp only [jck_true, jde_is, jlt_is, jcl_0, beq_self_eq_true, jT_sI, jT_sJ, jP_sI, jP_sJ, jJ_sI, jI_sJ, jZ_sI, jZ_sJ, hM4.1, mP_act hM3, mT_act hM4, jin_nI he (show 120 < 2 ^ 31 by decide), nI_clamp (show e < 2 ^ 31 by omega)]
      generalize hμ5 : jsI μ4 (M + 23) e r = μ5
      have s5 : sm M [] [23] μ4 μ5 := by rw [← hμ5]; exact sm.sA (by decide) (by decide)
      have c5 : clsBut M μ μ5 e := by rw [← hμ5]; exact c3.tr ((clsBut.sm s4 (by decide)).tr (clsBut.setI (by decide)))
      have v5 : jI μ5 (M + 23) e = r := by rw [← hμ5, jI_sI, if_pos ⟨rfl, rfl⟩]
      have s35 : sm M (8 :: TK) [6, 7, 9, 23] μ3 μ5 := (s4.wk (by decide) (by decide)).tr (s5.wk (by decide) (by decide))
      have S5 : sm M D2F [4, 5, 6, 7, 9, 22, 23] μ μ5 := (S3.wk (by decide) (by decide)).tr (s35.wk (by decide) (by decide))
      have hM5 := S5.mt h1
      have hP5 := hP3.sm s35 (by decide) (by decide) (by decide) (by decide) (by decide)
      generalize sNum wh A 12 (Cd l) (k + 1 + 1) = x at n4 ⊢
      cases x with
      | error f =>
        obtain ⟨b6, b7⟩ := n4
        have b8 := b6.sm s5 (by decide)
        rw [if_pos (Int32.not_le.mp b8.2.2.2), eb_err]
        exact .ret ⟨S5.wk (by decide) (by decide), c5, rfl, b8, hP5.we b5, b7.sm s5 (by decide) (by decide) (by decide) (by decide) (by decide)⟩
      | ok a =>
        obtain ⟨rfl, b6, b7, b8, b9⟩ := n4
        have hA5 := b7.sm s5 (by decide) (by decide)
        have hAc5 := b8.sm s5 (by decide) (by decide) (by decide) (by decide) (by decide)
        rw [eb_ok, (mA_ok hA5).2.1, if_neg (by decide)]
        have kd5 : jI μ5 (M + 21) e = kd := by rw [S5.aI (by decide) (by decide)]; exact hkd
        simp only [jck_true, jde_is, jlt_is, jcl_0, beq_self_eq_true, jT_sI, jT_sJ, jP_sI, jP_sJ, jJ_sI, jI_sJ, jZ_sI, jZ_sJ, mP_kind hM4, mT_kind hM4, jin_nI he (show 120 < 2 ^ 31 by decide), kd5, b6]
        have eL : ts ++ sl (Cd l) k (k + 1) ++ sl (Cd l) (k + 1) (k + 1 + 1) ++ sl (Cd l) (k + 1 + 1) (k + 1 + 1 + 1) = ts ++ sl (Cd l) k (k + 1 + 1 + 1) := by
          rw [List.append_assoc, List.append_assoc, sl_app _ (by omega) (by omega), sl_app _ (by omega) (by omega)]
        rw [eL] at hA5
        refine (m_dd1 (wh := wh) (F := F) (cls := cls) kd he hcl hec hA5 (hC.sm S5 (by decide) (by decide)) (fun z => (hK z).but c5 (Or.inr hec)) (by rw [S5.aI (by decide) (by decide)]; exact hI.2.2.1) (by rw [S5.aI (by decide) (by decide)]; exact hI.2.2.2.1) (by rw [S5.aI (by decide) (by decide)]; exact hI.2.2.2.2.1) (by rw [S5.aI (by decide) (by decide)]; exact hI.2.2.2.2.2)).mono ?_
        rintro r ν ⟨q1, q2, q3⟩
        have S6 : sm M D2F D2A μ ν := (S5.wk (by decide) (by decide)).tr (q1.wk (by decide) (by decide))
        refine ⟨S6, c5.tr q2, ?_⟩
        generalize (eb (if kd = 1 then sTerm (Cd l) (k + 1 + 1 + 1) else .ok (-1, -1, k + 1 + 1 + 1)) fun t => eb (sTail (Cd l) F wh cls t.2.2) fun z => .ok (t.1, t.2.1, z)) = y at q3 ⊢
        cases y with
        | error f =>
          obtain ⟨z1, z2⟩ := q3
          exact ⟨z1, z2, (hP5.sm q1 (by decide) (by decide) (by decide) (by decide) (by decide)).we b5, (hAc5.sm q1 (by decide) (by decide) (by decide) (by decide) (by decide)).we b9⟩
        | ok y =>
          obtain ⟨z1, z2, z3, z4, z5, z6, z7, z8⟩ := q3
          rw [List.append_assoc, sl_app _ (by omega) z2] at z3
          refine ⟨z1, by show k ≤ y.2.2.2.2; omega, z3, hP5.sm q1 (by decide) (by decide) (by decide) (by decide) (by decide), b5, hAc5.sm q1 (by decide) (by decide) (by decide) (by decide) (by decide), b9, ⟨?_, ?_, ?_, z4, z5, z6, z7⟩, z8⟩
          · rw [q1.aI (by decide) (by decide)]; exact kd5
          · rw [q1.aI (by decide) (by decide), s35.aI (by decide) (by decide), s3.aI (by decide) (by decide)]; exact v2
          · rw [q1.aI (by decide) (by decide)]; exact v5
