/-! the reference: partyOf, actOf -/
theorem m_nameC {M a s mx : Nat} {μ : JM} {l : List Int32} {ts : List Int64} {k : Nat} {cs : List Int64} (h : mAt M μ l ts k) (hc : 0 < Cd l k) (ha : a ≠ 0) (ha8 : a ≠ 8) (hs : s ≠ 0) (hs8 : s ≠ 8) (has : a ≠ s) (hT : jT μ (M + a) = (100, 12 * mx)) (hS : jT μ (M + s) = (101, mx)) (hm : cs.length < mx) (hmx : mx < 1000) (hW : mW μ (M + a) (M + s) cs) :
    ∃ ν, fX11_name M (some (M + a)) (some (M + s)) (nI cs.length) μ = some ((), ν, 0, 0) ∧ sm M [] [a, s] μ ν ∧ mW ν (M + a) (M + s) (cs ++ [Cd l k]) := by
  obtain ⟨h1, h2, h3⟩ := h.wd hc
  obtain ⟨ws, g1, g2, rfl⟩ := hW
  rw [List.length_map] at hm ⊢
  obtain ⟨ν, e1, e2, e3⟩ := m_name (A := M + a) (S := M + s) h1 (by omega) (by omega) (by omega) (by omega) (by omega) (by rw [hT]) (by rw [hT]; simp only; omega) (by rw [hT]; simp only; omega) (by rw [hS]) (by rw [hS]; exact hm) (by rw [hS]; simp only; omega) g1
  refine ⟨ν, e1, wNm.sm e2 ha hs, ⟨_, e3, fun w hw => ?_, ?_⟩⟩
  · rcases List.mem_append.mp hw with q | q
    · exact g2 w q
    · rw [List.mem_singleton] at q; subst q; exact h2
  · rw [List.map_append, List.map_cons, List.map_nil, h3]
def mWl (M : Nat) (μ : JM) (f a s mx : Nat) (P : List Int64) : Prop := jI μ M f = nI P.length ∧ P.length ≤ mx ∧ mW μ (M + a) (M + s) P
theorem mWl.sm {M : Nat} {fs as : List Nat} {μ ν : JM} {f a s mx : Nat} {P : List Int64} (h : mWl M μ f a s mx P) (q : sm M fs as μ ν) (hf : f ∉ fs) (ha : a ≠ 0) (hs : s ≠ 0) (h1 : a ∉ as) (h2 : s ∉ as) : mWl M ν f a s mx P := ⟨(q.fI hf).trans h.1, h.2.1, h.2.2.sm q ha hs h1 h2⟩
theorem mW.pre {μ : JM} {A S : Nat} {P Q : List Int64} (h : mW μ A S Q) (hp : P <+: Q) : mW μ A S P := by
  obtain ⟨ws, g1, g2, rfl⟩ := h
  have hP : P = (ws.take P.length).map wc := by rw [List.map_take]; exact List.prefix_iff_eq_take.mp hp
  refine ⟨ws.take P.length, fun n hn => ?_, fun w hw => g2 w (List.mem_of_mem_take hw), hP⟩
  have hn2 : n < ws.length := by rw [List.length_take] at hn; omega
  have hn3 : n < P.length := by rw [List.length_take] at hn; omega
  have := g1 n hn2
  have e : (ws.take P.length).getD n [] = ws.getD n [] := by
    rw [List.getD_eq_getElem?_getD, List.getD_eq_getElem?_getD, List.getElem?_take_of_lt hn3]
  rw [e]; exact this
def pfx (wh : Bool) (P Q : List Int64) : Prop := P <+: Q ∧ (wh = false → Q = P)
theorem pfx.rf {wh : Bool} {P : List Int64} : pfx wh P P := ⟨List.prefix_refl _, fun _ => rfl⟩
theorem pfx.tr {wh : Bool} {P Q R : List Int64} (h : pfx wh P Q) (g : pfx wh Q R) : pfx wh P R := ⟨h.1.trans g.1, fun z => (g.2 z).trans (h.2 z)⟩
def mWe (wh : Bool) (M : Nat) (μ : JM) (f a s : Nat) (P : List Int64) : Prop := mW μ (M + a) (M + s) P ∧ (wh = false → jI μ M f = nI P.length)
theorem mWl.we {wh : Bool} {M : Nat} {μ : JM} {f a s mx : Nat} {P Q : List Int64} (h : mWl M μ f a s mx Q) (hp : pfx wh P Q) : mWe wh M μ f a s P := ⟨h.2.2.pre hp.1, fun z => by rw [h.1, hp.2 z]⟩
theorem mWl.we0 {wh : Bool} {M : Nat} {μ : JM} {f a s mx : Nat} {P : List Int64} (h : mWl M μ f a s mx P) : mWe wh M μ f a s P := ⟨h.2.2, fun _ => h.1⟩
theorem mWe.sm {wh : Bool} {M : Nat} {fs as : List Nat} {μ ν : JM} {f a s : Nat} {P : List Int64} (h : mWe wh M μ f a s P) (q : sm M fs as μ ν) (hf : f ∉ fs) (ha : a ≠ 0) (hs : s ≠ 0) (h1 : a ∉ as) (h2 : s ∉ as) : mWe wh M ν f a s P := ⟨h.1.sm q ha hs h1 h2, fun z => (q.fI hf).trans (h.2 z)⟩
def mNu (wh : Bool) (f a s mx : Nat) (M : Nat) (ν : JM) (l : List Int32) (ts : List Int64) (k : Nat) (r : Int32) (P : List Int64) (x : Except Er (Int32 × List Int64 × Nat)) : Prop := match x with
  | .error e => mBad M ν l e ∧ mWe wh M ν f a s P
  | .ok y => r = y.1 ∧ y.2.2 = k + 1 ∧ mAt M ν l (ts ++ sl (Cd l) k (k + 1)) (k + 1) ∧ mWl M ν f a s mx y.2.1 ∧ pfx wh P y.2.1
theorem m_partyOf {M : Nat} {μ : JM} {l : List Int32} {ts : List Int64} {k : Nat} {wh : Bool} {P : List Int64} (h : mAt M μ l ts k) (hw : jI μ M 33 = if wh then 1 else 0) (hP : mWl M μ 5 4 5 6 P) : Res (fX11_partyOf M μ) (fun r ν => sm M (5 :: TK) [4, 5, 9] μ ν ∧ mNu wh 5 4 5 6 M ν l ts k r P (sNum wh P 6 (Cd l) k)) := by
  obtain ⟨h1, h2, h3⟩ := mA_ok h
  rw [fX11_partyOf]
  simp only [jck_true, jde_is, jlt_is, jcl_0, beq_self_eq_true, jT_sI, jT_sJ, jP_sI, jP_sJ, jJ_sI, jI_sJ, jZ_sI, jZ_sJ, h1.1]
  unfold sNum
  refine st_name h (fun ν e he hs hb => ?_) (fun he hc => ?_)
  · rw [if_pos rfl, he, eb_err]
    exact .ret ⟨hs.wk (by decide) (by decide), hb, (hP.sm hs (by decide) (by decide) (by decide) (by decide) (by decide)).we0⟩
  · rw [if_neg (by decide), he, eb_ok]
    simp only [jck_true, jde_is, jlt_is, jcl_0, beq_self_eq_true, jT_sI, jT_sJ, jP_sI, jP_sJ, jJ_sI, jI_sJ, jZ_sI, jZ_sJ, h1.1, hw]
    cases wh with
    | false =>
      simp only [Bool.false_eq_true, if_false, if_true]
      refine st_take h (isT_free hc) (fun ν e h2 hs hb => ?_) (fun ν h2 hs hA => ?_)
      · rw [if_pos rfl, h2, eb_err]
        exact .ret ⟨hs.wk (by decide) (by decide), hb, (hP.sm hs (by decide) (by decide) (by decide) (by decide) (by decide)).we0⟩
      · rw [if_neg (by decide), h2, eb_ok]
        exact .ret ⟨hs.wk (by decide) (by decide), rfl, rfl, hA, hP.sm hs (by decide) (by decide) (by decide) (by decide) (by decide), pfx.rf⟩
    | true =>
      simp only [if_true]
      have hPl := hP.2.1
      have ef := mA_find (cs := P) h hc (A := M + 4) (S := M + 5) (by rw [mT_partyName h1]) (by rw [mT_partyName h1]; simp; omega) (by rw [mT_partyName h1]; decide) (by rw [mT_partySize h1]) (by rw [mT_partySize h1]; simp; omega) (by rw [mT_partySize h1]; decide) hP.2.2 (by omega)
      rw [if_neg (by decide), mP_partyName h1, mP_partySize h1, hP.1, ef, jcl_0]
      rcases ixC_lt (cs := P) (c := Cd l k) (by omega) with ⟨i, f1, f2, f3, f4, f5⟩ | ⟨f1, f2⟩
      · rw [if_pos f5, fX11_partyOf_b71, if_pos f5, fX11_partyOf_b103, f1, f2]
        simp only [jck_true, jde_is, jlt_is, jcl_0, beq_self_eq_true, jT_sI, jT_sJ, jP_sI, jP_sJ, jJ_sI, jI_sJ, jZ_sI, jZ_sJ, h1.1]
        refine st_take h (isT_free hc) (fun ν e h2 hs hb => ?_) (fun ν h2 hs hA => ?_)
        · rw [if_pos rfl, h2, eb_err]
          exact .ret ⟨hs.wk (by decide) (by decide), hb, (hP.sm hs (by decide) (by decide) (by decide) (by decide) (by decide)).we0⟩
        · rw [if_neg (by decide), h2, eb_ok]
          exact .ret ⟨hs.wk (by decide) (by decide), rfl, rfl, hA, hP.sm hs (by decide) (by decide) (by decide) (by decide) (by decide), pfx.rf⟩
      · rw [f2, if_neg (by decide), f1]
        simp only [jck_true, jde_is, jlt_is, jcl_0, beq_self_eq_true, jT_sI, jT_sJ, jP_sI, jP_sJ, jJ_sI, jI_sJ, jZ_sI, jZ_sJ, h1.1, hP.1]
        by_cases q : P.length = 6
        · rw [if_pos (by rw [q]; rfl), if_pos q]
          refine st_fail 5 5 rfl (by decide) h (fun ν hs hb => ?_)
          exact .ret ⟨hs.wk (by decide) (by decide), hb, (hP.sm hs (by decide) (by decide) (by decide) (by decide) (by decide)).we0⟩
        · rw [if_neg (by rw [show (6 : Int32) = nI 6 from rfl, nI_eq (by omega) (by omega)]; exact q), if_neg q, fX11_partyOf_b71, if_neg (by decide)]
          simp only [jck_true, jde_is, jlt_is, jcl_0, beq_self_eq_true, jT_sI, jT_sJ, jP_sI, jP_sJ, jJ_sI, jI_sJ, jZ_sI, jZ_sJ, h1.1, mP_partyName h1, mP_partySize h1, hP.1]
          obtain ⟨ν1, e1, e2, e3⟩ := m_nameC (mx := 7) h hc (a := 4) (s := 5) (by decide) (by decide) (by decide) (by decide) (by decide) (mT_partyName h1) (mT_partySize h1) (by omega) (by decide) hP.2.2
          rw [e1]
          have hM1 := e2.mt h1
          have e5 : jI ν1 M 5 = nI P.length := (e2.fI (by decide)).trans hP.1
          simp only [jck_true, jde_is, jlt_is, jcl_0, beq_self_eq_true, jT_sI, jT_sJ, jP_sI, jP_sJ, jJ_sI, jI_sJ, jZ_sI, jZ_sJ, hM1.1, e5, nI_1]
          generalize hμ2 : jsI ν1 M 5 (nI (P.length + 1)) = μ2
          have s2 : sm M [5] [] ν1 μ2 := by rw [← hμ2]; exact sm.sF (by decide)
          have s12 : sm M (5 :: TK) [4, 5, 9] μ μ2 := (e2.wk (by decide) (by decide)).tr (s2.wk (by decide) (by decide))
          have hM2 := s2.mt hM1
          have hA2 : mAt M μ2 l ts k := h.sm ((e2.wk (gs := [5]) (bs := [4, 5]) (by decide) (by decide)).tr (s2.wk (by decide) (by decide))) (by decide) (by decide)
          have hW2 : mWl M μ2 5 4 5 6 (P ++ [Cd l k]) := ⟨by rw [← hμ2, jI_sI, if_pos ⟨rfl, rfl⟩]; simp, by simp; omega, e3.sm s2 (by decide) (by decide) (by decide) (by decide)⟩
          rw [fX11_partyOf_b103]
          simp only [jck_true, jde_is, jlt_is, jcl_0, beq_self_eq_true, jT_sI, jT_sJ, jP_sI, jP_sJ, jJ_sI, jI_sJ, jZ_sI, jZ_sJ, hM2.1]
          refine st_take hA2 (isT_free hc) (fun ν e h2 hs hb => ?_) (fun ν h2 hs hA => ?_)
          · rw [if_pos rfl, h2, eb_err]
            exact .ret ⟨s12.tr (hs.wk (by decide) (by decide)), hb, (hW2.2.2.sm hs (by decide) (by decide) (by decide) (by decide)).pre (List.prefix_append _ _), fun z => by cases z⟩
          · rw [if_neg (by decide), h2, eb_ok]
            exact .ret ⟨s12.tr (hs.wk (by decide) (by decide)), rfl, rfl, hA, hW2.sm hs (by decide) (by decide) (by decide) (by decide) (by decide), List.prefix_append _ _, fun z => by cases z⟩
theorem m_actOf {M : Nat} {μ : JM} {l : List Int32} {ts : List Int64} {k : Nat} {wh : Bool} {P : List Int64} (h : mAt M μ l ts k) (hw : jI μ M 33 = if wh then 1 else 0) (hP : mWl M μ 8 6 7 12 P) : Res (fX11_actOf M μ) (fun r ν => sm M (8 :: TK) [6, 7, 9] μ ν ∧ mNu wh 8 6 7 12 M ν l ts k r P (sNum wh P 12 (Cd l) k)) := by
  obtain ⟨h1, h2, h3⟩ := mA_ok h
  rw [fX11_actOf]
  simp only [jck_true, jde_is, jlt_is, jcl_0, beq_self_eq_true, jT_sI, jT_sJ, jP_sI, jP_sJ, jJ_sI, jI_sJ, jZ_sI, jZ_sJ, h1.1]
  unfold sNum
  refine st_name h (fun ν e he hs hb => ?_) (fun he hc => ?_)
  · rw [if_pos rfl, he, eb_err]
    exact .ret ⟨hs.wk (by decide) (by decide), hb, (hP.sm hs (by decide) (by decide) (by decide) (by decide) (by decide)).we0⟩
  · rw [if_neg (by decide), he, eb_ok]
    simp only [jck_true, jde_is, jlt_is, jcl_0, beq_self_eq_true, jT_sI, jT_sJ, jP_sI, jP_sJ, jJ_sI, jI_sJ, jZ_sI, jZ_sJ, h1.1, hw]
    cases wh with
    | false =>
      simp only [Bool.false_eq_true, if_false, if_true]
      refine st_take h (isT_free hc) (fun ν e h2 hs hb => ?_) (fun ν h2 hs hA => ?_)
      · rw [if_pos rfl, h2, eb_err]
        exact .ret ⟨hs.wk (by decide) (by decide), hb, (hP.sm hs (by decide) (by decide) (by decide) (by decide) (by decide)).we0⟩
      · rw [if_neg (by decide), h2, eb_ok]
        exact .ret ⟨hs.wk (by decide) (by decide), rfl, rfl, hA, hP.sm hs (by decide) (by decide) (by decide) (by decide) (by decide), pfx.rf⟩
    | true =>
      simp only [if_true]
      have hPl := hP.2.1
      have ef := mA_find (cs := P) h hc (A := M + 6) (S := M + 7) (by rw [mT_actName h1]) (by rw [mT_actName h1]; simp; omega) (by rw [mT_actName h1]; decide) (by rw [mT_actSize h1]) (by rw [mT_actSize h1]; simp; omega) (by rw [mT_actSize h1]; decide) hP.2.2 (by omega)
      rw [if_neg (by decide), mP_actName h1, mP_actSize h1, hP.1, ef, jcl_0]
      rcases ixC_lt (cs := P) (c := Cd l k) (by omega) with ⟨i, f1, f2, f3, f4, f5⟩ | ⟨f1, f2⟩
      · rw [if_pos f5, fX11_actOf_b71, if_pos f5, fX11_actOf_b103, f1, f2]
        simp only [jck_true, jde_is, jlt_is, jcl_0, beq_self_eq_true, jT_sI, jT_sJ, jP_sI, jP_sJ, jJ_sI, jI_sJ, jZ_sI, jZ_sJ, h1.1]
        refine st_take h (isT_free hc) (fun ν e h2 hs hb => ?_) (fun ν h2 hs hA => ?_)
        · rw [if_pos rfl, h2, eb_err]
          exact .ret ⟨hs.wk (by decide) (by decide), hb, (hP.sm hs (by decide) (by decide) (by decide) (by decide) (by decide)).we0⟩
        · rw [if_neg (by decide), h2, eb_ok]
          exact .ret ⟨hs.wk (by decide) (by decide), rfl, rfl, hA, hP.sm hs (by decide) (by decide) (by decide) (by decide) (by decide), pfx.rf⟩
      · rw [f2, if_neg (by decide), f1]
        simp only [jck_true, jde_is, jlt_is, jcl_0, beq_self_eq_true, jT_sI, jT_sJ, jP_sI, jP_sJ, jJ_sI, jI_sJ, jZ_sI, jZ_sJ, h1.1, hP.1]
        by_cases q : P.length = 12
        · rw [if_pos (by rw [q]; rfl), if_pos q]
          refine st_fail 5 5 rfl (by decide) h (fun ν hs hb => ?_)
          exact .ret ⟨hs.wk (by decide) (by decide), hb, (hP.sm hs (by decide) (by decide) (by decide) (by decide) (by decide)).we0⟩
        · rw [if_neg (by rw [show (12 : Int32) = nI 12 from rfl, nI_eq (by omega) (by omega)]; exact q), if_neg q, fX11_actOf_b71, if_neg (by decide)]
          simp only [jck_true, jde_is, jlt_is, jcl_0, beq_self_eq_true, jT_sI, jT_sJ, jP_sI, jP_sJ, jJ_sI, jI_sJ, jZ_sI, jZ_sJ, h1.1, mP_actName h1, mP_actSize h1, hP.1]
          obtain ⟨ν1, e1, e2, e3⟩ := m_nameC (mx := 13) h hc (a := 6) (s := 7) (by decide) (by decide) (by decide) (by decide) (by decide) (mT_actName h1) (mT_actSize h1) (by omega) (by decide) hP.2.2
          rw [e1]
          have hM1 := e2.mt h1
          have e5 : jI ν1 M 8 = nI P.length := (e2.fI (by decide)).trans hP.1
          simp only [jck_true, jde_is, jlt_is, jcl_0, beq_self_eq_true, jT_sI, jT_sJ, jP_sI, jP_sJ, jJ_sI, jI_sJ, jZ_sI, jZ_sJ, hM1.1, e5, nI_1]
          generalize hμ2 : jsI ν1 M 8 (nI (P.length + 1)) = μ2
          have s2 : sm M [8] [] ν1 μ2 := by rw [← hμ2]; exact sm.sF (by decide)
          have s12 : sm M (8 :: TK) [6, 7, 9] μ μ2 := (e2.wk (by decide) (by decide)).tr (s2.wk (by decide) (by decide))
          have hM2 := s2.mt hM1
          have hA2 : mAt M μ2 l ts k := h.sm ((e2.wk (gs := [8]) (bs := [6, 7]) (by decide) (by decide)).tr (s2.wk (by decide) (by decide))) (by decide) (by decide)
          have hW2 : mWl M μ2 8 6 7 12 (P ++ [Cd l k]) := ⟨by rw [← hμ2, jI_sI, if_pos ⟨rfl, rfl⟩]; simp, by simp; omega, e3.sm s2 (by decide) (by decide) (by decide) (by decide)⟩
          rw [fX11_actOf_b103]
          simp only [jck_true, jde_is, jlt_is, jcl_0, beq_self_eq_true, jT_sI, jT_sJ, jP_sI, jP_sJ, jJ_sI, jI_sJ, jZ_sI, jZ_sJ, hM2.1]
          refine st_take hA2 (isT_free hc) (fun ν e h2 hs hb => ?_) (fun ν h2 hs hA => ?_)
          · rw [if_pos rfl, h2, eb_err]
            exact .ret ⟨s12.tr (hs.wk (by decide) (by decide)), hb, (hW2.2.2.sm hs (by decide) (by decide) (by decide) (by decide)).pre (List.prefix_append _ _), fun z => by cases z⟩
          · rw [if_neg (by decide), h2, eb_ok]
            exact .ret ⟨s12.tr (hs.wk (by decide) (by decide)), rfl, rfl, hA, hW2.sm hs (by decide) (by decide) (by decide) (by decide) (by decide), List.prefix_append _ _, fun z => by cases z⟩
