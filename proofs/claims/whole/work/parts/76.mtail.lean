/-! the reference: the TAIL of a clause -/
theorem ho_step {M e i : Nat} {μ : JM} (v : Int64) (hi : i < 4) : sm M [] [30] μ (jsJ μ (M + 30) (4 * e + i) v) ∧ clsBut M μ (jsJ μ (M + 30) (4 * e + i) v) e ∧ (∀ j, j < 4 → jJ (jsJ μ (M + 30) (4 * e + i) v) (M + 30) (4 * e + j) = if j = i then v else jJ μ (M + 30) (4 * e + j)) := by
  refine ⟨sm.sJ (by decide), clsBut.setJ hi, fun j hj => ?_⟩
  rw [jJ_sJ]
  by_cases z : j = i
  · subst z; rw [if_pos ⟨rfl, rfl⟩, if_pos rfl]
  · rw [if_neg (by omega), if_neg z]
theorem ho_all {M e : Nat} {x1 : Int32} (he : e < 120) : ∀ (fu i : Nat) (μ : JM), MT M μ → i ≤ 4 → 4 - i < fu → (∀ j, j < i → jJ μ (M + 30) (4 * e + j) = jJ μ (M + 10) j) →
    ∃ ν f2, fX11_clause_b293 fu M x1 (nI e) (nI i) μ = fX11_clause_b293 (f2 + 1) M x1 (nI e) 4 ν ∧ sm M [] [30] μ ν ∧ clsBut M μ ν e ∧ mHo M ν e (fun _ => -1) := by
  intro fu
  induction fu with
  | zero => intro i μ _ _ h; omega
  | succ fu ih =>
    intro i μ h hi hf hp
    by_cases q : i = 4
    · subst q
      exact ⟨μ, fu, rfl, sm.rf, clsBut.rf, fun j hj => by rw [hp j hj, lx_m1]⟩
    · have i4 : i < 4 := by omega
      rw [fX11_clause_b293, if_neg (show ¬ (4 : Int32) ≤ nI i from nI_ge (b := 4) (by omega) (by decide))]
      simp only [jck_true, jde_is, jlt_is, jcl_0, beq_self_eq_true, jT_sI, jT_sJ, jP_sI, jP_sJ, jJ_sI, jI_sJ, jZ_sI, jZ_sJ, h.1, mP_all h, mT_all h, mP_holding h, mT_holding h, ix4, jin_nI i4 (show 4 < 2 ^ 31 by decide), jin_nI (show 4 * e + i < 480 by omega) (by decide), nI_clamp (show 4 * e + i < 2 ^ 31 by omega), nI_clamp (show i < 2 ^ 31 by omega), nI_1]
      obtain ⟨s1, c1, v1⟩ := ho_step (M := M) (e := e) (μ := μ) (jJ μ (M + 10) i) i4
      generalize jsJ μ (M + 30) (4 * e + i) (jJ μ (M + 10) i) = μ1 at s1 c1 v1 ⊢
      have e10 : jJ μ1 (M + 10) = jJ μ (M + 10) := s1.aJ (by decide) (by decide)
      obtain ⟨ν, f2, g1, g2, g3, g4⟩ := ih (i + 1) μ1 (s1.mt h) (by omega) (by omega) (fun j hj => by
        rw [v1 j (by omega), e10]
        by_cases z : j = i
        · rw [if_pos z, z]
        · rw [if_neg z]; exact hp j (by omega))
      exact ⟨ν, f2, g1, s1.tr g2, c1.tr g3, g4⟩
theorem ho_and {M e : Nat} {x1 : Int32} {g w : CS} (he : e < 120) : ∀ (fu i : Nat) (μ : JM), MT M μ → i ≤ 4 → 4 - i < fu → mNow M μ w → (∀ j, j < 4 → jJ μ (M + 30) (4 * e + j) = (if j < i then g j &&& w j else g j) &&& jJ μ (M + 10) j) →
    ∃ ν, fX11_clause_b348 fu M x1 (nI e) (nI i) μ = fX11_clause_b378 M x1 (nI e) ν ∧ sm M [] [30] μ ν ∧ clsBut M μ ν e ∧ mHo M ν e (fun i => g i &&& w i) := by
  intro fu
  induction fu with
  | zero => intro i μ _ _ h; omega
  | succ fu ih =>
    intro i μ h hi hf hn hp
    rw [fX11_clause_b348]
    by_cases q : i = 4
    · subst q
      rw [if_pos (by decide)]
      exact ⟨μ, rfl, sm.rf, clsBut.rf, fun j hj => by rw [hp j hj, if_pos hj]⟩
    · have i4 : i < 4 := by omega
      rw [if_neg (show ¬ (4 : Int32) ≤ nI i from nI_ge (b := 4) (by omega) (by decide))]
      simp only [jck_true, jde_is, jlt_is, jcl_0, beq_self_eq_true, jT_sI, jT_sJ, jP_sI, jP_sJ, jJ_sI, jI_sJ, jZ_sI, jZ_sJ, h.1, mP_now h, mT_now h, mP_holding h, mT_holding h, ix4, jin_nI i4 (show 4 < 2 ^ 31 by decide), jin_nI (show 4 * e + i < 480 by omega) (by decide), nI_clamp (show 4 * e + i < 2 ^ 31 by omega), nI_clamp (show i < 2 ^ 31 by omega), nI_1]
      have hv : jJ μ (M + 30) (4 * e + i) &&& jJ μ (M + 16) i = (g i &&& w i) &&& jJ μ (M + 10) i := by
        rw [hp i i4, if_neg (by omega), hn i i4, lx_and]
      rw [hv]
      obtain ⟨s1, c1, v1⟩ := ho_step (M := M) (e := e) (μ := μ) ((g i &&& w i) &&& jJ μ (M + 10) i) i4
      generalize jsJ μ (M + 30) (4 * e + i) ((g i &&& w i) &&& jJ μ (M + 10) i) = μ1 at s1 c1 v1 ⊢
      have e10 : jJ μ1 (M + 10) = jJ μ (M + 10) := s1.aJ (by decide) (by decide)
      obtain ⟨ν, g1, g2, g3, g4⟩ := ih (i + 1) μ1 (s1.mt h) (by omega) (by omega) (hn.sm s1 (by decide) (by decide)) (fun j hj => by
        rw [v1 j (by omega), e10]
        by_cases z : j = i
        · rw [if_pos z, z, if_pos (by omega)]
        · rw [if_neg z, hp j hj]
          by_cases y : j < i
          · rw [if_pos y, if_pos (by omega)]
          · rw [if_neg y, if_neg (by omega)])
      exact ⟨ν, g1, s1.tr g2, c1.tr g3, g4⟩
theorem lx_andn (d g a : Int64) : (d &&& a) &&& ((g &&& a) ^^^ (-1)) = (d &&& (g ^^^ (-1))) &&& a := l_ext fun i hi => by simp only [l_and, l_xor, l_m1 i hi]; cases lb d i <;> cases lb g i <;> cases lb a i <;> rfl
theorem ho_not {M e : Nat} {x1 : Int32} {g w : CS} (he : e < 120) : ∀ (fu i : Nat) (μ : JM), MT M μ → i ≤ 4 → 4 - i < fu → mNow M μ w → (∀ j, j < 4 → jJ μ (M + 30) (4 * e + j) = (if j < i then g j &&& (w j ^^^ (-1)) else g j) &&& jJ μ (M + 10) j) →
    ∃ ν, fX11_clause_b406 fu M x1 (nI e) (nI i) μ = fX11_clause_b440 M x1 (nI e) ν ∧ sm M [] [30] μ ν ∧ clsBut M μ ν e ∧ mHo M ν e (fun i => g i &&& (w i ^^^ (-1))) := by
  intro fu
  induction fu with
  | zero => intro i μ _ _ h; omega
  | succ fu ih =>
    intro i μ h hi hf hn hp
    rw [fX11_clause_b406]
    by_cases q : i = 4
    · subst q
      rw [if_pos (by decide)]
      exact ⟨μ, rfl, sm.rf, clsBut.rf, fun j hj => by rw [hp j hj, if_pos hj]⟩
    · have i4 : i < 4 := by omega
      rw [if_neg (show ¬ (4 : Int32) ≤ nI i from nI_ge (b := 4) (by omega) (by decide))]
      simp only [jck_true, jde_is, jlt_is, jcl_0, beq_self_eq_true, jT_sI, jT_sJ, jP_sI, jP_sJ, jJ_sI, jI_sJ, jZ_sI, jZ_sJ, h.1, mP_now h, mT_now h, mP_holding h, mT_holding h, ix4, jin_nI i4 (show 4 < 2 ^ 31 by decide), jin_nI (show 4 * e + i < 480 by omega) (by decide), nI_clamp (show 4 * e + i < 2 ^ 31 by omega), nI_clamp (show i < 2 ^ 31 by omega), nI_1]
      have hv : jJ μ (M + 30) (4 * e + i) &&& (jJ μ (M + 16) i ^^^ (-1)) = (g i &&& (w i ^^^ (-1))) &&& jJ μ (M + 10) i := by
        rw [hp i i4, if_neg (by omega), hn i i4, lx_andn]
      rw [hv]
      obtain ⟨s1, c1, v1⟩ := ho_step (M := M) (e := e) (μ := μ) ((g i &&& (w i ^^^ (-1))) &&& jJ μ (M + 10) i) i4
      generalize jsJ μ (M + 30) (4 * e + i) ((g i &&& (w i ^^^ (-1))) &&& jJ μ (M + 10) i) = μ1 at s1 c1 v1 ⊢
      have e10 : jJ μ1 (M + 10) = jJ μ (M + 10) := s1.aJ (by decide) (by decide)
      obtain ⟨ν, g1, g2, g3, g4⟩ := ih (i + 1) μ1 (s1.mt h) (by omega) (by omega) (hn.sm s1 (by decide) (by decide)) (fun j hj => by
        rw [v1 j (by omega), e10]
        by_cases z : j = i
        · rw [if_pos z, z, if_pos (by omega)]
        · rw [if_neg z, hp j hj]
          by_cases y : j < i
          · rw [if_pos y, if_pos (by omega)]
          · rw [if_neg y, if_neg (by omega)])
      exact ⟨ν, g1, s1.tr g2, c1.tr g3, g4⟩
theorem st_cond {β : Type} {M : Nat} {μ : JM} {l : List Int32} {ts : List Int64} {k : Nat} {F : List Int64} {N : List (Int64 × CS)} {wh : Bool} {f : Int32 → JM → JO β} {Q : β → JM → Prop} (h : mAt M μ l ts k) (hC : CI M μ l F N wh) (g0 : ∀ ν e, sCon (Cd l) F N wh 2000 k = .error e → sm M TK CA μ ν → mBad M ν l e → Res (f 0 ν) Q) (g1 : ∀ ν v, sCon (Cd l) F N wh 2000 k = .ok v → sm M TK CA μ ν → k ≤ v.2 → mAt M ν l (ts ++ sl (Cd l) k v.2) v.2 → mNow M ν v.1 → Res (f 1 ν) Q) : Res (jcl (fX11_condition M μ) f) Q := by
  obtain ⟨r, ν, e1, e2, e3⟩ := m_cond h hC
  rw [e1, jcl_0]
  cases hs : sCon (Cd l) F N wh 2000 k with
  | error e =>
    rw [hs] at e3
    obtain ⟨rfl, e4⟩ := e3
    exact g0 ν e hs e2 e4
  | ok v =>
    rw [hs] at e3
    obtain ⟨rfl, e4, e5, e6⟩ := e3
    exact g1 ν v hs e2 e4 e5 e6
def TA : List Nat := [9, 13, 14, 15, 16, 26, 27, 30]
def mTl (M : Nat) (ν : JM) (l : List Int32) (ts : List Int64) (k e : Nat) (r : Int32) (x : Except Er (Int32 × CS × Nat)) : Prop := match x with
  | .error f => r = 0 ∧ mBad M ν l f
  | .ok y => r = 1 ∧ k ≤ y.2.2 ∧ mAt M ν l (ts ++ sl (Cd l) k y.2.2) y.2.2 ∧ jI ν (M + 26) e = pcI y.1 ∧ jI ν (M + 27) e = y.1 ∧ mHo M ν e y.2.1
theorem mTl.pre {M : Nat} {ν : JM} {l : List Int32} {ts : List Int64} {k k2 e : Nat} {r : Int32} {x : Except Er (Int32 × CS × Nat)} (h : mTl M ν l (ts ++ sl (Cd l) k k2) k2 e r x) (hk : k ≤ k2) : mTl M ν l ts k e r x := by
  cases x with
  | error e => exact h
  | ok v =>
    obtain ⟨h1, h2, h3, h4⟩ := h
    rw [List.append_assoc, sl_app _ hk h2] at h3
    exact ⟨h1, by omega, h3, h4⟩
def sOv (C : Nat → Int64) (wh : Bool) (cls : List Cl) (z : CS × Nat) : Except Er (Int32 × CS × Nat) := if C z.2 = -3011 then eb (sOver C wh cls 2000 z.2 0) fun o => .ok (o.1, z.1, o.2) else .ok (0, z.1, z.2)
theorem sTail_is (C : Nat → Int64) (F : List Int64) (wh : Bool) (cls : List Cl) (k : Nat) : sTail C F wh cls k = eb (sIf C F (dfs wh cls) wh k) fun y => eb (sUnl C F (dfs wh cls) wh y) (sOv C wh cls) := rfl
theorem m_b440 {M e : Nat} {l : List Int32} {wh : Bool} {cls : List Cl} {k : Nat} {ts : List Int64} {μ : JM} {v : CS} (he : e < 120) (hcl : cls.length ≤ 24) (hec : 96 + cls.length ≤ e) (h : mAt M μ l ts k) (hw : jI μ M 33 = (if wh then 1 else 0)) (hK : wh = true → mCls M μ 96 cls) (h26 : jI μ (M + 26) e = 0) (h27 : jI μ (M + 27) e = 0) (hH : mHo M μ e v) :
    Res (fX11_clause_b440 M (nI cls.length) (nI e) μ) (fun r ν => sm M TK TA μ ν ∧ clsBut M μ ν e ∧ mTl M ν l ts k e r (sOv (Cd l) wh cls (v, k))) := by
  obtain ⟨h1, h2, h3⟩ := mA_ok h
  rw [fX11_clause_b440]
  simp only [jck_true, jde_is, jlt_is, jcl_0, beq_self_eq_true, jT_sI, jT_sJ, jP_sI, jP_sJ, jJ_sI, jI_sJ, jZ_sI, jZ_sJ, h1.1]
  unfold sOv
  refine st_word 514226 (-3011) 11 (by decide) (by decide) (by decide) h (fun y yT => ?_) (fun y => ?_)
  · rw [if_neg (by decide), if_pos y]
    simp only [jck_true, jde_is, jlt_is, jcl_0, beq_self_eq_true, jT_sI, jT_sJ, jP_sI, jP_sJ, jJ_sI, jI_sJ, jZ_sI, jZ_sJ, h1.1]
    refine Res.cl (m_over he hcl hec h yT hw hK h26 h27) fun r ν ⟨q1, q2, q3⟩ => ?_
    cases hs : sOver (Cd l) wh cls 2000 k 0 with
    | error f =>
      rw [hs] at q3
      obtain ⟨rfl, q4⟩ := q3
      rw [if_pos rfl, eb_err]
      exact .ret ⟨q1.wk (by decide) (by decide), q2, rfl, q4⟩
    | ok y =>
      rw [hs] at q3
      obtain ⟨rfl, q4, q5, q6, q7⟩ := q3
      rw [if_neg (by decide), eb_ok]
      refine .ret ⟨q1.wk (by decide) (by decide), q2, rfl, q4, q5, q6, q7, ?_⟩
      unfold mHo
      rw [q1.aJ (by decide) (by decide), q1.aJ (by decide) (by decide)]; exact hH
  · rw [if_pos rfl, if_neg y]
    exact .ret ⟨sm.rf, clsBut.rf, rfl, Nat.le_refl _, by rw [sl_self, List.append_nil]; exact h, h26.trans (show (0 : Int32) = pcI 0 by decide), h27, hH⟩
theorem m_b378 {M e : Nat} {l : List Int32} {wh : Bool} {cls : List Cl} {F : List Int64} {k : Nat} {ts : List Int64} {μ : JM} {v : CS} (he : e < 120) (hcl : cls.length ≤ 24) (hec : 96 + cls.length ≤ e) (h : mAt M μ l ts k) (hC : CI M μ l F (dfs wh cls) wh) (hK : wh = true → mCls M μ 96 cls) (h26 : jI μ (M + 26) e = 0) (h27 : jI μ (M + 27) e = 0) (hH : mHo M μ e v) :
    Res (fX11_clause_b378 M (nI cls.length) (nI e) μ) (fun r ν => sm M TK TA μ ν ∧ clsBut M μ ν e ∧ mTl M ν l ts k e r (eb (sUnl (Cd l) F (dfs wh cls) wh (v, k)) (sOv (Cd l) wh cls))) := by
  obtain ⟨h1, h2, h3⟩ := mA_ok h
  rw [fX11_clause_b378]
  simp only [jck_true, jde_is, jlt_is, jcl_0, beq_self_eq_true, jT_sI, jT_sJ, jP_sI, jP_sJ, jJ_sI, jI_sJ, jZ_sI, jZ_sJ, h1.1]
  unfold sUnl
  refine st_word 719722099 (-3010) 10 (by decide) (by decide) (by decide) h (fun y yT => ?_) (fun y => ?_)
  · rw [if_neg (by decide), if_pos y]
    simp only [jck_true, jde_is, jlt_is, jcl_0, beq_self_eq_true, jT_sI, jT_sJ, jP_sI, jP_sJ, jJ_sI, jI_sJ, jZ_sI, jZ_sJ, h1.1]
    refine st_take h yT (fun ν f hf hs hb => ?_) (fun μ1 hf1 s1 hA1 => ?_)
    · rw [if_pos rfl, hf, eb_err, eb_err]
      exact .ret ⟨hs.wk (by decide) (by decide), clsBut.sm hs (by decide), rfl, hb⟩
    · have hM1 := s1.mt h1
      rw [if_neg (by decide), hf1, eb_ok]
      simp only [jck_true, jde_is, jlt_is, jcl_0, beq_self_eq_true, jT_sI, jT_sJ, jP_sI, jP_sJ, jJ_sI, jI_sJ, jZ_sI, jZ_sJ, hM1.1]
      refine st_cond hA1 (hC.sm s1 (by decide) (by decide)) (fun ν f hf hs hb => ?_) (fun μ2 w hf2 s2 hk2 hA2 hN2 => ?_)
      · rw [if_pos rfl, hf, eb_err, eb_err]
        have S := (s1.wk (gs := TK) (bs := CA) (by decide) (by decide)).tr hs
        exact .ret ⟨S.wk (by decide) (by decide), clsBut.sm S (by decide), rfl, hb⟩
      · have S2 := (s1.wk (gs := TK) (bs := CA) (by decide) (by decide)).tr s2
        have hM2 := S2.mt h1
        rw [if_neg (by decide), hf2, eb_ok, eb_ok]
        obtain ⟨μ3, g1, g2, g3, g4⟩ := ho_not (x1 := nI cls.length) (g := v) he jfuel 0 μ2 hM2 (by omega) (jfuel_gt (by omega)) hN2 (fun j hj => by
          rw [S2.aJ (by decide) (by decide), S2.aJ (by decide) (by decide), if_neg (by omega)]; exact hH j hj)
        rw [show (0 : Int32) = nI 0 from rfl, g1]
        rw [List.append_assoc, sl_app _ (by omega) hk2] at hA2
        have S3 : sm M TK TA μ μ3 := (S2.wk (by decide) (by decide)).tr (g2.wk (by decide) (by decide))
        have C3 : clsBut M μ μ3 e := (clsBut.sm S2 (by decide)).tr g3
        have := m_b440 he hcl hec (hA2.sm g2 (by decide) (by decide)) (wh := wh) ((S3.fI (by decide)).trans hC.2.2) (fun z => (hK z).but C3 (Or.inr hec)) (by rw [g2.aI (by decide) (by decide), S2.aI (by decide) (by decide)]; exact h26) (by rw [g2.aI (by decide) (by decide), S2.aI (by decide) (by decide)]; exact h27) g4
        exact this.mono fun r ν ⟨q1, q2, q3⟩ => ⟨S3.tr q1, C3.tr q2, q3.pre (by omega)⟩
  · rw [if_pos rfl, if_neg y, eb_ok]
    exact m_b440 he hcl hec h hC.2.2 hK h26 h27 hH
theorem m_tail {M e : Nat} {l : List Int32} {wh : Bool} {cls : List Cl} {F : List Int64} {k : Nat} {ts : List Int64} {μ : JM} (he : e < 120) (hcl : cls.length ≤ 24) (hec : 96 + cls.length ≤ e) (h : mAt M μ l ts k) (hC : CI M μ l F (dfs wh cls) wh) (hK : wh = true → mCls M μ 96 cls) (h26 : jI μ (M + 26) e = 0) (h27 : jI μ (M + 27) e = 0) :
    Res (fX11_clause_b291 M (nI cls.length) (nI e) μ) (fun r ν => sm M TK TA μ ν ∧ clsBut M μ ν e ∧ mTl M ν l ts k e r (sTail (Cd l) F wh cls k)) := by
  obtain ⟨h1, h2, h3⟩ := mA_ok h
  rw [fX11_clause_b291]
  obtain ⟨μ1, f2, g1, g2, g3, g4⟩ := ho_all (x1 := nI cls.length) he jfuel 0 μ h1 (by omega) (jfuel_gt (by omega)) (fun j hj => by omega)
  have hM1 := g2.mt h1
  have hA1 := h.sm g2 (by decide) (by decide)
  have hC1 := hC.sm g2 (by decide) (by decide)
  have K1 : wh = true → mCls M μ1 96 cls := fun z => (hK z).but g3 (Or.inr hec)
  have a26 : jI μ1 (M + 26) e = 0 := by rw [g2.aI (by decide) (by decide)]; exact h26
  have a27 : jI μ1 (M + 27) e = 0 := by rw [g2.aI (by decide) (by decide)]; exact h27
  have S1 : sm M TK TA μ μ1 := g2.wk (by decide) (by decide)
  rw [show (0 : Int32) = nI 0 from rfl, g1, fX11_clause_b293, if_pos (by decide), sTail_is]
  simp only [jck_true, jde_is, jlt_is, jcl_0, beq_self_eq_true, jT_sI, jT_sJ, jP_sI, jP_sJ, jJ_sI, jI_sJ, jZ_sI, jZ_sJ, hM1.1]
  unfold sIf
  refine st_word 294 (-3009) 9 (by decide) (by decide) (by decide) hA1 (fun y yT => ?_) (fun y => ?_)
  · rw [if_neg (by decide), if_pos y]
    simp only [jck_true, jde_is, jlt_is, jcl_0, beq_self_eq_true, jT_sI, jT_sJ, jP_sI, jP_sJ, jJ_sI, jI_sJ, jZ_sI, jZ_sJ, hM1.1]
    refine st_take hA1 yT (fun ν f hf hs hb => ?_) (fun μ2 hf2 s2 hA2 => ?_)
    · rw [if_pos rfl, hf, eb_err, eb_err]
      exact .ret ⟨S1.tr (hs.wk (by decide) (by decide)), g3.tr (clsBut.sm hs (by decide)), rfl, hb⟩
    · have hM2 := s2.mt hM1
      rw [if_neg (by decide), hf2, eb_ok]
      simp only [jck_true, jde_is, jlt_is, jcl_0, beq_self_eq_true, jT_sI, jT_sJ, jP_sI, jP_sJ, jJ_sI, jI_sJ, jZ_sI, jZ_sJ, hM2.1]
      refine st_cond hA2 (hC1.sm s2 (by decide) (by decide)) (fun ν f hf hs hb => ?_) (fun μ3 w hf3 s3 hk3 hA3 hN3 => ?_)
      · rw [if_pos rfl, hf, eb_err, eb_err]
        have S := (s2.wk (gs := TK) (bs := CA) (by decide) (by decide)).tr hs
        exact .ret ⟨S1.tr (S.wk (by decide) (by decide)), g3.tr (clsBut.sm S (by decide)), rfl, hb⟩
      · have S3 := (s2.wk (gs := TK) (bs := CA) (by decide) (by decide)).tr s3
        have hM3 := S3.mt hM1
        rw [if_neg (by decide), hf3, eb_ok, eb_ok]
        obtain ⟨μ4, q1, q2, q3, q4⟩ := ho_and (x1 := nI cls.length) (g := fun _ => -1) he jfuel 0 μ3 hM3 (by omega) (jfuel_gt (by omega)) hN3 (fun j hj => by
          rw [S3.aJ (by decide) (by decide), S3.aJ (by decide) (by decide), if_neg (by omega)]; exact g4 j hj)
        rw [show (0 : Int32) = nI 0 from rfl, q1]
        rw [List.append_assoc, sl_app _ (by omega) hk3] at hA3
        have S4 : sm M TK TA μ μ4 := S1.tr ((S3.wk (by decide) (by decide)).tr (q2.wk (by decide) (by decide)))
        have C4 : clsBut M μ μ4 e := g3.tr ((clsBut.sm S3 (by decide)).tr q3)
        have := m_b378 he hcl hec (hA3.sm q2 (by decide) (by decide)) (wh := wh) (F := F) (hC.sm S4 (by decide) (by decide)) (fun z => (hK z).but C4 (Or.inr hec)) (by rw [q2.aI (by decide) (by decide), S3.aI (by decide) (by decide)]; exact a26) (by rw [q2.aI (by decide) (by decide), S3.aI (by decide) (by decide)]; exact a27) q4
        exact this.mono fun r ν ⟨z1, z2, z3⟩ => ⟨S4.tr z1, C4.tr z2, z3.pre (by omega)⟩
  · rw [if_pos rfl, if_neg y, eb_ok]
    exact (m_b378 he hcl hec hA1 hC1 K1 a26 a27 g4).mono fun r ν ⟨z1, z2, z3⟩ => ⟨S1.tr z1, g3.tr z2, z3⟩
