/-! the reference: clause, beyond -/
theorem mT2.pre {wh : Bool} {M : Nat} {ν : JM} {l : List Int32} {ts : List Int64} {k k2 e : Nat} {kd : Int32} {P A : List Int64} {r : Int32} {x : Except Er ((Int32 × List Int64 × Nat) × (Int32 × List Int64 × Nat) × Int32 × Int32 × Int32 × CS × Nat)} (h : mT2 wh M ν l (ts ++ sl (Cd l) k k2) k2 e kd P A r x) (hk : k ≤ k2) : mT2 wh M ν l ts k e kd P A r x := by
  cases x with
  | error e => exact h
  | ok v =>
    obtain ⟨p, a, y⟩ := v
    obtain ⟨h1, h2, h3, h4⟩ := h
    rw [List.append_assoc, sl_app _ hk h2] at h3
    exact ⟨h1, by omega, h3, h4⟩
theorem m_b203 {M e : Nat} {l : List Int32} {wh : Bool} {cls : List Cl} {F : List Int64} {k : Nat} {ts : List Int64} {μ : JM} {P A : List Int64} {kd : Int32} {sp : Option Nat} (he : e < 120) (hcl : cls.length ≤ 24) (hec : 96 + cls.length ≤ e) (h : mAt M μ l ts k) (hC : CI M μ l F (dfs wh cls) wh) (hK : wh = true → mCls M μ 96 cls) (hI : mIni M μ e) (hP : mWl M μ 5 4 5 6 P) (hA : mWl M μ 8 6 7 12 A) (hsp : sp = some (M + 21)) (hkd : kd = -1 ∨ (0 ≤ kd ∧ ¬ kd = -1 ∧ isT (Cd l k))) :
    Res (fX11_clause_b203 M (nI cls.length) (nI e) kd (nI e) sp μ) (fun r ν => sm M D2F D2A μ ν ∧ clsBut M μ ν e ∧ mT2 wh M ν l ts k e kd P A r (if kd = -1 then .error (k, 0) else eb (tk (Cd l) k) fun k3 => sD2 (Cd l) F wh cls P A kd k3)) := by
  obtain ⟨h1, h2, h3⟩ := mA_ok h
  rw [fX11_clause_b203, hsp]
  have e21 : jI (jsI μ (M + 21) e kd) (M + 21) e = kd := by rw [jI_sI, if_pos ⟨rfl, rfl⟩]
  simp only [jck_true, jde_is, jlt_is, jcl_0, beq_self_eq_true, jT_sI, jT_sJ, jP_sI, jP_sJ, jJ_sI, jI_sJ, jZ_sI, jZ_sJ, h1.1, mP_kind h1, mT_kind h1, jin_nI he (show 120 < 2 ^ 31 by decide), nI_clamp (show e < 2 ^ 31 by omega), e21]
  generalize hμ1 : jsI μ (M + 21) e kd = μ1
  rw [hμ1] at e21
  have s1 : sm M [] [21] μ μ1 := by rw [← hμ1]; exact sm.sA (by decide) (by decide)
  have c1 : clsBut M μ μ1 e := by rw [← hμ1]; exact clsBut.setI (by decide)
  have hM1 := s1.mt h1
  have hA1 := h.sm s1 (by decide) (by decide)
  rcases hkd with rfl | ⟨z1, z2, z3⟩
  · rw [if_neg (by decide), if_pos rfl]
    refine st_fail 0 0 rfl (by decide) hA1 (fun ν hs hb => ?_)
    have S : sm M TK [9, 21] μ ν := (s1.wk (by decide) (by decide)).tr (hs.wk (by decide) (by decide))
    exact .ck jbl_0 (.ret ⟨S.wk (by decide) (by decide), c1.tr (clsBut.sm hs (by decide)), rfl, hb, (hP.sm S (by decide) (by decide) (by decide) (by decide) (by decide)).we0, (hA.sm S (by decide) (by decide) (by decide) (by decide) (by decide)).we0⟩)
  · rw [if_pos z1, if_neg z2]
    refine st_take hA1 z3 (fun ν f hf hs hb => ?_) (fun μ2 hf2 s2 hA2 => ?_)
    · have S : sm M TK [9, 21] μ ν := (s1.wk (by decide) (by decide)).tr (hs.wk (by decide) (by decide))
      rw [if_pos rfl, hf, eb_err]
      exact .ret ⟨S.wk (by decide) (by decide), c1.tr (clsBut.sm hs (by decide)), rfl, hb, (hP.sm S (by decide) (by decide) (by decide) (by decide) (by decide)).we0, (hA.sm S (by decide) (by decide) (by decide) (by decide) (by decide)).we0⟩
    · have S : sm M TK [9, 21] μ μ2 := (s1.wk (by decide) (by decide)).tr (s2.wk (by decide) (by decide))
      have hM2 := S.mt h1
      have c2 : clsBut M μ μ2 e := c1.tr (clsBut.sm s2 (by decide))
      rw [if_neg (by decide), hf2, eb_ok, jck_of (by rw [hM2.1]; rfl)]
      have dd := (m_dd2 (kd := kd) he hcl hec hA2 (hC.sm S (by decide) (by decide)) (fun z => (hK z).but c2 (Or.inr hec)) (hI.sm S (by decide)) (by rw [s2.aI (by decide) (by decide)]; exact e21) (hP.sm S (by decide) (by decide) (by decide) (by decide) (by decide)) (hA.sm S (by decide) (by decide) (by decide) (by decide) (by decide)))
      simp only [jck_true, jde_is, jlt_is, jcl_0, beq_self_eq_true, jT_sI, jT_sJ, jP_sI, jP_sJ, jJ_sI, jI_sJ, jZ_sI, jZ_sJ, nI_clamp (show e < 2 ^ 31 by omega)] at dd ⊢
      refine dd.mono ?_
      rintro r ν ⟨q1, q2, q3⟩
      exact ⟨(S.wk (by decide) (by decide)).tr q1, c2.tr q2, q3.pre (by omega)⟩
def sD4 (C : Nat → Int64) (F : List Int64) (md : Nat) (cls : List Cl) (P A : List Int64) (k : Nat) : Except Er ((Int32 × List Int64 × Nat) × (Int32 × List Int64 × Nat) × Int32 × Int32 × Int32 × CS × Nat) :=
  if md = 2 ∧ lfnd cls (C k) false = none then .error (k, 3) else
  eb (tk C k) fun k1 => eb (exC C (-59) k1) fun k2 => if sKind (C k2) = -1 then .error (k2, 0) else eb (tk C k2) fun k3 => sD2 C F (decide (md = 0)) cls P A (sKind (C k2)) k3
def mT4 (M : Nat) (ν : JM) (l : List Int32) (md : Nat) (cls : List Cl) (ts : List Int64) (k e : Nat) (P A : List Int64) (r : Int32) (x : Except Er ((Int32 × List Int64 × Nat) × (Int32 × List Int64 × Nat) × Int32 × Int32 × Int32 × CS × Nat)) : Prop := mT2 (decide (md = 0)) M ν l ts k e (sKind (Cd l (k + 2))) P A r x ∧ (∀ y, x = .ok y → k + 2 ≤ y.2.2.2.2.2.2 ∧ Cd l (k + 1) = -59 ∧ ¬ sKind (Cd l (k + 2)) = -1 ∧ mLab M ν e (Cd l k) ∧ (md = 2 → jI ν M 57 = oI 0 (lfnd cls (Cd l k) false)))
theorem sD2_f (C : Nat → Int64) (F : List Int64) (cls : List Cl) (P A : List Int64) (kd : Int32) (k : Nat) : sD2 C F false cls P A kd k = sD2 C F false [] P A kd k := by
  unfold sD2
  simp only [sTail_f C F cls]
theorem sKind_T {c : Int64} (h : ¬ sKind c = -1) : (c = -3002 ∧ sKind c = 1) ∨ (c = -3003 ∧ sKind c = 2) ∨ (c = -3004 ∧ sKind c = 3) := by
  unfold sKind at h ⊢
  by_cases q1 : c = -3002
  · left; exact ⟨q1, by rw [if_pos q1]⟩
  · by_cases q2 : c = -3003
    · right; left; exact ⟨q2, by rw [if_neg q1, if_pos q2]⟩
    · by_cases q3 : c = -3004
      · right; right; exact ⟨q3, by rw [if_neg q1, if_neg q2, if_pos q3]⟩
      · rw [if_neg q1, if_neg q2, if_neg q3] at h; exact absurd rfl h
def XH : List Nat := [13, 14, 15, 16, 17, 18, 20, 21, 5, 8, 57]
def XI : List Nat := [4, 5, 6, 7, 9, 13, 14, 15, 16, 21, 22, 23, 24, 25, 26, 27, 28, 29, 30]
theorem m_b107 {M md kk : Nat} {μ : JM} {l : List Int32} {ts : List Int64} {k : Nat} {F : List Int64} {cls : List Cl} {P A : List Int64} (h : mAt M μ l ts k) (hc : 0 < Cd l k) (hX : Cx M μ l F md cls kk) (hI : mIni M μ (96 + kk)) (hP : mWl M μ 5 4 5 6 P) (hA : mWl M μ 8 6 7 12 A) :
    Res (fX11_clause_b107 M (nI kk) (nI (96 + kk)) μ) (fun r ν => sm M XH XI μ ν ∧ clsBut M μ ν (96 + kk) ∧ mT4 M ν l md cls ts k (96 + kk) P A r (sD4 (Cd l) F md cls P A k)) := by
  obtain ⟨h1, h2, h3⟩ := mA_ok h
  obtain ⟨x1, x2, x3, x4, x5, x6⟩ := hX
  have he : 96 + kk < 120 := by omega
  have bad : ∀ {ν : JM} {f : Er} {fs as : List Nat}, sm M fs as μ ν → (∀ i ∈ fs, i ∈ XH) → (∀ i ∈ as, i ∈ XI) → (∀ i ∈ [4, 5, 6, 7], i ∉ as) → (∀ i ∈ [5, 8], i ∉ fs) → clsBut M μ ν (96 + kk) → mBad M ν l f → sm M XH XI μ ν ∧ clsBut M μ ν (96 + kk) ∧ mT4 M ν l md cls ts k (96 + kk) P A 0 (.error f) := by
    intro ν f fs as s q1 q2 q3 q0 q4 q5
    exact ⟨s.wk q1 q2, q4, ⟨rfl, q5, (hP.sm s (q0 5 (by decide)) (by decide) (by decide) (q3 4 (by decide)) (q3 5 (by decide))).we0, (hA.sm s (q0 8 (by decide)) (by decide) (by decide) (q3 6 (by decide)) (q3 7 (by decide))).we0⟩, fun y hy => by cases hy⟩
  rw [fX11_clause_b107]
  simp only [jck_true, jde_is, jlt_is, jcl_0, beq_self_eq_true, jT_sI, jT_sJ, jP_sI, jP_sJ, jJ_sI, jI_sJ, jZ_sI, jZ_sJ, h1.1]
  unfold sD4
  refine st_there (md := md) (df := false) (cls := cls) rfl h hc x2 x4 (fun μ2 hz s2 => ?_) (fun μ2 hz h57 s2 => ?_)
  · rw [if_pos rfl, if_pos hz]
    have hM2 := s2.mt h1
    simp only [jck_true, jde_is, jlt_is, jcl_0, beq_self_eq_true, jT_sI, jT_sJ, jP_sI, jP_sJ, jJ_sI, jI_sJ, jZ_sI, jZ_sJ, hM2.1]
    refine st_fail 3 3 rfl (by decide) (h.sm s2 (by decide) (by decide)) (fun ν hs hb => ?_)
    have S : sm M (57 :: TK) [9] μ ν := (s2.wk (by decide) (by decide)).tr (hs.wk (by decide) (by decide))
    exact .ck jbl_0 (.ret (bad S (by decide) (by decide) (by decide) (by decide) (clsBut.sm S (by decide)) hb))
  · rw [if_neg (by decide), if_neg hz]
    have hM2 := s2.mt h1
    simp only [jck_true, jde_is, jlt_is, jcl_0, beq_self_eq_true, jT_sI, jT_sJ, jP_sI, jP_sJ, jJ_sI, jI_sJ, jZ_sI, jZ_sJ, hM2.1, mP_kind hM2, mT_kind hM2, jin_nI he (by decide), nI_clamp (show 96 + kk < 2 ^ 31 by omega)]
    generalize hμ3 : jsI μ2 (M + 21) (96 + kk) 1 = μ3
    have s3 : sm M [] [21] μ2 μ3 := by rw [← hμ3]; exact sm.sA (by decide) (by decide)
    have c3 : clsBut M μ2 μ3 (96 + kk) := by rw [← hμ3]; exact clsBut.setI (by decide)
    have s23 : sm M [57] [21] μ μ3 := (s2.wk (by decide) (by decide)).tr (s3.wk (by decide) (by decide))
    obtain ⟨μ4, k1, s4, c4, l4⟩ := m_keepsLabel (e := 96 + kk) (h.sm s23 (by decide) (by decide)) hc he
    rw [k1]
    have S4 : sm M [57] [21, 28, 29] μ μ4 := (s23.wk (by decide) (by decide)).tr (s4.wk (by decide) (by decide))
    have hM4 := S4.mt h1
    have hA4 := h.sm S4 (by decide) (by decide)
    have C4 : clsBut M μ μ4 (96 + kk) := (clsBut.sm s2 (by decide)).tr (c3.tr c4)
    have u4 : jI μ4 M 57 = jI μ2 M 57 := by rw [s4.fI (by decide), s3.fI (by decide)]
    simp only [jck_true, jde_is, jlt_is, jcl_0, beq_self_eq_true, jT_sI, jT_sJ, jP_sI, jP_sJ, jJ_sI, jI_sJ, jZ_sI, jZ_sJ, hM4.1]
    refine st_take hA4 (isT_free hc) (fun ν f hf hs hb => ?_) (fun μ5 hf5 s5 hA5 => ?_)
    · rw [if_pos rfl, hf, eb_err]
      have S : sm M (57 :: TK) [9, 21, 28, 29] μ ν := (S4.wk (by decide) (by decide)).tr (hs.wk (by decide) (by decide))
      exact .ret (bad S (by decide) (by decide) (by decide) (by decide) (C4.tr (clsBut.sm hs (by decide))) hb)
    · have hM5 := s5.mt hM4
      rw [if_neg (by decide), hf5, eb_ok]
      simp only [jck_true, jde_is, jlt_is, jcl_0, beq_self_eq_true, jT_sI, jT_sJ, jP_sI, jP_sJ, jJ_sI, jI_sJ, jZ_sI, jZ_sJ, hM5.1]
      refine st_exS 58 (-59) 58 (by decide) rfl (by decide) hA5 (fun ν f hf hs hb => ?_) (fun μ6 hf6 s6 hA6 => ?_)
      · rw [if_pos rfl, hf, eb_err]
        have S : sm M (57 :: TK) [9, 21, 28, 29] μ ν := (S4.wk (by decide) (by decide)).tr ((s5.tr hs).wk (by decide) (by decide))
        exact .ret (bad S (by decide) (by decide) (by decide) (by decide) (C4.tr (clsBut.sm (s5.tr hs) (by decide))) hb)
      · have s56 := s5.tr s6
        have S6 : sm M (57 :: TK) [9, 21, 28, 29] μ μ6 := (S4.wk (by decide) (by decide)).tr (s56.wk (by decide) (by decide))
        have C6 : clsBut M μ μ6 (96 + kk) := C4.tr (clsBut.sm s56 (by decide))
        have hM6 := S6.mt h1
        have l6 := mLab_sm2 l4 s56 (by decide) (by decide)
        have u6 : jI μ6 M 57 = jI μ2 M 57 := by rw [s56.fI (by decide), u4]
        have k1c : Cd l (k + 1) = -59 := by
          unfold exC at hf6
          by_cases z : Cd l (k + 1) = -59
          · exact z
          · rw [if_neg z] at hf6; cases hf6
        rw [if_neg (by decide), hf6, eb_ok]
        have eL : ts ++ sl (Cd l) k (k + 1) ++ sl (Cd l) (k + 1) (k + 1 + 1) = ts ++ sl (Cd l) k (k + 1 + 1) := by
          rw [List.append_assoc, sl_app _ (by omega) (by omega)]
        rw [eL] at hA6
        have b203 : ∀ kd : Int32, kd = sKind (Cd l (k + 1 + 1)) → (kd = -1 ∨ (0 ≤ kd ∧ ¬ kd = -1 ∧ isT (Cd l (k + 1 + 1)))) → Res (fX11_clause_b203 M (nI kk) (nI (96 + kk)) kd (nI (96 + kk)) (jP μ6 M 35) μ6) (fun r ν => sm M XH XI μ ν ∧ clsBut M μ ν (96 + kk) ∧ mT4 M ν l md cls ts k (96 + kk) P A r (if sKind (Cd l (k + 1 + 1)) = -1 then .error (k + 1 + 1, 0) else eb (tk (Cd l) (k + 1 + 1)) fun k3 => sD2 (Cd l) F (decide (md = 0)) cls P A (sKind (Cd l (k + 1 + 1))) k3)) := by
          intro kd hk0 hk1
          have gen : ∀ c2 : List Cl, kk = c2.length → dfs (decide (md = 0)) c2 = dfs (decide (md = 0)) cls → (decide (md = 0) = true → mCls M μ6 96 c2) → (∀ k3, sD2 (Cd l) F (decide (md = 0)) cls P A (sKind (Cd l (k + 1 + 1))) k3 = sD2 (Cd l) F (decide (md = 0)) c2 P A (sKind (Cd l (k + 1 + 1))) k3) → Res (fX11_clause_b203 M (nI kk) (nI (96 + kk)) kd (nI (96 + kk)) (jP μ6 M 35) μ6) (fun r ν => sm M XH XI μ ν ∧ clsBut M μ ν (96 + kk) ∧ mT4 M ν l md cls ts k (96 + kk) P A r (if sKind (Cd l (k + 1 + 1)) = -1 then .error (k + 1 + 1, 0) else eb (tk (Cd l) (k + 1 + 1)) fun k3 => sD2 (Cd l) F (decide (md = 0)) cls P A (sKind (Cd l (k + 1 + 1))) k3)) := by
            intro c2 d1 d2 d3 d4
            simp only [d4]
            have := m_b203 (wh := decide (md = 0)) (cls := c2) (F := F) (kd := kd) (e := 96 + kk) he (by omega) (by omega) hA6 (by rw [d2]; exact x1.sm S6 (by decide) (by decide)) d3 (hI.sm S6 (by decide)) (hP.sm S6 (by decide) (by decide) (by decide) (by decide) (by decide)) (hA.sm S6 (by decide) (by decide) (by decide) (by decide) (by decide)) (mP_kind hM6) hk1
            rw [← d1] at this
            refine this.mono ?_
            rintro r ν ⟨q1, q2, q3⟩
            refine ⟨(S6.wk (by decide) (by decide)).tr (q1.wk (by decide) (by decide)), C6.tr q2, ?_, fun y hy => ?_⟩
            · rw [← hk0]; exact q3.pre (by omega)
            · rw [hk0, hy] at q3
              obtain ⟨p, a, y⟩ := y
              obtain ⟨z1, z2, -⟩ := q3
              refine ⟨z2, k1c, fun z => ?_, mLab_sm2 l6 q1 (by decide) (by decide), fun z => by rw [q1.fI (by decide), u6]; exact h57 z⟩
              have z : sKind (Cd l (k + 1 + 1)) = -1 := z
              rw [if_pos z] at hy; cases hy
          by_cases z : md = 0
          · exact gen cls (x3 z).1 rfl (fun _ => (x3 z).2.but C6 (Or.inr (by have := (x3 z).1; omega))) (fun _ => rfl)
          · have zf : decide (md = 0) = false := by simpa using z
            rw [zf] at gen
            rw [zf]
            exact gen [] (x5 z) rfl (fun y => by cases y) (fun k3 => sD2_f _ _ _ _ _ _ _)
        simp only [jck_true, jde_is, jlt_is, jcl_0, beq_self_eq_true, jT_sI, jT_sJ, jP_sI, jP_sJ, jJ_sI, jI_sJ, jZ_sI, jZ_sJ, hM6.1]
        refine st_word 153241 (-3002) 2 (by decide) (by decide) (by decide) hA6 (fun y yT => ?_) (fun y => ?_)
        · rw [if_neg (by decide)]
          exact b203 1 (by unfold sKind; rw [if_pos y]) (Or.inr ⟨by decide, by decide, yT⟩)
        · rw [if_pos rfl]
          simp only [jck_true, jde_is, jlt_is, jcl_0, beq_self_eq_true, jT_sI, jT_sJ, jP_sI, jP_sJ, jJ_sI, jI_sJ, jZ_sI, jZ_sJ, hM6.1]
          refine st_word 19176724 (-3003) 3 (by decide) (by decide) (by decide) hA6 (fun y2 yT => ?_) (fun y2 => ?_)
          · rw [if_neg (by decide)]
            exact b203 2 (by unfold sKind; rw [if_neg y, if_pos y2]) (Or.inr ⟨by decide, by decide, yT⟩)
          · rw [if_pos rfl]
            simp only [jck_true, jde_is, jlt_is, jcl_0, beq_self_eq_true, jT_sI, jT_sJ, jP_sI, jP_sJ, jJ_sI, jI_sJ, jZ_sI, jZ_sJ, hM6.1]
            refine st_word 2094 (-3004) 4 (by decide) (by decide) (by decide) hA6 (fun y3 yT => ?_) (fun y3 => ?_)
            · rw [if_neg (by decide)]
              exact b203 3 (by unfold sKind; rw [if_neg y, if_neg y2, if_pos y3]) (Or.inr ⟨by decide, by decide, yT⟩)
            · rw [if_pos rfl]
              exact b203 (-1) (by unfold sKind; rw [if_neg y, if_neg y2, if_neg y3]) (Or.inl rfl)
