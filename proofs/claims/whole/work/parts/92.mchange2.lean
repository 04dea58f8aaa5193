/-! the reference: change, changes -/
theorem sNum_f {C : Nat → Int64} {P : List Int64} {mx k : Nat} {y : Int32 × List Int64 × Nat} (h : sNum false P mx C k = .ok y) : y.2.1 = P := by
  unfold sNum at h
  obtain ⟨_, -, h⟩ := eb_inv h
  simp only [Bool.false_eq_true, if_false] at h
  obtain ⟨_, -, h⟩ := eb_inv h
  injection h with h
  rw [← h]
theorem sClause_2 {C : Nat → Int64} {F : List Int64} {cls : List Cl} {P A : List Int64} {k : Nat} {y : Cl × List Int64 × List Int64 × Nat} (h : sClause C F 2 cls P A k = .ok y) : lfnd cls y.1.2.1 (isDf y.1) ≠ none := by
  unfold sClause at h
  by_cases q : C k = -3000
  · rw [if_pos q] at h
    unfold sDefine at h
    obtain ⟨-, h⟩ := ite_inv h
    obtain ⟨k1, -, h⟩ := eb_inv h
    obtain ⟨_, -, h⟩ := eb_inv h
    obtain ⟨-, h⟩ := ite_inv h
    obtain ⟨n, h⟩ := ite_inv h
    obtain ⟨k2, -, h⟩ := eb_inv h
    obtain ⟨k3, -, h⟩ := eb_inv h
    obtain ⟨x, -, h⟩ := eb_inv h
    injection h with h
    rw [← h]
    exact fun z => n ⟨rfl, z⟩
  · rw [if_neg q] at h
    unfold sLabel at h
    obtain ⟨_, -, h⟩ := eb_inv h
    obtain ⟨-, h⟩ := ite_inv h
    obtain ⟨n, h⟩ := ite_inv h
    obtain ⟨-, h⟩ := ite_inv h
    obtain ⟨k1, -, h⟩ := eb_inv h
    unfold sDeed at h
    obtain ⟨k2, -, h⟩ := eb_inv h
    obtain ⟨nk, h⟩ := ite_inv h
    obtain ⟨k3, -, h⟩ := eb_inv h
    obtain ⟨p, -, h⟩ := eb_inv h
    obtain ⟨k4, -, h⟩ := eb_inv h
    obtain ⟨a, -, h⟩ := eb_inv h
    obtain ⟨t, -, h⟩ := eb_inv h
    obtain ⟨z, -, h⟩ := eb_inv h
    injection h with h
    rw [← h]
    have : isDf (((sKind (C k2), C k, p.1, a.1, t.1, t.2.1, z.1, z.2.1, sl C k z.2.2)) : Cl) = false := by
      rw [isDf_f]
      rcases sKind_T nk with ⟨-, e⟩ | ⟨-, e⟩ | ⟨-, e⟩ <;> show ¬ sKind (C k2) = 0 <;> rw [e] <;> decide
    show lfnd cls (C k) (isDf _) ≠ none
    rw [this]
    exact fun z => n ⟨rfl, z⟩
theorem m_b153 {M md bm : Nat} {μ : JM} {l : List Int32} {ts : List Int64} {k : Nat} {F P A : List Int64} {cls : List Cl} (hmd : md = 1 ∨ md = 2) (h : mAt M μ l ts k) (hT : isT (Cd l k)) (hC : CI M μ l F [] false) (h56 : jI μ M 56 = if md = 2 then 1 else 0) (hQ : mPq M μ cls bm) (hcl : cls.length < 36) (hb : bm ≤ 1900 + 2 * pl l k) (hP : mWl M μ 5 4 5 6 P) (hA : mWl M μ 8 6 7 12 A) :
    Res (fX11_change_b153 M μ) (fun r ν => sm M HF HA μ ν ∧ clsLow M μ ν ∧ mH M ν l F P A k r (eb (tk (Cd l) k) fun k1 => eb (sClause (Cd l) F md cls P A k1) fun y => if md = 1 then .ok (cls ++ [y.1], y.2.2.2) else match lfnd cls y.1.2.1 (isDf y.1) with | none => .error (k1, 3) | some p => .ok (cls.set p y.1, y.2.2.2))) := by
  obtain ⟨h1, h2, h3⟩ := mA_ok h
  have md0 : decide (md = 0) = false := by rcases hmd with rfl | rfl <;> decide
  rw [fX11_change_b153, jck_of (by rw [h1.1]; rfl)]
  refine st_take h hT (fun ν f hf hs hb => ?_) (fun μ1 hf1 s1 hA1 => ?_)
  · rw [jck_of (by rw [hb.1.1]; rfl), jlt_is, jlt_is, if_pos rfl, fX11_change_b184, fX11_change_b185, if_pos rfl, hf, eb_err]
    have s2 : sm M [20, 21] [] ν (jsI (jsI ν M 20 0) M 21 0) := (sm.sF (by decide)).tr (sm.sF (by decide))
    have S : sm M TK [9] μ (jsI (jsI ν M 20 0) M 21 0) := hs.tr (s2.wk (by decide) (by decide))
    exact .ret ⟨S.wk (by decide) (by decide), clsLow.sm S (by decide) (by decide), hP.sm S (by decide) (by decide) (by decide) (by decide) (by decide), hA.sm S (by decide) (by decide) (by decide) (by decide) (by decide), rfl, hb.sm s2 (by decide)⟩
  · have hM1 := s1.mt h1
    rw [jck_of (by rw [hM1.1]; rfl), jlt_is, jlt_is, if_neg (by decide), hf1, eb_ok]
    have hA2 := mAt_reset hA1
    have s2 : sm M [20, 21] [] μ1 (jsI (jsI μ1 M 20 0) M 21 0) := (sm.sF (by decide)).tr (sm.sF (by decide))
    generalize jsI (jsI μ1 M 20 0) M 21 0 = μ2 at hA2 s2 ⊢
    have S2 : sm M TK [9] μ μ2 := s1.tr (s2.wk (by decide) (by decide))
    have hP2 := hP.sm S2 (by decide) (by decide) (by decide) (by decide) (by decide)
    have hAc2 := hA.sm S2 (by decide) (by decide) (by decide) (by decide) (by decide)
    have hQ2 := hQ.sm S2 (by decide) (by decide)
    have hC2 := hC.sm S2 (by decide) (by decide)
    have dn : ∀ c : List Cl, dfs (decide (md = 0)) c = [] := fun c => by rw [md0]; rfl
    have hX : Cx M μ2 l F md cls 0 := ⟨by rw [dn, md0]; exact hC2, (S2.fI (by decide)).trans h56, fun z => (by rw [z] at md0; cases md0), fun _ => hQ2.pr, fun _ => rfl, by omega⟩
    refine Res.cl (m_clause (kk := 0) hA2 hX hP2 hAc2) fun r μ3 ⟨s3, c3, z3⟩ => ?_
    have S3 : sm M XF XA μ μ3 := (S2.wk (by decide) (by decide)).tr s3
    have L3 : clsLow M μ μ3 := (clsLow.sm S2 (by decide) (by decide)).tr (low_of c3 (by omega) s3 (by decide))
    have hM3 := S3.mt h1
    cases hcs : sClause (Cd l) F md cls P A (k + 1) with
    | error f =>
      rw [hcs] at z3
      obtain ⟨rfl, w1, w2, w3⟩ := z3
      rw [md0] at w2 w3
      rw [if_pos rfl, fX11_change_b184, fX11_change_b185, if_pos rfl, eb_err]
      exact .ret ⟨S3.wk (by decide) (by decide), L3, w2.wl hP.2.1, w3.wl hA.2.1, rfl, w1⟩
    | ok y =>
      rw [hcs] at z3
      obtain ⟨rfl, w1, w2, w3, w4, w5, w6, w7, w8, w9, w10⟩ := z3
      rw [md0] at w4 w6
      rw [pfx_f w4] at w3
      rw [pfx_f w6] at w5
      rw [dn] at w8
      have tks := sClause_tks hcs
      have aTs := (sClause_T (Cd l) F md cls P A (k + 1) y hcs).2
      have aTs : aT (Cd l) (k + 1) y.2.2.2 := aTs
      rw [List.nil_append, ← tks] at w2
      have hbl := cB_len h.2 w1 aTs
      rw [← tks] at hbl
      have hbyt : byt (cB (Cl.tks y.1)).1 := by rw [tks]; exact cB_byt (aT_sl aTs)
      have hCn := w2.1.2.2.2.1
      have ple := pl_le l y.2.2.2
      have hll : l.length ≤ 1900 := h.1.2.2.2.2.2.2.2.2
      have pk : pl l k ≤ pl l (k + 1) := pl_mono2 (by omega)
      have hQ3 := hQ2.sm s3 (by decide) (by decide)
      have v56 : jI μ3 M 56 = if md = 2 then 1 else 0 := (S3.fI (by decide)).trans h56
      have hCI3 : CI M μ3 l F [] false := ⟨(hC2.1).sm s3 (by decide) (by decide), w8, (s3.fI (by decide)).trans hC2.2.2⟩
      rw [if_neg (by decide), fX11_change_b185, if_neg (by decide), jck_of (by rw [hM3.1]; rfl), v56, eb_ok]
      rcases hmd with rfl | rfl
      · rw [if_pos (show (if (1 : Nat) = 2 then (1 : Int32) else 0) = 0 by decide), if_pos rfl, hQ3.1, mP_canon hM3, hCn.1]
        refine Res.cl (m_part (M := M) (a := 9) (bg := 0) (cap := 4000) (p := cls.length) (B := (cB (Cl.tks y.1)).1) (bm := bm) (by decide) (by decide) (by omega) (by decide) hbyt (by omega) (by omega) hM3 (mT_canon hM3) hCn.2.1 hQ3.2.2.1) fun _ μ4 p4 => ?_
        have s4 := p4.1
        have hM4 := s4.mt hM3
        have e51 : jI μ4 M 51 = nI cls.length := (s4.fI (by decide)).trans hQ3.1
        rw [jck_of (by rw [hM4.1]; rfl), jlt_is, e51, nI_1]
        have s5 : sm M [51] [] μ4 (jsI μ4 M 51 (nI (cls.length + 1))) := sm.sF (by decide)
        have v5 : jI (jsI μ4 M 51 (nI (cls.length + 1))) M 51 = nI (cls.length + 1) := by rw [jI_sI, if_pos ⟨rfl, rfl⟩]
        generalize jsI μ4 M 51 (nI (cls.length + 1)) = μ5 at s5 v5 ⊢
        have s35 : sm M [51, 55] [35, 36, 37] μ3 μ5 := (s4.wk (by decide) (by decide)).tr (s5.wk (by decide) (by decide))
        have S5 : sm M HF HA μ μ5 := (S3.wk (by decide) (by decide)).tr (s35.wk (by decide) (by decide))
        refine .ret ⟨S5, L3.tr (clsLow.sm s35 (by decide) (by decide)), w3.sm s35 (by decide) (by decide) (by decide) (by decide) (by decide), w5.sm s35 (by decide) (by decide) (by decide) (by decide) (by decide), rfl, by show k ≤ y.2.2.2; omega, ⟨_, w2.sm s35 (by decide) (by decide)⟩, ⟨bm + (cB (Cl.tks y.1)).1.length, ⟨?_, ?_, ?_, by omega, fun i hi => ?_⟩, ?_⟩, hCI3.sm s35 (by decide) (by decide)⟩
        · rw [v5]; simp
        · show (cls ++ [y.1]).length ≤ 36
          simp; omega
        · rw [s5.fI (by decide)]; exact p4.2.1
        · have hi : i < cls.length + 1 := by simpa using hi
          show mPo M μ5 i _ ((cls ++ [y.1]).getD i cl0)
          rw [getD_snoc]
          have k5 : ∀ c, mPo M μ4 i (bm + (cB (Cl.tks y.1)).1.length) c → mPo M μ5 i (bm + (cB (Cl.tks y.1)).1.length) c := by
            intro c hc
            unfold mPo
            rw [s5.aI (by decide) (by decide), s5.aI (by decide) (by decide), s5.aI (by decide) (by decide)]; exact hc
          by_cases z : i < cls.length
          · rw [if_pos z]
            exact k5 _ ((hQ3.2.2.2.2 i z).pa p4 (by omega))
          · have : i = cls.length := by omega
            rw [if_neg z, if_pos this, this]
            rw [this] at k5
            exact k5 _ (mPo.new p4 w10)
        · show bm + (cB (Cl.tks y.1)).1.length ≤ 1900 + 2 * pl l y.2.2.2; omega
      · rw [if_pos rfl, if_neg (by decide), if_neg (by decide)]
        have v57 := w9 rfl
        cases hl : lfnd cls y.1.2.1 (isDf y.1) with
        | none =>
          exfalso
          have hne : lfnd cls y.1.2.1 (isDf y.1) ≠ none := sClause_2 hcs
          exact hne hl
        | some p =>
          have hp := lfnd_lt hl
          rw [hl] at v57
          have v57' : jI μ3 M 57 = nI p := by rw [v57]; simp only [oI, Nat.zero_add]
          rw [v57', mP_canon hM3, hCn.1]
          refine Res.cl (m_part (M := M) (a := 9) (bg := 0) (cap := 4000) (p := p) (B := (cB (Cl.tks y.1)).1) (bm := bm) (by decide) (by decide) (by omega) (by decide) hbyt (by omega) (by omega) hM3 (mT_canon hM3) hCn.2.1 hQ3.2.2.1) fun _ μ4 p4 => ?_
          have s4 := p4.1
          have S4 : sm M HF HA μ μ4 := (S3.wk (by decide) (by decide)).tr (s4.wk (by decide) (by decide))
          refine .ret ⟨S4, L3.tr (clsLow.sm s4 (by decide) (by decide)), w3.sm s4 (by decide) (by decide) (by decide) (by decide) (by decide), w5.sm s4 (by decide) (by decide) (by decide) (by decide) (by decide), rfl, by show k ≤ y.2.2.2; omega, ⟨_, w2.sm s4 (by decide) (by decide)⟩, ⟨bm + (cB (Cl.tks y.1)).1.length, ⟨?_, ?_, p4.2.1, by omega, fun i hi => ?_⟩, ?_⟩, hCI3.sm s4 (by decide) (by decide)⟩
          · rw [s4.fI (by decide), hQ3.1]
            show nI cls.length = nI (cls.set p y.1).length
            rw [List.length_set]
          · show (cls.set p y.1).length ≤ 36
            rw [List.length_set]; omega
          · have hi : i < cls.length := by have hi : i < (cls.set p y.1).length := hi; rwa [List.length_set] at hi
            show mPo M μ4 i _ ((cls.set p y.1).getD i cl0)
            rw [getD_set hi]
            by_cases z : i = p
            · rw [if_pos z, z]; exact mPo.new p4 w10
            · rw [if_neg z]; exact (hQ3.2.2.2.2 i hi).pa p4 z
          · show bm + (cB (Cl.tks y.1)).1.length ≤ 1900 + 2 * pl l y.2.2.2; omega
def HG : List Nat := [13, 14, 15, 16, 17, 18, 20, 21, 56]
theorem m_change {M bm : Nat} {μ : JM} {l : List Int32} {ts : List Int64} {k : Nat} {F P A : List Int64} {cls : List Cl} (h : mAt M μ l ts k) (hC : CI M μ l F [] false) (hQ : mPq M μ cls bm) (hcl : cls.length < 36) (hb : bm ≤ 1900 + 2 * pl l k) (hP : mWl M μ 5 4 5 6 P) (hA : mWl M μ 8 6 7 12 A) :
    Res (fX11_change M μ) (fun r ν => sm M HF HA μ ν ∧ clsLow M μ ν ∧ mH M ν l F P A k r (sCh1 (Cd l) F P A cls k)) := by
  obtain ⟨h1, h2, h3⟩ := mA_ok h
  rw [fX11_change, jck_of (by rw [h1.1]; rfl), jlt_is, jlt_is]
  have hA1 := mAt_reset h
  have s1 : sm M [20, 21] [] μ (jsI (jsI μ M 20 0) M 21 0) := (sm.sF (by decide)).tr (sm.sF (by decide))
  generalize jsI (jsI μ M 20 0) M 21 0 = μ1 at hA1 s1 ⊢
  have hM1 := s1.mt h1
  have hP1 := hP.sm s1 (by decide) (by decide) (by decide) (by decide) (by decide)
  have hAc1 := hA.sm s1 (by decide) (by decide) (by decide) (by decide) (by decide)
  have S1 : sm M HF HA μ μ1 := s1.wk (by decide) (by decide)
  have L1 : clsLow M μ μ1 := clsLow.sm s1 (by decide) (by decide)
  unfold sCh1
  refine st_word 659105125 (-3015) 15 (by decide) (by decide) (by decide) hA1 (fun y yT => ?_) (fun y => ?_)
  · rw [if_neg (by decide), if_pos y, jck_of (by rw [hM1.1]; rfl)]
    exact (m_strike hA1 y (hC.sm s1 (by decide) (by decide)) (hQ.sm s1 (by decide) (by decide)) hb hP1 hAc1).mono fun r ν ⟨q1, q2, q3⟩ => ⟨S1.tr q1, L1.tr q2, q3⟩
  · rw [if_pos rfl, if_neg y, jck_of (by rw [hM1.1]; rfl)]
    have gen : ∀ x : Int32, sm M [20, 21, 56] [] μ (jsI μ1 M 56 x) ∧ mAt M (jsI μ1 M 56 x) l [] k ∧ jI (jsI μ1 M 56 x) M 56 = x := by
      intro x
      have s2 : sm M [56] [] μ1 (jsI μ1 M 56 x) := sm.sF (by decide)
      exact ⟨(s1.wk (by decide) (by decide)).tr (s2.wk (by decide) (by decide)), hA1.sm s2 (by decide) (by decide), by rw [jI_sI, if_pos ⟨rfl, rfl⟩]⟩
    refine st_word 19512296549 (-3016) 16 (by decide) (by decide) (by decide) hA1 (fun y2 yT => ?_) (fun y2 => ?_)
    · obtain ⟨s2, hA2, v2⟩ := gen 1
      rw [jck_of (by rw [hM1.1]; rfl), jck_of jbl_1, jlt_is, v2, if_neg (by decide), if_pos y2]
      generalize jsI μ1 M 56 1 = μ2 at s2 hA2 v2 ⊢
      have := m_b153 (md := 2) (Or.inr rfl) hA2 yT (hC.sm s2 (by decide) (by decide)) v2 (hQ.sm s2 (by decide) (by decide)) hcl hb (hP.sm s2 (by decide) (by decide) (by decide) (by decide) (by decide)) (hA.sm s2 (by decide) (by decide) (by decide) (by decide) (by decide))
      exact this.mono fun r ν ⟨q1, q2, q3⟩ => ⟨(s2.wk (by decide) (by decide)).tr q1, (clsLow.sm s2 (by decide) (by decide)).tr q2, q3⟩
    · obtain ⟨s2, hA2, v2⟩ := gen 0
      rw [jck_of (by rw [hM1.1]; rfl), jck_of jbl_0, jlt_is, v2, if_pos rfl, if_neg y2]
      generalize jsI μ1 M 56 0 = μ2 at s2 hA2 v2 ⊢
      have hM2 := s2.mt h1
      refine st_word 1156 (-3017) 17 (by decide) (by decide) (by decide) hA2 (fun y3 yT => ?_) (fun y3 => ?_)
      · rw [if_neg (by decide), if_pos y3]
        have := m_b153 (md := 1) (Or.inl rfl) hA2 yT (hC.sm s2 (by decide) (by decide)) v2 (hQ.sm s2 (by decide) (by decide)) hcl hb (hP.sm s2 (by decide) (by decide) (by decide) (by decide) (by decide)) (hA.sm s2 (by decide) (by decide) (by decide) (by decide) (by decide))
        exact this.mono fun r ν ⟨q1, q2, q3⟩ => ⟨(s2.wk (by decide) (by decide)).tr q1, (clsLow.sm s2 (by decide) (by decide)).tr q2, q3⟩
      · rw [if_pos rfl, if_neg y3, jck_of (by rw [hM2.1]; rfl)]
        refine st_fail 0 0 rfl (by decide) hA2 (fun ν hs hb => ?_)
        have S : sm M HG [9] μ ν := (s2.wk (by decide) (by decide)).tr (hs.wk (by decide) (by decide))
        exact .ck jbl_0 (.ret ⟨S.wk (by decide) (by decide), clsLow.sm S (by decide) (by decide), hP.sm S (by decide) (by decide) (by decide) (by decide) (by decide), hA.sm S (by decide) (by decide) (by decide) (by decide) (by decide), rfl, hb⟩)
