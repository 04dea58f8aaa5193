/-! the reference: byDays, over -/
theorem tok_num {M : Nat} {μ : JM} {l : List Int32} {ts : List Int64} {k : Nat} (h : mAt M μ l ts k) : (isNm (Cd l k) = true ∧ jI μ M 14 = 2 ∧ (-1000 - Cd l k).toNatClampNeg < 1000 ∧ jI μ M 17 = nI (-1000 - Cd l k).toNatClampNeg ∧ isT (Cd l k)) ∨ (isNm (Cd l k) = false ∧ ¬ jI μ M 14 = 2) := by
  have h3 := (mA_ok h).2.2
  have k6 := h.1.2.2.1.2.2.2.2.2.1
  have k7 := h.1.2.2.1.2.2.2.2.2.2
  have hn : isNm (Cd l k) = true ↔ (-2000 < (Cd l k).toInt ∧ (Cd l k).toInt ≤ -1000) := by
    unfold isNm
    rw [Bool.and_eq_true, decide_eq_true_eq, decide_eq_true_eq, fa_lt64, fa_le64, show (-2000 : Int64).toInt = -2000 from by decide, show (-1000 : Int64).toInt = -1000 from by decide]
  rw [k6, k7]
  have hf : (¬ (-2000 < (Cd l k).toInt ∧ (Cd l k).toInt ≤ -1000)) → isNm (Cd l k) = false := fun q => by
    cases z : isNm (Cd l k) with
    | false => rfl
    | true => exact absurd (hn.mp z) q
  have hd : (Cd l k) = tcode (l.drop (pl l k)) := rfl
  rcases tcl _ (h.2.drop (pl l k)) with ⟨e1, e2, e3, e4, e5⟩ | ⟨i, e1, e2, e3, e4, e5, e6, e7, e8⟩ | ⟨e1, e2, e3, e4, e5, e6, e7, e8, e9⟩ | ⟨w, e1, e2, e3, e4, e5, e6, e7, e8⟩ | ⟨c, r, w, e1, e2, e3, e4, e5, e6, e7, e8, e9, e10⟩ | ⟨e1, e2, e3, e4, e5⟩
  · right; exact ⟨hf (by rw [hd, e2]; decide), by rw [e3]; decide⟩
  · right; exact ⟨hf (by rw [hd, e3]; omega), by rw [e4]; decide⟩
  · right; exact ⟨hf (by rw [hd, e5]; omega), by rw [e1]; decide⟩
  · left
    have hv : (-1000 - Cd l k).toNatClampNeg = w := sub_clamp (n := w) (-1000) (by decide) (by omega) (by omega) (by rw [hd, e8]) (by omega)
    refine ⟨hn.mpr (by rw [hd, e8]; omega), e2, by omega, by rw [hv]; exact e3, ?_⟩
    unfold isT; rw [hd, e8]; omega
  · right; exact ⟨hf (by rw [hd, e9]; omega), by rw [e3]; split <;> decide⟩
  · exact absurd e2 h3
def mTm (M : Nat) (ν : JM) (l : List Int32) (ts : List Int64) (k e : Nat) (r : Int32) (x : Except Er (Int32 × Int32 × Nat)) : Prop := match x with
  | .error f => r = 0 ∧ mBad M ν l f
  | .ok y => r = 1 ∧ k ≤ y.2.2 ∧ mAt M ν l (ts ++ sl (Cd l) k y.2.2) y.2.2 ∧ jI ν (M + 24) e = y.1 ∧ jI ν (M + 25) e = y.2.1
theorem jbl_0 : jbl 0 = true := by decide
theorem jbl_1 : jbl 1 = true := by decide
theorem m_byDays {M e : Nat} {μ : JM} {l : List Int32} {ts : List Int64} {k : Nat} (h : mAt M μ l ts k) (he : e < 120) : Res (fX11_byDays M (nI e) μ) (fun r ν => sm M TK [9, 24, 25] μ ν ∧ clsBut M μ ν e ∧ mTm M ν l ts k e r (sTerm (Cd l) k)) := by
  obtain ⟨h1, h2, h3⟩ := mA_ok h
  rw [fX11_byDays]
  simp only [jck_true, jde_is, jlt_is, jcl_0, beq_self_eq_true, jT_sI, jT_sJ, jP_sI, jP_sJ, jJ_sI, jI_sJ, jZ_sI, jZ_sJ, h1.1]
  unfold sTerm
  refine st_exW 89 (-3006) 6 (by decide) (by decide) (by decide) h (fun ν f hf hs hb => ?_) (fun ν1 hf hs1 hA1 => ?_)
  · rw [if_pos rfl, hf, eb_err]
    exact .ret ⟨hs.wk (by decide) (by decide), clsBut.sm hs (by decide), rfl, hb⟩
  · have hM1 := hs1.mt h1
    rw [if_neg (by decide), hf, eb_ok]
    simp only [jck_true, jde_is, jlt_is, jcl_0, beq_self_eq_true, jT_sI, jT_sJ, jP_sI, jP_sJ, jJ_sI, jI_sJ, jZ_sI, jZ_sJ, hM1.1]
    rcases tok_num hA1 with ⟨n1, n2, n3, n4, n5⟩ | ⟨n1, n2⟩
    · rw [if_pos n2, if_pos n1]
      generalize (-1000 - Cd l (k + 1)).toNatClampNeg = n at n3 n4
      by_cases q : 365 < n
      · rw [if_neg (by rw [n4]; exact nI_ge (a := 365) (by omega) (by omega)), if_pos q]
        refine st_fail 1 1 rfl (by decide) hA1 (fun ν hs hb => ?_)
        exact .ck jbl_0 (.ret ⟨hs1.tr hs |>.wk (by decide) (by decide), clsBut.sm (hs1.tr hs) (by decide), rfl, hb⟩)
      · rw [if_pos (by rw [n4]; exact nI_le (b := 365) (by omega) (by omega)), if_neg q, n4]
        simp only [jck_true, jde_is, jlt_is, jcl_0, beq_self_eq_true, jT_sI, jT_sJ, jP_sI, jP_sJ, jJ_sI, jI_sJ, jZ_sI, jZ_sJ, mP_number hM1, mT_number hM1, jin_nI he (by decide), nI_clamp (show e < 2 ^ 31 by omega)]
        generalize hμ2 : jsI ν1 (M + 24) e (nI n) = μ2
        have s2 : sm M [] [24] ν1 μ2 := by rw [← hμ2]; exact sm.sA (by decide) (by decide)
        have c2 : clsBut M ν1 μ2 e := by rw [← hμ2]; exact clsBut.setI (by decide)
        have v2 : jI μ2 (M + 24) e = nI n := by rw [← hμ2, jI_sI, if_pos ⟨rfl, rfl⟩]
        have hA2 := hA1.sm s2 (by decide) (by decide)
        have S2 : sm M TK [9, 24, 25] μ μ2 := (hs1.wk (by decide) (by decide)).tr (s2.wk (by decide) (by decide))
        have C2 : clsBut M μ μ2 e := (clsBut.sm hs1 (by decide)).tr c2
        refine st_take hA2 n5 (fun ν f hf2 hs hb => ?_) (fun ν3 hf2 hs3 hA3 => ?_)
        · rw [if_pos rfl, hf2, eb_err]
          exact .ret ⟨S2.tr (hs.wk (by decide) (by decide)), C2.tr (clsBut.sm hs (by decide)), rfl, hb⟩
        · have S3 := S2.tr (hs3.wk (by decide) (by decide))
          have hM3 := S3.mt h1
          have C3 := C2.tr (clsBut.sm (e := e) hs3 (by decide))
          have v3 : jI ν3 (M + 24) e = nI n := by rw [hs3.aI (by decide) (by decide)]; exact v2
          rw [if_neg (by decide), hf2, eb_ok]
          simp only [jck_true, jde_is, jlt_is, jcl_0, beq_self_eq_true, jT_sI, jT_sJ, jP_sI, jP_sJ, jJ_sI, jI_sJ, jZ_sI, jZ_sJ, hM3.1]
          have b89 : ∀ (x : Int32) (c w : Int64) (Q2 : Except Er (Int32 × Int32 × Nat)), ((x = 1 ∧ Cd l (k + 1 + 1) = -3008 ∧ Q2 = eb (tk (Cd l) (k + 1 + 1)) fun k3 => .ok (nI n, 1, k3)) ∨ (x = 0 ∧ Cd l (k + 1 + 1) ≠ -3008 ∧ Q2 = eb (exC (Cd l) (-3007) (k + 1 + 1)) fun k3 => .ok (nI n, 0, k3))) → Res (fX11_byDays_b89 M x (nI e) (jP ν3 M 39) ν3) (fun r ν => sm M TK [9, 24, 25] μ ν ∧ clsBut M μ ν e ∧ mTm M ν l ts k e r Q2) := by
            intro x c w Q2 hx
            rw [fX11_byDays_b89]
            simp only [jck_true, jde_is, jlt_is, jcl_0, beq_self_eq_true, jT_sI, jT_sJ, jP_sI, jP_sJ, jJ_sI, jI_sJ, jZ_sI, jZ_sJ, hM3.1, mP_byWork hM3, mT_byWork hM3, jin_nI he (by decide), nI_clamp (show e < 2 ^ 31 by omega)]
            generalize hμ4 : jsI ν3 (M + 25) e x = μ4
            have s4 : sm M [] [25] ν3 μ4 := by rw [← hμ4]; exact sm.sA (by decide) (by decide)
            have c4 : clsBut M ν3 μ4 e := by rw [← hμ4]; exact clsBut.setI (by decide)
            have v4 : jI μ4 (M + 25) e = x := by rw [← hμ4, jI_sI, if_pos ⟨rfl, rfl⟩]
            have u4 : jI μ4 (M + 24) e = nI n := by rw [s4.aI (by decide) (by decide)]; exact v3
            have hA4 := hA3.sm s4 (by decide) (by decide)
            have hM4 := s4.mt hM3
            have S4 := S3.tr (s4.wk (by decide) (by decide))
            have C4 := C3.tr c4
            have eA : ∀ k5, k + 1 + 1 + 1 = k5 → (ts ++ sl (Cd l) k (k + 1)) ++ sl (Cd l) (k + 1) (k + 1 + 1) ++ sl (Cd l) (k + 1 + 1) (k + 1 + 1 + 1) = ts ++ sl (Cd l) k k5 := by
              rintro k5 rfl
              rw [List.append_assoc, List.append_assoc, sl_app _ (by omega) (by omega), sl_app _ (by omega) (by omega)]
            refine st_word 806995756851 (-3008) 8 (by decide) (by decide) (by decide) hA4 (fun y yT => ?_) (fun y => ?_)
            · rw [if_neg (by decide)]
              rcases hx with ⟨x1, x2, x3⟩ | ⟨x1, x2, x3⟩
              · subst x1 x3
                simp only [jck_true, jde_is, jlt_is, jcl_0, beq_self_eq_true, jT_sI, jT_sJ, jP_sI, jP_sJ, jJ_sI, jI_sJ, jZ_sI, jZ_sJ, hM4.1]
                refine st_take hA4 yT (fun ν f hf2 hs hb => ?_) (fun ν5 hf2 hs5 hA5 => ?_)
                · rw [hf2, eb_err]
                  exact .ck jbl_0 (.ret ⟨S4.tr (hs.wk (by decide) (by decide)), C4.tr (clsBut.sm hs (by decide)), rfl, hb⟩)
                · rw [hf2, eb_ok]
                  rw [eA _ rfl] at hA5
                  exact .ck jbl_1 (.ret ⟨S4.tr (hs5.wk (by decide) (by decide)), C4.tr (clsBut.sm hs5 (by decide)), rfl, by show k ≤ k + 1 + 1 + 1; omega, hA5, by rw [hs5.aI (by decide) (by decide)]; exact u4, by rw [hs5.aI (by decide) (by decide)]; exact v4⟩)
              · exact absurd y x2
            · rw [if_pos rfl]
              rcases hx with ⟨x1, x2, x3⟩ | ⟨x1, x2, x3⟩
              · exact absurd x2 y
              · subst x1 x3
                simp only [jck_true, jde_is, jlt_is, jcl_0, beq_self_eq_true, jT_sI, jT_sJ, jP_sI, jP_sJ, jJ_sI, jI_sJ, jZ_sI, jZ_sJ, hM4.1]
                refine st_exW 132915 (-3007) 7 (by decide) (by decide) (by decide) hA4 (fun ν f hf2 hs hb => ?_) (fun ν5 hf2 hs5 hA5 => ?_)
                · rw [hf2, eb_err]
                  exact .ck jbl_0 (.ret ⟨S4.tr (hs.wk (by decide) (by decide)), C4.tr (clsBut.sm hs (by decide)), rfl, hb⟩)
                · rw [hf2, eb_ok]
                  rw [eA _ rfl] at hA5
                  exact .ck jbl_1 (.ret ⟨S4.tr (hs5.wk (by decide) (by decide)), C4.tr (clsBut.sm hs5 (by decide)), rfl, by show k ≤ k + 1 + 1 + 1; omega, hA5, by rw [hs5.aI (by decide) (by decide)]; exact u4, by rw [hs5.aI (by decide) (by decide)]; exact v4⟩)
          refine st_word 806995756851 (-3008) 8 (by decide) (by decide) (by decide) hA3 (fun y yT => ?_) (fun y => ?_)
          · rw [if_neg (by decide), if_pos y]
            exact b89 1 0 0 _ (Or.inl ⟨rfl, y, rfl⟩)
          · rw [if_pos rfl, if_neg y]
            exact b89 0 0 0 _ (Or.inr ⟨rfl, y, rfl⟩)
    · rw [if_neg n2, if_neg (by rw [n1]; decide)]
      refine st_fail 0 0 rfl (by decide) hA1 (fun ν hs hb => ?_)
      exact .ck jbl_0 (.ret ⟨hs1.tr hs |>.wk (by decide) (by decide), clsBut.sm (hs1.tr hs) (by decide), rfl, hb⟩)
