/-! the reference: over -/
theorem b_one : ∀ i, i < 32 → bt 1 i = decide (i = 0) := by decide +kernel
theorem b_shl1 {u i : Nat} (hu : u < 32) (hi : i < 32) : bt (jshl 1 (nI u)) i = decide (i = u) := by
  unfold jshl
  rw [b_shl u hu 1 hi]
  by_cases q : u ≤ i
  · rw [b_one _ (by omega)]
    by_cases z : i = u
    · subst z; simp
    · simp [q, z]; omega
  · simp [q]; omega
theorem b_test {o : Int32} {u : Nat} (hu : u < 32) : (jshr o (nI u) &&& 1 = 0) ↔ bt o u = false := by
  have e0 : bt (jshr o (nI u) &&& 1) 0 = bt o u := by
    rw [b_and, b_one 0 (by omega)]
    unfold jshr
    rw [b_sshr u hu o (by omega), if_pos (by omega)]; simp
  constructor
  · intro h
    rw [← e0, h]; rfl
  · intro h
    refine b_ext fun i hi => ?_
    by_cases z : i = 0
    · subst z; rw [e0, h]; rfl
    · rw [b_and, b_one i hi]
      simp only [z, decide_false, Bool.and_false]
      exact (BitVec.getLsbD_zero).symm
theorem pc_or {o : Int32} {u : Nat} (hu : u < 32) : pcI (o ||| jshl 1 (nI u)) = pcI o + (if jshr o (nI u) &&& 1 = 0 then 1 else 0) := by
  unfold pcI
  have e : fb_ct (bt (o ||| jshl 1 (nI u))) 32 = fb_ct (fun k => if k = u then true else bt o k) 32 := by
    refine fb_ct_cong fun k hk => ?_
    rw [b_or, b_shl1 hu hk]
    by_cases z : k = u
    · subst z; simp
    · simp [z]
  have h2 := fb_ct_upd (bt o) true (i := u) (n := 32) hu
  rw [e]
  by_cases q : bt o u = false
  · rw [if_pos ((b_test hu).mpr q)]
    rw [q] at h2
    simp only [Bool.false_eq_true, if_false, if_true, Nat.add_zero] at h2
    rw [h2, nI_1]
  · rw [if_neg (fun z => q ((b_test hu).mp z))]
    rw [Bool.not_eq_false] at q
    rw [q] at h2
    simp only [if_true] at h2
    rw [show fb_ct (fun k => if k = u then true else bt o k) 32 = fb_ct (bt o) 32 by omega]; simp
def mOv (M : Nat) (ν : JM) (l : List Int32) (ts : List Int64) (k e : Nat) (r : Int32) (x : Except Er (Int32 × Nat)) : Prop := match x with
  | .error f => r = 0 ∧ mBad M ν l f
  | .ok y => r = 1 ∧ k ≤ y.2 ∧ mAt M ν l (ts ++ sl (Cd l) k y.2) y.2 ∧ jI ν (M + 26) e = pcI y.1 ∧ jI ν (M + 27) e = y.1
theorem mCls.but {M e0 e : Nat} {μ ν : JM} {cls : List Cl} (h : mCls M μ e0 cls) (hb : clsBut M μ ν e) (hn : e < e0 ∨ e0 + cls.length ≤ e) : mCls M ν e0 cls := fun i hi => hb _ _ (by omega) (h i hi)
theorem over_l {M e : Nat} {l : List Int32} {wh : Bool} {cls : List Cl} (he : e < 120) (hcl : cls.length ≤ 24) (hec : 96 + cls.length ≤ e) : ∀ (fu n k : Nat) (ts : List Int64) (o : Int32) (μ : JM), mAt M μ l ts k → isT (Cd l k) → jI μ M 33 = (if wh then 1 else 0) → (wh = true → mCls M μ 96 cls) → jI μ (M + 26) e = pcI o → jI μ (M + 27) e = o → l.length - pl l k < n → l.length - pl l k < fu →
    Res (fX11_over_b2 fu M (nI e) (nI cls.length) 1 μ) (fun r ν => sm M TK [9, 26, 27] μ ν ∧ clsBut M μ ν e ∧ mOv M ν l ts k e r (sOver (Cd l) wh cls n k o)) := by
  intro fu
  induction fu with
  | zero => intro n k ts o μ _ _ _ _ _ _ _ h; omega
  | succ fu ih =>
    intro n k ts o μ h hT hw hK h26 h27 hn hf
    obtain ⟨n, rfl⟩ : ∃ m, n = m + 1 := ⟨n - 1, by omega⟩
    obtain ⟨h1, h2, h3⟩ := mA_ok h
    have lt1 := isT_lt hT h.2
    rw [fX11_over_b2, if_neg (by decide)]
    simp only [jck_true, jde_is, jlt_is, jcl_0, beq_self_eq_true, jT_sI, jT_sJ, jP_sI, jP_sJ, jJ_sI, jI_sJ, jZ_sI, jZ_sJ, h1.1]
    rw [sOver]
    refine st_take h hT (fun ν f hf hs hb => ?_) (fun μ1 hf1 s1 hA1 => ?_)
    · rw [if_pos rfl, hf, eb_err]
      exact .ret ⟨hs.wk (by decide) (by decide), clsBut.sm hs (by decide), rfl, hb⟩
    · have hM1 := s1.mt h1
      rw [if_neg (by decide), hf1, eb_ok]
      simp only [jck_true, jde_is, jlt_is, jcl_0, beq_self_eq_true, jT_sI, jT_sJ, jP_sI, jP_sJ, jJ_sI, jI_sJ, jZ_sI, jZ_sJ, hM1.1]
      refine st_name hA1 (fun ν f hf hs hb => ?_) (fun he1 hc => ?_)
      · rw [if_pos rfl, hf, eb_err]
        exact .ret ⟨(s1.tr hs).wk (by decide) (by decide), clsBut.sm (s1.tr hs) (by decide), rfl, hb⟩
      · rw [if_neg (by decide), he1, eb_ok]
        have w1 : jI μ1 M 33 = if wh then 1 else 0 := (s1.fI (by decide)).trans hw
        have lt2 := isT_lt (isT_free hc) h.2
        have le2 := pl_le l (k + 1 + 1)
        have a26 : jI μ1 (M + 26) e = pcI o := by rw [s1.aI (by decide) (by decide)]; exact h26
        have a27 : jI μ1 (M + 27) e = o := by rw [s1.aI (by decide) (by decide)]; exact h27
        have C1 : clsBut M μ μ1 e := clsBut.sm s1 (by decide)
        have ok : ∀ u, u < 24 → Res (fX11_over_b39 (fX11_over_b2 fu) M (nI e) (nI cls.length) (nI u) μ1) (fun r ν => sm M TK [9, 26, 27] μ ν ∧ clsBut M μ ν e ∧ mOv M ν l ts k e r (eb (tk (Cd l) (k + 1)) fun k2 => if Cd l k2 = -3012 then sOver (Cd l) wh cls n k2 (o ||| jshl 1 (nI u)) else .ok (o ||| jshl 1 (nI u), k2))) := by
          intro u hu
          rw [fX11_over_b39, if_pos (show (0 : Int32) ≤ nI u from nI_le (a := 0) (by omega) (by omega))]
          simp only [jck_true, jde_is, jlt_is, jcl_0, beq_self_eq_true, jT_sI, jT_sJ, jP_sI, jP_sJ, jJ_sI, jI_sJ, jZ_sI, jZ_sJ, hM1.1, mP_overMany hM1, mT_overMany hM1, mP_overBits hM1, mT_overBits hM1, jin_nI he (by decide), nI_clamp (show e < 2 ^ 31 by omega), a26, a27]
          have b82 : ∀ x : Int32, pcI o + x = pcI (o ||| jshl 1 (nI u)) → Res (fX11_over_b82 (fX11_over_b2 fu) M (nI e) (nI cls.length) (nI u) x (pcI o) (nI e) (some (M + 26)) μ1) (fun r ν => sm M TK [9, 26, 27] μ ν ∧ clsBut M μ ν e ∧ mOv M ν l ts k e r (eb (tk (Cd l) (k + 1)) fun k2 => if Cd l k2 = -3012 then sOver (Cd l) wh cls n k2 (o ||| jshl 1 (nI u)) else .ok (o ||| jshl 1 (nI u), k2))) := by
            intro x hx
            rw [fX11_over_b82]
            have e27 : ∀ v, jI (jsI μ1 (M + 26) e v) (M + 27) e = o := fun v => by rw [jI_sI, if_neg (by omega)]; exact a27
            simp only [jck_true, jde_is, jlt_is, jcl_0, beq_self_eq_true, jT_sI, jT_sJ, jP_sI, jP_sJ, jJ_sI, jI_sJ, jZ_sI, jZ_sJ, hM1.1, mP_overMany hM1, mT_overMany hM1, mP_overBits hM1, mT_overBits hM1, jin_nI he (by decide), nI_clamp (show e < 2 ^ 31 by omega), e27, hx]
            generalize o ||| jshl 1 (nI u) = o2
            generalize hμ2 : jsI (jsI μ1 (M + 26) e (pcI o2)) (M + 27) e o2 = μ2
            have s2 : sm M [] [26, 27] μ1 μ2 := by rw [← hμ2]; exact (sm.sA (by decide) (by decide)).tr (sm.sA (by decide) (by decide))
            have c2 : clsBut M μ1 μ2 e := by rw [← hμ2]; exact (clsBut.setI (by decide)).tr (clsBut.setI (by decide))
            have v26 : jI μ2 (M + 26) e = pcI o2 := by rw [← hμ2, jI_sI, if_neg (by omega), jI_sI, if_pos ⟨rfl, rfl⟩]
            have v27 : jI μ2 (M + 27) e = o2 := by rw [← hμ2, jI_sI, if_pos ⟨rfl, rfl⟩]
            have hA2 := hA1.sm s2 (by decide) (by decide)
            have S2 : sm M TK [9, 26, 27] μ μ2 := (s1.wk (by decide) (by decide)).tr (s2.wk (by decide) (by decide))
            have C2 := C1.tr c2
            refine st_take hA2 (isT_free hc) (fun ν f hf hs hb => ?_) (fun μ3 hf3 s3 hA3 => ?_)
            · rw [if_pos rfl, hf, eb_err]
              exact .ret ⟨S2.tr (hs.wk (by decide) (by decide)), C2.tr (clsBut.sm hs (by decide)), rfl, hb⟩
            · have S3 := S2.tr (s3.wk (by decide) (by decide))
              have hM3 := S3.mt h1
              have C3 := C2.tr (clsBut.sm (e := e) s3 (by decide))
              have u26 : jI μ3 (M + 26) e = pcI o2 := by rw [s3.aI (by decide) (by decide)]; exact v26
              have u27 : jI μ3 (M + 27) e = o2 := by rw [s3.aI (by decide) (by decide)]; exact v27
              rw [if_neg (by decide), hf3, eb_ok]
              simp only [jck_true, jde_is, jlt_is, jcl_0, beq_self_eq_true, jT_sI, jT_sJ, jP_sI, jP_sJ, jJ_sI, jI_sJ, jZ_sI, jZ_sJ, hM3.1]
              rw [List.append_assoc, sl_app _ (by omega) (by omega)] at hA3
              refine st_word 1476 (-3012) 12 (by decide) (by decide) (by decide) hA3 (fun y yT => ?_) (fun y => ?_)
              · rw [if_pos y]
                have := ih n (k + 1 + 1) (ts ++ sl (Cd l) k (k + 1 + 1)) o2 μ3 hA3 yT ((S3.fI (by decide)).trans hw) (fun z => (hK z).but C3 (Or.inr hec)) u26 u27 (by omega) (by omega)
                refine this.mono fun r ν ⟨q1, q2, q3⟩ => ⟨S3.tr q1, C3.tr q2, ?_⟩
                cases hs : sOver (Cd l) wh cls n (k + 1 + 1) o2 with
                | error f => rw [hs] at q3; exact q3
                | ok y =>
                  rw [hs] at q3
                  obtain ⟨z1, z2, z3, z4⟩ := q3
                  rw [List.append_assoc, sl_app _ (by omega) z2] at z3
                  exact ⟨z1, by omega, z3, z4⟩
              · rw [if_neg y]
                obtain ⟨f2, rfl⟩ : ∃ f2, fu = f2 + 1 := ⟨fu - 1, by omega⟩
                rw [fX11_over_b2, if_pos rfl]
                exact .ret ⟨S3, C3, rfl, by show k ≤ k + 1 + 1; omega, hA3, u26, u27⟩
          have hp := pc_or (o := o) (u := u) (by omega)
          by_cases q : jshr o (nI u) &&& 1 = 0
          · rw [if_pos q]; rw [if_pos q] at hp; exact b82 1 hp.symm
          · rw [if_neg q]; rw [if_neg q] at hp; exact b82 0 hp.symm
        simp only [jck_true, jde_is, jlt_is, jcl_0, beq_self_eq_true, jT_sI, jT_sJ, jP_sI, jP_sJ, jJ_sI, jI_sJ, jZ_sI, jZ_sJ, hM1.1, w1]
        cases wh with
        | false =>
          simp only [Bool.false_eq_true, if_false, if_true]
          exact ok 0 (by omega)
        | true =>
          simp only [if_true]
          rw [if_neg (by decide), m_labelled hA1 hc hcl ((hK rfl).but C1 (Or.inr hec)), jcl_0]
          cases hl : lfnd cls (Cd l (k + 1)) false with
          | none =>
            simp only [oI]
            rw [fX11_over_b39, if_neg (by decide)]
            simp only [jck_true, jde_is, jlt_is, jcl_0, beq_self_eq_true, jT_sI, jT_sJ, jP_sI, jP_sJ, jJ_sI, jI_sJ, jZ_sI, jZ_sJ, hM1.1]
            refine st_fail 3 3 rfl (by decide) hA1 (fun ν hs hb => ?_)
            exact .ck jbl_0 (.ret ⟨(s1.tr hs).wk (by decide) (by decide), clsBut.sm (s1.tr hs) (by decide), rfl, hb⟩)
          | some u =>
            have hu := lfnd_lt hl
            simp only [oI, Nat.zero_add]
            exact ok u (by omega)
theorem m_over {M e : Nat} {l : List Int32} {wh : Bool} {cls : List Cl} {k : Nat} {ts : List Int64} {μ : JM} (he : e < 120) (hcl : cls.length ≤ 24) (hec : 96 + cls.length ≤ e) (h : mAt M μ l ts k) (hT : isT (Cd l k)) (hw : jI μ M 33 = (if wh then 1 else 0)) (hK : wh = true → mCls M μ 96 cls) (h26 : jI μ (M + 26) e = 0) (h27 : jI μ (M + 27) e = 0) :
    Res (fX11_over M (nI e) (nI cls.length) μ) (fun r ν => sm M TK [9, 26, 27] μ ν ∧ clsBut M μ ν e ∧ mOv M ν l ts k e r (sOver (Cd l) wh cls 2000 k 0)) := by
  rw [fX11_over]
  have hl : l.length ≤ 1900 := h.1.2.2.2.2.2.2.2.2
  exact over_l he hcl hec jfuel 2000 k ts 0 μ h hT hw hK (by rw [h26]; decide) h27 (by omega) (jfuel_gt (by omega))
