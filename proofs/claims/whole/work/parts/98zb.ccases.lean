/-! the class: CASES: has, least, total, setFirst -/
def CV (μ : JM) (q : Nat) (v : CS) : Prop := ∀ i, i < 4 → jJ μ q i = v i
theorem l_one : ∀ i, i < 64 → lb 1 i = decide (i = 0) := by decide +kernel
theorem ash_bit (x : Int64) {b : Nat} (hb : b < 64) : (lg_cmp (jlshr x (nI b) &&& 1) 1 = 0) ↔ lb x b = true := by
  have e0 : ∀ i, i < 64 → lb (jlshr x (nI b)) i = if b + i < 64 then lb x (b + i) else lb x 63 := by
    intro i hi
    unfold jlshr lb
    rw [wb_c b hb, Int64.toBitVec_shiftRight]
    show (x.toBitVec.sshiftRight ((BitVec.ofNat 64 b).smod 64).toNat).getLsbD i = _
    rw [wb_sm b hb, BitVec.toNat_ofNat, Nat.mod_eq_of_lt (by omega), BitVec.getLsbD_sshiftRight, BitVec.msb_eq_getLsbD_last]
    simp [hi]
  rw [lg_cmp_0]
  constructor
  · intro e
    have := congrArg (fun y => lb y 0) e
    simp only [l_and, e0 0 (by decide), l_one 0 (by decide)] at this
    rw [if_pos (by omega)] at this
    simpa using this
  · intro e
    refine l_ext fun i hi => ?_
    rw [l_and, l_one i hi, e0 i hi]
    by_cases c : i = 0
    · rw [decide_eq_true c, c, if_pos (by omega), Nat.add_zero, e]; rfl
    · rw [decide_eq_false c, Bool.and_false]
theorem c_has {μ : JM} {a q c : Nat} {v : CS} (h : CAS μ a q) (hv : CV μ q v) (hc : c < 256) : fX1_has a (nI c) μ = some (if hasC v c = true then 1 else 0, μ, 0, 0) := by
  have e1 : jshr (nI c) 6 = nI (c / 64) := by
    have : ∀ c, c < 256 → jshr (nI c) 6 = nI (c / 64) := by decide +kernel
    exact this c hc
  have e2 : nI c &&& 63 = nI (c % 64) := fa_mask c 6
  unfold fX1_has
  rw [e1, if_neg (nI_pos (by omega)), if_neg (show ¬ (4 : Int32) ≤ nI (c / 64) from nI_ge (b := 4) (by omega) (by decide))]
  simp only [jck_true, jde_is, jlt_is, jcl_0, beq_self_eq_true, jT_sI, jT_sJ, jP_sI, jP_sJ, jJ_sI, jI_sJ, jZ_sI, jZ_sJ, h.1, h.2.1, h.2.2, jin_nI (show c / 64 < 4 by omega) (by decide), nI_clamp (show c / 64 < 2 ^ 31 by omega), e2, hv (c / 64) (by omega)]
  unfold hasC
  by_cases t : lb (v (c / 64)) (c % 64) = true
  · rw [if_pos ((ash_bit _ (by omega)).mpr t), if_pos t]
  · rw [if_neg (fun z => t ((ash_bit _ (by omega)).mp z)), if_neg t]
theorem lst_skip {p : Nat → Bool} : ∀ (d n c : Nat), (∀ j, j < d → p (c + j) = false) → lst p (d + n) c = lst p n (c + d)
  | 0, n, c, _ => by rw [Nat.zero_add]; rfl
  | d + 1, n, c, h => by
    have h0 := h 0 (by omega)
    rw [Nat.add_zero] at h0
    rw [show d + 1 + n = (d + n) + 1 by omega, lst, h0, if_neg (by decide), lst_skip d n (c + 1) (fun j hj => by rw [show c + 1 + j = c + (j + 1) by omega]; exact h (j + 1) (by omega)), show c + 1 + d = c + (d + 1) by omega]
theorem lst_hit {p : Nat → Bool} {t n c : Nat} (h : ∀ j, j < t → p (c + j) = false) (hp : p (c + t) = true) (ht : t < n) : lst p n c = nI (c + t) := by
  obtain ⟨d, rfl⟩ : ∃ d, n = t + (d + 1) := ⟨n - t - 1, by omega⟩
  rw [lst_skip t (d + 1) c h, lst, hp, if_pos rfl]
theorem lb_n {n i : Nat} (hi : i < 64) : lb (lN n) i = n.testBit i := by
  unfold lb
  rw [wb_tb, BitVec.getLsbD_ofNat, decide_eq_true hi, Bool.true_and]
theorem c_least_l {μ : JM} {a q : Nat} {v : CS} (h : CAS μ a q) (hv : CV μ q v) : ∀ (fu i : Nat), i ≤ 4 → 4 - i < fu → fX1_least_b2 fu a (nI i) μ = some (lst (hasC v) (64 * (4 - i)) (64 * i), μ, 0, 0) := by
  intro fu
  induction fu with
  | zero => intro i _ q; omega
  | succ fu ih =>
    intro i hi hf
    rw [fX1_least_b2]
    by_cases c : i = 4
    · subst c; rw [if_pos (by decide)]; rfl
    · have hi4 : i < 4 := by omega
      rw [if_neg (show ¬ (4 : Int32) ≤ nI i from nI_ge (b := 4) hi4 (by decide))]
      simp only [jck_true, jde_is, jlt_is, jcl_0, beq_self_eq_true, jT_sI, jT_sJ, jP_sI, jP_sJ, jJ_sI, jI_sJ, jZ_sI, jZ_sJ, h.1, h.2.1, h.2.2, jin_nI hi4 (by decide), nI_clamp (show i < 2 ^ 31 by omega), hv i hi4, lg_cmp_0]
      have hh : ∀ j, j < 64 → hasC v (64 * i + j) = lb (v i) j := fun j hj => by unfold hasC; rw [show (64 * i + j) / 64 = i by omega, show (64 * i + j) % 64 = j by omega]
      by_cases z : v i = 0
      · rw [if_pos z, nI_1, ih (i + 1) (by omega) (by omega), show 64 * (4 - i) = 64 + 64 * (4 - (i + 1)) by omega, lst_skip 64 _ _ (fun j hj => by rw [hh j hj, z, l_0]), show 64 * i + 64 = 64 * (i + 1) by omega]
      · rw [if_neg z]
        obtain ⟨n, hn, en⟩ := wb_of (v i)
        have hn0 : 0 < n := by
          rcases Nat.eq_zero_or_pos n with e | e
          · exfalso; rw [en, e] at z; exact z rfl
          · exact e
        obtain ⟨t, m, e⟩ := low_ex n hn0
        have ht : t < 64 := by
          by_cases w : t < 64
          · exact w
          · exfalso
            have : 2 ^ 64 ≤ 2 ^ t := Nat.pow_le_pow_right (by decide) (by omega)
            have : 2 ^ t ≤ n := by rw [e]; exact Nat.le_mul_of_pos_right _ (by omega)
            omega
        rw [en, c_ntzL hn ht e, jcl_0]
        have e64 : nI i * 64 + nI t = nI (64 * i + t) := by rw [Int32.mul_comm, show (64 : Int32) = nI 64 from rfl, pk_mul, nI_add]
        rw [e64]
        have lo := fun j => (low_bits e j).1
        rw [lst_hit (t := t) (fun j hj => by rw [hh j (by omega), en, lb_n (by omega), lo j, if_pos hj]) (by rw [hh t ht, en, lb_n ht, lo t, if_neg (by omega), if_pos rfl]) (by omega)]
theorem c_least {μ : JM} {a q : Nat} {v : CS} (h : CAS μ a q) (hv : CV μ q v) : fX1_least a μ = some (lst (hasC v) 256 0, μ, 0, 0) := c_least_l h hv jfuel 0 (by omega) (jfuel_gt (by omega))
theorem c_total_l {μ : JM} {a q : Nat} {v : CS} (h : CAS μ a q) (hv : CV μ q v) : ∀ (fu i : Nat), i ≤ 4 → 4 - i < fu → fX1_total_b4 fu a (nI (fb_ct (hasC v) (64 * i))) (nI i) μ = some (nI (fb_ct (hasC v) 256), μ, 0, 0) := by
  intro fu
  induction fu with
  | zero => intro i _ q; omega
  | succ fu ih =>
    intro i hi hf
    rw [fX1_total_b4]
    by_cases c : i = 4
    · subst c; rw [if_pos (by decide)]
    · have hi4 : i < 4 := by omega
      rw [if_neg (show ¬ (4 : Int32) ≤ nI i from nI_ge (b := 4) hi4 (by decide))]
      simp only [jck_true, jde_is, jlt_is, jcl_0, beq_self_eq_true, jT_sI, jT_sJ, jP_sI, jP_sJ, jJ_sI, jI_sJ, jZ_sI, jZ_sJ, h.1, h.2.1, h.2.2, jin_nI hi4 (by decide), nI_clamp (show i < 2 ^ 31 by omega), hv i hi4, c_bitL]
      have hh : fb_ct (hasC v) (64 * (i + 1)) = fb_ct (hasC v) (64 * i) + fb_ct (lb (v i)) 64 := by
        rw [show 64 * (i + 1) = 64 * i + 64 by omega, fb_ct_split]
        congr 1
        refine fb_ct_cong fun j hj => ?_
        unfold hasC; rw [show (64 * i + j) / 64 = i by omega, show (64 * i + j) % 64 = j by omega]
      rw [nI_add, ← hh, nI_1]
      exact ih (i + 1) (by omega) (by omega)
theorem c_total {μ : JM} {a q : Nat} {v : CS} (h : CAS μ a q) (hv : CV μ q v) : fX1_total a μ = some (nI (fb_ct (hasC v) 256), μ, 0, 0) := c_total_l h hv jfuel 0 (by omega) (jfuel_gt (by omega))
theorem sfi : ∀ n, n < 9 → ∀ i, i < 4 → (decide (0 < nI (2 ^ n) - nI i * 64) = !decide (2 ^ n ≤ 64 * i)) ∧ (decide (nI (2 ^ n) - nI i * 64 < 64) = !decide (64 * (i + 1) ≤ 2 ^ n)) ∧ (¬ 2 ^ n ≤ 64 * i → ¬ 64 * (i + 1) ≤ 2 ^ n → jlshl 1 (nI (2 ^ n) - nI i * 64) - 1 = lN (2 ^ (2 ^ n) - 1)) := by decide +kernel
theorem sfi_step {μ : JM} {a q fu n i : Nat} (h : CAS μ a q) (hn : n < 9) (hi : i < 4) : fX1_setFirst_b2 (fu + 1) a (nI (2 ^ n)) (nI i) μ = fX1_setFirst_b2 fu a (nI (2 ^ n)) (nI (i + 1)) (jsJ μ q i (allC n i)) := by
  obtain ⟨s1, s2, s3⟩ := sfi n hn i hi
  rw [fX1_setFirst_b2, if_neg (show ¬ (4 : Int32) ≤ nI i from nI_ge (b := 4) hi (by decide))]
  unfold allC
  by_cases c1 : 2 ^ n ≤ 64 * i
  · rw [decide_eq_true c1] at s1
    rw [if_neg (of_decide_eq_false s1), if_pos c1]
    simp only [jck_true, jde_is, jlt_is, jcl_0, beq_self_eq_true, jT_sI, jT_sJ, jP_sI, jP_sJ, jJ_sI, jI_sJ, jZ_sI, jZ_sJ, h.1, h.2.1, h.2.2, jin_nI hi (by decide), nI_clamp (show i < 2 ^ 31 by omega), fX1_setFirst_b51, nI_1]
  · rw [decide_eq_false c1] at s1
    rw [if_pos (of_decide_eq_true s1), if_neg c1]
    simp only [jck_true, jde_is, jlt_is, jcl_0, beq_self_eq_true, jT_sI, jT_sJ, jP_sI, jP_sJ, jJ_sI, jI_sJ, jZ_sI, jZ_sJ, h.1, h.2.1]
    by_cases c2 : 64 * (i + 1) ≤ 2 ^ n
    · rw [decide_eq_true c2] at s2
      rw [if_neg (of_decide_eq_false s2), if_pos c2, fX1_setFirst_b50]
      simp only [jck_true, jde_is, jlt_is, jcl_0, beq_self_eq_true, jT_sI, jT_sJ, jP_sI, jP_sJ, jJ_sI, jI_sJ, jZ_sI, jZ_sJ, h.2.2, jin_nI hi (by decide), nI_clamp (show i < 2 ^ 31 by omega), fX1_setFirst_b51, nI_1]
    · rw [decide_eq_false c2] at s2
      rw [if_pos (of_decide_eq_true s2), if_neg c2, fX1_setFirst_b50, s3 c1 c2]
      simp only [jck_true, jde_is, jlt_is, jcl_0, beq_self_eq_true, jT_sI, jT_sJ, jP_sI, jP_sJ, jJ_sI, jI_sJ, jZ_sI, jZ_sJ, h.2.2, jin_nI hi (by decide), nI_clamp (show i < 2 ^ 31 by omega), fX1_setFirst_b51, nI_1]
theorem c_setFirst {μ : JM} {a q n : Nat} (h : CAS μ a q) (hn : n < 9) : fX1_setFirst a (nI (2 ^ n)) μ = some ((), s4 μ q (allC n), 0, 0) := by
  unfold fX1_setFirst
  obtain ⟨g, hg⟩ := jfu5
  have m : ∀ {μ : JM} {x k : Nat} {v : Int64}, CAS μ a q → CAS (jsJ μ x k v) a q := fun h => h
  rw [hg, z_nI, sfi_step h hn (by decide), sfi_step (m h) hn (by decide), sfi_step (m (m h)) hn (by decide), sfi_step (m (m (m h))) hn (by decide), fX1_setFirst_b2, if_pos (by decide)]
  rfl
theorem ca_w {B : Nat} {μ : JM} (h : CT B μ) : CAS μ (B + 71) (B + 72) := ⟨by rw [cT71 h], cP71_0 h, cT72 h⟩
theorem c_caseCount {B : Nat} {μ : JM} {F : List Int64} (hC : CT B μ) (hF : cW B 9 8 μ F) : fX10_caseCount B μ = some (nI (2 ^ F.length), μ, 0, 0) := by
  unfold fX10_caseCount
  simp only [jck_true, jde_is, jlt_is, jcl_0, beq_self_eq_true, jT_sI, jT_sJ, jP_sI, jP_sJ, jJ_sI, jI_sJ, jZ_sI, jZ_sJ, cT0 hC, cP0_3 hC, cT9 hC, hF.1]
  have : ∀ n, n < 9 → jshl 1 (nI n) = nI (2 ^ n) := by decide +kernel
  rw [this _ (by have := hF.2.1; omega)]
/-! the class: facts -/
theorem c_fact_l {B z n : Nat} {l : List Int32} (hz : B + 121 ≤ z) : ∀ (fu m : Nat) (F : List Int64) (k : Nat) (μ : JM), CT B μ → cAt B μ l n k → cW B 9 8 μ F → 9 - F.length < fu → 10 ≤ F.length + m →
    Res (fX4_readFacts_b2 fu (B + 18) (nI F.length) μ) (fun x ν => cn B z [15, 9, 10] μ ν ∧ ((∃ e, ov (Cd l) k (sFa (Cd l) m F k) = .error e ∧ x = 0 ∧ cF B ν l e ∧ cW B 9 8 ν []) ∨ (∃ F2, ov (Cd l) k (sFa (Cd l) m F k) = .ok F2 ∧ x = 1 ∧ cW B 9 8 ν F2 ∧ F2 ≠ []))) := by
  intro fu
  induction fu with
  | zero => intro m F k μ _ _ _ q; omega
  | succ fu ih =>
    intro m F k μ hC h w hf hm
    have hl := w.2.1
    obtain ⟨m, rfl⟩ : ∃ m', m = m' + 1 := ⟨m - 1, by omega⟩
    rw [fX4_readFacts_b2, if_neg (show ¬ (8 : Int32) < nI F.length from nI_nlt (a := 8) hl (by decide))]
    have b26 : ¬ (Cd l k = 0 ∧ F ≠ []) → Res (fX4_readFacts_b26 (fX4_readFacts_b2 fu) (B + 18) (nI F.length) μ) (fun x ν => cn B z [15, 9, 10] μ ν ∧ ((∃ e, ov (Cd l) k (sFa (Cd l) (m + 1) F k) = .error e ∧ x = 0 ∧ cF B ν l e ∧ cW B 9 8 ν []) ∨ (∃ F2, ov (Cd l) k (sFa (Cd l) (m + 1) F k) = .ok F2 ∧ x = 1 ∧ cW B 9 8 ν F2 ∧ F2 ≠ []))) := by
      intro hne
      have sp : ov (Cd l) k (sFa (Cd l) (m + 1) F k) = if 0 < Cd l k then (if (F.idxOf? (Cd l k)).isSome = true then .error (k, 2) else if F.length = 8 then .error (k, 6) else ov (Cd l) (k + 1) (sFa (Cd l) m (F ++ [Cd l k]) (k + 1))) else .error (k, fk (Cd l) k (if Cd l k ≤ -3000 then 2 else 0)) := by
        rw [sFa, if_neg hne, ov_nmC]
        by_cases q : 0 < Cd l k
        · rw [if_pos q, if_pos q, eb_tk]
        · rw [if_neg q, if_neg q]
      generalize ov (Cd l) k (sFa (Cd l) (m + 1) F k) = S at sp ⊢
      rw [fX4_readFacts_b26, jck_of (by rw [cT18 hC]; rfl)]
      unfold fX4_readFact
      simp only [jck_true, jde_is, jlt_is, jcl_0, beq_self_eq_true, jT_sI, jT_sJ, jP_sI, jP_sJ, jJ_sI, jI_sJ, jZ_sI, jZ_sJ, cT18 hC, cP18_0 hC, cT15 hC, c_token hC h, c_isOurs, c_isFree]
      -- a fault: no FACTS
      have bad : ∀ (μ1 : JM) (d : Nat) (x : Int32), nI d = x → d ≤ 7 → cn B z [15, 9, 10] μ μ1 → cAt B μ1 l n k → (∃ F', cW B 9 8 μ1 F') → S = .error (k, fk (Cd l) k d) → Res (jcl (jcl (fX7_fail (B + 15) x μ1) fun r ν => jck (jbl r) <| some (r, ν, 0, 0)) fun r18 μ19 => if r18 = 0 then (fX4_readFacts_b42 (B + 18) μ19) else (fX4_readFacts_b2 fu (B + 18) (nI F.length + 1) μ19)) (fun x ν => cn B z [15, 9, 10] μ ν ∧ ((∃ e, S = .error e ∧ x = 0 ∧ cF B ν l e ∧ cW B 9 8 ν []) ∨ (∃ F2, S = .ok F2 ∧ x = 1 ∧ cW B 9 8 ν F2 ∧ F2 ≠ []))) := by
        intro μ1 d x hx hd s1 a1 ⟨F', w'⟩ es
        have hC1 := s1.1.ct hC hz
        refine Res.cl (c_fl (z := z) d x hx hd hC1 a1) fun r μ2 ⟨e2, s2, f2⟩ => ?_
        subst e2
        rw [if_pos rfl, fX4_readFacts_b42]
        have hC2 := s2.1.ct hC1 hz
        simp only [jck_true, jde_is, jlt_is, jcl_0, beq_self_eq_true, jT_sI, jT_sJ, jP_sI, jP_sJ, jJ_sI, jI_sJ, jZ_sI, jZ_sJ, cT18 hC2, cP18_1 hC2, cT9 hC2]
        have w2 := w'.ke s2.1 (by omega) (by decide) (by decide)
        refine Res.cl (c_cut (z := z) (n := 0) (wh9 hC2) w2 (by decide) (by omega)) fun _ ν ⟨s3, w3, z3⟩ => ?_
        rw [List.take_zero] at w3
        exact .ret ⟨(s1.tr (s2.wk (by decide))).tr ⟨s3.wk (by decide), z3⟩, Or.inl ⟨_, es, rfl, f2.ke s3 (by omega) (by decide), w3⟩⟩
      by_cases q1 : Cd l k ≤ -3000
      · have q2 : ¬ 0 < Cd l k := fun z => absurd (Int64.lt_of_lt_of_le z q1) (by decide)
        rw [if_neg q2, if_pos q1] at sp
        rw [if_pos q1, if_neg (by decide)]
        exact bad μ 2 2 rfl (by decide) cn.rf h ⟨F, w⟩ sp
      · rw [if_neg q1, if_pos rfl]
        by_cases q2 : 0 < Cd l k
        · rw [if_pos q2] at sp
          have nov : ¬ Cd l k = -2000 := by intro e; rw [e] at q2; exact absurd q2 (by decide)
          have ne0 : ¬ Cd l k = 0 := by intro e; rw [e] at q2; exact absurd q2 (by decide)
          rw [if_pos q2, if_neg (by decide)]
          simp only [jck_true, jde_is, jlt_is, jcl_0, beq_self_eq_true, jT_sI, jT_sJ, jP_sI, jP_sJ, jJ_sI, jI_sJ, jZ_sI, jZ_sJ, cT18 hC, cP18_0 hC, cT15 hC, cP18_1 hC, cT9 hC, c_find (wh9 hC) w (by decide)]
          cases hx : F.idxOf? (Cd l k) with
          | some j =>
            rw [hx, if_pos (show (some j).isSome = true from rfl)] at sp
            have hj := (List.idxOf?_eq_some_iff.mp hx).1
            rw [if_neg (by intro e; have := (oI_no (o := some j) (fun t ht => by injection ht; omega)).mp e; cases this)]
            refine bad μ 2 2 rfl (by decide) cn.rf h ⟨F, w⟩ ?_
            rw [sp]; unfold fk; rw [if_neg nov]
          | none =>
            rw [hx, if_neg (by decide)] at sp
            rw [if_pos (show oI 0 none = -1 from rfl)]
            by_cases c8 : F.length = 8
            · rw [if_pos c8] at sp
              rw [c_addno (wh9 hC) w (by decide) c8, jcl_0, if_pos rfl]
              simp only [jck_true, jde_is, jlt_is, jcl_0, beq_self_eq_true, jT_sI, jT_sJ, jP_sI, jP_sJ, jJ_sI, jI_sJ, jZ_sI, jZ_sJ, cT18 hC, cP18_0 hC, cT15 hC]
              refine bad μ 6 6 rfl (by decide) cn.rf h ⟨F, w⟩ ?_
              rw [sp]; unfold fk; rw [if_neg nov]
            · rw [if_neg c8] at sp
              obtain ⟨r, μ1, e1, rfl, s1, w1, z1⟩ := c_add (z := z) (y := Cd l k) (wh9 hC) w (by decide) (by omega)
              have hC1 := s1.ct hC hz
              have a1 := h.ke s1 (by omega) (by decide) (by decide) (by decide)
              rw [e1, jcl_0, if_neg (by intro e; have := (oI_no (o := some F.length) (fun t ht => by injection ht; omega)).mp (by simp only [oI, Nat.zero_add]; exact e); cases this)]
              simp only [jck_true, jde_is, jlt_is, jcl_0, beq_self_eq_true, jT_sI, jT_sJ, jP_sI, jP_sJ, jJ_sI, jI_sJ, jZ_sI, jZ_sJ, cT18 hC1, cP18_0 hC1, cT15 hC1]
              obtain ⟨u, μ2, e2, s2, a2⟩ := c_step (z := z) hC1 a1 ne0 (by omega)
              rw [e2, jcl_0, jcl_0, if_neg (by decide), nI_1]
              have hC2 := s2.1.ct hC1 hz
              have w2 := w1.ke s2.1 (by omega) (by decide) (by decide)
              have := ih m (F ++ [Cd l k]) (k + 1) μ2 hC2 a2 w2 (by simp; omega) (by simp; omega)
              rw [List.length_append, List.length_singleton] at this
              refine this.mono ?_
              rintro x ν ⟨s3, P⟩
              rw [sp]
              exact ⟨(cn.tr ⟨s1.wk (by decide), z1⟩ (s2.wk (by decide))).tr s3, P⟩
        · rw [if_neg q2, if_neg q1] at sp
          rw [if_neg q2, if_pos rfl]
          exact bad μ 0 0 rfl (by decide) cn.rf h ⟨F, w⟩ sp
    by_cases c0 : F = []
    · rw [if_pos (by rw [c0]; decide)]
      exact b26 (fun t => t.2 c0)
    · have hp : 0 < F.length := List.length_pos_iff.mpr c0
      rw [if_neg (nI_nle hp (by omega))]
      simp only [jck_true, jde_is, jlt_is, jcl_0, beq_self_eq_true, jT_sI, jT_sJ, jP_sI, jP_sJ, jJ_sI, jI_sJ, jZ_sI, jZ_sJ, cT18 hC, cP18_0 hC, cT15 hC, c_token hC h, lg_cmp_0]
      by_cases q0 : Cd l k = 0
      · rw [if_pos q0]
        refine .ret ⟨cn.rf, Or.inr ⟨F, ?_, rfl, w, c0⟩⟩
        rw [ov_ne (by rw [q0]; decide), sFa, if_pos ⟨q0, c0⟩]
      · rw [if_neg q0]
        exact b26 (fun t => q0 t.1)
