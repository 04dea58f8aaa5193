/-! the class: Reader: parties and acts, terms -/
theorem isNm_v {c : Int64} (h : isNm c = true) : (-1000 - c).toNatClampNeg < 1000 ∧ (-1000 - c).toInt32 = nI (-1000 - c).toNatClampNeg := by
  unfold isNm at h
  simp only [Bool.and_eq_true, decide_eq_true_eq] at h
  have h1 := (fa_lt64 _ _).mp h.1
  have h2 := (fa_le64 _ _).mp h.2
  have e1 : (-2000 : Int64).toInt = -2000 := by decide
  have e2 : (-1000 : Int64).toInt = -1000 := by decide
  have e3 : (-1000 - c).toInt = -1000 - c.toInt := by rw [fb_subL, e2] <;> rw [e2] <;> omega
  have e4 : (-1000 - c).toNatClampNeg = (-1000 - c).toInt.toNat := rfl
  refine ⟨by rw [e4, e3]; omega, ?_⟩
  refine Int32.toInt_inj.mp ?_
  rw [nI_toInt (by rw [e4, e3]; omega), Int64.toInt_toInt32, e4, e3]
  have : 0 ≤ -1000 - c.toInt ∧ -1000 - c.toInt < 1000 := by omega
  generalize -1000 - c.toInt = y at this
  rw [Int.bmod_eq_of_le (by omega) (by omega)]; omega
def nuQ (B i mx : Nat) (μ : JM) (l : List Int32) (n k : Nat) (wh : Bool) (P : List Int64) (r : Int32) (ν : JM) : Prop := cn B (jZ μ) [15, i, i + 1] μ ν ∧ ((∃ e, ov (Cd l) k (sNum wh P mx (Cd l) k) = .error e ∧ r = -1 ∧ cF B ν l e ∧ cW B i mx ν P) ∨ (∃ y, ov (Cd l) k (sNum wh P mx (Cd l) k) = ov (Cd l) (k + 1) (.ok y) ∧ y.2.2 = k + 1 ∧ cAt B ν l n (k + 1) ∧ jI ν (B + 15) 5 = 0 ∧ cW B i mx ν y.2.1 ∧ (wh = true → r = y.1) ∧ pfx wh P y.2.1))
theorem c_numbered {B i mx n k md : Nat} {μ : JM} {l : List Int32} {P : List Int64} (hC : CT B μ) (h : cAt B μ l n k) (h5 : jI μ (B + 18) 5 = nI md) (hmd : md ≤ 2) (hi : i = 11 ∨ i = 13) (W : WH B i mx μ) (hm : mx ≤ 1000) (w : cW B i mx μ P) : Res (fX4_readNumbered (B + 18) (some (B + i)) μ) (nuQ B i mx μ l n k (decide (md = 0)) P) := by
  have hz : B + 121 ≤ jZ μ := hC.2.2
  unfold fX4_readNumbered
  simp only [jck_true, jde_is, jlt_is, jcl_0, beq_self_eq_true, jT_sI, jT_sJ, jP_sI, jP_sJ, jJ_sI, jI_sJ, jZ_sI, jZ_sJ, cT18 hC, cP18_0 hC, cT15 hC, c_token hC h, c_isOurs, c_isFree]
  have fail : ∀ (d : Nat) (x : Int32), nI d = x → d ≤ 7 → ov (Cd l) k (sNum (decide (md = 0)) P mx (Cd l) k) = .error (k, fk (Cd l) k d) → Res (jcl (fX7_fail (B + 15) x μ) fun _ ν => some ((-1 : Int32), ν, 0, 0)) (nuQ B i mx μ l n k (decide (md = 0)) P) := by
    intro d x hx hd es
    refine Res.cl (c_fail (z := jZ μ) d x hx hd hC h) fun r ν ⟨e1, s1, f1⟩ => ?_
    refine .ret ⟨s1.wk (by simp), Or.inl ⟨_, es, rfl, f1, w.ke s1.1 (by omega) (by simp; omega) (by simp; omega)⟩⟩
  by_cases q1 : 0 < Cd l k
  · have nov : ¬ Cd l k = -2000 := by intro e; rw [e] at q1; exact absurd q1 (by decide)
    have ne0 : ¬ Cd l k = 0 := by intro e; rw [e] at q1; exact absurd q1 (by decide)
    rw [if_pos q1, if_neg (by decide), h5]
    -- the step, with number x
    have b89 : ∀ (μ1 : JM) (x : Int32) (P1 : List Int64) (y : Int32), cn B (jZ μ) [15, i, i + 1] μ μ1 → cAt B μ1 l n k → cW B i mx μ1 P1 → pfx (decide (md = 0)) P P1 → (decide (md = 0) = true → x = y) → ov (Cd l) k (sNum (decide (md = 0)) P mx (Cd l) k) = ov (Cd l) (k + 1) (.ok (y, P1, k + 1)) → Res (fX4_readNumbered_b89 (B + 18) x μ1) (nuQ B i mx μ l n k (decide (md = 0)) P) := by
      intro μ1 x P1 y s1 a1 w1 hp hx es
      have hC1 := s1.1.ct hC hz
      rw [fX4_readNumbered_b89]
      simp only [jck_true, jde_is, jlt_is, jcl_0, beq_self_eq_true, jT_sI, jT_sJ, jP_sI, jP_sJ, jJ_sI, jI_sJ, jZ_sI, jZ_sJ, cT18 hC1, cP18_0 hC1, cT15 hC1]
      refine Res.cl (c_step (z := jZ μ) hC1 a1 ne0 (by omega)) fun _ ν ⟨s2, a2⟩ => ?_
      exact .ret ⟨s1.tr (s2.wk (by simp)), Or.inr ⟨_, es, rfl, a2, a2.2.2.1, w1.ke s2.1 (by omega) (by simp; omega) (by simp; omega), hx, hp⟩⟩
    by_cases m0 : md = 0
    · have dm : decide (md = 0) = true := decide_eq_true m0
      have sn : ov (Cd l) k (sNum (decide (md = 0)) P mx (Cd l) k) = match P.idxOf? (Cd l k) with
          | some j => ov (Cd l) (k + 1) (.ok (nI j, P, k + 1))
          | none => if P.length = mx then .error (k, 5) else ov (Cd l) (k + 1) (.ok (nI P.length, P ++ [Cd l k], k + 1)) := by
        unfold sNum
        rw [ov_nmC, if_pos q1, dm]
        simp only [if_true]
        cases P.idxOf? (Cd l k) with
        | some j => exact eb_tk
        | none =>
          dsimp only
          by_cases e : P.length = mx
          · rw [if_pos e, if_pos e]
          · rw [if_neg e, if_neg e]; exact eb_tk
      rw [if_pos (by rw [m0]; rfl)]
      simp only [jck_true, jde_is, jlt_is, jcl_0, beq_self_eq_true, jT_sI, jT_sJ, jP_sI, jP_sJ, jJ_sI, jI_sJ, jZ_sI, jZ_sJ, W.1, c_find W w hm]
      cases hx : P.idxOf? (Cd l k) with
      | some j =>
        rw [hx] at sn
        have hj := (List.idxOf?_eq_some_iff.mp hx).1
        have hw2 := w.2.1
        rw [if_neg (by intro e; have := (oI_no (o := some j) (fun t ht => by injection ht; omega)).mp e; cases this), fX4_readNumbered_b70, if_neg (by intro e; have := (oI_no (o := some j) (fun t ht => by injection ht; omega)).mp e; cases this)]
        exact b89 μ _ P _ cn.rf h w pfx.rf (fun _ => by simp only [oI, Nat.zero_add]) sn
      | none =>
        rw [hx] at sn
        dsimp only at sn
        rw [if_pos (show oI 0 none = -1 from rfl)]
        by_cases e : P.length = mx
        · rw [if_pos e] at sn
          rw [c_addno W w hm e, jcl_0, fX4_readNumbered_b70, if_pos rfl]
          simp only [jck_true, jde_is, jlt_is, jcl_0, beq_self_eq_true, jT_sI, jT_sJ, jP_sI, jP_sJ, jJ_sI, jI_sJ, jZ_sI, jZ_sJ, cT18 hC, cP18_0 hC, cT15 hC]
          exact fail 5 5 rfl (by decide) (by rw [sn]; unfold fk; rw [if_neg nov])
        · rw [if_neg e] at sn
          have hw2 := w.2.1
          refine Res.cl (c_add (z := jZ μ) (y := Cd l k) W w hm (by omega)) fun r μ1 ⟨e1, s1, w1, z1⟩ => ?_
          rw [e1, fX4_readNumbered_b70, if_neg (by intro e; have := (oI_no (o := some P.length) (fun t ht => by injection ht; omega)).mp (by simp only [oI, Nat.zero_add]; exact e); cases this)]
          exact b89 μ1 _ _ _ ⟨s1.wk (by simp), z1⟩ (h.ke s1 (by omega) (by simp; omega) (by simp; omega) (by simp; omega)) w1 ⟨List.prefix_append _ _, fun z => by rw [dm] at z; cases z⟩ (fun _ => rfl) sn
    · have dm : decide (md = 0) = false := decide_eq_false m0
      rw [if_neg (nI_ne0 (by omega) (by omega))]
      refine b89 μ _ P 0 cn.rf h w pfx.rf (fun z => by rw [dm] at z; cases z) ?_
      unfold sNum
      rw [ov_nmC, if_pos q1, dm]
      simp only [Bool.false_eq_true, if_false]
      exact eb_tk
  · rw [if_neg q1, if_pos rfl]
    have sn : ov (Cd l) k (sNum (decide (md = 0)) P mx (Cd l) k) = .error (k, fk (Cd l) k (if Cd l k ≤ -3000 then 2 else 0)) := by
      unfold sNum
      rw [ov_nmC, if_neg q1]
    by_cases q2 : Cd l k ≤ -3000
    · rw [if_pos q2] at sn
      rw [if_pos q2, if_neg (by decide), fX4_readNumbered_b31]
      simp only [jck_true, jde_is, jlt_is, jcl_0, beq_self_eq_true, jT_sI, jT_sJ, jP_sI, jP_sJ, jJ_sI, jI_sJ, jZ_sI, jZ_sJ, cT15 hC]
      exact fail 2 2 rfl (by decide) sn
    · rw [if_neg q2] at sn
      rw [if_neg q2, if_pos rfl, fX4_readNumbered_b31]
      simp only [jck_true, jde_is, jlt_is, jcl_0, beq_self_eq_true, jT_sI, jT_sJ, jP_sI, jP_sJ, jJ_sI, jI_sJ, jZ_sI, jZ_sJ, cT15 hC]
      exact fail 0 0 rfl (by decide) sn
theorem c_kindOf {c : Int64} {μ : JM} : fX4_kindOf c μ = some (sKind c, μ, 0, 0) := by
  unfold fX4_kindOf sKind
  simp only [lg_cmp_0]
  by_cases q1 : c = -3002
  · rw [if_pos q1, if_pos q1]
  · rw [if_neg q1, if_neg q1]
    by_cases q2 : c = -3003
    · rw [if_pos q2, if_pos q2]
    · rw [if_neg q2, if_neg q2]
      by_cases q3 : c = -3004
      · rw [if_pos q3, if_pos q3]
      · rw [if_neg q3, if_neg q3]
/-! terms -/
theorem cX.n4 {μ : JM} {a : Nat} {kd : Int32} {nm : Int64} {p ac nu wk o x : Int32} (h : cX μ a kd nm p ac nu wk o) : cX (jsI μ a 4 x) a kd nm p ac x wk o := by
  obtain ⟨g1, g2, g3, g4, g5, g6, g7, g8, g9, g10⟩ := h
  refine ⟨g1, g2, g3, ?_, g5, ?_, ?_, ?_, ?_, ?_⟩ <;> simp [jI_sI, *]
theorem cX.n5 {μ : JM} {a : Nat} {kd : Int32} {nm : Int64} {p ac nu wk o x : Int32} (h : cX μ a kd nm p ac nu wk o) : cX (jsI μ a 5 x) a kd nm p ac nu x o := by
  obtain ⟨g1, g2, g3, g4, g5, g6, g7, g8, g9, g10⟩ := h
  refine ⟨g1, g2, g3, ?_, g5, ?_, ?_, ?_, ?_, ?_⟩ <;> simp [jI_sI, *]
theorem cX.n0 {μ : JM} {a : Nat} {kd : Int32} {nm : Int64} {p ac nu wk o x : Int32} (h : cX μ a kd nm p ac nu wk o) : cX (jsI μ a 0 x) a x nm p ac nu wk o := by
  obtain ⟨g1, g2, g3, g4, g5, g6, g7, g8, g9, g10⟩ := h
  refine ⟨g1, g2, g3, ?_, g5, ?_, ?_, ?_, ?_, ?_⟩ <;> simp [jI_sI, *]
theorem cX.n2 {μ : JM} {a : Nat} {kd : Int32} {nm : Int64} {p ac nu wk o x : Int32} (h : cX μ a kd nm p ac nu wk o) : cX (jsI μ a 2 x) a kd nm x ac nu wk o := by
  obtain ⟨g1, g2, g3, g4, g5, g6, g7, g8, g9, g10⟩ := h
  refine ⟨g1, g2, g3, ?_, g5, ?_, ?_, ?_, ?_, ?_⟩ <;> simp [jI_sI, *]
theorem cX.n3 {μ : JM} {a : Nat} {kd : Int32} {nm : Int64} {p ac nu wk o x : Int32} (h : cX μ a kd nm p ac nu wk o) : cX (jsI μ a 3 x) a kd nm p x nu wk o := by
  obtain ⟨g1, g2, g3, g4, g5, g6, g7, g8, g9, g10⟩ := h
  refine ⟨g1, g2, g3, ?_, g5, ?_, ?_, ?_, ?_, ?_⟩ <;> simp [jI_sI, *]
theorem cX.n6 {μ : JM} {a : Nat} {kd : Int32} {nm : Int64} {p ac nu wk o x : Int32} (h : cX μ a kd nm p ac nu wk o) : cX (jsI μ a 6 x) a kd nm p ac nu wk x := by
  obtain ⟨g1, g2, g3, g4, g5, g6, g7, g8, g9, g10⟩ := h
  refine ⟨g1, g2, g3, ?_, g5, ?_, ?_, ?_, ?_, ?_⟩ <;> simp [jI_sI, *]
/-- a step of the text while a CLAUSE is at a: all but 15 is as it was -/
theorem cn.cl {B z a : Nat} {μ ν : JM} {kd : Int32} {nm : Int64} {p ac nu wk o : Int32} (s : cn B (jZ μ) [15] μ ν) (hz : B + 121 ≤ z) (ha : z ≤ a) (hj : a + 3 ≤ jZ μ) (X : cX μ a kd nm p ac nu wk o) : cX ν a kd nm p ac nu wk o := X.ke s.1 (by decide) (Nat.le_refl _) (by omega) hj
def tmQ (B a z : Nat) (μ : JM) (l : List Int32) (n k : Nat) (kd : Int32) (nm : Int64) (p ac o : Int32) (x : Int32) (ν : JM) : Prop := cn B z [15] μ ν ∧ cRd B ν l n k x (ov (Cd l) k (sTerm (Cd l) k)) (fun y => y.2.2) (fun y => cX ν a kd nm p ac y.1 y.2.1 o)
theorem c_term {B a z n k : Nat} {μ : JM} {l : List Int32} {kd : Int32} {nm : Int64} {p ac nu wk o : Int32} (hC : CT B μ) (h : cAt B μ l n k) (hz : B + 121 ≤ z) (ha : z ≤ a) (hj : a + 3 ≤ jZ μ) (X : cX μ a kd nm p ac nu wk o) : Res (fX4_readTerm (B + 18) (some a) μ) (tmQ B a z μ l n k kd nm p ac o) := by
  unfold fX4_readTerm
  simp only [jck_true, jde_is, jlt_is, jcl_0, beq_self_eq_true, jT_sI, jT_sJ, jP_sI, jP_sJ, jJ_sI, jI_sJ, jZ_sI, jZ_sJ, cT18 hC, cP18_0 hC, cT15 hC]
  have sp : ov (Cd l) k (sTerm (Cd l) k) = if Cd l k = -3006 then ov (Cd l) (k + 1) (if isNm (Cd l (k + 1)) then (if 365 < (-1000 - Cd l (k + 1)).toNatClampNeg then .error (k + 1, 1) else eb (tk (Cd l) (k + 1)) fun k2 => if Cd l k2 = -3008 then eb (tk (Cd l) k2) fun k3 => .ok (nI (-1000 - Cd l (k + 1)).toNatClampNeg, 1, k3) else eb (exC (Cd l) (-3007) k2) fun k3 => .ok (nI (-1000 - Cd l (k + 1)).toNatClampNeg, 0, k3)) else .error (k + 1, 0)) else .error (k, fk (Cd l) k 0) := by
    unfold sTerm; rw [ov_exC (by decide)]
  refine Res.cl (c_take (z := jZ μ) (-3006) (by decide) hC h (by omega)) fun x μ1 ⟨s1, P1⟩ => ?_
  rcases P1 with ⟨c1, rfl, a1⟩ | ⟨c1, rfl, f1⟩
  · rw [if_neg (by decide)]
    rw [if_pos c1] at sp
    have hC1 := s1.1.ct hC (by omega)
    have X1 := s1.cl hz ha hj X
    have s1z : cn B z [15] μ μ1 := ⟨s1.1.lo (by omega), s1.2⟩
    simp only [jck_true, jde_is, jlt_is, jcl_0, beq_self_eq_true, jT_sI, jT_sJ, jP_sI, jP_sJ, jJ_sI, jI_sJ, jZ_sI, jZ_sJ, cT18 hC1, cP18_0 hC1, cT15 hC1, c_token hC1 a1, c_isNum]
    by_cases q1 : isNm (Cd l (k + 1)) = true
    · rw [if_pos q1] at sp
      rw [if_pos q1, if_neg (by decide)]
      obtain ⟨v1, v2⟩ := isNm_v q1
      have nov1 : ¬ Cd l (k + 1) = -2000 := by intro e; rw [e] at q1; exact absurd q1 (by decide)
      have ne01 : ¬ Cd l (k + 1) = 0 := by intro e; rw [e] at q1; exact absurd q1 (by decide)
      rw [ov_ne nov1] at sp
      rw [v2]
      generalize (-1000 - Cd l (k + 1)).toNatClampNeg = v at sp v1 ⊢
      simp only [jck_true, jde_is, jlt_is, jcl_0, beq_self_eq_true, jT_sI, jT_sJ, jP_sI, jP_sJ, jJ_sI, jI_sJ, jZ_sI, jZ_sJ, X1.1]
      have X2 := X1.n4 (x := nI v)
      have s2 : cn B z [15] μ1 (jsI μ1 a 4 (nI v)) := ⟨cs.zI ha, rfl⟩
      have a2 : cAt B (jsI μ1 a 4 (nI v)) l n (k + 1) := a1.ke (z := z) (as := []) (cs.zI ha) (by omega) (by decide) (by decide) (by decide)
      have e4 : jI (jsI μ1 a 4 (nI v)) a 4 = nI v := X2.2.2.2.2.2.2.2.1
      have j2 : jZ (jsI μ1 a 4 (nI v)) = jZ μ1 := rfl
      rw [e4]
      generalize jsI μ1 a 4 (nI v) = μ2 at X2 s2 a2 j2 ⊢
      have hC2 := s2.1.ct hC1 hz
      have hj2 : a + 3 ≤ jZ μ2 := by rw [j2, s1.2]; exact hj
      by_cases q2 : v ≤ 365
      · rw [if_neg (by omega), eb_tk] at sp
        rw [if_pos (show nI v ≤ 365 from nI_le (b := 365) q2 (by decide))]
        refine Res.cl (c_step (z := jZ μ2) hC2 a2 ne01 (by omega)) fun _ μ3 ⟨s3, a3⟩ => ?_
        have hC3 := s3.1.ct hC2 (by omega)
        have X3 := s3.cl hz ha hj2 X2
        have s3z : cn B z [15] μ2 μ3 := ⟨s3.1.lo (by omega), s3.2⟩
        simp only [jck_true, jde_is, jlt_is, jcl_0, beq_self_eq_true, jT_sI, jT_sJ, jP_sI, jP_sJ, jJ_sI, jI_sJ, jZ_sI, jZ_sJ, cT18 hC3, cP18_0 hC3, cT15 hC3, c_token hC3 a3, lg_cmp_0]
        have b95 : ∀ (x w : Int32) (c : Int64) (y : Except Er (Int32 × Int32 × Nat)), (x = 1 ∧ c = -3008 ∨ x = 0 ∧ c = -3007) → ov (Cd l) k (sTerm (Cd l) k) = ov (Cd l) (k + 1 + 1) (eb (exC (Cd l) c (k + 1 + 1)) fun k3 => .ok (nI v, x, k3)) → Res (fX4_readTerm_b95 (B + 18) (some a) x (some a) μ3) (tmQ B a z μ l n k kd nm p ac o) := by
          intro x w c y hx es
          rw [fX4_readTerm_b95]
          simp only [jck_true, jde_is, jlt_is, jcl_0, beq_self_eq_true, jT_sI, jT_sJ, jP_sI, jP_sJ, jJ_sI, jI_sJ, jZ_sI, jZ_sJ, X3.1]
          have X4 := X3.n5 (x := x)
          have s4x : cn B z [15] μ3 (jsI μ3 a 5 x) := ⟨cs.zI ha, rfl⟩
          have a4 : cAt B (jsI μ3 a 5 x) l n (k + 1 + 1) := a3.ke (z := z) (as := []) (cs.zI ha) (by omega) (by decide) (by decide) (by decide)
          have e5 : jI (jsI μ3 a 5 x) a 5 = x := X4.2.2.2.2.2.2.2.2.1
          have j4 : jZ (jsI μ3 a 5 x) = jZ μ3 := rfl
          rw [e5]
          generalize jsI μ3 a 5 x = μ4 at X4 s4x a4 j4 ⊢
          have hC4 := s4x.1.ct hC3 hz
          have hj4 : a + 3 ≤ jZ μ4 := by rw [j4, s3.2]; exact hj2
          have fin : Res (fX4_readTerm_b119 c (jP μ3 (B + 18) 0) μ4) (tmQ B a z μ l n k kd nm p ac o) := by
            rw [fX4_readTerm_b119, cP18_0 hC3]
            simp only [jck_true, jde_is, jlt_is, jcl_0, beq_self_eq_true, jT_sI, jT_sJ, jP_sI, jP_sJ, jJ_sI, jI_sJ, jZ_sI, jZ_sJ, cT15 hC4]
            have c0 : ¬ c = 0 ∧ ¬ c = -2000 := by rcases hx with ⟨-, e⟩ | ⟨-, e⟩ <;> rw [e] <;> decide
            refine Res.cl (c_take (z := jZ μ4) c c0.1 hC4 a4 (by omega)) fun t μ5 ⟨s5, P5⟩ => ?_
            have S : cn B z [15] μ μ5 := (((s1z.tr s2).tr s3z).tr s4x).tr ⟨s5.1.lo (by omega), s5.2⟩
            rw [ov_exC c0.2] at es
            rcases P5 with ⟨c5, rfl, a5⟩ | ⟨c5, rfl, f5⟩
            · rw [if_pos c5] at es
              exact .ck (by decide) (.ret ⟨S, Or.inr ⟨(nI v, x, k + 1 + 1 + 1), es, rfl, a5, by show k ≤ k + 1 + 1 + 1; omega, s5.cl hz ha hj4 X4⟩⟩)
            · rw [if_neg c5] at es
              exact .ck (by decide) (.ret ⟨S, Or.inl ⟨_, es, rfl, f5⟩⟩)
          simp only [jck_true, jde_is, jlt_is, jcl_0, beq_self_eq_true, jT_sI, jT_sJ, jP_sI, jP_sJ, jJ_sI, jI_sJ, jZ_sI, jZ_sJ, cT18 hC3, X3.1]
          rcases hx with ⟨e1, e2⟩ | ⟨e1, e2⟩
          · rw [if_pos e1, ← e2]; exact fin
          · rw [if_neg (by rw [e1]; decide), ← e2]; exact fin
        by_cases q3 : Cd l (k + 1 + 1) = -3008
        · rw [if_pos q3] at sp ⊢
          refine b95 1 0 (-3008) (.error (0, 0)) (Or.inl ⟨rfl, rfl⟩) ?_
          have e8 : exC (Cd l) (-3008) (k + 1 + 1) = tk (Cd l) (k + 1 + 1) := by unfold exC; rw [if_pos q3]
          rw [sp, e8]
        · rw [if_neg q3] at sp ⊢
          exact b95 0 0 (-3007) (.error (0, 0)) (Or.inr ⟨rfl, rfl⟩) sp
      · rw [if_pos (by omega)] at sp
        rw [if_neg (show ¬ nI v ≤ 365 from nI_ge (a := 365) (by omega) (by omega))]
        refine (c_fl (z := jZ μ2) 1 1 rfl (by decide) hC2 a2).mono ?_
        rintro x ν ⟨rfl, s3, f3⟩
        refine ⟨(s1z.tr s2).tr ⟨s3.1.lo (by omega), s3.2⟩, Or.inl ⟨_, ?_, rfl, f3⟩⟩
        rw [sp]; unfold fk; rw [if_neg nov1]
    · rw [if_neg q1, ov_er] at sp
      rw [if_neg q1, if_pos rfl]
      refine (c_fl (z := jZ μ1) 0 0 rfl (by decide) hC1 a1).mono ?_
      rintro x ν ⟨rfl, s3, f3⟩
      exact ⟨s1z.tr ⟨s3.1.lo (by have := s1.2; omega), s3.2⟩, Or.inl ⟨_, sp, rfl, f3⟩⟩
  · rw [if_pos rfl]
    rw [if_neg c1] at sp
    exact .ret ⟨⟨s1.1.lo (by omega), s1.2⟩, Or.inl ⟨_, sp, rfl, f1⟩⟩
