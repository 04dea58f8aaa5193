/-! the class: Reader: the TAIL -/
theorem CAS.ke {B z a q : Nat} {μ ν : JM} {as : List Nat} (h : CAS μ a q) (s : cs B z as μ ν) (ha : ∀ i ∈ as, i < 121) (hz : z ≤ jZ μ) (h1 : B + 121 ≤ a) (h2 : a < z) (h3 : B + 121 ≤ q) (h4 : q < z) : CAS ν a q := by
  obtain ⟨a1, a2, a3, a4⟩ := s.dyn ha hz a h1 h2
  obtain ⟨b1, b2, b3, b4⟩ := s.dyn ha hz q h3 h4
  exact ⟨by rw [a1]; exact h.1, by rw [a4]; exact h.2.1, by rw [b1]; exact h.2.2⟩
theorem cX.w4 {μ : JM} {a : Nat} {kd : Int32} {nm : Int64} {p ac nu wk o : Int32} {w : CS} (h : cX μ a kd nm p ac nu wk o) : cX (s4 μ (a + 2) w) a kd nm p ac nu wk o := by
  obtain ⟨g1, g2, g3, g4, g5, g6⟩ := h
  exact ⟨g1, g2, g3, g4, by rw [jJ_s4_ne (by omega)]; exact g5, g6⟩
/-- a clause read so far: its fields; its CASES where they are asked -/
def cY (μ : JM) (a : Nat) (wh : Bool) (kd : Int32) (nm : Int64) (p ac nu wk o : Int32) (w : CS) : Prop := cX μ a kd nm p ac nu wk o ∧ (wh = true → ∀ i, i < 4 → jJ μ (a + 2) i = w i)
theorem cY.ke {B z a : Nat} {μ ν : JM} {wh : Bool} {kd : Int32} {nm : Int64} {p ac nu wk o : Int32} {w : CS} {as : List Nat} (h : cY μ a wh kd nm p ac nu wk o w) (s : cs B z as μ ν) (ha : ∀ i ∈ as, i < 121) (hz : z ≤ jZ μ) (h1 : B + 121 ≤ a) (h2 : a + 3 ≤ z) : cY ν a wh kd nm p ac nu wk o w := ⟨h.1.ke s ha hz h1 h2, fun q i hi => by rw [(s.dyn ha hz (a + 2) (by omega) (by omega)).2.2.1]; exact h.2 q i hi⟩
def tlQ (B a z : Nat) (μ : JM) (l : List Int32) (n k md : Nat) (F : List Int64) (cls : List Cl) (y : Except Er (Int32 × CS × Nat)) (kd : Int32) (nm : Int64) (p ac nu wk : Int32) (x : Int32) (ν : JM) : Prop := cc B z μ ν ∧ cRd B ν l n k x y (fun y => y.2.2) (fun y => ∃ o2, cY ν a (decide (md = 0)) kd nm p ac nu wk o2 y.2.1 ∧ (md = 0 → o2 = y.1))
theorem cn.tc {B z : Nat} {μ ν : JM} (s : cn B z [15] μ ν) (hz : B + 121 ≤ z) : cc B z μ ν := ⟨s.1.wk (by decide), by rw [s.1.iI (by omega) (by decide)], s.2⟩
theorem cc.lo {B z y : Nat} {μ ν : JM} (s : cc B z μ ν) (hy : y ≤ z) : cc B y μ ν := ⟨s.1.lo hy, s.2⟩
theorem cRd.mk {α β : Type} {B : Nat} {ν : JM} {l : List Int32} {n k k2 : Nat} {x : Int32} {y : Except Er α} {y2 : Except Er β} {pos : α → Nat} {pos2 : β → Nat} {G : α → Prop} {G2 : β → Prop} (h : cRd B ν l n k2 x y pos G) (hk : k ≤ k2) (he : ∀ e, y = .error e → y2 = .error e) (ho : ∀ a, y = ov (Cd l) (pos a) (.ok a) → G a → ∃ b, y2 = ov (Cd l) (pos2 b) (.ok b) ∧ pos2 b = pos a ∧ G2 b) : cRd B ν l n k x y2 pos2 G2 := by
  rcases h with ⟨e, h1, h2, h3⟩ | ⟨a, h1, h2, h3, h4, h5⟩
  · exact Or.inl ⟨e, he e h1, h2, h3⟩
  · obtain ⟨b, g1, g2, g3⟩ := ho a h1 h5
    exact Or.inr ⟨b, g1, h2, by rw [g2]; exact h3, by rw [g2]; omega, g3⟩
/-- behind if and unless -/
theorem c_tail3 {B hi z n k a : Nat} {μ : JM} {md v q cap : Nat} {cls : List Cl} {F : List Int64} {l : List Int32} {kd : Int32} {nm : Int64} {p ac nu wk : Int32} {w : CS} (R : rEn B hi z μ md v q cap cls F) (h : cAt B μ l n k) (ha : z ≤ a) (hj : a + 3 ≤ jZ μ) (X : cY μ a (decide (md = 0)) kd nm p ac nu wk 0 w) : Res (fX4_readTail_b124 (B + 18) (some a) μ) (tlQ B a z μ l n k md F cls (ov (Cd l) k (if Cd l k = -3011 then eb (sOver (Cd l) (decide (md = 0)) cls 2000 k 0) fun o => .ok (o.1, w, o.2) else .ok (0, w, k))) kd nm p ac nu wk) := by
  obtain ⟨hC, hF, h5, hmd, h6, hL, hcap, hhz, hzj, hz, h66⟩ := id R
  have hn := h.1.2.1
  have hkn := h.2.2.2
  rw [fX4_readTail_b124]
  simp only [jck_true, jde_is, jlt_is, jcl_0, beq_self_eq_true, jT_sI, jT_sJ, jP_sI, jP_sJ, jJ_sI, jI_sJ, jZ_sI, jZ_sJ, cT18 hC, cP18_0 hC, cT15 hC, c_token hC h, lg_cmp_0]
  by_cases q1 : Cd l k = -3011
  · rw [if_pos q1, if_pos q1, ov_ne (by rw [q1]; decide)]
    unfold fX4_readOver
    refine Res.cl (c_over_l (a := a) ha jfuel 0 k 2000 0 0 μ R h (by rw [q1]; decide) X.1 (fun _ => rfl) hj (by omega) (by omega) (jfuel_gt (by omega))) fun x ν ⟨s1, j1, P⟩ => ?_
    have fin : tlQ B a z μ l n k md F cls (eb (sOver (Cd l) (decide (md = 0)) cls 2000 k 0) fun o => .ok (o.1, w, o.2)) kd nm p ac nu wk x ν := by
      refine ⟨s1.tc hz, P.mk (Nat.le_refl _) (fun e he => by rw [he, eb_err]) (fun y hy ⟨o2, X2, ho⟩ => ⟨(y.1, w, y.2), by rw [hy, eb_ov, eb_ok], rfl, o2, ⟨X2, fun t i hi => by rw [j1]; exact X.2 t i hi⟩, ho⟩)⟩
    have hx : x = 0 ∨ x = 1 := by
      rcases P with ⟨e, -, h2, -⟩ | ⟨y, -, h2, -⟩
      · exact Or.inl h2
      · exact Or.inr h2
    rcases hx with rfl | rfl
    · rw [if_pos rfl]; exact .ret fin
    · rw [if_neg (by decide)]; exact .ret fin
  · rw [if_neg q1, if_neg q1]
    exact .ret ⟨cc.rf, Or.inr ⟨(0, w, k), rfl, rfl, h, Nat.le_refl _, 0, X, fun _ => rfl⟩⟩
/-- behind if -/
theorem c_tail2 {B hi z n k a : Nat} {μ : JM} {md v q cap : Nat} {cls : List Cl} {F : List Int64} {l : List Int32} {kd : Int32} {nm : Int64} {p ac nu wk : Int32} {w : CS} {x2 : Int32} (hx : x2 = if decide (md = 0) then 0 else 1) (R : rEn B hi z μ md v q cap cls F) (h : cAt B μ l n k) (ha : z ≤ a) (hj : a + 3 ≤ jZ μ) (X : cY μ a (decide (md = 0)) kd nm p ac nu wk 0 w) : Res (fX4_readTail_b72 (B + 18) (some a) x2 μ) (tlQ B a z μ l n k md F cls (ov (Cd l) k (eb (sUnl (Cd l) F (dfs (decide (md = 0)) cls) (decide (md = 0)) (w, k)) fun z => if Cd l z.2 = -3011 then eb (sOver (Cd l) (decide (md = 0)) cls 2000 z.2 0) fun o => .ok (o.1, z.1, o.2) else .ok (0, z.1, z.2))) kd nm p ac nu wk) := by
  obtain ⟨hC, hF, h5, hmd, h6, hL, hcap, hhz, hzj, hz, h66⟩ := id R
  rw [fX4_readTail_b72]
  simp only [jck_true, jde_is, jlt_is, jcl_0, beq_self_eq_true, jT_sI, jT_sJ, jP_sI, jP_sJ, jJ_sI, jI_sJ, jZ_sI, jZ_sJ, cT18 hC, cP18_0 hC, cT15 hC, c_token hC h, lg_cmp_0]
  unfold sUnl
  dsimp only
  by_cases q1 : Cd l k = -3010
  · rw [if_pos q1, if_pos q1, ov_ne (by rw [q1]; decide), eb_tk, eb_ov, eb_as, ← eb_ov]
    refine Res.cl (c_step (z := jZ μ) hC h (by rw [q1]; decide) (by omega)) fun _ μ1 ⟨s1, a1⟩ => ?_
    have s1z : cn B z [15] μ μ1 := ⟨s1.1.lo (by omega), s1.2⟩
    have R1 := R.k15 s1z.1
    have hC1 := R1.1
    have X1 := X.ke s1.1 (by decide) (Nat.le_refl _) (by omega) hj
    have hj1 : a + 3 ≤ jZ μ1 := by rw [s1.2]; exact hj
    simp only [jck_true, jde_is, jlt_is, jcl_0, beq_self_eq_true, jT_sI, jT_sJ, jP_sI, jP_sJ, jJ_sI, jI_sJ, jZ_sI, jZ_sJ, cT18 hC1, cP18_4 hC1, cT19 hC1, R1.2.2.2.2.1]
    refine Res.cl (c_read hx R1.ce a1 R1.2.2.2.2.2.2.2.2.2.2) fun x μ2 ⟨c2, P2⟩ => ?_
    have c2z := c2.lo R1.2.2.2.2.2.2.2.2.1
    have R2 := R1.kcc c2z
    have hC2 := R2.1
    have X2 := X1.ke c2.1 cda_lt (Nat.le_refl _) (by omega) hj1
    have hj2 : a + 3 ≤ jZ μ2 := by rw [c2.2.2]; exact hj1
    have c12 := (s1z.tc hz).tr c2z
    rcases P2 with ⟨e, es, rfl, f2⟩ | ⟨y, es, rfl, a2, k2, hv⟩
    · rw [if_pos rfl, es, eb_err]
      exact .ret ⟨c12, Or.inl ⟨e, rfl, rfl, f2⟩⟩
    · rw [if_neg (by decide), es, eb_ov, eb_ok, eb_ok]
      simp only [jck_true, jde_is, jlt_is, jcl_0, beq_self_eq_true, jT_sI, jT_sJ, jP_sI, jP_sJ, jJ_sI, jI_sJ, jZ_sI, jZ_sJ, X2.1.1, cT18 hC2, cP18_4 hC2, cT19 hC2, X2.1.2.1, X2.1.2.2.1.1, cP19_7 hC2, c_andNot X2.1.2.2.1 (ca_v hC2)]
      have s3 : cs B z [15] μ2 (s4 μ2 (a + 2) (fun i => jJ μ2 (a + 2) i &&& (jJ μ2 (B + 68) i ^^^ (-1)))) := cs.z4 (by omega)
      have Y3 : cY (s4 μ2 (a + 2) (fun i => jJ μ2 (a + 2) i &&& (jJ μ2 (B + 68) i ^^^ (-1)))) a (decide (md = 0)) kd nm p ac nu wk 0 (fun i => w i &&& (y.1 i ^^^ (-1))) := ⟨X2.1.w4, fun t i hi => by rw [jJ_s4 hi, X2.2 t i hi, hv t i hi]⟩
      have a3 := a2.ke (z := z) (as := []) (ν := s4 μ2 (a + 2) (fun i => jJ μ2 (a + 2) i &&& (jJ μ2 (B + 68) i ^^^ (-1)))) (cs.z4 (by omega)) (by omega) (by decide) (by decide) (by decide)
      refine (c_tail3 (R2.k15 s3) a3 ha hj2 Y3).mono ?_
      rintro x ν ⟨c4, P4⟩
      refine ⟨(c12.tr ⟨s3.wk (by decide), rfl, rfl⟩).tr c4, ?_⟩
      have k2 : k + 1 ≤ y.2 := k2
      rcases P4 with P4 | ⟨b, p1, p2, p3, p4, p5⟩
      · exact Or.inl P4
      · exact Or.inr ⟨b, p1, p2, p3, by omega, p5⟩
  · rw [if_neg q1, if_neg q1, eb_ok]
    exact c_tail3 R h ha hj X
theorem c_tail {B hi z n k a : Nat} {μ : JM} {md v q cap : Nat} {cls : List Cl} {F : List Int64} {l : List Int32} {kd : Int32} {nm : Int64} {p ac nu wk : Int32} (R : rEn B hi z μ md v q cap cls F) (h : cAt B μ l n k) (ha : z ≤ a) (hj : a + 3 ≤ jZ μ) (X0 : cX μ a kd nm p ac nu wk 0) : Res (fX4_readTail (B + 18) (some a) μ) (tlQ B a z μ l n k md F cls (ov (Cd l) k (sTail (Cd l) F (decide (md = 0)) cls k)) kd nm p ac nu wk) := by
  obtain ⟨hC, hF, h5, hmd, h6, hL, hcap, hhz, hzj, hz, h66⟩ := id R
  unfold fX4_readTail
  simp only [jck_true, jde_is, jlt_is, jcl_0, beq_self_eq_true, jT_sI, jT_sJ, jP_sI, jP_sJ, jJ_sI, jI_sJ, jZ_sI, jZ_sJ, cT18 hC, h5]
  have main : ∀ x2 : Int32, (x2 = if decide (md = 0) then 0 else 1) → Res (fX4_readTail_b12 (B + 18) (some a) x2 μ) (tlQ B a z μ l n k md F cls (ov (Cd l) k (sTail (Cd l) F (decide (md = 0)) cls k)) kd nm p ac nu wk) := by
    intro x2 hx
    rw [fX4_readTail_b12]
    simp only [jck_true, jde_is, jlt_is, jcl_0, beq_self_eq_true, jT_sI, jT_sJ, jP_sI, jP_sJ, jJ_sI, jI_sJ, jZ_sI, jZ_sJ, X0.1, X0.2.1, X0.2.2.1.1, c_fill X0.2.2.1]
    have s0 : cs B z [15] μ (s4 μ (a + 2) (fun _ => -1)) := cs.z4 (by omega)
    have X : cY (s4 μ (a + 2) (fun _ => -1)) a (decide (md = 0)) kd nm p ac nu wk 0 (fun _ => -1) := ⟨X0.w4, fun t i hi => by rw [jJ_s4 hi]⟩
    have h1 := h.ke (z := z) (as := []) (ν := s4 μ (a + 2) (fun _ => -1)) (cs.z4 (by omega)) (by omega) (by decide) (by decide) (by decide)
    have R0 := R.k15 s0
    have c0 : cc B z μ (s4 μ (a + 2) (fun _ => -1)) := ⟨s0.wk (by decide), rfl, rfl⟩
    have hj0 : a + 3 ≤ jZ (s4 μ (a + 2) (fun _ => -1)) := hj
    have tT : jT (s4 μ (a + 2) (fun _ => -1)) = jT μ := rfl
    simp only [tT, X0.1]
    generalize s4 μ (a + 2) (fun _ => -1) = μ0 at s0 X h1 R0 c0 hj0 tT ⊢
    have hC0 := R0.1
    simp only [jck_true, jde_is, jlt_is, jcl_0, beq_self_eq_true, jT_sI, jT_sJ, jP_sI, jP_sJ, jJ_sI, jI_sJ, jZ_sI, jZ_sJ, cT18 hC, cP18_0 hC0, cT15 hC, c_token hC0 h1, lg_cmp_0]
    unfold sTail sIf
    by_cases q1 : Cd l k = -3009
    · rw [if_pos q1, if_pos q1, ov_ne (by rw [q1]; decide), eb_tk, eb_ov, eb_as, ← eb_ov]
      simp only [jck_true, jde_is, jlt_is, jcl_0, beq_self_eq_true, jT_sI, jT_sJ, jP_sI, jP_sJ, jJ_sI, jI_sJ, jZ_sI, jZ_sJ, tT, cT18 hC, cP18_0 hC0, cT15 hC]
      refine Res.cl (c_step (z := jZ μ0) hC0 h1 (by rw [q1]; decide) (by omega)) fun _ μ1 ⟨s1, a1⟩ => ?_
      have s1z : cn B z [15] μ0 μ1 := ⟨s1.1.lo (by omega), s1.2⟩
      have R1 := R0.k15 s1z.1
      have hC1 := R1.1
      have X1 := X.ke s1.1 (by decide) (Nat.le_refl _) (by omega) hj0
      have hj1 : a + 3 ≤ jZ μ1 := by rw [s1.2]; exact hj0
      simp only [jck_true, jde_is, jlt_is, jcl_0, beq_self_eq_true, jT_sI, jT_sJ, jP_sI, jP_sJ, jJ_sI, jI_sJ, jZ_sI, jZ_sJ, cT18 hC1, cP18_4 hC1, cT19 hC1, R1.2.2.2.2.1]
      refine Res.cl (c_read hx R1.ce a1 R1.2.2.2.2.2.2.2.2.2.2) fun x μ2 ⟨c2, P2⟩ => ?_
      have c2z := c2.lo R1.2.2.2.2.2.2.2.2.1
      have R2 := R1.kcc c2z
      have hC2 := R2.1
      have X2 := X1.ke c2.1 cda_lt (Nat.le_refl _) (by omega) hj1
      have hj2 : a + 3 ≤ jZ μ2 := by rw [c2.2.2]; exact hj1
      have c12 := (c0.tr (s1z.tc hz)).tr c2z
      rcases P2 with ⟨e, es, rfl, f2⟩ | ⟨y, es, rfl, a2, k2, hv⟩
      · rw [if_pos rfl, es, eb_err]
        exact .ret ⟨c12, Or.inl ⟨e, rfl, rfl, f2⟩⟩
      · rw [if_neg (by decide), es, eb_ov, eb_ok, eb_ok]
        simp only [jck_true, jde_is, jlt_is, jcl_0, beq_self_eq_true, jT_sI, jT_sJ, jP_sI, jP_sJ, jJ_sI, jI_sJ, jZ_sI, jZ_sJ, X2.1.1, cT18 hC2, cP18_4 hC2, cT19 hC2, X2.1.2.1, X2.1.2.2.1.1, cP19_7 hC2, c_and X2.1.2.2.1 (ca_v hC2)]
        have s3 : cs B z [15] μ2 (s4 μ2 (a + 2) (fun i => jJ μ2 (a + 2) i &&& jJ μ2 (B + 68) i)) := cs.z4 (by omega)
        have Y3 : cY (s4 μ2 (a + 2) (fun i => jJ μ2 (a + 2) i &&& jJ μ2 (B + 68) i)) a (decide (md = 0)) kd nm p ac nu wk 0 (fun i => (-1) &&& y.1 i) := ⟨X2.1.w4, fun t i hi => by rw [jJ_s4 hi, X2.2 t i hi, hv t i hi]⟩
        have a3 := a2.ke (z := z) (as := []) (ν := s4 μ2 (a + 2) (fun i => jJ μ2 (a + 2) i &&& jJ μ2 (B + 68) i)) (cs.z4 (by omega)) (by omega) (by decide) (by decide) (by decide)
        refine (c_tail2 hx (R2.k15 s3) a3 ha hj2 Y3).mono ?_
        rintro x ν ⟨c4, P4⟩
        refine ⟨(c12.tr ⟨s3.wk (by decide), rfl, rfl⟩).tr c4, ?_⟩
        have k2 : k + 1 ≤ y.2 := k2
        rcases P4 with P4 | ⟨b, p1, p2, p3, p4, p5⟩
        · exact Or.inl P4
        · exact Or.inr ⟨b, p1, p2, p3, by omega, p5⟩
    · rw [if_neg q1, if_neg q1, eb_ok]
      refine (c_tail2 hx R0 h1 ha hj0 X).mono ?_
      rintro x ν ⟨c4, P4⟩
      exact ⟨c0.tr c4, P4⟩
  by_cases m0 : md = 0
  · rw [if_pos (by rw [m0]; rfl)]
    exact main 0 (by rw [decide_eq_true m0]; rfl)
  · rw [if_neg (nI_ne0 (by omega) (by omega))]
    exact main 1 (by rw [decide_eq_false m0]; rfl)
