/-! the class: Reader: over, deeds -/
theorem eb_as {α β γ : Type} {x : Except Er α} {f : α → Except Er β} {g : β → Except Er γ} : eb (eb x f) g = eb x (fun a => eb (f a) g) := by
  cases x with
  | error e => rfl
  | ok a => rfl
theorem cn.j2 {B z a : Nat} {μ ν : JM} (s : cn B (jZ μ) [15] μ ν) (hz : B + 121 ≤ z) (ha : z ≤ a) (hj : a + 3 ≤ jZ μ) : jJ ν (a + 2) = jJ μ (a + 2) := (s.1.dyn (by decide) (Nat.le_refl _) (a + 2) (by omega) (by omega)).2.2.1
theorem c_over_l {B hi z n a : Nat} {md v q cap : Nat} {cls : List Cl} {F : List Int64} {l : List Int32} {kd : Int32} {nm : Int64} {p ac nu wk : Int32} (ha : z ≤ a) : ∀ (fu i k fl : Nat) (o oc : Int32) (μ : JM), rEn B hi z μ md v q cap cls F → cAt B μ l n k → ¬ Cd l k = 0 → cX μ a kd nm p ac nu wk oc → (md = 0 → oc = o) → a + 3 ≤ jZ μ → i ≤ k → n - k < fl → 901 - i < fu →
    Res (fX4_readOver_b2 fu (B + 18) (some a) (nI i) μ) (fun x ν => cn B z [15] μ ν ∧ jJ ν (a + 2) = jJ μ (a + 2) ∧ cRd B ν l n k x (sOver (Cd l) (decide (md = 0)) cls fl k o) (fun y => y.2) (fun y => ∃ o2, cX ν a kd nm p ac nu wk o2 ∧ (md = 0 → o2 = y.1))) := by
  intro fu
  induction fu with
  | zero => intro i k fl o oc μ _ _ _ _ _ _ _ _ q; omega
  | succ fu ih =>
    intro i k fl o oc μ R h ne0 X hoc hj hik hfl hf
    have hkn := h.lt ne0
    have hn := h.1.2.1
    obtain ⟨fl, rfl⟩ : ∃ f, fl = f + 1 := ⟨fl - 1, by omega⟩
    obtain ⟨hC, hF, h5, hmd, h6, hL, hcap, hhz, hzj, hz, h66⟩ := id R
    rw [fX4_readOver_b2, if_neg (show ¬ (900 : Int32) ≤ nI i from nI_ge (b := 900) (by omega) (by decide))]
    simp only [jck_true, jde_is, jlt_is, jcl_0, beq_self_eq_true, jT_sI, jT_sJ, jP_sI, jP_sJ, jJ_sI, jI_sJ, jZ_sI, jZ_sJ, cT18 hC, cP18_0 hC, cT15 hC]
    refine Res.cl (c_step (z := jZ μ) hC h ne0 (by omega)) fun _ μ1 ⟨s1, a1⟩ => ?_
    have s1z : cn B z [15] μ μ1 := ⟨s1.1.lo (by omega), s1.2⟩
    have R1 := R.k15 s1z.1
    have X1 := s1.cl hz ha hj X
    have j1 := s1.j2 hz ha hj
    have hj1 : a + 3 ≤ jZ μ1 := by rw [s1.2]; exact hj
    obtain ⟨hC1, hF1, h51, -, h61, hL1, -, -, hzj1, -, -⟩ := id R1
    rw [sOver, eb_tk]
    simp only [jck_true, jde_is, jlt_is, jcl_0, beq_self_eq_true, jT_sI, jT_sJ, jP_sI, jP_sJ, jJ_sI, jI_sJ, jZ_sI, jZ_sJ, cT18 hC1, cP18_0 hC1, cT15 hC1, c_token hC1 a1, c_isFree, c_isOurs]
    rw [ov_nmC]
    have fail : ∀ (d : Nat) (w : Int32) (y : Except Er (Int32 × Nat)), nI d = w → d ≤ 7 → y = .error (k + 1, fk (Cd l) (k + 1) d) → Res (jcl (fX7_fail (B + 15) w μ1) fun r ν => jck (jbl r) <| some (r, ν, 0, 0)) (fun x ν => cn B z [15] μ ν ∧ jJ ν (a + 2) = jJ μ (a + 2) ∧ cRd B ν l n k x y (fun y => y.2) (fun y => ∃ o2, cX ν a kd nm p ac nu wk o2 ∧ (md = 0 → o2 = y.1))) := by
      intro d w y hw hd es
      refine (c_fl (z := jZ μ1) d w hw hd hC1 a1).mono ?_
      rintro x ν ⟨rfl, s2, f2⟩
      exact ⟨s1z.tr ⟨s2.1.lo (by omega), s2.2⟩, (s2.j2 hz ha hj1).trans j1, Or.inl ⟨_, es, rfl, f2⟩⟩
    by_cases q1 : 0 < Cd l (k + 1)
    · rw [if_pos q1, if_pos q1, if_neg (by decide), h51]
      have nov1 : ¬ Cd l (k + 1) = -2000 := by intro e; rw [e] at q1; exact absurd q1 (by decide)
      have ne01 : ¬ Cd l (k + 1) = 0 := by intro e; rw [e] at q1; exact absurd q1 (by decide)
      have hlt1 := a1.lt ne01
      -- the label is taken
      have b97 : ∀ (u : Nat) (oc2 : Int32) (μ2 : JM), cn B z [15] μ1 μ2 → rEn B hi z μ2 md v q cap cls F → cAt B μ2 l n (k + 1) → jJ μ2 (a + 2) = jJ μ1 (a + 2) → cX μ2 a kd nm p ac nu wk oc2 → (md = 0 → oc2 = o ||| jshl 1 (nI u)) → Res (fX4_readOver_b97 (fX4_readOver_b2 fu) (B + 18) (some a) (nI i) μ2) (fun x ν => cn B z [15] μ ν ∧ jJ ν (a + 2) = jJ μ (a + 2) ∧ cRd B ν l n k x (eb (tk (Cd l) (k + 1)) fun k2 => if Cd l k2 = -3012 then sOver (Cd l) (decide (md = 0)) cls fl k2 (o ||| jshl 1 (nI u)) else .ok (o ||| jshl 1 (nI u), k2)) (fun y => y.2) (fun y => ∃ o2, cX ν a kd nm p ac nu wk o2 ∧ (md = 0 → o2 = y.1))) := by
        intro u oc2 μ2 s2 R2 a2 j2 X2 ho2
        have hC2 := R2.1
        have hj2 : a + 3 ≤ jZ μ2 := by rw [s2.2]; exact hj1
        rw [fX4_readOver_b97, eb_tk]
        simp only [jck_true, jde_is, jlt_is, jcl_0, beq_self_eq_true, jT_sI, jT_sJ, jP_sI, jP_sJ, jJ_sI, jI_sJ, jZ_sI, jZ_sJ, cT18 hC2, cP18_0 hC2, cT15 hC2]
        refine Res.cl (c_step (z := jZ μ2) hC2 a2 ne01 (by omega)) fun _ μ3 ⟨s3, a3⟩ => ?_
        have s3z : cn B z [15] μ2 μ3 := ⟨s3.1.lo (by omega), s3.2⟩
        have R3 := R2.k15 s3z.1
        have hC3 := R3.1
        have X3 := s3.cl hz ha hj2 X2
        have j3 := s3.j2 hz ha hj2
        have S3 := (s1z.tr s2).tr s3z
        simp only [jck_true, jde_is, jlt_is, jcl_0, beq_self_eq_true, jT_sI, jT_sJ, jP_sI, jP_sJ, jJ_sI, jI_sJ, jZ_sI, jZ_sJ, cT18 hC3, cP18_0 hC3, cT15 hC3, c_token hC3 a3, lg_cmp_0]
        by_cases q2 : Cd l (k + 1 + 1) = -3012
        · rw [if_pos q2, if_pos q2, ov_ne (by rw [q2]; decide), nI_1]
          have hlt2 := a3.lt (by rw [q2]; decide)
          refine (ih (i + 1) (k + 1 + 1) fl (o ||| jshl 1 (nI u)) oc2 μ3 R3 a3 (by rw [q2]; decide) X3 ho2 (by rw [s3.2]; exact hj2) (by omega) (by omega) (by omega)).mono ?_
          rintro x ν ⟨s4, j4, P⟩
          refine ⟨S3.tr s4, by rw [j4, j3, j2, j1], ?_⟩
          rcases P with P | ⟨y, p1, p2, p3, p4, p5⟩
          · exact Or.inl P
          · exact Or.inr ⟨y, p1, p2, p3, by omega, p5⟩
        · rw [if_neg q2, if_neg q2]
          exact .ret ⟨S3, by rw [j3, j2, j1], Or.inr ⟨(o ||| jshl 1 (nI u), k + 1 + 1), rfl, rfl, a3, by show k ≤ k + 1 + 1; omega, oc2, X3, ho2⟩⟩
      by_cases m0 : md = 0
      · have dm : decide (md = 0) = true := decide_eq_true m0
        rw [if_pos (show nI md = 0 by rw [m0]; rfl)]
        have k9 : (jT μ1 v).1 = 9 := hL1.2.2.1
        simp only [jck_true, jde_is, jlt_is, jcl_0, beq_self_eq_true, jT_sI, jT_sJ, jP_sI, jP_sJ, jJ_sI, jI_sJ, jZ_sI, jZ_sJ, h61, k9, c_lfind false 0 rfl hL1 hcap, cT18 hC1, cP18_0 hC1, cT15 hC1]
        have hlf : ∀ j, lfnd cls (Cd l (k + 1)) false = some j → j < 2 ^ 31 := fun j hj => by have := lfnd_lt hj; have := hL.2.2.2.2.1; omega
        cases hx : lfnd cls (Cd l (k + 1)) false with
        | none =>
          rw [if_pos (show oI 0 none = -1 from rfl)]
          refine fail 3 3 _ rfl (by decide) ?_
          rw [dm]
          simp only [if_true, hx]
          unfold fk; rw [if_neg nov1]
        | some u =>
          rw [hx] at hlf
          rw [if_neg (fun e => by have := (oI_no hlf).mp e; cases this)]
          simp only [X1.1, beq_self_eq_true, jck_true, oI, Nat.zero_add, X1.2.2.2.2.2.2.2.2.2]
          have es : (match (if decide (md = 0) = true then lfnd cls (Cd l (k + 1)) false else some 0) with
            | none => .error (k + 1, 3)
            | some u => eb (tk (Cd l) (k + 1)) fun k2 => if Cd l k2 = -3012 then sOver (Cd l) (decide (md = 0)) cls fl k2 (o ||| jshl 1 (nI u)) else .ok (o ||| jshl 1 (nI u), k2)) = (eb (tk (Cd l) (k + 1)) fun k2 => if Cd l k2 = -3012 then sOver (Cd l) (decide (md = 0)) cls fl k2 (o ||| jshl 1 (nI u)) else .ok (o ||| jshl 1 (nI u), k2)) := by
            rw [if_pos dm, hx]
          have es := es
          rw [if_pos dm, hx] at es
          rw [if_pos dm]
          refine b97 u (oc ||| jshl 1 (nI u)) _ ⟨cs.zI ha, rfl⟩ (R1.k15 (cs.zI ha)) (a1.ke (z := z) (as := []) (cs.zI ha) (by omega) (by decide) (by decide) (by decide)) rfl X1.n6 (fun _ => by rw [hoc m0])
      · have dm : decide (md = 0) = false := decide_eq_false m0
        rw [if_neg (show ¬ nI md = 0 from nI_ne0 (by omega) (by omega)), if_neg (by rw [dm]; decide)]
        exact b97 0 oc μ1 cn.rf R1 a1 rfl X1 (fun e => absurd e m0)
    · rw [if_neg q1, if_neg q1, if_pos rfl]
      by_cases q2 : Cd l (k + 1) ≤ -3000
      · rw [if_pos q2, if_pos q2, if_neg (by decide), fX4_readOver_b47]
        simp only [jck_true, jde_is, jlt_is, jcl_0, beq_self_eq_true, jT_sI, jT_sJ, jP_sI, jP_sJ, jJ_sI, jI_sJ, jZ_sI, jZ_sJ, cT15 hC1]
        exact fail 2 2 _ rfl (by decide) rfl
      · rw [if_neg q2, if_neg q2, if_pos rfl, fX4_readOver_b47]
        simp only [jck_true, jde_is, jlt_is, jcl_0, beq_self_eq_true, jT_sI, jT_sJ, jP_sI, jP_sJ, jJ_sI, jI_sJ, jZ_sI, jZ_sJ, cT15 hC1]
        exact fail 0 0 _ rfl (by decide) rfl
/-! deeds: from the sign behind the LABEL to the TAIL -/
abbrev Dd : Type := Int32 × Int32 × Int32 × Int32 × Int32 × List Int64 × List Int64 × Nat
def sDd (C : Nat → Int64) (wh : Bool) (P A : List Int64) (k : Nat) : Except Er Dd :=
  eb (exC C (-59) k) fun k2 => if sKind (C k2) = -1 then .error (k2, 0) else
  eb (tk C k2) fun k3 => eb (sNum wh P 6 C k3) fun p => eb (exC C (-3005) p.2.2) fun k4 => eb (sNum wh A 12 C k4) fun a =>
  eb (if sKind (C k2) = 1 then sTerm C a.2.2 else .ok (-1, -1, a.2.2)) fun t => .ok (sKind (C k2), p.1, a.1, t.1, t.2.1, p.2.1, a.2.1, t.2.2)
theorem sDeed_is (C : Nat → Int64) (F : List Int64) (wh : Bool) (cls : List Cl) (P A : List Int64) (k0 k : Nat) : sDeed C F wh cls P A k0 k = eb (sDd C wh P A k) fun d => eb (sTail C F wh cls d.2.2.2.2.2.2.2) fun z => .ok ((d.1, C k0, d.2.1, d.2.2.1, d.2.2.2.1, d.2.2.2.2.1, z.1, z.2.1, sl C k0 z.2.2), d.2.2.2.2.2.1, d.2.2.2.2.2.2.1, z.2.2) := by
  unfold sDeed sDd
  rw [eb_as]; congr 1; funext k2
  by_cases q : sKind (C k2) = -1
  · rw [if_pos q, if_pos q]; rfl
  · rw [if_neg q, if_neg q, eb_as]; congr 1; funext k3
    rw [eb_as]; congr 1; funext p
    rw [eb_as]; congr 1; funext k4
    rw [eb_as]; congr 1; funext a
    rw [eb_as]; congr 1
def ddQ (B a z : Nat) (μ : JM) (l : List Int32) (n k md : Nat) (P A : List Int64) (nm : Int64) (o : Int32) (x : Int32) (ν : JM) : Prop := cn B z [15, 11, 12, 13, 14] μ ν ∧ ∃ P' A', pfx (decide (md = 0)) P P' ∧ pfx (decide (md = 0)) A A' ∧ cW B 11 6 ν P' ∧ cW B 13 12 ν A' ∧ cRd B ν l n k x (ov (Cd l) k (sDd (Cd l) (decide (md = 0)) P A k)) (fun d => d.2.2.2.2.2.2.2) (fun d => d.2.2.2.2.2.1 = P' ∧ d.2.2.2.2.2.2.1 = A' ∧ (Cd l (k + 1) ≤ -3000 ∧ k + 2 ≤ d.2.2.2.2.2.2.2) ∧ ∃ pp aa, cX ν a d.1 nm pp aa d.2.2.2.1 d.2.2.2.2.1 o ∧ (md = 0 → pp = d.2.1 ∧ aa = d.2.2.1))
theorem c_deed {B hi z n k a : Nat} {μ : JM} {md v q cap : Nat} {cls : List Cl} {F P A : List Int64} {l : List Int32} {kd : Int32} {nm : Int64} {p ac o : Int32} (R : rEn B hi z μ md v q cap cls F) (h : cAt B μ l n k) (ha : z ≤ a) (hj : a + 3 ≤ jZ μ) (X : cX μ a kd nm p ac (-1) (-1) o) (hP : cW B 11 6 μ P) (hA : cW B 13 12 μ A) : Res (fX4_readDeed (B + 18) (some a) μ) (ddQ B a z μ l n k md P A nm o) := by
  obtain ⟨hC, hF, h5, hmd, h6, hL, hcap, hhz, hzj, hz, h66⟩ := id R
  unfold fX4_readDeed
  simp only [jck_true, jde_is, jlt_is, jcl_0, beq_self_eq_true, jT_sI, jT_sJ, jP_sI, jP_sJ, jJ_sI, jI_sJ, jZ_sI, jZ_sJ, cT18 hC, cP18_0 hC, cT15 hC]
  have sp : ov (Cd l) k (sDd (Cd l) (decide (md = 0)) P A k) = if Cd l k = -59 then ov (Cd l) (k + 1) (if sKind (Cd l (k + 1)) = -1 then .error (k + 1, 0) else eb (tk (Cd l) (k + 1)) fun k3 => eb (sNum (decide (md = 0)) P 6 (Cd l) k3) fun p => eb (exC (Cd l) (-3005) p.2.2) fun k4 => eb (sNum (decide (md = 0)) A 12 (Cd l) k4) fun a => eb (if sKind (Cd l (k + 1)) = 1 then sTerm (Cd l) a.2.2 else .ok (-1, -1, a.2.2)) fun t => .ok (sKind (Cd l (k + 1)), p.1, a.1, t.1, t.2.1, p.2.1, a.2.1, t.2.2)) else .error (k, fk (Cd l) k 0) := by
    unfold sDd; rw [ov_exC (by decide)]
  refine Res.cl (c_take (z := jZ μ) (-59) (by decide) hC h (by omega)) fun x μ1 ⟨s1, P1⟩ => ?_
  have s1z : cn B z [15, 11, 12, 13, 14] μ μ1 := ⟨(s1.1.lo (by omega)).wk (by decide), s1.2⟩
  have hP1 := hP.ke s1.1 (by omega) (by decide) (by decide)
  have hA1 := hA.ke s1.1 (by omega) (by decide) (by decide)
  rcases P1 with ⟨c1, rfl, a1⟩ | ⟨c1, rfl, f1⟩
  · rw [if_neg (by decide)]
    rw [if_pos c1] at sp
    have hC1 := s1.1.ct hC (by omega)
    have X1 := s1.cl hz ha hj X
    simp only [jck_true, jde_is, jlt_is, jcl_0, beq_self_eq_true, jT_sI, jT_sJ, jP_sI, jP_sJ, jJ_sI, jI_sJ, jZ_sI, jZ_sJ, cT18 hC1, cP18_0 hC1, cT15 hC1, c_token hC1 a1, c_kindOf, X1.1]
    have X2 := X1.n0 (x := sKind (Cd l (k + 1)))
    have s2 : cn B z [15, 11, 12, 13, 14] μ1 (jsI μ1 a 0 (sKind (Cd l (k + 1)))) := ⟨cs.zI ha, rfl⟩
    have a2 : cAt B (jsI μ1 a 0 (sKind (Cd l (k + 1)))) l n (k + 1) := a1.ke (z := z) (as := []) (cs.zI ha) (by omega) (by decide) (by decide) (by decide)
    have hP2 : cW B 11 6 (jsI μ1 a 0 (sKind (Cd l (k + 1)))) P := hP1.ke (z := z) (as := []) (cs.zI ha) (by omega) (by decide) (by decide)
    have hA2 : cW B 13 12 (jsI μ1 a 0 (sKind (Cd l (k + 1)))) A := hA1.ke (z := z) (as := []) (cs.zI ha) (by omega) (by decide) (by decide)
    have e0 : jI (jsI μ1 a 0 (sKind (Cd l (k + 1)))) a 0 = sKind (Cd l (k + 1)) := X2.2.2.2.1
    have z2 : jZ (jsI μ1 a 0 (sKind (Cd l (k + 1)))) = jZ μ1 := rfl
    have J2 : jJ (jsI μ1 a 0 (sKind (Cd l (k + 1)))) = jJ μ1 := rfl
    rw [e0]
    generalize jsI μ1 a 0 (sKind (Cd l (k + 1))) = μ2 at X2 s2 a2 hP2 hA2 z2 J2 ⊢
    have S2 := s1z.tr s2
    have hC2 := S2.1.ct hC hz
    have hj2 : a + 3 ≤ jZ μ2 := by rw [z2, s1.2]; exact hj
    have h52 : jI μ2 (B + 18) 5 = nI md := by rw [S2.1.iI (by omega) (by decide)]; exact h5
    by_cases q1 : sKind (Cd l (k + 1)) = -1
    · rw [if_pos q1, ov_er] at sp
      rw [if_pos q1]
      refine (c_fl (z := jZ μ2) 0 0 rfl (by decide) hC2 a2).mono ?_
      rintro x ν ⟨rfl, s3, f3⟩
      exact ⟨S2.tr ⟨(s3.1.lo (by omega)).wk (by decide), s3.2⟩, P, A, pfx.rf, pfx.rf, hP2.ke s3.1 (by omega) (by decide) (by decide), hA2.ke s3.1 (by omega) (by decide) (by decide), Or.inl ⟨_, sp, rfl, f3⟩⟩
    · have nk : Cd l (k + 1) = -3002 ∨ Cd l (k + 1) = -3003 ∨ Cd l (k + 1) = -3004 := by
        unfold sKind at q1
        by_cases t1 : Cd l (k + 1) = -3002
        · exact Or.inl t1
        · by_cases t2 : Cd l (k + 1) = -3003
          · exact Or.inr (Or.inl t2)
          · by_cases t3 : Cd l (k + 1) = -3004
            · exact Or.inr (Or.inr t3)
            · rw [if_neg t1, if_neg t2, if_neg t3] at q1; exact absurd rfl q1
      have ne01 : ¬ Cd l (k + 1) = 0 := by rcases nk with e | e | e <;> rw [e] <;> decide
      have nov1 : ¬ Cd l (k + 1) = -2000 := by rcases nk with e | e | e <;> rw [e] <;> decide
      have lek : Cd l (k + 1) ≤ -3000 := by rcases nk with e | e | e <;> rw [e] <;> decide
      rw [if_neg q1, ov_ne nov1, eb_tk, ← eb_ov] at sp
      rw [if_neg q1]
      generalize hkd : sKind (Cd l (k + 1)) = kd2 at *
      refine Res.cl (c_step (z := jZ μ2) hC2 a2 ne01 (by omega)) fun _ μ3 ⟨s3, a3⟩ => ?_
      have s3z : cn B z [15, 11, 12, 13, 14] μ2 μ3 := ⟨(s3.1.lo (by omega)).wk (by decide), s3.2⟩
      have S3 := S2.tr s3z
      have hC3 := S3.1.ct hC hz
      have X3 := s3.cl hz ha hj2 X2
      have hP3 := hP2.ke s3.1 (by omega) (by decide) (by decide)
      have hA3 := hA2.ke s3.1 (by omega) (by decide) (by decide)
      have hj3 : a + 3 ≤ jZ μ3 := by rw [s3.2]; exact hj2
      have h53 : jI μ3 (B + 18) 5 = nI md := by rw [S3.1.iI (by omega) (by decide)]; exact h5
      simp only [jck_true, jde_is, jlt_is, jcl_0, beq_self_eq_true, jT_sI, jT_sJ, jP_sI, jP_sJ, jJ_sI, jI_sJ, jZ_sI, jZ_sJ, cT18 hC3, cP18_2 hC3]
      refine Res.cl (c_numbered hC3 a3 h53 hmd (Or.inl rfl) (wh11 hC3) (by decide) hP3) fun r4 μ4 ⟨s4x, P4⟩ => ?_
      have s4z : cn B z [15, 11, 12, 13, 14] μ3 μ4 := ⟨(s4x.1.lo (by omega)).wk (by decide), s4x.2⟩
      have S4 := S3.tr s4z
      have hC4 := S4.1.ct hC hz
      have X4 := X3.ke s4x.1 (by decide) (Nat.le_refl _) (by omega) hj3
      have hA4 := hA3.ke s4x.1 (by omega) (by decide) (by decide)
      simp only [jck_true, jde_is, jlt_is, jcl_0, beq_self_eq_true, jT_sI, jT_sJ, jP_sI, jP_sJ, jJ_sI, jI_sJ, jZ_sI, jZ_sJ, X4.1]
      have X5 := X4.n2 (x := r4)
      have s5 : cn B z [15, 11, 12, 13, 14] μ4 (jsI μ4 a 2 r4) := ⟨cs.zI ha, rfl⟩
      have S5 := S4.tr s5
      have s5e : cs B z [] μ4 (jsI μ4 a 2 r4) := cs.zI ha
      have z5 : jZ (jsI μ4 a 2 r4) = jZ μ4 := rfl
      have J5 : jJ (jsI μ4 a 2 r4) = jJ μ4 := rfl
      have i5 : jI (jsI μ4 a 2 r4) (B + 15) = jI μ4 (B + 15) := jI_sI_ne (by omega)
      simp only [cP18_0 hC4, cT18 hC4, cT15 hC4, jde_is, beq_self_eq_true, jck_true, i5]
      generalize jsI μ4 a 2 r4 = μ5 at X5 s5 S5 s5e z5 J5 i5 ⊢
      have hC5 := S5.1.ct hC hz
      have hA5 := hA4.ke s5e (by omega) (by decide) (by decide)
      have hj5 : a + 3 ≤ jZ μ5 := by rw [z5, s4x.2]; exact hj3
      rcases P4 with ⟨e, es, -, f4, w4⟩ | ⟨y, es, ey, a4, g4, w4, hy, pp⟩
      · rw [if_neg f4.2]
        rw [es, eb_err] at sp
        exact .ret ⟨S5, P, A, pfx.rf, pfx.rf, w4.ke s5e (by omega) (by decide) (by decide), hA5, Or.inl ⟨e, sp, rfl, f4.ke s5e (by omega) (by decide)⟩⟩
      · rw [if_pos g4]
        obtain ⟨y1, y2, y3⟩ := y
        have ey : y3 = k + 1 + 1 + 1 := ey
        subst ey
        rw [es, eb_ov, eb_ok, ov_exC (by decide)] at sp
        have w5 : cW B 11 6 μ5 y2 := w4.ke s5e (by omega) (by decide) (by decide)
        have a5 := a4.ke s5e (by omega) (by decide) (by decide) (by decide)
        refine Res.cl (c_take (z := jZ μ5) (-3005) (by decide) hC5 a5 (by omega)) fun x μ6 ⟨s6, P6⟩ => ?_
        have s6z : cn B z [15, 11, 12, 13, 14] μ5 μ6 := ⟨(s6.1.lo (by have := S5.2; omega)).wk (by decide), s6.2⟩
        have S6 := S5.tr s6z
        have hC6 := S6.1.ct hC hz
        have X6 := s6.cl hz ha hj5 X5
        have w6 := w5.ke s6.1 (by omega) (by decide) (by decide)
        have hA6 := hA5.ke s6.1 (by omega) (by decide) (by decide)
        have hj6 : a + 3 ≤ jZ μ6 := by rw [s6.2]; exact hj5
        rcases P6 with ⟨c6, rfl, a6⟩ | ⟨c6, rfl, f6⟩
        · rw [if_neg (by decide)]
          dsimp only at sp c6
          rw [if_pos c6, ← eb_ov] at sp
          have h56 : jI μ6 (B + 18) 5 = nI md := by rw [S6.1.iI (by omega) (by decide)]; exact h5
          simp only [jck_true, jde_is, jlt_is, jcl_0, beq_self_eq_true, jT_sI, jT_sJ, jP_sI, jP_sJ, jJ_sI, jI_sJ, jZ_sI, jZ_sJ, cT18 hC6, cP18_3 hC6]
          refine Res.cl (c_numbered hC6 a6 h56 hmd (Or.inr rfl) (wh13 hC6) (by decide) hA6) fun r7 μ7 ⟨s7, P7⟩ => ?_
          have s7z : cn B z [15, 11, 12, 13, 14] μ6 μ7 := ⟨(s7.1.lo (by have := S6.2; omega)).wk (by decide), s7.2⟩
          have S7 := S6.tr s7z
          have hC7 := S7.1.ct hC hz
          have X7 := X6.ke s7.1 (by decide) (Nat.le_refl _) (by omega) hj6
          have w7 := w6.ke s7.1 (by omega) (by decide) (by decide)
          simp only [jck_true, jde_is, jlt_is, jcl_0, beq_self_eq_true, jT_sI, jT_sJ, jP_sI, jP_sJ, jJ_sI, jI_sJ, jZ_sI, jZ_sJ, X7.1]
          have X8 := X7.n3 (x := r7)
          have s8 : cn B z [15, 11, 12, 13, 14] μ7 (jsI μ7 a 3 r7) := ⟨cs.zI ha, rfl⟩
          have S8 := S7.tr s8
          have s8e : cs B z [] μ7 (jsI μ7 a 3 r7) := cs.zI ha
          have z8 : jZ (jsI μ7 a 3 r7) = jZ μ7 := rfl
          have J8 : jJ (jsI μ7 a 3 r7) = jJ μ7 := rfl
          have i8 : jI (jsI μ7 a 3 r7) (B + 15) = jI μ7 (B + 15) := jI_sI_ne (by omega)
          have k8 : jI (jsI μ7 a 3 r7) a 0 = kd2 := X8.2.2.2.1
          simp only [cP18_0 hC7, cT18 hC7, cT15 hC7, jde_is, beq_self_eq_true, jck_true, i8, k8]
          generalize jsI μ7 a 3 r7 = μ8 at X8 s8 S8 s8e z8 J8 i8 k8 ⊢
          have hC8 := S8.1.ct hC hz
          have w8 := w7.ke s8e (by omega) (by decide) (by decide)
          have hj8 : a + 3 ≤ jZ μ8 := by rw [z8, s7.2]; exact hj6
          rcases P7 with ⟨e, es7, -, f7, u7⟩ | ⟨t, es7, et, a7, g7, u7, ht, qq⟩
          · rw [if_neg f7.2]
            rw [es7, eb_err] at sp
            exact .ret ⟨S8, y2, A, pp, pfx.rf, w8, u7.ke s8e (by omega) (by decide) (by decide), Or.inl ⟨e, sp, rfl, f7.ke s8e (by omega) (by decide)⟩⟩
          · rw [if_pos g7]
            obtain ⟨t1, t2, t3⟩ := t
            have et : t3 = k + 1 + 1 + 1 + 1 + 1 := et
            subst et
            rw [es7, eb_ov, eb_ok] at sp
            dsimp only at sp
            have u8 : cW B 13 12 μ8 t2 := u7.ke s8e (by omega) (by decide) (by decide)
            have a8 := a7.ke s8e (by omega) (by decide) (by decide) (by decide)
            by_cases q2 : kd2 = 1
            · rw [if_pos q2, ← eb_ov] at sp
              rw [if_pos q2]
              refine Res.cl (c_term hC8 a8 hz ha hj8 X8) fun x μ9 ⟨s9, P9⟩ => ?_
              have S9 := S8.tr ⟨s9.1.wk (by decide), s9.2⟩
              have w9 := w8.ke s9.1 (by omega) (by decide) (by decide)
              have u9 := u8.ke s9.1 (by omega) (by decide) (by decide)
              rcases P9 with ⟨e, es9, rfl, f9⟩ | ⟨y, es9, rfl, a9, k9, X9⟩
              · rw [if_pos rfl]
                rw [es9, eb_err] at sp
                exact .ret ⟨S9, y2, t2, pp, qq, w9, u9, Or.inl ⟨e, sp, rfl, f9⟩⟩
              · rw [if_neg (by decide)]
                rw [es9, eb_ov, eb_ok] at sp
                have k9 : k + 1 + 1 + 1 + 1 + 1 ≤ y.2.2 := k9
                exact .ret ⟨S9, y2, t2, pp, qq, w9, u9, Or.inr ⟨(kd2, y1, t1, y.1, y.2.1, y2, t2, y.2.2), sp, rfl, a9, by show k ≤ y.2.2; omega, rfl, rfl, ⟨lek, by show k + 2 ≤ y.2.2; omega⟩, r4, r7, X9, fun m => ⟨hy (decide_eq_true m), ht (decide_eq_true m)⟩⟩⟩
            · rw [if_neg q2, eb_ok] at sp
              rw [if_neg q2]
              exact .ret ⟨S8, y2, t2, pp, qq, w8, u8, Or.inr ⟨(kd2, y1, t1, -1, -1, y2, t2, k + 1 + 1 + 1 + 1 + 1), sp, rfl, a8, by show k ≤ k + 1 + 1 + 1 + 1 + 1; omega, rfl, rfl, ⟨lek, by show k + 2 ≤ k + 1 + 1 + 1 + 1 + 1; omega⟩, r4, r7, X8, fun m => ⟨hy (decide_eq_true m), ht (decide_eq_true m)⟩⟩⟩
        · rw [if_pos rfl]
          dsimp only at sp c6
          rw [if_neg c6] at sp
          exact .ret ⟨S6, y2, A, pp, pfx.rf, w6, hA6, Or.inl ⟨_, sp, rfl, f6⟩⟩
  · rw [if_pos rfl]
    rw [if_neg c1] at sp
    exact .ret ⟨s1z, P, A, pfx.rf, pfx.rf, hP1, hA1, Or.inl ⟨_, sp, rfl, f1⟩⟩
