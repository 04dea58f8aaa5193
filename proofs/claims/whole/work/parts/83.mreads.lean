/-! the reference: reads -/
theorem tok_end {M : Nat} {μ : JM} {l : List Int32} {ts : List Int64} {k : Nat} (h : mAt M μ l ts k) : jI μ M 14 = 0 ↔ Cd l k = 0 := by
  have h3 := (mA_ok h).2.2
  have k6 := h.1.2.2.1.2.2.2.2.2.1
  rw [k6, code_eq (z := 0) 0 (by decide)]
  have hd : (Cd l k) = tcode (l.drop (pl l k)) := rfl
  rw [hd]
  rcases tcl _ (h.2.drop (pl l k)) with ⟨e1, e2, e3, e4, e5⟩ | ⟨i, e1, e2, e3, e4, e5, e6, e7, e8⟩ | ⟨e1, e2, e3, e4, e5, e6, e7, e8, e9⟩ | ⟨w, e1, e2, e3, e4, e5, e6, e7, e8⟩ | ⟨c, r, w, e1, e2, e3, e4, e5, e6, e7, e8, e9, e10⟩ | ⟨e1, e2, e3, e4, e5⟩
  · rw [e2, e3]; decide
  · rw [e3, e4]; constructor
    · intro z; exact absurd z (by decide)
    · intro z; omega
  · rw [e5, e1]; constructor
    · intro z; exact absurd z (by decide)
    · intro z; omega
  · rw [e8, e2]; constructor
    · intro z; exact absurd z (by decide)
    · intro z; omega
  · rw [e9, e3]; constructor
    · intro z; split at z <;> exact absurd z (by decide)
    · intro z; omega
  · exact absurd e2 h3
def clsLow (M : Nat) (μ ν : JM) : Prop := (∀ f c, f < 96 → mCl M μ f c → mCl M ν f c) ∧ ∀ u, u ≠ 4 → jI ν (M + 20) u = jI μ (M + 20) u
theorem clsLow.rf {M : Nat} {μ : JM} : clsLow M μ μ := ⟨fun _ _ _ h => h, fun _ _ => rfl⟩
theorem clsLow.tr {M : Nat} {μ ν ρ : JM} (h : clsLow M μ ν) (g : clsLow M ν ρ) : clsLow M μ ρ := ⟨fun f c hf q => g.1 f c hf (h.1 f c hf q), fun u hu => (g.2 u hu).trans (h.2 u hu)⟩
theorem low_of {M e : Nat} {μ ν : JM} {fs as : List Nat} (h : clsBut M μ ν e) (he : 96 ≤ e) (s : sm M fs as μ ν) (h20 : 20 ∉ as) : clsLow M μ ν := ⟨fun f c hf q => h f c (by omega) q, fun u _ => by rw [s.aI (by decide) h20]⟩
theorem clsLow.sm {M : Nat} {μ ν : JM} {fs as : List Nat} (s : sm M fs as μ ν) (ha : ∀ i ∈ DA, i ∉ as) (h20 : 20 ∉ as) : clsLow M μ ν := ⟨fun _ _ _ h => h.sm s ha, fun u _ => by rw [s.aI (by decide) h20]⟩
def RF : List Nat := [13, 14, 15, 16, 17, 18, 20, 21, 5, 8, 29, 57, 33]
def RA : List Nat := [4, 5, 6, 7, 9, 13, 14, 15, 16, 17, 18, 19, 21, 22, 23, 24, 25, 26, 27, 28, 29, 30, 20]
def mRd (M : Nat) (ν : JM) (l : List Int32) (ts : List Int64) (k : Nat) (P0 A0 : List Int64) (r : Int32) (x : Except Er (List Cl × List Int64 × List Int64 × Nat)) : Prop := match x with
  | .error f => r = 0 ∧ mBad M ν l f ∧ mWl M ν 5 4 5 6 P0 ∧ mWl M ν 8 6 7 12 A0
  | .ok y => r = 1 ∧ k ≤ y.2.2.2 ∧ mAt M ν l (ts ++ sl (Cd l) k y.2.2.2) y.2.2.2 ∧ mWl M ν 5 4 5 6 y.2.1 ∧ P0 <+: y.2.1 ∧ mWl M ν 8 6 7 12 y.2.2.1 ∧ A0 <+: y.2.2.1 ∧ jI ν (M + 20) 4 = nI y.1.length ∧ y.1.length ≤ 24 ∧ mCls M ν 96 (stlC y.1) ∧ ∀ c ∈ y.1, wfc c
theorem m_rdbad {M : Nat} {μ : JM} {l : List Int32} {ts : List Int64} {k : Nat} {P0 A0 : List Int64} {f : Er} (h : mBad M μ l f) (hP : mW μ (M + 4) (M + 5) P0) (hA : mW μ (M + 6) (M + 7) A0) (hp : P0.length ≤ 6) (ha : A0.length ≤ 12) : Res (fX11_reads_b102 M (nI P0.length) (nI A0.length) μ) (fun r ν => sm M RF RA μ ν ∧ clsLow M μ ν ∧ mRd M ν l ts k P0 A0 r (.error f)) := by
  rw [fX11_reads_b102]
  simp only [jck_true, jde_is, jlt_is, jcl_0, beq_self_eq_true, jT_sI, jT_sJ, jP_sI, jP_sJ, jJ_sI, jI_sJ, jZ_sI, jZ_sJ, h.1.1]
  have s1 : sm M [5, 8] [] μ (jsI (jsI μ M 5 (nI P0.length)) M 8 (nI A0.length)) := (sm.sF (by decide)).tr (sm.sF (by decide))
  refine .ret ⟨s1.wk (by decide) (by decide), clsLow.sm s1 (by decide) (by decide), rfl, h.sm s1 (by decide), ⟨?_, hp, hP.sm s1 (by decide) (by decide) (by decide) (by decide)⟩, ⟨?_, ha, hA.sm s1 (by decide) (by decide) (by decide) (by decide)⟩⟩
  · rw [jI_sI, if_neg (by omega), jI_sI, if_pos ⟨rfl, rfl⟩]
  · rw [jI_sI, if_pos ⟨rfl, rfl⟩]
theorem mW.pp {μ : JM} {A S : Nat} {P Q : List Int64} (h : mW μ A S Q) (hp : P <+: Q) : mW μ A S P := h.pre hp
theorem reads_l {M : Nat} {l : List Int32} {F P0 A0 : List Int64} (hp : P0.length ≤ 6) (ha : A0.length ≤ 12) : ∀ (fu n : Nat) (cls : List Cl) (P A : List Int64) (k : Nat) (ts : List Int64) (μ : JM), mAt M μ l ts k → CI M μ l F (defs cls) true → jI μ M 56 = 0 → mCls M μ 96 cls → cls.length ≤ 24 → (∀ c ∈ cls, wfc c) → mWl M μ 5 4 5 6 P → P0 <+: P → mWl M μ 8 6 7 12 A → A0 <+: A → 25 ≤ cls.length + n → 26 - cls.length < fu →
    Res (fX11_reads_b36 fu M (nI P0.length) (nI A0.length) (nI cls.length) 1 μ) (fun r ν => sm M RF RA μ ν ∧ clsLow M μ ν ∧ mRd M ν l ts k P0 A0 r (sVer (Cd l) F n cls P A k)) := by
  intro fu
  induction fu with
  | zero => intro n cls P A k ts μ _ _ _ _ _ _ _ _ _ _ _ h; omega
  | succ fu ih =>
    intro n cls P A k ts μ h hC h56 hK hcl hwf hP pP hA pA hn hf
    obtain ⟨n, rfl⟩ : ∃ m, n = m + 1 := ⟨n - 1, by omega⟩
    obtain ⟨h1, h2, h3⟩ := mA_ok h
    have bad : ∀ {ν : JM} {f : Er} {x3 : Int32}, sm M RF RA μ ν → clsLow M μ ν → mBad M ν l f → mW ν (M + 4) (M + 5) P0 → mW ν (M + 6) (M + 7) A0 → Res (fX11_reads_b90 M (nI P0.length) (nI A0.length) x3 0 ν) (fun r ν => sm M RF RA μ ν ∧ clsLow M μ ν ∧ mRd M ν l ts k P0 A0 r (.error f)) := by
      intro ν f x3 s c hb w1 w2
      rw [fX11_reads_b90, if_pos rfl]
      exact (m_rdbad hb w1 w2 hp ha).mono fun r ν2 ⟨q1, q2, q3⟩ => ⟨s.tr q1, c.tr q2, q3⟩
    rw [fX11_reads_b36, if_neg (by decide), sVer]
    by_cases q : cls.length = 24
    · rw [if_pos (show (24 : Int32) ≤ nI cls.length from nI_le (a := 24) (by omega) (by omega)), jck_of (by rw [h1.1]; rfl)]
      refine Res.cl (m_beyond (F := F) (P := P) (A := A) h q hK) fun r ν ⟨z1, z2, f, z3, z4⟩ => ?_
      subst z1
      rw [fX11_reads_b59, if_pos rfl, z3, eb_err]
      exact bad (z2.wk (by decide) (by decide)) (clsLow.sm z2 (by decide) (by decide)) z4 ((hP.2.2.sm z2 (by decide) (by decide) (by decide) (by decide)).pre pP) ((hA.2.2.sm z2 (by decide) (by decide) (by decide) (by decide)).pre pA)
    · rw [if_neg (show ¬ (24 : Int32) ≤ nI cls.length from nI_ge (b := 24) (by omega) (by omega)), jck_of (by rw [h1.1]; rfl)]
      have hX : Cx M μ l F 0 cls cls.length := ⟨hC, by rw [if_neg (by decide)]; exact h56, fun _ => ⟨rfl, hK⟩, fun z => (by cases z), fun z => absurd rfl z, by omega⟩
      refine Res.cl (m_clause h hX hP hA) fun r μ1 ⟨s1, c1, z1⟩ => ?_
      have L1 : clsLow M μ μ1 := low_of c1 (by omega) s1 (by decide)
      generalize sClause (Cd l) F 0 cls P A k = x at z1 ⊢
      cases x with
      | error f =>
        obtain ⟨rfl, z2, z3, z4⟩ := z1
        rw [fX11_reads_b59, if_pos rfl, eb_err]
        exact bad (s1.wk (by decide) (by decide)) L1 z2 (z3.1.pre pP) (z4.1.pre pA)
      | ok y =>
        obtain ⟨rfl, z2, z3, z4, z5, z6, z7, z8, z9, -, z11⟩ := z1
        obtain ⟨c, P1, A1, k1⟩ := y
        have hM1 := s1.mt h1
        rw [fX11_reads_b59, if_neg (by decide), eb_ok]
        simp only [jck_true, jde_is, jlt_is, jcl_0, beq_self_eq_true, jT_sI, jT_sJ, jP_sI, jP_sJ, jJ_sI, jI_sJ, jZ_sI, jZ_sJ, hM1.1]
        have hK1 : mCls M μ1 96 (cls ++ [c]) := by
          intro i hi
          rw [List.length_append, List.length_singleton] at hi
          by_cases y : i = cls.length
          · subst y
            have : (cls ++ [c]).getD cls.length cl0 = c := by simp [List.getD]
            rw [this]; exact z8
          · have : (cls ++ [c]).getD i cl0 = cls.getD i cl0 := by simp [List.getD, List.getElem?_append_left (show i < cls.length by omega)]
            rw [this]; exact c1 _ _ (by omega) (hK i (by omega))
        have hwf1 : ∀ d ∈ cls ++ [c], wfc d := by
          intro d hd
          rcases List.mem_append.mp hd with t | t
          · exact hwf d t
          · rw [List.mem_singleton] at t; subst t; exact z11
        have hl1 : (cls ++ [c]).length = cls.length + 1 := by simp
        by_cases y : Cd l k1 = 0
        · rw [if_pos ((tok_end z3).mpr y), if_pos y, fX11_reads_b90, if_neg (by decide)]
          simp only [jck_true, jde_is, jlt_is, jcl_0, beq_self_eq_true, jT_sI, jT_sJ, jP_sI, jP_sJ, jJ_sI, jI_sJ, jZ_sI, jZ_sJ, hM1.1, (mA_ok z3).2.1]
          rw [if_pos (by decide), nI_1]
          have c4 : ((4 : Int32)).toNatClampNeg = 4 := by decide
          simp only [jck_true, jde_is, jlt_is, jcl_0, beq_self_eq_true, jT_sI, jT_sJ, jP_sI, jP_sJ, jJ_sI, jI_sJ, jZ_sI, jZ_sJ, mP_clauses hM1, mT_clauses hM1, jck_of (show jin 4 5 = true by decide), c4]
          generalize hμ2 : jsI μ1 (M + 20) 4 (nI (cls.length + 1)) = μ2
          have s2 : sm M [] [20] μ1 μ2 := by rw [← hμ2]; exact sm.sA (by decide) (by decide)
          have v2 : jI μ2 (M + 20) 4 = nI (cls.length + 1) := by rw [← hμ2, jI_sI, if_pos ⟨rfl, rfl⟩]
          have hr2 : mCls M μ2 96 (cls ++ [c]) := fun i hi => (hK1 i hi).sm s2 (by decide)
          have sub1 : nI (cls.length + 1) - 1 = nI (cls ++ [c]).length + (-1) := by rw [hl1, Int32.sub_eq_add_neg]
          rw [sub1, ← hl1]
          refine (set_k (cls := cls ++ [c]) (by omega) jfuel (cls ++ [c]).length μ2 (s2.mt hM1) (Nat.le_refl _) (jfuel_gt (by omega)) (fun i hi => by rw [if_pos hi]; exact hr2 i hi)).mono ?_
          rintro r ν ⟨rfl, q2, q3, q4⟩
          have s2ν : sm M [] [20, 30] μ1 ν := (s2.wk (by decide) (by decide)).tr (q2.wk (by decide) (by decide))
          refine ⟨(s1.wk (by decide) (by decide)).tr (s2ν.wk (by decide) (by decide)), L1.tr ⟨fun f c hf hc => q3 f c hf (hc.sm s2 (by decide)), fun u hu => by rw [q2.aI (by decide) (by decide), ← hμ2, jI_sI, if_neg (fun z => hu z.2)]⟩, rfl, z2, z3.sm s2ν (by decide) (by decide), z4.sm s2ν (by decide) (by decide) (by decide) (by decide) (by decide), pP.trans z5.1, z6.sm s2ν (by decide) (by decide) (by decide) (by decide) (by decide), pA.trans z7.1, ?_, ?_, q4, hwf1⟩
          · show jI ν (M + 20) 4 = nI (cls ++ [c]).length
            rw [q2.aI (by decide) (by decide), v2, hl1]
          · show (cls ++ [c]).length ≤ 24; omega
        · rw [if_neg (fun t => y ((tok_end z3).mp t)), if_neg y]
          refine st_exS 59 (-60) 59 (by decide) rfl (by decide) z3 (fun ν f hg hs hb => ?_) (fun μ2 hf2 s2 hA2 => ?_)
          · obtain ⟨f2, rfl⟩ : ∃ f2, fu = f2 + 1 := ⟨fu - 1, by omega⟩
            rw [hg, eb_err, fX11_reads_b36, if_pos rfl]
            exact bad ((s1.wk (by decide) (by decide)).tr (hs.wk (by decide) (by decide))) (L1.tr (clsLow.sm hs (by decide) (by decide))) hb ((z4.2.2.sm hs (by decide) (by decide) (by decide) (by decide)).pre (pP.trans z5.1)) ((z6.2.2.sm hs (by decide) (by decide) (by decide) (by decide)).pre (pA.trans z7.1))
          · rw [hf2, eb_ok, nI_1, ← hl1]
            have hN2 : mNa M μ1 (defs (cls ++ [c])) := z9
            have hC2 : CI M μ2 l F (defs (cls ++ [c])) true := ⟨(hC.1.sm s1 (by decide) (by decide)).sm s2 (by decide) (by decide), hN2.sm s2 (by decide) (by decide), (s2.fI (by decide)).trans ((s1.fI (by decide)).trans hC.2.2)⟩
            have S2 : sm M RF RA μ μ2 := (s1.wk (by decide) (by decide)).tr (s2.wk (by decide) (by decide))
            have eL : ts ++ sl (Cd l) k k1 ++ sl (Cd l) k1 (k1 + 1) = ts ++ sl (Cd l) k (k1 + 1) := by rw [List.append_assoc, sl_app _ z2 (by show k1 ≤ k1 + 1; omega)]
            have hA2' : mAt M μ2 l (ts ++ sl (Cd l) k (k1 + 1)) (k1 + 1) := by rw [← eL]; exact hA2
            refine (ih n (cls ++ [c]) P1 A1 (k1 + 1) (ts ++ sl (Cd l) k (k1 + 1)) μ2 hA2' hC2 ((s2.fI (by decide)).trans ((s1.fI (by decide)).trans h56)) (fun i hi => (hK1 i hi).sm s2 (by decide)) (by omega) hwf1 (z4.sm s2 (by decide) (by decide) (by decide) (by decide) (by decide)) (pP.trans z5.1) (z6.sm s2 (by decide) (by decide) (by decide) (by decide) (by decide)) (pA.trans z7.1) (by omega) (by omega)).mono ?_
            rintro r ν ⟨q1, q2, q3⟩
            refine ⟨S2.tr q1, (L1.tr (clsLow.sm s2 (by decide) (by decide))).tr q2, ?_⟩
            generalize sVer (Cd l) F n (cls ++ [c]) P1 A1 (k1 + 1) = x at q3 ⊢
            cases x with
            | error f => exact q3
            | ok v =>
              obtain ⟨t1, t2, t3, t4⟩ := q3
              have z2 : k ≤ k1 := z2
              rw [List.append_assoc, sl_app _ (by omega) t2] at t3
              exact ⟨t1, by omega, t3, t4⟩
/-- a whole text: VERSION's clauses, PARTIES, ACTS -/
def sRead (C : Nat → Int64) (F P A : List Int64) : Except Er (List Cl × List Int64 × List Int64 × Nat) := if C 0 = -2000 then .error (0, 1) else sVer C F 26 [] P A 0
/-- behind begins() -/
def mBeg (M : Nat) (μ : JM) (l : List Int32) : Prop := if Cd l 0 = -2000 then mBad M μ l (0, 1) else mAt M μ l [] 0
theorem m_reads {M : Nat} {μ : JM} {l : List Int32} {F P A : List Int64} (h : mBeg M μ l) (hF : mFa M μ F) (h56 : jI μ M 56 = 0) (hP : mWl M μ 5 4 5 6 P) (hA : mWl M μ 8 6 7 12 A) : Res (fX11_reads M μ) (fun r ν => sm M RF RA μ ν ∧ clsLow M μ ν ∧ mRd M ν l [] 0 P A r (sRead (Cd l) F P A)) := by
  have hM : MT M μ := by
    unfold mBeg at h; split at h
    · exact h.1
    · exact (mA_ok h).1
  rw [fX11_reads]
  simp only [jck_true, jde_is, jlt_is, jcl_0, beq_self_eq_true, jT_sI, jT_sJ, jP_sI, jP_sJ, jJ_sI, jI_sJ, jZ_sI, jZ_sJ, hM.1]
  generalize hμ1 : jsI (jsI μ M 33 1) M 29 0 = μ1
  have s1 : sm M [29, 33] [] μ μ1 := by rw [← hμ1]; exact (sm.sF (by decide)).tr (sm.sF (by decide))
  have v33 : jI μ1 M 33 = 1 := by rw [← hμ1, jI_sI, if_neg (by omega), jI_sI, if_pos ⟨rfl, rfl⟩]
  have v29 : jI μ1 M 29 = 0 := by rw [← hμ1, jI_sI, if_pos ⟨rfl, rfl⟩]
  have hP1 := hP.sm s1 (by decide) (by decide) (by decide) (by decide) (by decide)
  have hA1 := hA.sm s1 (by decide) (by decide) (by decide) (by decide) (by decide)
  rw [hP1.1, hA1.1]
  have S1 : sm M RF RA μ μ1 := s1.wk (by decide) (by decide)
  have L1 : clsLow M μ μ1 := clsLow.sm s1 (by decide) (by decide)
  unfold mBeg at h
  unfold sRead
  by_cases q : Cd l 0 = -2000
  · rw [if_pos q] at h
    have hb := h.sm s1 (by decide)
    rw [if_neg hb.2.2.1, if_pos q, fX11_reads_b34, jfuel_5, fX11_reads_b36, if_pos rfl, fX11_reads_b90, if_pos rfl]
    exact (m_rdbad (ts := []) (k := 0) hb hP1.2.2 hA1.2.2 hP.2.1 hA.2.1).mono fun r ν ⟨q1, q2, q3⟩ => ⟨S1.tr q1, L1.tr q2, q3⟩
  · rw [if_neg q] at h
    have hA0 := h.sm s1 (by decide) (by decide)
    rw [(mA_ok hA0).2.1, if_pos rfl, if_neg q, fX11_reads_b34]
    have hN : mNa M μ1 [] := ⟨v29, by simp, ⟨[], fun n hn => by simp at hn, fun w hw => by simp at hw, rfl⟩, fun n hn => by simp at hn⟩
    exact (reads_l (F := F) hP.2.1 hA.2.1 jfuel 26 [] P A 0 [] μ1 hA0 ⟨hF.sm s1 (by decide) (by decide), hN, v33⟩ ((s1.fI (by decide)).trans h56) (fun i hi => by simp at hi) (by simp) (by simp) hP1 (List.prefix_refl _) hA1 (List.prefix_refl _) (by simp) (jfuel_gt (by simp))).mono fun r ν ⟨q1, q2, q3⟩ => ⟨S1.tr q1, L1.tr q2, q3⟩
