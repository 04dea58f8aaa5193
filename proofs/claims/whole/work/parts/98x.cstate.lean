/-! the class's state -/
def cVr (B hi : Nat) (μ : JM) (a : Nat) (cls : List Cl) (ser : Nat) : Prop := ∃ q, cL (B + 121) hi true 24 μ a q cls ∧ jI μ a 1 = nI ser
def cRe (B : Nat) (μ : JM) (va : Nat → Nat) (p : Option Nat) (e : Nat × Option Nat × Nat) : Prop := ∃ a, p = some a ∧ (B + 121 ≤ a ∧ a < jZ μ) ∧ (jT μ a).1 = 6 ∧ jI μ a 0 = nI e.1 ∧ jP μ a 1 = e.2.1.map va ∧ jI μ a 2 = nI e.2.2
def cTV (B : Nat) (μ : JM) (s : SS) : Prop := ∃ va : Nat → Nat, (∀ t, t < (sTx s).length → cVr B (jZ μ) μ (va t) (txA s t) t) ∧ (∀ v, v < 4 → jP μ (B + 69) v = (sV s v).map va ∧ ∀ t, sV s v = some t → t < (sTx s).length) ∧ ∀ i, i < (sR s).length → cRe B μ va (jP μ (B + 70) i) ((sR s).getD i (0, none, 0)) ∧ ∀ t, ((sR s).getD i (0, none, 0)).2.1 = some t → t < (sTx s).length
def cWd (B : Nat) (μ : JM) (s : SS) : Prop := cLang B μ ∧ cW B 9 8 μ (sF s) ∧ cW B 11 6 μ (sP s) ∧ cW B 13 12 μ (sA s) ∧ jI μ (B + 66) 0 = 0
def cTp (B : Nat) (μ : JM) (s : SS) : Prop := cS B 3 900 μ (sTp s) ∧ (sTp s).length ≤ 900 ∧ byt (sTp s)
def cOu (B : Nat) (μ : JM) (s : SS) : Prop := cS B 5 1800 μ (sO s) ∧ (sO s).length ≤ 1800
def cNu (B : Nat) (μ : JM) (s : SS) : Prop := jI μ B 13 = nI (sTx s).length ∧ jI μ B 14 = nI (sR s).length ∧ (sR s).length ≤ 256 ∧ jI μ B 15 = sQd s ∧ jI μ B 16 = sQb s
def cWo (B : Nat) (μ : JM) (s : SS) : Prop := ∀ i, i < 4 → jJ μ (B + 72) i = sW s i
def cCa (B : Nat) (μ : JM) (s : SS) : Prop := jI μ (B + 73) 1 = nI (fb_ct (sFr s) 10000) ∧ ∀ d, d < 10000 → lb (jJ μ (B + 74) (d / 64)) (d % 64) = sFr s d
def cSt (B : Nat) (μ : JM) (s : SS) : Prop := CT B μ ∧ cWd B μ s ∧ cTp B μ s ∧ cOu B μ s ∧ cTV B μ s ∧ cNu B μ s ∧ cWo B μ s ∧ cCa B μ s
theorem cW.kr {B i mx z : Nat} {μ ν : JM} {P : List Int64} {as : List Nat} (h : cW B i mx μ P) (s : cr B z as μ ν) (hz : B + (i + 1) < z) (h1 : i ∉ as) (h2 : i + 1 ∉ as) : cW B i mx ν P := ⟨by rw [s.iI (by omega) h1]; exact h.1, h.2.1, fun j hj => by rw [s.iJ hz h2]; exact h.2.2 j hj⟩
theorem cS.kr {B i room z : Nat} {μ ν : JM} {l : List Int32} {as : List Nat} (h : cS B i room μ l) (s : cr B z as μ ν) (hz : B + (i + 1) < z) (h1 : i ∉ as) (h2 : i + 1 ∉ as) : cS B i room ν l := ⟨by rw [s.iI (by omega) h1]; exact h.1, h.2.1, fun j hj hr => by rw [s.iI hz h2]; exact h.2.2 j hj hr⟩
theorem cVr.kr {B z : Nat} {μ ν : JM} {as : List Nat} {a ser : Nat} {cls : List Cl} (h : cVr B z μ a cls ser) (s : cr B z as μ ν) (ha : ∀ i ∈ as, i < 121) (hz : z = jZ μ) : cVr B (jZ ν) ν a cls ser := by
  obtain ⟨q, h1, h2⟩ := h
  have D := s.dyn ha (by omega)
  refine ⟨q, (h1.kp D).wk (Nat.le_refl _) (by have := s.1; omega), ?_⟩
  rw [(D a h1.1.1 h1.1.2).2.1]; exact h2
theorem cRe.kr {B : Nat} {μ ν : JM} {as : List Nat} {va : Nat → Nat} {p : Option Nat} {e : Nat × Option Nat × Nat} (h : cRe B μ va p e) (s : cr B (jZ μ) as μ ν) (ha : ∀ i ∈ as, i < 121) : cRe B ν va p e := by
  obtain ⟨a, h1, h2, h3, h4, h5, h6⟩ := h
  obtain ⟨b1, b2, b3, b4⟩ := s.dyn ha (Nat.le_refl _) a h2.1 h2.2
  exact ⟨a, h1, ⟨h2.1, Nat.lt_of_lt_of_le h2.2 s.1⟩, by rw [b1]; exact h3, by rw [b2]; exact h4, by rw [b4]; exact h5, by rw [b2]; exact h6⟩
theorem cTV.kr {B : Nat} {μ ν : JM} {as : List Nat} {s : SS} (h : cTV B μ s) (r : cr B (jZ μ) as μ ν) (ha : ∀ i ∈ as, i < 121) (hB : B + 121 ≤ jZ μ) : cTV B ν s := by
  obtain ⟨va, h1, h2, h3⟩ := h
  have e69 : jP ν (B + 69) = jP μ (B + 69) := r.iP (by omega) (by decide)
  have e70 : jP ν (B + 70) = jP μ (B + 70) := r.iP (by omega) (by decide)
  exact ⟨va, fun t ht => (h1 t ht).kr r ha rfl, fun v hv => ⟨by rw [e69]; exact (h2 v hv).1, (h2 v hv).2⟩, fun i hi => by rw [e70]; exact ⟨(h3 i hi).1.kr r ha, (h3 i hi).2⟩⟩
theorem cWd.kr {B z : Nat} {μ ν : JM} {as : List Nat} {s : SS} (h : cWd B μ s) (r : cr B z as μ ν) (hz : B + 121 ≤ z) (ha : ∀ i ∈ [1, 2, 9, 10, 11, 12, 13, 14], i ∉ as) (h66 : jI ν (B + 66) 0 = 0) : cWd B ν s := ⟨cW.kr h.1 r (by omega) (ha 1 (by decide)) (ha 2 (by decide)), h.2.1.kr r (by omega) (ha 9 (by decide)) (ha 10 (by decide)), h.2.2.1.kr r (by omega) (ha 11 (by decide)) (ha 12 (by decide)), h.2.2.2.1.kr r (by omega) (ha 13 (by decide)) (ha 14 (by decide)), h66⟩
theorem cTp.kr {B z : Nat} {μ ν : JM} {as : List Nat} {s : SS} (h : cTp B μ s) (r : cr B z as μ ν) (hz : B + 121 ≤ z) (h3 : 3 ∉ as) (h4 : 4 ∉ as) : cTp B ν s := ⟨h.1.kr r (by omega) h3 h4, h.2⟩
theorem cOu.kr {B z : Nat} {μ ν : JM} {as : List Nat} {s : SS} (h : cOu B μ s) (r : cr B z as μ ν) (hz : B + 121 ≤ z) (h3 : 5 ∉ as) (h4 : 6 ∉ as) : cOu B ν s := ⟨h.1.kr r (by omega) h3 h4, h.2⟩
theorem cNu.kr {B z : Nat} {μ ν : JM} {as : List Nat} {s : SS} (h : cNu B μ s) (r : cr B z as μ ν) (hz : B + 121 ≤ z) (h0 : 0 ∉ as) : cNu B ν s := by
  have e : jI ν B = jI μ B := r.iI (i := 0) (by omega) h0
  unfold cNu; rw [e]; exact h
theorem cWo.kr {B z : Nat} {μ ν : JM} {as : List Nat} {s : SS} (h : cWo B μ s) (r : cr B z as μ ν) (hz : B + 121 ≤ z) (h0 : 72 ∉ as) : cWo B ν s := by
  unfold cWo; rw [r.iJ (by omega) h0]; exact h
theorem cCa.kr {B z : Nat} {μ ν : JM} {as : List Nat} {s : SS} (h : cCa B μ s) (r : cr B z as μ ν) (hz : B + 121 ≤ z) (h0 : 73 ∉ as) (h1 : 74 ∉ as) : cCa B ν s := by
  unfold cCa; rw [r.iI (by omega) h0, r.iJ (by omega) h1]; exact h
/-- cells that a call may change while the state stays -/
def STC : List Nat := [0, 1, 2, 3, 4, 5, 6, 9, 10, 11, 12, 13, 14, 72, 73, 74]
theorem cSt.kr {B : Nat} {μ ν : JM} {as : List Nat} {s : SS} (h : cSt B μ s) (r : cr B (jZ μ) as μ ν) (ha : ∀ i ∈ as, i < 121) (hn : ∀ i ∈ STC, i ∉ as) (h66 : jI ν (B + 66) 0 = 0) : cSt B ν s := by
  obtain ⟨h1, h2, h3, h4, h5, h6, h7, h8⟩ := h
  have hB := h1.2.2
  exact ⟨r.ct h1 hB, h2.kr r hB (fun i hi => hn i (by revert i; decide)) h66, h3.kr r hB (hn 3 (by decide)) (hn 4 (by decide)), h4.kr r hB (hn 5 (by decide)) (hn 6 (by decide)), h5.kr r ha hB, h6.kr r hB (hn 0 (by decide)), h7.kr r hB (hn 72 (by decide)), h8.kr r hB (hn 73 (by decide)) (hn 74 (by decide))⟩
/-- the reference's cells stay -/
def kM (B : Nat) (μ ν : JM) : Prop := jZ μ ≤ jZ ν ∧ ∀ i, i ≤ 44 → sameC μ ν (B + 76 + i)
theorem kM.rf {B : Nat} {μ : JM} : kM B μ μ := ⟨Nat.le_refl _, fun _ _ => sameC.rf⟩
theorem kM.tr {B : Nat} {μ ν ρ : JM} (h : kM B μ ν) (g : kM B ν ρ) : kM B μ ρ := ⟨Nat.le_trans h.1 g.1, fun i hi => (h.2 i hi).tr (g.2 i hi)⟩
theorem cr.km {B z : Nat} {as : List Nat} {μ ν : JM} (r : cr B z as μ ν) (hz : B + 121 ≤ z) (hj : B + 121 ≤ jZ μ) (ha : ∀ i ∈ as, i < 76) : kM B μ ν := ⟨r.1, fun i hi => ⟨r.2.1 _ (by omega), (r.2.2.2 _ (by omega) (fun j hj e => by have := ha j hj; omega)).1, (r.2.2.2 _ (by omega) (fun j hj e => by have := ha j hj; omega)).2, funext fun k => r.2.2.1 _ k (by omega) (fun e => by omega)⟩⟩
theorem mSt.out {M : Nat} {μ ν : JM} {s : SS} (h : mSt M μ s) (H : ∀ i, i ≤ 44 → sameC μ ν (M + i)) : mSt M ν s := by
  have hI : jI ν M = jI μ M := (H 0 (by decide)).2.1
  have hP : jP ν M = jP μ M := (H 0 (by decide)).2.2.2
  have hT : jT ν M = jT μ M := (H 0 (by decide)).1
  have eI : ∀ i, i ≤ 44 → jI ν (M + i) = jI μ (M + i) := fun i hi => (H i hi).2.1
  have eJ : ∀ i, i ≤ 44 → jJ ν (M + i) = jJ μ (M + i) := fun i hi => (H i hi).2.2.1
  have hmt : MT M ν := by
    have hM := h.1
    refine ⟨by rw [hT]; exact hM.1, fun e he => ?_⟩
    have : ∀ e ∈ mtab, e.2.1 ≤ 44 := by decide
    rw [hP, (H _ (this e he)).1]; exact hM.2 e he
  obtain ⟨h1, h2, h3, h4, h5, h6, h7, h8, h9, h10, h11, h12, h13, h14, h15⟩ := h
  refine ⟨hmt, ?_, h3, ?_, ?_, ?_, ?_, ?_, by rw [hI]; exact h9, ?_, ?_, ?_, ?_, by rw [hI]; exact h14, by rw [hI]; exact h15⟩
  · unfold mTape; rw [hI, eI 1 (by decide)]; exact h2
  · unfold mFx mFa mW mTb; unfold mFx mFa mW mTb at h4; rw [hI, eI 2 (by decide), eI 3 (by decide), eJ 10 (by decide), eJ 12 (by decide)]; exact h4
  · unfold mWl mW mTb; unfold mWl mW mTb at h5; rw [hI, eI 4 (by decide), eI 5 (by decide)]; exact h5
  · unfold mWl mW mTb; unfold mWl mW mTb at h6; rw [hI, eI 6 (by decide), eI 7 (by decide)]; exact h6
  · unfold mPool; unfold mPool at h7; rw [hI, eI 31 (by decide), eI 32 (by decide), eI 33 (by decide)]; exact h7
  · unfold mVs mCls mCl mCp mLab mHo; unfold mVs mCls mCl mCp mLab mHo at h8
    rw [eI 34 (by decide), eI 20 (by decide), eI 21 (by decide), eI 22 (by decide), eI 23 (by decide), eI 24 (by decide), eI 25 (by decide), eI 26 (by decide), eI 27 (by decide), eI 28 (by decide), eI 29 (by decide), eJ 30 (by decide), eJ 10 (by decide)]; exact h8
  · unfold mRi; unfold mRi at h10; rw [hI, eI 38 (by decide), eI 39 (by decide), eI 40 (by decide)]; exact h10
  · unfold mWo; unfold mWo at h11; rw [eJ 11 (by decide)]; exact h11
  · unfold mOu; unfold mOu at h12; rw [hI, eI 41 (by decide)]; exact h12
  · unfold mFr; unfold mFr at h13; rw [hI, eI 44 (by decide)]; exact h13
theorem oM.tcr {B : Nat} {μ ν : JM} (o : oM (B + 76) μ ν) : cr B (jZ μ) (List.range' 76 45) μ ν := by
  refine ⟨by rw [o.1]; omega, fun a _ => by rw [o.2.1], fun a k _ _ => by rw [o.2.2.1], fun a _ h => ?_⟩
  refine o.2.2.2 a ?_
  by_cases q : a < B + 76
  · exact Or.inl q
  · by_cases q2 : B + 76 + 44 < a
    · exact Or.inr q2
    · exfalso
      exact h (a - B) (by rw [List.mem_range'_1]; omega) (by omega)
/-! the TAPE is used -/
def TPC : List Nat := [15, 16, 17, 3]
theorem c_useTape {B : Nat} {μ : JM} {s : SS} (h : cSt B μ s) : Res (fX10_useTape B μ) (fun _ ν => cs B (jZ μ) TPC μ ν ∧ jZ ν = jZ μ ∧ cSt B ν (wTp s []) ∧ ∃ n, cAt B ν (sTp s) n 0) := by
  obtain ⟨h1, h2, h3, h4, h5, h6, h7, h8⟩ := h
  have hB := h1.2.2
  unfold fX10_useTape
  simp only [jck_true, jde_is, jlt_is, jcl_0, beq_self_eq_true, jT_sI, jT_sJ, jP_sI, jP_sJ, jJ_sI, jI_sJ, jZ_sI, jZ_sJ, cT0 h1, cP0_6 h1, cT15 h1, cP0_0 h1]
  have sc : SC B 3 μ (sTp s) := ⟨sh3 h1, h3.1, h3.2.1, h3.2.2⟩
  refine Res.cl (c_scan (z := jZ μ) (Or.inl rfl) hB h1 sc h2.1) fun _ μ1 ⟨s1, z1, n, a1⟩ => ?_
  have hC1 := s1.ct h1 hB
  simp only [jck_true, jde_is, jlt_is, jcl_0, beq_self_eq_true, jT_sI, jT_sJ, jP_sI, jP_sJ, jJ_sI, jI_sJ, jZ_sI, jZ_sJ, cT0 hC1, cP0_0 hC1, cT3 hC1]
  refine Res.cl (c_clr (z := jZ μ) (sh3 hC1)) fun _ ν ⟨s2, w2, z2⟩ => ?_
  have S : cs B (jZ μ) TPC μ ν := (s1.wk (by decide)).tr (s2.wk (by decide))
  refine .ret ⟨S, by rw [z2, z1], ⟨S.ct h1 hB, ?_, ⟨w2, by show 0 ≤ 900; omega, nil_byt⟩, h4.kr S.tocr hB (by decide) (by decide), h5.kr S.tocr (by decide) hB, h6.kr S.tocr hB (by decide), h7.kr S.tocr hB (by decide), h8.kr S.tocr hB (by decide) (by decide)⟩, n, a1.ke s2 (by omega) (by decide) (by decide) (by decide)⟩
  exact h2.kr S.tocr hB (by decide) (by rw [S.iI (by omega) (by decide)]; exact h2.2.2.2.2)
