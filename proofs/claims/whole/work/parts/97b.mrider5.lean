/-! the reference: rider, whole -/
theorem mBeg.sm {M : Nat} {μ ν : JM} {l : List Int32} {fs as : List Nat} (h : mBeg M μ l) (s : sm M fs as μ ν) (h1 : ∀ i ∈ [12, 13, 14, 15, 16, 17, 18, 20, 21], i ∉ fs) (h2 : ∀ i ∈ [8, 9], i ∉ as) : mBeg M ν l := by
  unfold mBeg at h ⊢
  split
  · next q => rw [if_pos q] at h; exact h.sm s (h1 18 (by decide))
  · next q => rw [if_neg q] at h; exact h.sm s h1 h2
def rQ (M : Nat) (s : SS) (l : List Int32) (u : Nat) (cls : List Cl) (r : Int32) (ν : JM) : Prop := match sRid (Cd l) (sF s) (sP s) (sA s) cls with
  | .error e => r = fltI l e ∧ mSt M ν s
  | .ok y => if 900 < (txB y.1).length then r = -2 ∧ mSt M ν s else match sRead (Cd (txB y.1)) (sF s) (sP s) (sA s) with
    | .error _ => r = -2 ∧ mSt M ν s
    | .ok z => r = nI z.1.length ∧ mSt M ν (wR (wTx s z.2.1 z.2.2.1 (stlC z.1) u) (sR s ++ [(u, sV s u, (sTx s).length)]))
theorem m_rExit {M u bm : Nat} {μ : JM} {s : SS} {l : List Int32} {cls : List Cl} (hu : u < 4) (h : mSt M μ s) (hb : mBeg M μ l) (hbl : byt l) (hT : (sTx s).length < 600) (hR : (sR s).length < 600) (hF : sF s ≠ []) (hQ : mPq M μ cls bm) (hbm : bm ≤ 1900) (hcl : cls.length ≤ 24) (hg : ∀ d ∈ cls, good d)
    (hroom : ∀ y z, sRid (Cd l) (sF s) (sP s) (sA s) cls = .ok y → ¬ 900 < (txB y.1).length → sRead (Cd (txB y.1)) (sF s) (sP s) (sA s) = .ok z → ptS (sTx s ++ [stlC z.1]) ≤ 300000) :
    Res (rExit M (nI u) μ) (rQ M s l u cls) := by
  have h1 := h.1
  have fa := (mFx.ne h.2.2.2.1 hF).1
  unfold rExit
  refine Res.cl (m_changes hb fa h.2.2.2.2.2.2.2.2.1 hQ hbm hcl h.2.2.2.2.1 h.2.2.2.2.2.1) fun r μ1 ⟨s1, c1, z1⟩ => ?_
  obtain ⟨hP1, hA1, v56, z1⟩ := z1
  have st1 : mSt M μ1 s := mSt_re h (s1.wk (by decide) (by decide)) c1 hP1 hA1 v56
  have hM1 := st1.1
  unfold rQ
  cases hr : sRid (Cd l) (sF s) (sP s) (sA s) cls with
  | error e =>
    rw [hr] at z1
    obtain ⟨rfl, z2⟩ := z1
    rw [if_pos rfl, jck_of (by rw [hM1.1]; rfl), z2.2.1]
    exact .ret ⟨rfl, st1⟩
  | ok y =>
    rw [hr] at z1
    obtain ⟨rfl, -, bm2, q2⟩ := z1
    rw [if_neg (by decide), jck_of (by rw [hM1.1]; rfl), jlt_is]
    have s2 : sm M [12] [] μ1 (jsI μ1 M 12 0) := sm.sF (by decide)
    have v2 : jI (jsI μ1 M 12 0) M 12 = 0 := by rw [jI_sI, if_pos ⟨rfl, rfl⟩]
    generalize jsI μ1 M 12 0 = μ2 at s2 v2 ⊢
    have st2 : mSt M μ2 s := st1.sm s2 (by decide) (by decide)
    have hgy := sRid_good (Cd_wrd hbl) hg hr
    refine bt_l (bm := bm2) (x2 := nI u) (cls := y.1) (μ0 := μ2) hgy (fun hl ν sν tν => ?_) (fun hl ν sν => ?_) jfuel 0 μ2 st2.1 sm.rf (q2.sm s2 (by decide) (by decide)) v2 Sg.nil (by simp [txB, jT2, cB]) (by omega) (jfuel_gt (by have := q2.2.1; omega))
    · simp only [if_neg (show ¬ 900 < (txB y.1).length by omega)]
      exact m_rEnd hu (st2.sm sν (by decide) (by decide)) tν (txB_byt y.1 hgy) hl hT hR hF (fun z hz => hroom y z hr (by omega) hz)
    · simp only [if_pos hl]
      exact .ret ⟨rfl, st2.sm sν (by decide) (by decide)⟩
theorem m_takeBase {M : Nat} {μ μ1 : JM} {s : SS} (h : mSt M μ s) (s1 : sm M TF [8] μ μ1) (t1 : mTape M μ1 []) : mSt M μ1 (wTp s []) := by
  obtain ⟨h1, h2, h3, h4, h5, h6, h7, h8, h9, h10, h11, h12, h13, h14, h15⟩ := h
  exact ⟨s1.mt h1, t1, nil_byt, h4.sm s1 (by decide) (by decide), h5.sm s1 (by decide) (by decide) (by decide) (by decide) (by decide), h6.sm s1 (by decide) (by decide) (by decide) (by decide) (by decide), h7.sm s1 (by decide) (by decide), h8.sm s1 (by decide) (clsLow.sm s1 (by decide) (by decide)), (s1.fI (by decide)).trans h9, h10.sm s1 (by decide) (by decide), h11.sm s1 (by decide), h12.sm s1 (by decide) (by decide), h13.sm s1 (by decide) (by decide), (s1.fI (by decide)).trans h14, (s1.fI (by decide)).trans h15⟩
/-- what the spec keeps of its texts -/
def gTx (s : SS) : Prop := (∀ t, t < (sTx s).length → txA s t ≠ [] ∧ ∀ d ∈ txA s t, good d) ∧ (∀ v, v < 4 → sV s v ≠ none → sF s ≠ [])
theorem m_rider {M : Nat} {μ : JM} {s : SS} (v w : Int32) (h : mSt M μ s) (hT : (sTx s).length < 600) (hR : (sR s).length < 600) (hG : gTx s) (hroom : ptS (sTx (spRider v w s).2) ≤ 300000) : Res (fX11_rider M v w μ) (fun r ν => r = (spRider v w s).1 ∧ mSt M ν (spRider v w s).2) := by
  have h1 := h.1
  rw [fX11_rider, jck_of (by rw [h1.1]; rfl)]
  refine Res.cl (m_takesTape h1 h.2.1 h.2.2.1) fun _ μ1 ⟨s1, t1, b1⟩ => ?_
  have hM1 := b1.mt
  have base := m_takeBase h s1 t1
  have eV : vAt (wTp s []) v = vAt s v := rfl
  rw [jck_of (by rw [hM1.1]; rfl), m_isVersion v base hT, jcl_0, eV]
  unfold spRider at hroom ⊢
  cases hv : vAt s v with
  | none => exact .ret ⟨rfl, base⟩
  | some t =>
    rw [hv] at hroom
    simp only [Option.isSome_some, if_true] at hroom ⊢
    rw [if_neg (by decide), m_isPlace, jcl_0]
    cases hw : inR w 4 with
    | none => exact .ret ⟨rfl, base⟩
    | some u =>
      rw [hw] at hroom
      obtain ⟨rfl, hu⟩ := inR_some hw
      simp only [Option.isSome_some, if_true] at hroom ⊢
      rw [if_neg (by decide)]
      obtain ⟨a, ha, hVa⟩ : ∃ a, inR v 4 = some a ∧ sV s a = some t := by
        unfold vAt at hv
        cases hi : inR v 4 with
        | none => rw [hi] at hv; cases hv
        | some a => rw [hi] at hv; exact ⟨a, rfl, hv⟩
      obtain ⟨rfl, ha4⟩ := inR_some ha
      have vs := base.2.2.2.2.2.2.2.1
      obtain ⟨e34, ev⟩ := vs a ha4
      obtain ⟨tl, e20, l24, -⟩ := ev t hVa
      have tl : t < (sTx s).length := tl
      have e34 : jI μ1 (M + 34) a = nI t := by rw [e34]; show oI 0 (sV s a) = _; rw [hVa]; simp only [oI, Nat.zero_add]
      have pool := base.2.2.2.2.2.2.1
      have egB : ((sTx s).map txB).getD t [] = txB (txA s t) := by unfold txA; simp [List.getD, tl]
      obtain ⟨o, o1, o2, o3, o4, o5, o6⟩ := pool.2.2.2 t (by rw [List.length_map]; exact tl)
      have eTx : sTx (wTp s []) = sTx s := rfl
      rw [eTx, egB] at o2 o3 o4 o5 o6
      have pcap := pool.2.2.1
      rw [eTx] at pcap
      have r34 : ∀ x y, jI (jsI (jsI μ1 M 51 x) M 55 y) (M + 34) a = nI t := fun x y => by rw [jI_sI, if_neg (by omega), jI_sI, if_neg (by omega)]; exact e34
      have r32 : ∀ x y, jI (jsI (jsI μ1 M 51 x) M 55 y) (M + 32) t = nI o := fun x y => by rw [jI_sI, if_neg (by omega), jI_sI, if_neg (by omega)]; exact o1
      have r33 : ∀ x y, jI (jsI (jsI μ1 M 51 x) M 55 y) (M + 33) t = nI (txB (txA s t)).length := fun x y => by rw [jI_sI, if_neg (by omega), jI_sI, if_neg (by omega)]; exact o2
      simp only [jck_true, jde_is, jlt_is, jcl_0, beq_self_eq_true, jT_sI, jT_sJ, jP_sI, jP_sJ, jJ_sI, jI_sJ, jZ_sI, jZ_sJ, hM1.1, mP_version hM1, mT_version hM1, mP_poolFrom hM1, mT_poolFrom hM1, mP_poolSize hM1, mT_poolSize hM1, r34, r32, r33, nI_add, jin_nI ha4 (show 4 < 2 ^ 31 by decide), jin_nI (show t < 600 by omega) (show 600 < 2 ^ 31 by decide), nI_clamp (show a < 2 ^ 31 by omega), nI_clamp (show t < 2 ^ 31 by omega)]
      have s2 : sm M [51, 55] [] μ1 (jsI (jsI μ1 M 51 0) M 55 0) := (sm.sF (by decide)).tr (sm.sF (by decide))
      have v51 : jI (jsI (jsI μ1 M 51 0) M 55 0) M 51 = 0 := by rw [jI_sI, if_neg (by omega), jI_sI, if_pos ⟨rfl, rfl⟩]
      have v55 : jI (jsI (jsI μ1 M 51 0) M 55 0) M 55 = 0 := by rw [jI_sI, if_pos ⟨rfl, rfl⟩]
      generalize jsI (jsI μ1 M 51 0) M 55 0 = μ2 at s2 v51 v55 ⊢
      obtain ⟨gne, gg⟩ := hG.1 t tl
      have hF : sF s ≠ [] := hG.2 a ha4 (by rw [hVa]; simp)
      obtain ⟨c, rr, ecr⟩ : ∃ c rr, txA s t = c :: rr := by
        cases hq : txA s t with
        | nil => exact absurd hq gne
        | cons c rr => exact ⟨c, rr, rfl⟩
      have l24' : (txA s t).length ≤ 24 := l24
      rw [ecr] at o2 o3 o4 o5 gg l24' ⊢
      simp only [List.length_cons] at l24'
      refine sp_l (last := o + (txB (c :: rr)).length) (by omega) rr c [] 0 o jfuel μ2 (s2.mt hM1) gg ⟨v51, by simp, v55, by omega, fun i hi => by simp at hi⟩ (by simp; omega) (by rw [s2.aI (by decide) (by decide)]; exact o4) rfl (by omega) (by have hj := jfuel_gt (n := 1903) (by omega); omega) (fun ν bm2 s3 q3 hb3 => ?_)
      have s23 : sm M [51, 55] [35, 36, 37] μ1 ν := (s2.wk (by decide) (by decide)).tr s3
      rw [List.nil_append] at q3
      refine (m_rExit (l := sTp s) (s := wTp s []) hu (base.sm s23 (by decide) (by decide)) (b1.sm s23 (by decide) (by decide)) h.2.2.1 hT hR hF q3 (by omega) (by simp; omega) gg (fun y z hy hy2 hz => ?_)).mono ?_
      · rw [ecr] at hroom
        have hy' : sRid (Cd (sTp s)) (sF s) (sP s) (sA s) (c :: rr) = .ok y := hy
        have hz' : sRead (Cd (txB y.1)) (sF s) (sP s) (sA s) = .ok z := hz
        rw [hy'] at hroom
        dsimp only at hroom
        rw [if_neg hy2, hz'] at hroom
        exact hroom
      · intro r ρ hq
        unfold rQ at hq
        have e1 : sF (wTp s []) = sF s := rfl
        have e2 : sP (wTp s []) = sP s := rfl
        have e3 : sA (wTp s []) = sA s := rfl
        have e4 : sR (wTp s []) = sR s := rfl
        have e5 : sV (wTp s []) = sV s := rfl
        rw [e1, e2, e3, e4, e5, eTx] at hq
        cases hy : sRid (Cd (sTp s)) (sF s) (sP s) (sA s) (c :: rr) with
        | error e => rw [hy] at hq; exact hq
        | ok y =>
          rw [hy] at hq
          dsimp only at hq ⊢
          by_cases z0 : 900 < (txB y.1).length
          · rw [if_pos z0] at hq ⊢; exact hq
          · rw [if_neg z0] at hq ⊢
            cases hz : sRead (Cd (txB y.1)) (sF s) (sP s) (sA s) with
            | error e => rw [hz] at hq; exact hq
            | ok z => rw [hz] at hq; exact hq
