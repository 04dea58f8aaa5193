/-! SPEC: rider -/
def vAt (s : SS) (v : Int32) : Option Nat := match inR v 4 with
  | none => none
  | some u => sV s u
def txA (s : SS) (t : Nat) : List Cl := (sTx s).getD t []
def spRider (v w : Int32) (s : SS) : Int32 × SS := match vAt s v with
  | none => (-1, wTp s [])
  | some t => match inR w 4 with
    | none => (-1, wTp s [])
    | some u => match sRid (Cd (sTp s)) (sF s) (sP s) (sA s) (txA s t) with
      | .error e => (fltI (sTp s) e, wTp s [])
      | .ok y => if 900 < (txB y.1).length then (-2, wTp s []) else match sRead (Cd (txB y.1)) (sF s) (sP s) (sA s) with
        | .error _ => (-2, wTp s [])
        | .ok z => (nI z.1.length, wR (wTx (wTp s []) z.2.1 z.2.2.1 (stlC z.1) u) (sR s ++ [(u, sV s u, (sTx s).length)]))
theorem sCh1_good {C : Nat → Int64} {F P A : List Int64} {cls : List Cl} {k : Nat} {y : List Cl × Nat} (hC : wrd C) (hg : ∀ d ∈ cls, good d) (h : sCh1 C F P A cls k = .ok y) : ∀ d ∈ y.1, good d := by
  unfold sCh1 at h
  by_cases q1 : C k = -3015
  · rw [if_pos q1] at h
    obtain ⟨k1, -, h⟩ := eb_inv h
    obtain ⟨_, -, h⟩ := eb_inv h
    cases hl : lfnd cls (C k1) false with
    | none => rw [hl] at h; cases h
    | some p =>
      rw [hl] at h
      obtain ⟨k2, -, h⟩ := eb_inv h
      injection h with h
      rw [← h]
      exact fun d hd => hg d (List.mem_of_mem_eraseIdx hd)
  · rw [if_neg q1] at h
    by_cases q2 : C k = -3016
    · rw [if_pos q2] at h
      obtain ⟨k1, -, h⟩ := eb_inv h
      obtain ⟨z, hz, h⟩ := eb_inv h
      cases hl : lfnd cls z.1.2.1 (isDf z.1) with
      | none => rw [hl] at h; cases h
      | some p =>
        rw [hl] at h
        injection h with h
        rw [← h]
        intro d hd
        rcases List.mem_or_eq_of_mem_set hd with t | t
        · exact hg d t
        · rw [t]; exact sClause_wf hC hz
    · rw [if_neg q2] at h
      by_cases q3 : C k = -3017
      · rw [if_pos q3] at h
        obtain ⟨k1, -, h⟩ := eb_inv h
        obtain ⟨z, hz, h⟩ := eb_inv h
        injection h with h
        rw [← h]
        intro d hd
        rcases List.mem_append.mp hd with t | t
        · exact hg d t
        · rw [List.mem_singleton] at t; rw [t]; exact sClause_wf hC hz
      · rw [if_neg q3] at h; cases h
theorem sCh_good {C : Nat → Int64} {F P A : List Int64} (hC : wrd C) : ∀ (fu n : Nat) (cls : List Cl) (k : Nat) (y : List Cl × Nat), (∀ d ∈ cls, good d) → sCh C F P A fu n cls k = .ok y → ∀ d ∈ y.1, good d
  | 0, n, cls, k, y, _, h => by rw [sCh] at h; cases h
  | fu + 1, n, cls, k, y, hg, h => by
    rw [sCh] at h
    obtain ⟨-, h⟩ := ite_inv h
    obtain ⟨x, hx, h⟩ := eb_inv h
    have g1 := sCh1_good hC hg hx
    by_cases q : C x.2 = 0
    · rw [if_pos q] at h; injection h with h; rw [← h]; exact g1
    · rw [if_neg q] at h
      obtain ⟨k2, hk, h⟩ := eb_inv h
      exact sCh_good hC fu _ _ _ y g1 h
theorem sRid_good {C : Nat → Int64} {F P A : List Int64} {cls : List Cl} {y : List Cl × Nat} (hC : wrd C) (hg : ∀ d ∈ cls, good d) (h : sRid C F P A cls = .ok y) : ∀ d ∈ y.1, good d := by
  unfold sRid at h
  obtain ⟨-, h⟩ := ite_inv h
  exact sCh_good hC 13 0 cls 0 y hg h
theorem txB_byt : ∀ (cls : List Cl), (∀ d ∈ cls, good d) → byt (txB cls)
  | [], _ => nil_byt
  | [c], h => good_byt (h c List.mem_cons_self)
  | c :: d :: r, h => by
    rw [txB_cons (h d (List.mem_cons_of_mem _ List.mem_cons_self))]
    refine (good_byt (h c List.mem_cons_self)).app ?_
    exact byt.app (x := [59, 32]) (fun x hx => by revert x; decide) (txB_byt (d :: r) (fun x hx => h x (List.mem_cons_of_mem _ hx)))
/-! the reference: rider -/
def RDF : List Nat := [12, 13, 14, 15, 16, 17, 18, 20, 21, 5, 8, 29, 57, 51, 55, 56, 33]
def RDA : List Nat := [4, 5, 6, 7, 8, 9, 13, 14, 15, 16, 17, 18, 19, 20, 21, 22, 23, 24, 25, 26, 27, 28, 29, 30, 35, 36, 37]
theorem mSt_re {M : Nat} {μ ν : JM} {s : SS} (h : mSt M μ s) (q : sm M RDF RDA μ ν) (c : clsLow M μ ν) (hP : mWl M ν 5 4 5 6 (sP s)) (hA : mWl M ν 8 6 7 12 (sA s)) (h56 : jI ν M 56 = 0) : mSt M ν s := by
  obtain ⟨h1, h2, h3, h4, h5, h6, h7, h8, h9, h10, h11, h12, h13, h14, h15⟩ := h
  exact ⟨q.mt h1, h2.sm q (by decide) (by decide), h3, h4.sm q (by decide) (by decide), hP, hA, h7.sm q (by decide) (by decide), h8.sm q (by decide) c, h56, h10.sm q (by decide) (by decide), h11.sm q (by decide), h12.sm q (by decide) (by decide), h13.sm q (by decide) (by decide), (q.fI (by decide)).trans h14, (q.fI (by decide)).trans h15⟩
theorem m_isVersion {M : Nat} {μ : JM} {s : SS} (v : Int32) (h : mSt M μ s) (hT : (sTx s).length < 600) : fX11_isVersion M v μ = some (if (vAt s v).isSome then 1 else 0, μ, 0, 0) := by
  obtain ⟨h1, h2, h3, h4, h5, h6, h7, h8, h9, -⟩ := h
  rw [fX11_isVersion, m_isPlace, jcl_0]
  unfold vAt
  cases hv : inR v 4 with
  | none => rfl
  | some u =>
    obtain ⟨rfl, hu⟩ := inR_some hv
    simp only [Option.isSome_some, if_true]
    rw [if_neg (by decide)]
    simp only [jck_true, jde_is, jlt_is, jcl_0, beq_self_eq_true, jT_sI, jT_sJ, jP_sI, jP_sJ, jJ_sI, jI_sJ, jZ_sI, jZ_sJ, h1.1, mP_version h1, mT_version h1, jin_nI hu (show 4 < 2 ^ 31 by decide), nI_clamp (show u < 2 ^ 31 by omega), (h8 u hu).1]
    by_cases hV : sV s u = none
    · rw [if_pos (by rw [hV]; decide)]; simp [hV]
    · obtain ⟨t, ht⟩ := Option.ne_none_iff_exists'.mp hV
      have := ((h8 u hu).2 t ht).1
      rw [if_neg (by rw [ht]; simp only [oI, Nat.zero_add]; exact nI_pos (by omega))]; simp [ht]
theorem mRd_sm {M : Nat} {μ ν : JM} {l : List Int32} {P A : List Int64} {r : Int32} {y : List Cl × List Int64 × List Int64 × Nat} {fs as : List Nat} (h : mRd M μ l [] 0 P A r (.ok y)) (s : sm M fs as μ ν) (hf : ∀ i ∈ [12, 13, 14, 15, 16, 17, 18, 20, 21, 5, 8], i ∉ fs) (ha : ∀ i ∈ [4, 5, 6, 7, 8, 9, 20, 10, 21, 22, 23, 24, 25, 26, 27, 28, 29, 30], i ∉ as) : mRd M ν l [] 0 P A r (.ok y) := by
  obtain ⟨q1, q2, q3, q4, q5, q6, q7, q8, q9, q10, q11⟩ := h
  exact ⟨q1, q2, q3.sm s (fun i hi => hf i (by revert i; decide)) (fun i hi => ha i (by revert i; decide)), q4.sm s (hf 5 (by decide)) (by decide) (by decide) (ha 4 (by decide)) (ha 5 (by decide)), q5, q6.sm s (hf 8 (by decide)) (by decide) (by decide) (ha 6 (by decide)) (ha 7 (by decide)), q7, by rw [s.aI (by decide) (ha 20 (by decide))]; exact q8, q9, fun i hi => (q10 i hi).sm s (fun j hj => ha j (by revert j; decide)), q11⟩
theorem m_rEnd {M u : Nat} {μ : JM} {s : SS} {B : List Int32} (hu : u < 4) (h : mSt M μ s) (hB : mTx M μ B) (hb : byt B) (hl : B.length ≤ 900) (hT : (sTx s).length < 600) (hR : (sR s).length < 600) (hF : sF s ≠ [])
    (hroom : ∀ z, sRead (Cd B) (sF s) (sP s) (sA s) = .ok z → ptS (sTx s ++ [stlC z.1]) ≤ 300000) :
    Res (rEnd M (nI u) μ) (fun r ν => match sRead (Cd B) (sF s) (sP s) (sA s) with
      | .error _ => r = -2 ∧ mSt M ν s
      | .ok z => r = nI z.1.length ∧ mSt M ν (wR (wTx s z.2.1 z.2.2.1 (stlC z.1) u) (sR s ++ [(u, sV s u, (sTx s).length)]))) := by
  have h1 := h.1
  unfold rEnd
  refine Res.cl (m_begins h1 hB hb (by omega)) fun _ μ1 ⟨s1, b1⟩ => ?_
  have hM1 := b1.mt
  have st1 : mSt M μ1 s := h.sm s1 (by decide) (by decide)
  have fa := (mFx.ne st1.2.2.2.1 hF).1
  rw [jck_of (by rw [hM1.1]; rfl)]
  refine Res.cl (m_reads b1 fa st1.2.2.2.2.2.2.2.2.1 st1.2.2.2.2.1 st1.2.2.2.2.2.1) fun r μ2 ⟨s2, c2, r2⟩ => ?_
  have hM2 := s2.mt hM1
  have v56 : jI μ2 M 56 = 0 := (s2.fI (by decide)).trans st1.2.2.2.2.2.2.2.2.1
  cases hr : sRead (Cd B) (sF s) (sP s) (sA s) with
  | error e =>
    rw [hr] at r2
    obtain ⟨rfl, z1, z2, z3⟩ := r2
    rw [if_pos rfl]
    exact .ret ⟨rfl, mSt_re st1 (s2.wk (by decide) (by decide)) c2 z2 z3 v56⟩
  | ok y =>
    rw [hr] at r2
    have r0 : r = 1 := r2.1
    have st2 : mSt M μ2 s ∨ True := Or.inr trivial
    rw [r0, if_neg (by decide)]
    have g10 := st1.2.2.2.2.2.2.2.2.2.1.sm s2 (by decide) (by decide)
    have v58 : jI μ2 M 58 = nI (sR s).length := g10.1
    have w58 : ∀ a k x, a ≠ M → jI (jsI μ2 a k x) M 58 = nI (sR s).length := fun a k x ha => by rw [jI_sI, if_neg (fun z => ha z.1.symm)]; exact v58
    have w50 : ∀ x, jI (jsI μ2 (M + 38) (sR s).length x) (M + 34) u = jI μ2 (M + 34) u := fun x => by rw [jI_sI, if_neg (by omega)]
    simp only [jck_true, jde_is, jlt_is, jcl_0, beq_self_eq_true, jT_sI, jT_sJ, jP_sI, jP_sJ, jJ_sI, jI_sJ, jZ_sI, jZ_sJ, hM2.1, mP_riderTo hM2, mT_riderTo hM2, mP_riderWas hM2, mT_riderWas hM2, mP_version hM2, mT_version hM2, v58, w58 (M + 38) _ _ (by omega), w50, jin_nI hR (show 600 < 2 ^ 31 by decide), jin_nI hu (show 4 < 2 ^ 31 by decide), nI_clamp (show (sR s).length < 2 ^ 31 by omega), nI_clamp (show u < 2 ^ 31 by omega)]
    have g8 := st1.2.2.2.2.2.2.2.1.sm s2 (by decide) c2
    have vV : jI μ2 (M + 34) u = oI 0 (sV s u) := (g8 u hu).1
    rw [vV]
    generalize hμ3 : jsI (jsI μ2 (M + 38) (sR s).length (nI u)) (M + 39) (sR s).length (oI 0 (sV s u)) = μ3
    have s3 : sm M [] [38, 39] μ2 μ3 := by rw [← hμ3]; exact (sm.sA (by decide) (by decide)).tr (sm.sA (by decide) (by decide))
    have v38 : ∀ i, jI μ3 (M + 38) i = if i = (sR s).length then nI u else jI μ2 (M + 38) i := by
      intro i
      rw [← hμ3, jI_off (by decide), jI_sI]
      by_cases z : i = (sR s).length
      · rw [if_pos ⟨rfl, z⟩, if_pos z]
      · rw [if_neg (fun t => z t.2), if_neg z]
    have v39 : ∀ i, jI μ3 (M + 39) i = if i = (sR s).length then oI 0 (sV s u) else jI μ2 (M + 39) i := by
      intro i
      rw [← hμ3, jI_sI]
      by_cases z : i = (sR s).length
      · rw [if_pos ⟨rfl, z⟩, if_pos z]
      · rw [if_neg (fun t => z t.2), if_neg z, jI_off (by decide)]
    have s13 : sm M RF (38 :: 39 :: RA) μ1 μ3 := (s2.wk (by decide) (by decide)).tr (s3.wk (by decide) (by decide))
    have L3 : clsLow M μ1 μ3 := c2.tr (clsLow.sm s3 (by decide) (by decide))
    have hM3 := s3.mt hM2
    have g10' : mRi M μ3 (sR s) := by
      refine ⟨(s3.fI (by decide)).trans g10.1, g10.2.1, fun i hi => ?_⟩
      obtain ⟨a1, a2, a3⟩ := g10.2.2 i hi
      exact ⟨by rw [v38, if_neg (by omega)]; exact a1, by rw [v39, if_neg (by omega)]; exact a2, by rw [s3.aI (by decide) (by decide)]; exact a3⟩
    obtain ⟨k1, k2, k3, k4, k5, k6, k7, k8, k9, k10, k11, k12, k13, k14, k15⟩ := st1
    refine m_kept (s := s) (l := B) (y := y) (r := r) hu hM3 ((s3.fI (by decide)).trans v56) (mRd_sm r2 s3 (by decide) (by decide)) hr hl hT (hroom y hr) (k2.sm s13 (by decide) (by decide)) k3 (k4.sm s13 (by decide) (by decide)) (k7.sm s13 (by decide) (by decide)) (k8.sm s13 (by decide) L3) g10' (k11.sm s13 (by decide)) (k12.sm s13 (by decide) (by decide)) (k13.sm s13 (by decide) (by decide)) ((s13.fI (by decide)).trans k14) ((s13.fI (by decide)).trans k15) (fun μ4 s4 st4 v4 => ?_)
    have hM4 := s4.mt hM3
    have x58 : jI μ4 M 58 = nI (sR s).length := (s4.fI (by decide)).trans g10'.1
    have y58 : ∀ x, jI (jsI μ4 (M + 40) (sR s).length x) M 58 = nI (sR s).length := fun x => by rw [jI_sI, if_neg (by omega)]; exact x58
    have e34 : jI μ4 (M + 34) u = nI (sTx s).length := by rw [v4, if_pos rfl]
    simp only [jck_true, jde_is, jlt_is, jcl_0, beq_self_eq_true, jT_sI, jT_sJ, jP_sI, jP_sJ, jJ_sI, jI_sJ, jZ_sI, jZ_sJ, hM4.1, mP_version hM4, mT_version hM4, mP_riderCame hM4, mT_riderCame hM4, x58, y58, e34, jin_nI hR (show 600 < 2 ^ 31 by decide), jin_nI hu (show 4 < 2 ^ 31 by decide), nI_clamp (show (sR s).length < 2 ^ 31 by omega), nI_clamp (show u < 2 ^ 31 by omega), nI_1]
    generalize hμ5 : jsI (jsI μ4 (M + 40) (sR s).length (nI (sTx s).length)) M 58 (nI ((sR s).length + 1)) = μ5
    have s5 : sm M [58] [40] μ4 μ5 := by rw [← hμ5]; exact (sm.sA (by decide) (by decide)).tr (sm.sF (by decide))
    have v58' : jI μ5 M 58 = nI ((sR s).length + 1) := by rw [← hμ5, jI_sI, if_pos ⟨rfl, rfl⟩]
    have v40 : ∀ i, jI μ5 (M + 40) i = if i = (sR s).length then nI (sTx s).length else jI μ4 (M + 40) i := by
      intro i
      rw [← hμ5, jI_sI, if_neg (by omega), jI_sI]
      by_cases z : i = (sR s).length
      · rw [if_pos ⟨rfl, z⟩, if_pos z]
      · rw [if_neg (fun t => z t.2), if_neg z]
    obtain ⟨f1, f2, f3, f4, f5, f6, f7, f8, f9, f10, f11, f12, f13, f14, f15⟩ := st4
    refine .ret ⟨rfl, s5.mt f1, f2.sm s5 (by decide) (by decide), f3, f4.sm s5 (by decide) (by decide), f5.sm s5 (by decide) (by decide) (by decide) (by decide) (by decide), f6.sm s5 (by decide) (by decide) (by decide) (by decide) (by decide), f7.sm s5 (by decide) (by decide), f8.sm s5 (by decide) (clsLow.sm s5 (by decide) (by decide)), (s5.fI (by decide)).trans f9, ?_, f11.sm s5 (by decide), f12.sm s5 (by decide) (by decide), f13.sm s5 (by decide) (by decide), (s5.fI (by decide)).trans f14, (s5.fI (by decide)).trans f15⟩
    have eR : sR (wR (wTx s y.2.1 y.2.2.1 (stlC y.1) u) (sR s ++ [(u, sV s u, (sTx s).length)])) = sR s ++ [(u, sV s u, (sTx s).length)] := rfl
    rw [eR]
    refine ⟨by rw [v58']; simp, by simp; omega, fun i hi => ?_⟩
    have hi : i < (sR s).length + 1 := by simpa using hi
    rw [s5.aI (by decide) (by decide), s5.aI (by decide) (by decide), v40 i, s4.aI (by decide) (by decide), s4.aI (by decide) (by decide), v38 i, v39 i]
    by_cases z : i = (sR s).length
    · have eg : (sR s ++ [(u, sV s u, (sTx s).length)]).getD i (0, none, 0) = (u, sV s u, (sTx s).length) := by rw [z]; simp [List.getD]
      rw [if_pos z, if_pos z, if_pos z, eg]; exact ⟨rfl, rfl, rfl⟩
    · have eg : (sR s ++ [(u, sV s u, (sTx s).length)]).getD i (0, none, 0) = (sR s).getD i (0, none, 0) := by simp [List.getD, List.getElem?_append_left (show i < (sR s).length by omega)]
      rw [if_neg z, if_neg z, if_neg z, eg]
      obtain ⟨a1, a2, a3⟩ := g10.2.2 i (by omega)
      exact ⟨a1, a2, by rw [s4.aI (by decide) (by decide), s3.aI (by decide) (by decide)]; exact a3⟩
