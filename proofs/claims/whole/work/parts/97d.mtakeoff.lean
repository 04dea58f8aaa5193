/-! a text read again with more PARTIES and ACTS told -/
theorem idx_pre {P Q : List Int64} {c : Int64} {i : Nat} (h : P.idxOf? c = some i) (hp : P <+: Q) : Q.idxOf? c = some i := by
  obtain ⟨t, rfl⟩ := hp
  unfold List.idxOf? at h ⊢
  rw [List.findIdx?_append, h]; rfl
theorem idx_new {P Q : List Int64} {c : Int64} (h : P.idxOf? c = none) (hp : (P ++ [c]) <+: Q) : Q.idxOf? c = some P.length := by
  obtain ⟨t, rfl⟩ := hp
  unfold List.idxOf? at h ⊢
  rw [List.append_assoc, List.findIdx?_append, h]
  simp [List.findIdx?_cons]
theorem sNum_ext {C : Nat → Int64} {P0 P : List Int64} {mx k : Nat} {y : Int32 × List Int64 × Nat} (h : sNum true P0 mx C k = .ok y) (hp : y.2.1 <+: P) : sNum true P mx C k = .ok (y.1, P, y.2.2) := by
  unfold sNum at h ⊢
  obtain ⟨_, h1, h⟩ := eb_inv h
  rw [h1, eb_ok]
  simp only [if_true] at h ⊢
  cases hi : P0.idxOf? (C k) with
  | some i =>
    rw [hi] at h
    obtain ⟨k2, h2, h⟩ := eb_inv h
    injection h with h
    rw [← h] at hp ⊢
    rw [idx_pre hi hp]
    dsimp only
    rw [h2, eb_ok]
  | none =>
    rw [hi] at h
    obtain ⟨-, h⟩ := ite_inv h
    obtain ⟨k2, h2, h⟩ := eb_inv h
    injection h with h
    rw [← h] at hp ⊢
    rw [idx_new hi hp]
    dsimp only
    rw [h2, eb_ok]
theorem sNum_mono {C : Nat → Int64} {wh : Bool} {P : List Int64} {mx k : Nat} {y : Int32 × List Int64 × Nat} (h : sNum wh P mx C k = .ok y) : P <+: y.2.1 := by
  unfold sNum at h
  obtain ⟨_, h1, h⟩ := eb_inv h
  cases wh with
  | false =>
    simp only [Bool.false_eq_true, if_false] at h
    obtain ⟨k2, h2, h⟩ := eb_inv h
    injection h with h
    rw [← h]; exact List.prefix_refl _
  | true =>
    simp only [if_true] at h
    cases hi : P.idxOf? (C k) with
    | some i =>
      rw [hi] at h
      obtain ⟨k2, h2, h⟩ := eb_inv h
      injection h with h
      rw [← h]; exact List.prefix_refl _
    | none =>
      rw [hi] at h
      obtain ⟨-, h⟩ := ite_inv h
      obtain ⟨k2, h2, h⟩ := eb_inv h
      injection h with h
      rw [← h]; exact List.prefix_append _ _
theorem sClause_ext {C : Nat → Int64} {F : List Int64} {cls : List Cl} {P0 A0 : List Int64} {k : Nat} {y : Cl × List Int64 × List Int64 × Nat} (h : sClause C F 0 cls P0 A0 k = .ok y) : P0 <+: y.2.1 ∧ A0 <+: y.2.2.1 ∧ ∀ P A, y.2.1 <+: P → y.2.2.1 <+: A → sClause C F 0 cls P A k = .ok (y.1, P, A, y.2.2.2) := by
  unfold sClause at h ⊢
  by_cases q : C k = -3000
  · rw [if_pos q] at h
    simp only [if_pos q]
    unfold sDefine at h ⊢
    obtain ⟨n1, h⟩ := ite_inv h
    obtain ⟨k1, h1, h⟩ := eb_inv h
    obtain ⟨_, h2, h⟩ := eb_inv h
    obtain ⟨n2, h⟩ := ite_inv h
    obtain ⟨n3, h⟩ := ite_inv h
    obtain ⟨k2, h3, h⟩ := eb_inv h
    obtain ⟨k3, h4, h⟩ := eb_inv h
    obtain ⟨x, h5, h⟩ := eb_inv h
    injection h with h
    rw [← h]
    refine ⟨List.prefix_refl _, List.prefix_refl _, fun P A _ _ => ?_⟩
    rw [if_neg n1, h1, eb_ok, h2, eb_ok, if_neg n2, if_neg n3, h3, eb_ok, h4, eb_ok, h5, eb_ok]
  · rw [if_neg q] at h
    simp only [if_neg q]
    unfold sLabel at h ⊢
    obtain ⟨_, h1, h⟩ := eb_inv h
    obtain ⟨n1, h⟩ := ite_inv h
    obtain ⟨n2, h⟩ := ite_inv h
    obtain ⟨n3, h⟩ := ite_inv h
    obtain ⟨k1, h2, h⟩ := eb_inv h
    unfold sDeed at h ⊢
    obtain ⟨k2, h3, h⟩ := eb_inv h
    obtain ⟨nk, h⟩ := ite_inv h
    obtain ⟨k3, h4, h⟩ := eb_inv h
    obtain ⟨p, h5, h⟩ := eb_inv h
    obtain ⟨k4, h6, h⟩ := eb_inv h
    obtain ⟨a, h7, h⟩ := eb_inv h
    obtain ⟨t, h8, h⟩ := eb_inv h
    obtain ⟨z, h9, h⟩ := eb_inv h
    injection h with h
    rw [← h]
    have d0 : decide ((0 : Nat) = 0) = true := rfl
    rw [d0] at h5 h7
    refine ⟨sNum_mono h5, sNum_mono h7, fun P A hp ha => ?_⟩
    rw [h1, eb_ok, if_neg n1, if_neg n2, if_neg n3, h2, eb_ok, h3, eb_ok, if_neg nk, h4, eb_ok, d0, sNum_ext h5 hp, eb_ok]
    dsimp only
    rw [h6, eb_ok, sNum_ext h7 ha, eb_ok]
    dsimp only
    rw [h8, eb_ok]
    rw [d0] at h9
    rw [h9, eb_ok]
theorem sVer_ext {C : Nat → Int64} {F : List Int64} : ∀ (n : Nat) (cls : List Cl) (P0 A0 : List Int64) (k : Nat) (y : List Cl × List Int64 × List Int64 × Nat), sVer C F n cls P0 A0 k = .ok y → P0 <+: y.2.1 ∧ A0 <+: y.2.2.1 ∧ ∀ P A, y.2.1 <+: P → y.2.2.1 <+: A → sVer C F n cls P A k = .ok (y.1, P, A, y.2.2.2)
  | 0, cls, P0, A0, k, y, h => by rw [sVer] at h; cases h
  | n + 1, cls, P0, A0, k, y, h => by
    rw [sVer] at h
    obtain ⟨x, hx, h⟩ := eb_inv h
    obtain ⟨m1, m2, m3⟩ := sClause_ext hx
    by_cases q : C x.2.2.2 = 0
    · rw [if_pos q] at h
      injection h with h
      rw [← h]
      refine ⟨m1, m2, fun P A hp ha => ?_⟩
      rw [sVer, m3 P A hp ha, eb_ok]
      dsimp only
      rw [if_pos q]
    · rw [if_neg q] at h
      obtain ⟨k2, hk, h⟩ := eb_inv h
      obtain ⟨i1, i2, i3⟩ := sVer_ext n _ _ _ _ y h
      refine ⟨m1.trans i1, m2.trans i2, fun P A hp ha => ?_⟩
      rw [sVer, m3 P A (i1.trans hp) (i2.trans ha), eb_ok]
      dsimp only
      rw [if_neg q, hk, eb_ok]
      exact i3 P A hp ha
/-- what the spec keeps: each text was read, with PARTIES and ACTS that are there still -/
def gRd (s : SS) : Prop := ∀ t, t < (sTx s).length → ∃ l P0 A0 y, byt l ∧ sRead (Cd l) (sF s) P0 A0 = .ok y ∧ txA s t = stlC y.1 ∧ y.2.1 <+: sP s ∧ y.2.2.1 <+: sA s
theorem re_read {s : SS} (h : gRd s) {t : Nat} (ht : t < (sTx s).length) : ∃ y : List Cl × List Int64 × List Int64 × Nat, sRead (Cd (txB (txA s t))) (sF s) (sP s) (sA s) = .ok (y.1, sP s, sA s, y.2.2.2) ∧ txA s t = stlC y.1 := by
  obtain ⟨l, P0, A0, y, hb, hr, e1, hp, ha⟩ := h t ht
  obtain ⟨r1, r2, r3, r4, -⟩ := sRead_ok hr
  have eC : Cd (txB (txA s t)) = Cd l := by
    rw [e1]
    unfold txB
    rw [jT2_stl, r2]
    exact Cd_rt hb r3 r4
  refine ⟨y, ?_, e1⟩
  rw [eC]
  unfold sRead at hr ⊢
  obtain ⟨n0, hr⟩ := ite_inv hr
  rw [if_neg n0]
  exact (sVer_ext 26 [] P0 A0 0 y hr).2.2 _ _ hp ha
def spTakeOff (s : SS) : Int32 × SS := match (sR s).getLast? with
  | none => (0, s)
  | some e => if sV s e.1 = some e.2.2 then (1, wV (wR s (sR s).dropLast) (fun u => if u = e.1 then e.2.1 else sV s u)) else (0, wR s (sR s).dropLast)
/-- and riders speak of texts there are -/
def gRi (s : SS) : Prop := ∀ e ∈ sR s, e.1 < 4 ∧ e.2.2 < (sTx s).length ∧ ∀ t, e.2.1 = some t → t < (sTx s).length
theorem oI_eq {x : Option Nat} {n : Nat} (hx : ∀ t, x = some t → t < 600) (hn : n < 600) : oI 0 x = nI n ↔ x = some n := by
  cases x with
  | none =>
    constructor
    · intro h
      have : (-1 : Int32) = nI n := h
      have h2 : ¬ nI n < 0 := nI_pos (by omega)
      rw [← this] at h2; exact absurd (by decide) h2
    · intro h; cases h
  | some t =>
    have := hx t rfl
    simp only [oI, Nat.zero_add, Option.some.injEq]
    exact nI_eq (by omega) (by omega)
theorem m_takeOff {M : Nat} {μ : JM} {s : SS} (h : mSt M μ s) (hT : (sTx s).length < 600) (hG : gTx s) (hD : gRd s) (hI : gRi s) : Res (fX11_takeOff M μ) (fun r ν => r = (spTakeOff s).1 ∧ mSt M ν (spTakeOff s).2) := by
  have h1 := h.1
  have ri := h.2.2.2.2.2.2.2.2.2.1
  rw [fX11_takeOff, jck_of (by rw [h1.1]; rfl), ri.1]
  unfold spTakeOff
  cases hl : (sR s).getLast? with
  | none =>
    have : sR s = [] := List.getLast?_eq_none_iff.mp hl
    rw [this, if_pos (by decide)]
    exact .ret ⟨rfl, h⟩
  | some e =>
    obtain ⟨R, eR⟩ : ∃ R, sR s = R ++ [e] := by
      rw [List.getLast?_eq_some_iff] at hl; exact hl
    have hlen : (sR s).length = R.length + 1 := by rw [eR]; simp
    have dl : (sR s).dropLast = R := by rw [eR]; simp
    have rl := ri.2.1
    obtain ⟨i1, i2, i3⟩ := hI e (by rw [eR]; simp)
    obtain ⟨w, was, came⟩ := e
    have i1 : w < 4 := i1
    have i2 : came < (sTx s).length := i2
    have i3 : ∀ t, was = some t → t < (sTx s).length := i3
    have eg : (sR s).getD R.length (0, none, 0) = (w, was, came) := by rw [eR]; simp [List.getD]
    obtain ⟨a1, a2, a3⟩ := ri.2.2 R.length (by omega)
    rw [eg] at a1 a2 a3
    have a1 : jI μ (M + 38) R.length = nI w := a1
    have a2 : jI μ (M + 39) R.length = oI 0 was := a2
    have a3 : jI μ (M + 40) R.length = nI came := a3
    have vs := h.2.2.2.2.2.2.2.1
    have aV := (vs w i1).1
    rw [hlen, if_neg (by rw [show (0 : Int32) = nI 0 from rfl, nI_eq (by omega) (by omega)]; omega), jlt_is]
    have sub1 : nI (R.length + 1) - 1 = nI R.length := by rw [Int32.sub_eq_add_neg, ← nI_1, Int32.add_assoc, show (1 : Int32) + (-1) = 0 from by decide, Int32.add_zero]
    rw [sub1]
    have s1 : sm M [58] [] μ (jsI μ M 58 (nI R.length)) := sm.sF (by decide)
    have v1 : jI (jsI μ M 58 (nI R.length)) M 58 = nI R.length := by rw [jI_sI, if_pos ⟨rfl, rfl⟩]
    generalize jsI μ M 58 (nI R.length) = μ1 at s1 v1 ⊢
    have hM1 := s1.mt h1
    have st1 : mSt M μ1 (wR s R) := by
      obtain ⟨k1, k2, k3, k4, k5, k6, k7, k8, k9, k10, k11, k12, k13, k14, k15⟩ := h
      refine ⟨hM1, k2.sm s1 (by decide) (by decide), k3, k4.sm s1 (by decide) (by decide), k5.sm s1 (by decide) (by decide) (by decide) (by decide) (by decide), k6.sm s1 (by decide) (by decide) (by decide) (by decide) (by decide), k7.sm s1 (by decide) (by decide), k8.sm s1 (by decide) (clsLow.sm s1 (by decide) (by decide)), (s1.fI (by decide)).trans k9, ⟨v1, ?_, fun i hi => ?_⟩, k11.sm s1 (by decide), k12.sm s1 (by decide) (by decide), k13.sm s1 (by decide) (by decide), (s1.fI (by decide)).trans k14, (s1.fI (by decide)).trans k15⟩
      · show R.length ≤ 600; omega
      · have hi : i < R.length := hi
        have := ri.2.2 i (by omega)
        have e2 : (sR s).getD i (0, none, 0) = R.getD i (0, none, 0) := by rw [eR]; simp [List.getD, List.getElem?_append_left hi]
        rw [e2] at this
        rw [s1.aI (by decide) (by decide), s1.aI (by decide) (by decide), s1.aI (by decide) (by decide)]
        exact this
    have b1 : jI μ1 (M + 38) R.length = nI w := by rw [s1.aI (by decide) (by decide)]; exact a1
    have b2 : jI μ1 (M + 39) R.length = oI 0 was := by rw [s1.aI (by decide) (by decide)]; exact a2
    have b3 : jI μ1 (M + 40) R.length = nI came := by rw [s1.aI (by decide) (by decide)]; exact a3
    have bV : jI μ1 (M + 34) w = oI 0 (sV s w) := by rw [s1.aI (by decide) (by decide)]; exact aV
    have jTe : jT μ = jT μ1 := s1.2.1.symm
    rw [jTe]
    have w34 : ∀ x, jI (jsI μ1 (M + 34) w x) (M + 34) w = x := fun x => by rw [jI_sI, if_pos ⟨rfl, rfl⟩]
    simp only [jck_true, jde_is, jlt_is, jcl_0, beq_self_eq_true, jT_sI, jT_sJ, jP_sI, jP_sJ, jJ_sI, jI_sJ, jZ_sI, jZ_sJ, mP_riderTo hM1, mT_riderTo hM1, mP_version hM1, mT_version hM1, mP_riderCame hM1, mT_riderCame hM1, mP_riderWas hM1, mT_riderWas hM1, v1, b1, b2, b3, bV, w34, jin_nI (show R.length < 600 by omega) (show 600 < 2 ^ 31 by decide), jin_nI i1 (show 4 < 2 ^ 31 by decide), nI_clamp (show R.length < 2 ^ 31 by omega), nI_clamp (show w < 2 ^ 31 by omega)]
    have oe := oI_eq (x := sV s w) (n := came) (fun t ht => by have := ((vs w i1).2 t ht).1; omega) (by omega)
    rw [dl]
    by_cases z : sV s w = some came
    · rw [if_pos (oe.mpr z), if_pos z]
      have s2 : sm M [] [34] μ1 (jsI μ1 (M + 34) w (oI 0 was)) := sm.sA (by decide) (by decide)
      have v2 : ∀ u, jI (jsI μ1 (M + 34) w (oI 0 was)) (M + 34) u = if u = w then oI 0 was else jI μ1 (M + 34) u := by
        intro u
        rw [jI_sI]
        by_cases q : u = w
        · rw [if_pos ⟨rfl, q⟩, if_pos q]
        · rw [if_neg (fun y => q y.2), if_neg q]
      generalize jsI μ1 (M + 34) w (oI 0 was) = μ2 at s2 v2 ⊢
      have hM2 := s2.mt hM1
      obtain ⟨k1, k2, k3, k4, k5, k6, k7, k8, k9, k10, k11, k12, k13, k14, k15⟩ := st1
      cases hw : was with
      | none =>
        rw [if_neg (by decide)]
        refine .ret ⟨rfl, hM2, k2.sm s2 (by decide) (by decide), k3, k4.sm s2 (by decide) (by decide), k5.sm s2 (by decide) (by decide) (by decide) (by decide) (by decide), k6.sm s2 (by decide) (by decide) (by decide) (by decide) (by decide), k7.sm s2 (by decide) (by decide), ?_, (s2.fI (by decide)).trans k9, k10.sm s2 (by decide) (by decide), k11.sm s2 (by decide), k12.sm s2 (by decide) (by decide), k13.sm s2 (by decide) (by decide), (s2.fI (by decide)).trans k14, (s2.fI (by decide)).trans k15⟩
        intro v hv
        show jI μ2 (M + 34) v = oI 0 (if v = w then none else sV s v) ∧ ∀ t, (if v = w then none else sV s v) = some t → _
        rw [v2 v]
        by_cases q : v = w
        · rw [if_pos q, if_pos q, hw]
          exact ⟨rfl, fun t ht => by cases ht⟩
        · rw [if_neg q, if_neg q]
          refine ⟨(k8 v hv).1, fun t ht => ?_⟩
          obtain ⟨a1, a2, a3, a4⟩ := (k8 v hv).2 t ht
          exact ⟨a1, by rw [s2.aI (by decide) (by decide)]; exact a2, a3, fun i hi => (a4 i hi).sm s2 (by decide)⟩
      | some t =>
        have ht := i3 t hw
        have e0 : oI 0 (some t) = nI t := by simp only [oI, Nat.zero_add]
        rw [e0, if_pos (show (0 : Int32) ≤ nI t from nI_le (a := 0) (by omega) (by omega))]
        have egB : ((sTx s).map txB).getD t [] = txB (txA s t) := by unfold txA; simp [List.getD, ht]
        have pt2 : mPt M μ2 t (txB (txA s t)) := by
          have := (k7.sm s2 (by decide) (by decide)).pt (t := t) (by rw [List.length_map]; exact ht)
          have e1 : sTx (wR s R) = sTx s := rfl
          rw [e1, egB] at this; exact this
        refine Res.cl (m_takesText (by omega) hM2 pt2) fun _ μ3 ⟨s3, b3⟩ => ?_
        have hM3 := b3.mt
        have s13 : sm M TG [8, 34] μ1 μ3 := (s2.wk (by decide) (by decide)).tr (s3.wk (by decide) (by decide))
        have hF : sF s ≠ [] := hG.2 w i1 (by rw [z]; simp)
        have fa := (mFx.ne (k4.sm s13 (by decide) (by decide)) hF).1
        rw [jck_of (by rw [hM3.1]; rfl)]
        have P3 := k5.sm s13 (by decide) (by decide) (by decide) (by decide) (by decide)
        have A3 := k6.sm s13 (by decide) (by decide) (by decide) (by decide) (by decide)
        refine Res.cl (m_reads b3 fa ((s13.fI (by decide)).trans k9) P3 A3) fun r μ4 ⟨s4, c4, r4⟩ => ?_
        obtain ⟨y, hy, ey⟩ := re_read hD ht
        have e2 : sF (wR s R) = sF s := rfl
        have e3 : sP (wR s R) = sP s := rfl
        have e4 : sA (wR s R) = sA s := rfl
        rw [e2, e3, e4, hy] at r4
        obtain ⟨-, -, -, r5, -, r6, -, r7, r8, r9, -⟩ := r4
        have hM4 := s4.mt hM3
        rw [jck_of (by rw [hM4.1]; rfl)]
        have ey2 : stlC y.1 = txA s t := ey.symm
        have r9 : mCls M μ4 96 (stlC y.1) := r9
        have r7 : jI μ4 (M + 20) 4 = nI y.1.length := r7
        have r8 : y.1.length ≤ 24 := r8
        refine Res.cl (m_becomes (v := w) (cls := stlC y.1) i1 (by rw [stlC_len]; exact r8) hM4 (by rw [stlC_len]; exact r7) r9) fun _ ν ⟨q1, q2, q3, q4⟩ => ?_
        have s1ν : sm M (12 :: RF) (8 :: 34 :: RA) μ1 μ4 := (s13.wk (by decide) (by decide)).tr (s4.wk (by decide) (by decide))
        have S : sm M (12 :: RF) (8 :: 34 :: RA) μ1 ν := s1ν.tr (q1.wk (by decide) (by decide))
        refine .ret ⟨rfl, q1.mt hM4, k2.sm S (by decide) (by decide), k3, k4.sm S (by decide) (by decide), r5.sm q1 (by decide) (by decide) (by decide) (by decide) (by decide), r6.sm q1 (by decide) (by decide) (by decide) (by decide) (by decide), k7.sm S (by decide) (by decide), ?_, (S.fI (by decide)).trans k9, k10.sm S (by decide) (by decide), k11.sm S (by decide), k12.sm S (by decide) (by decide), k13.sm S (by decide) (by decide), (S.fI (by decide)).trans k14, (S.fI (by decide)).trans k15⟩
        · intro v hv
          show jI ν (M + 34) v = oI 0 (if v = w then some t else sV s v) ∧ ∀ t2, (if v = w then some t else sV s v) = some t2 → _
          have e34 : jI ν (M + 34) v = jI μ2 (M + 34) v := by rw [q1.aI (by decide) (by decide), s4.aI (by decide) (by decide), s3.aI (by decide) (by decide)]
          rw [e34, v2 v, q4 v]
          by_cases q : v = w
          · rw [if_pos q, if_pos q, if_pos q, hw]
            refine ⟨rfl, fun t2 ht2 => ?_⟩
            injection ht2 with ht2
            subst ht2
            refine ⟨ht, by rw [ey2]; rfl, ?_, by rw [q]; rw [ey2] at q3; exact q3⟩
            show (txA s t).length ≤ 24
            rw [← ey2, stlC_len]; exact r8
          · rw [if_neg q, if_neg q, if_neg q]
            refine ⟨(k8 v hv).1, fun t2 ht2 => ?_⟩
            obtain ⟨a1, a2, a3, a4⟩ := (k8 v hv).2 t2 ht2
            refine ⟨a1, ?_, a3, fun i hi => ?_⟩
            rotate_left
            · have hi : i < ((sTx (wR s R)).getD t2 []).length := hi
              exact q2 _ _ (by omega) (c4.1 _ _ (by omega) (((a4 i hi).sm s2 (by decide)).sm s3 (by decide)))
            rw [c4.2 v (by omega), s3.aI (by decide) (by decide), s2.aI (by decide) (by decide)]; exact a2
    · rw [if_neg (fun q => z (oe.mp q)), if_neg z]
      exact .ret ⟨rfl, st1⟩
