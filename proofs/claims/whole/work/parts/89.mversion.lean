/-! the tokens of what is read -/
theorem eb_inv {α β : Type} {x : Except Er α} {f : α → Except Er β} {b : β} (h : eb x f = .ok b) : ∃ a, x = .ok a ∧ f a = .ok b := by
  cases x with
  | error e => cases h
  | ok a => exact ⟨a, rfl, h⟩
theorem ite_inv {α : Type} {p : Prop} [Decidable p] {e : Er} {x : Except Er α} {b : α} (h : (if p then .error e else x) = .ok b) : ¬ p ∧ x = .ok b := by
  by_cases q : p
  · rw [if_pos q] at h; cases h
  · rw [if_neg q] at h; exact ⟨q, h⟩
theorem sClause_tks {C : Nat → Int64} {F : List Int64} {md : Nat} {cls : List Cl} {P A : List Int64} {k : Nat} {y : Cl × List Int64 × List Int64 × Nat} (h : sClause C F md cls P A k = .ok y) : Cl.tks y.1 = sl C k y.2.2.2 := by
  unfold sClause at h
  by_cases q : C k = -3000
  · rw [if_pos q] at h
    unfold sDefine at h
    obtain ⟨-, h⟩ := ite_inv h
    obtain ⟨k1, -, h⟩ := eb_inv h
    obtain ⟨_, -, h⟩ := eb_inv h
    obtain ⟨-, h⟩ := ite_inv h
    obtain ⟨-, h⟩ := ite_inv h
    obtain ⟨k2, -, h⟩ := eb_inv h
    obtain ⟨k3, -, h⟩ := eb_inv h
    obtain ⟨x, -, h⟩ := eb_inv h
    injection h with h
    rw [← h]; rfl
  · rw [if_neg q] at h
    unfold sLabel at h
    obtain ⟨_, -, h⟩ := eb_inv h
    obtain ⟨-, h⟩ := ite_inv h
    obtain ⟨-, h⟩ := ite_inv h
    obtain ⟨-, h⟩ := ite_inv h
    obtain ⟨k1, -, h⟩ := eb_inv h
    unfold sDeed at h
    obtain ⟨k2, -, h⟩ := eb_inv h
    obtain ⟨-, h⟩ := ite_inv h
    obtain ⟨k3, -, h⟩ := eb_inv h
    obtain ⟨p, -, h⟩ := eb_inv h
    obtain ⟨k4, -, h⟩ := eb_inv h
    obtain ⟨a, -, h⟩ := eb_inv h
    obtain ⟨t, -, h⟩ := eb_inv h
    obtain ⟨z, -, h⟩ := eb_inv h
    injection h with h
    rw [← h]; rfl
theorem sVer_tks (C : Nat → Int64) (F : List Int64) : ∀ (n : Nat) (cls : List Cl) (P A : List Int64) (k : Nat) (y : List Cl × List Int64 × List Int64 × Nat), sVer C F n cls P A k = .ok y → ∃ c r, y.1 = cls ++ c :: r ∧ jT2 (c :: r) = sl C k y.2.2.2 ∧ k ≤ y.2.2.2
  | 0, cls, P, A, k, y, h => by rw [sVer] at h; cases h
  | n + 1, cls, P, A, k, y, h => by
    rw [sVer] at h
    obtain ⟨x, hx, h⟩ := eb_inv h
    have t1 := sClause_tks hx
    have l1 : k ≤ x.2.2.2 := (sClause_T C F 0 cls P A k x hx).1
    by_cases q : C x.2.2.2 = 0
    · rw [if_pos q] at h
      injection h with h
      rw [← h]
      exact ⟨x.1, [], rfl, t1, l1⟩
    · rw [if_neg q] at h
      obtain ⟨k2, hk, h⟩ := eb_inv h
      rcases exC_cases C (-60) x.2.2.2 with ⟨e, he⟩ | ⟨he, hc⟩
      · rw [he] at hk; cases hk
      · rw [he] at hk
        injection hk with hk
        subst hk
        obtain ⟨c, r, e1, e2, e3⟩ := sVer_tks C F n _ _ _ _ y h
        refine ⟨x.1, c :: r, by rw [e1]; simp, ?_, by omega⟩
        rw [jT2, t1, e2, ← hc, ← sl_cons C (by omega), sl_app C l1 (by omega)]
theorem sVer_end (C : Nat → Int64) (F : List Int64) : ∀ (n : Nat) (cls : List Cl) (P A : List Int64) (k : Nat) (y : List Cl × List Int64 × List Int64 × Nat), sVer C F n cls P A k = .ok y → C y.2.2.2 = 0
  | 0, cls, P, A, k, y, h => by rw [sVer] at h; cases h
  | n + 1, cls, P, A, k, y, h => by
    rw [sVer] at h
    obtain ⟨x, hx, h⟩ := eb_inv h
    by_cases q : C x.2.2.2 = 0
    · rw [if_pos q] at h
      injection h with h
      rw [← h]; exact q
    · rw [if_neg q] at h
      obtain ⟨k2, hk, h⟩ := eb_inv h
      exact sVer_end C F n _ _ _ _ y h
theorem sRead_ok {C : Nat → Int64} {F P A : List Int64} {y : List Cl × List Int64 × List Int64 × Nat} (h : sRead C F P A = .ok y) : sVer C F 26 [] P A 0 = .ok y ∧ jT2 y.1 = sl C 0 y.2.2.2 ∧ aT C 0 y.2.2.2 ∧ C y.2.2.2 = 0 ∧ y.1 ≠ [] := by
  unfold sRead at h
  obtain ⟨-, h⟩ := ite_inv h
  obtain ⟨c, r, e1, e2, e3⟩ := sVer_tks C F 26 [] P A 0 y h
  rw [List.nil_append] at e1
  exact ⟨h, by rw [e1]; exact e2, (sVer_T C F 26 [] P A 0 y h).2, sVer_end C F 26 [] P A 0 y h, by rw [e1]; simp⟩
theorem setC_tks (c : Cl) (h : CS) : Cl.tks (setC c h) = Cl.tks c := rfl
theorem jT2_map : ∀ (cls : List Cl) (hs : List CS), hs.length = cls.length → jT2 (List.zipWith setC cls hs) = jT2 cls
  | [], [], _ => rfl
  | [c], [h], _ => rfl
  | c :: d :: r, h :: g :: hs, e => by
    have := jT2_map (d :: r) (g :: hs) (by simpa using e)
    rw [List.zipWith_cons_cons] at this ⊢
    rw [List.zipWith_cons_cons, jT2, this, jT2]; rfl
theorem jT2_stl (cls : List Cl) : jT2 (stlC cls) = jT2 cls := jT2_map cls _ (stl_len cls 0)
/-! the reference: version -/
theorem m_isPlace (v : Int32) (μ : JM) : fX11_isPlace v μ = some (if (inR v 4).isSome then 1 else 0, μ, 0, 0) := by
  rw [fX11_isPlace, fX11_in]
  have h3 : (3 : Int32) = nI 3 := rfl
  by_cases q : 0 ≤ v
  · obtain ⟨n, hn, hv⟩ : ∃ n, n < 2 ^ 31 ∧ v = nI n := ⟨v.toNatClampNeg, by have := (fb_rng v).2; show v.toInt.toNat < _; omega, (nI_cl q).symm⟩
    subst hv
    rw [if_neg (Int32.not_lt.mpr q)]
    by_cases z : n < 4
    · have e : inR (nI n) 4 = some n := by unfold inR; rw [nI_clamp hn, if_pos ⟨q, z⟩]
      rw [if_neg (Int32.not_lt.mpr (show nI n ≤ 3 from nI_le (b := 3) (by omega) (by omega))), e, jcl_0]; rfl
    · have e : inR (nI n) 4 = none := by unfold inR; rw [nI_clamp hn, if_neg (fun t => z t.2)]
      rw [if_pos (Int32.not_le.mp (show ¬ nI n ≤ 3 from nI_ge (a := 3) (by omega) hn)), e, jcl_0]; rfl
  · have e : inR v 4 = none := by unfold inR; rw [if_neg (fun t => q t.1)]
    rw [if_pos (Int32.not_le.mp q), e, jcl_0]; rfl
theorem mBeg.mt {M : Nat} {μ : JM} {l : List Int32} (h : mBeg M μ l) : MT M μ := by
  unfold mBeg at h; split at h
  · exact h.1
  · exact (mA_ok h).1
theorem mFx.ne {M : Nat} {μ : JM} {F : List Int64} (h : mFx M μ F) (hF : F ≠ []) : mFa M μ F ∧ (∀ i, i < 4 → jJ μ (M + 10) i = allC F.length i) ∧ ¬ jI μ M 2 < 0 ∧ 0 ≤ jI μ M 2 := by
  unfold mFx at h; rw [if_neg hF] at h
  have := h.1.2.1
  refine ⟨h.1, h.2, ?_, ?_⟩
  · rw [h.1.1]; exact nI_pos (by omega)
  · rw [h.1.1]; exact nI_le (a := 0) (by omega) (by omega)
/-- behind reads() of a text: what is kept -/
theorem rd_txt {M : Nat} {ν : JM} {l : List Int32} {F P A : List Int64} {y : List Cl × List Int64 × List Int64 × Nat} (hl : l.length ≤ 900) (h : sRead (Cd l) F P A = .ok y) (hA : mAt M ν l ([] ++ sl (Cd l) 0 y.2.2.2) y.2.2.2) : mCn M ν (txB (stlC y.1)) ∧ byt (txB (stlC y.1)) ∧ (txB (stlC y.1)).length ≤ 1900 := by
  obtain ⟨-, e2, e3, -⟩ := sRead_ok h
  have e : txB (stlC y.1) = (cB (sl (Cd l) 0 y.2.2.2)).1 := by unfold txB; rw [jT2_stl, e2]
  rw [List.nil_append] at hA
  rw [e]
  refine ⟨hA.1.2.2.2.1, cB_byt (aT_sl e3), ?_⟩
  have h1 := hA.1.2.2.2.2.2.2.2.1
  have h2 := pl_le l y.2.2.2
  have h1 : (cB (sl (Cd l) 0 y.2.2.2)).1.length ≤ 2 * pl l y.2.2.2 := h1
  omega
theorem ptS_snoc (Tx : List (List Cl)) (c : List Cl) : ptS (Tx ++ [c]) = ptS Tx + (txB c).length := by unfold ptS; simp
/-- reads() was good: the text is kept at place u -/
theorem m_kept {M u : Nat} {μ : JM} {s : SS} {l : List Int32} {y : List Cl × List Int64 × List Int64 × Nat} {r : Int32} {f : Int32 → JM → JO Int32} {Q : Int32 → JM → Prop} (hu : u < 4) (h1 : MT M μ) (h56 : jI μ M 56 = 0) (hr : mRd M μ l [] 0 (sP s) (sA s) r (.ok y)) (hs : sRead (Cd l) (sF s) (sP s) (sA s) = .ok y) (hl : l.length ≤ 900) (hT : (sTx s).length < 600) (hroom : ptS (sTx (wTx s y.2.1 y.2.2.1 (stlC y.1) u)) ≤ 300000) (g2 : mTape M μ (sTp s)) (g3 : byt (sTp s)) (g4 : mFx M μ (sF s)) (g7 : mPool M μ ((sTx s).map txB) (ptS (sTx s))) (g8 : mVs M μ (sTx s) (sV s)) (g10 : mRi M μ (sR s)) (g11 : mWo M μ (sW s)) (g12 : mOu M μ (sO s)) (g13 : mFr M μ (sFr s)) (g14 : jI μ M 67 = sQd s) (g15 : jI μ M 68 = sQb s)
    (hQ : ∀ ν, sm M [48, 49] KA μ ν → mSt M ν (wTx s y.2.1 y.2.2.1 (stlC y.1) u) → (∀ w, jI ν (M + 34) w = if w = u then nI (sTx s).length else jI μ (M + 34) w) → Res (f (nI y.1.length) ν) Q) : Res (jcl (fX11_keeps M (nI u) μ) f) Q := by
  obtain ⟨q1, q2, q3, q4, q5, q6, q7, q8, q9, q10, q11⟩ := hr
  obtain ⟨t1, t2, t3⟩ := rd_txt hl hs q3
  have e1 : sTx (wTx s y.2.1 y.2.2.1 (stlC y.1) u) = sTx s ++ [stlC y.1] := rfl
  rw [e1, ptS_snoc] at hroom
  have sl1 : (stlC y.1).length = y.1.length := stlC_len _
  refine Res.cl (m_keeps (cls := stlC y.1) hu (by rw [sl1]; exact q9) t2 t3 (by rw [List.length_map]; exact hT) hroom h1 t1 g7 (by rw [sl1]; exact q8) q10) fun r ν ⟨k1, k2, k3, k4, k5, k6, k7⟩ => ?_
  rw [k1, sl1]
  rw [List.length_map] at k7
  refine hQ ν k2 ⟨k2.mt h1, g2.sm k2 (by decide) (by decide), g3, g4.sm k2 (by decide) (by decide), q4.sm k2 (by decide) (by decide) (by decide) (by decide) (by decide), q6.sm k2 (by decide) (by decide) (by decide) (by decide) (by decide), ?_, ?_, (k2.fI (by decide)).trans h56, g10.sm k2 (by decide) (by decide), g11.sm k2 (by decide), g12.sm k2 (by decide) (by decide), g13.sm k2 (by decide) (by decide), (k2.fI (by decide)).trans g14, (k2.fI (by decide)).trans g15⟩ k7
  · rw [e1, List.map_append, ptS_snoc]; exact k6
  · intro v hv
    rw [k7 v, k5 v, e1]
    have eV : sV (wTx s y.2.1 y.2.2.1 (stlC y.1) u) v = if v = u then some (sTx s).length else sV s v := rfl
    rw [eV]
    by_cases z : v = u
    · rw [if_pos z, if_pos z, if_pos z]
      refine ⟨by simp only [oI, Nat.zero_add], fun t ht => ?_⟩
      injection ht with ht
      subst ht
      have eg : (sTx s ++ [stlC y.1]).getD (sTx s).length [] = stlC y.1 := by simp [List.getD]
      rw [eg]
      exact ⟨by simp, rfl, by rw [sl1]; exact q9, by rw [z]; exact k4⟩
    · rw [if_neg z, if_neg z, if_neg z]
      refine ⟨(g8 v hv).1, fun t ht => ?_⟩
      obtain ⟨a1, a2, a3, a4⟩ := (g8 v hv).2 t ht
      have eg : (sTx s ++ [stlC y.1]).getD t [] = (sTx s).getD t [] := by simp [List.getD, List.getElem?_append_left a1]
      rw [eg]
      exact ⟨by rw [List.length_append]; omega, a2, a3, fun i hi => k3 _ _ (by omega) (a4 i hi)⟩
theorem m_version {M : Nat} {μ : JM} {s : SS} (v : Int32) (h : mSt M μ s) (hT : (sTx s).length < 600) (hroom : ptS (sTx (spVersion v s).2) ≤ 300000) : Res (fX11_version M v μ) (fun r ν => r = (spVersion v s).1 ∧ mSt M ν (spVersion v s).2) := by
  obtain ⟨h1, h2, h3, h4, h5, h6, h7, h8, h9, h10, h11, h12, h13, h14, h15⟩ := h
  rw [fX11_version, jck_of (by rw [h1.1]; rfl)]
  refine Res.cl (m_takesTape h1 h2 h3) fun _ μ1 ⟨s1, t1, b1⟩ => ?_
  have hM1 := b1.mt
  have base : mSt M μ1 (wTp s []) := by
    refine ⟨hM1, t1, nil_byt, h4.sm s1 (by decide) (by decide), h5.sm s1 (by decide) (by decide) (by decide) (by decide) (by decide), h6.sm s1 (by decide) (by decide) (by decide) (by decide) (by decide), h7.sm s1 (by decide) (by decide), h8.sm s1 (by decide) (clsLow.sm s1 (by decide) (by decide)), (s1.fI (by decide)).trans h9, h10.sm s1 (by decide) (by decide), h11.sm s1 (by decide), h12.sm s1 (by decide) (by decide), h13.sm s1 (by decide) (by decide), (s1.fI (by decide)).trans h14, (s1.fI (by decide)).trans h15⟩
  rw [jck_of (by rw [hM1.1]; rfl)]
  unfold spVersion at hroom ⊢
  by_cases hF : sF s = []
  · have f2 : jI μ1 M 2 = -1 := by
      have := base.2.2.2.1
      unfold mFx at this
      rw [if_pos (show sF (wTp s []) = [] from hF)] at this; exact this.1
    rw [f2, if_pos (by decide), if_pos hF]
    exact .ret ⟨rfl, base⟩
  · obtain ⟨a1, a2, a3, a4⟩ := mFx.ne base.2.2.2.1 hF
    rw [if_neg hF] at hroom
    rw [if_neg a3, if_neg hF, m_isPlace, jcl_0]
    cases hv : inR v 4 with
    | none => exact .ret ⟨rfl, base⟩
    | some u =>
      obtain ⟨rfl, hu⟩ := inR_some hv
      rw [hv] at hroom
      dsimp only at hroom ⊢
      rw [Option.isSome_some, if_pos rfl, if_neg (by decide), jck_of (by rw [hM1.1]; rfl)]
      have bs := base
      obtain ⟨g1, g2, g3, g4, g5, g6, g7, g8, g9, g10, g11, g12, g13, g14, g15⟩ := bs
      refine Res.cl (m_reads b1 a1 g9 g5 g6) fun r μ2 ⟨s2, c2, r2⟩ => ?_
      have hM2 := s2.mt hM1
      have eF : sF (wTp s []) = sF s := rfl
      have eP : sP (wTp s []) = sP s := rfl
      have eA : sA (wTp s []) = sA s := rfl
      rw [eF, eP, eA] at r2
      cases hr : sRead (Cd (sTp s)) (sF s) (sP s) (sA s) with
      | error e =>
        rw [hr] at r2
        obtain ⟨rfl, z1, z2, z3⟩ := r2
        rw [if_pos rfl, jck_of (by rw [hM2.1]; rfl), z1.2.1]
        exact .ret ⟨rfl, hM2, g2.sm s2 (by decide) (by decide), g3, g4.sm s2 (by decide) (by decide), z2, z3, g7.sm s2 (by decide) (by decide), g8.sm s2 (by decide) c2, (s2.fI (by decide)).trans g9, g10.sm s2 (by decide) (by decide), g11.sm s2 (by decide), g12.sm s2 (by decide) (by decide), g13.sm s2 (by decide) (by decide), (s2.fI (by decide)).trans g14, (s2.fI (by decide)).trans g15⟩
      | ok y =>
        rw [hr] at r2 hroom
        have r0 : r = 1 := r2.1
        rw [r0, if_neg (by decide), jck_of (by rw [hM2.1]; rfl)]
        exact m_kept (s := wTp s []) hu hM2 ((s2.fI (by decide)).trans g9) r2 hr h2.2.2 hT hroom (g2.sm s2 (by decide) (by decide)) g3 (g4.sm s2 (by decide) (by decide)) (g7.sm s2 (by decide) (by decide)) (g8.sm s2 (by decide) c2) (g10.sm s2 (by decide) (by decide)) (g11.sm s2 (by decide)) (g12.sm s2 (by decide) (by decide)) (g13.sm s2 (by decide) (by decide)) ((s2.fI (by decide)).trans g14) ((s2.fI (by decide)).trans g15) (fun ν _ k _ => .ret ⟨rfl, k⟩)
