/-! the reference: isThere, defines -/
theorem st_there {β : Type} {M md : Nat} {df : Bool} {d : Int32} {μ : JM} {l : List Int32} {ts : List Int64} {k : Nat} {cls : List Cl} {f : Int32 → JM → JO β} {Q : β → JM → Prop} (hd : d = if df then 1 else 0) (h : mAt M μ l ts k) (hc : 0 < Cd l k) (hX : jI μ M 56 = if md = 2 then 1 else 0) (hP : md = 2 → mPr M μ cls)
    (g0 : ∀ ν, md = 2 ∧ lfnd cls (Cd l k) df = none → sm M [57] [] μ ν → Res (f 0 ν) Q) (g1 : ∀ ν, ¬ (md = 2 ∧ lfnd cls (Cd l k) df = none) → (md = 2 → jI ν M 57 = oI 0 (lfnd cls (Cd l k) df)) → sm M [57] [] μ ν → Res (f 1 ν) Q) : Res (jcl (fX11_isThere M d μ) f) Q := by
  obtain ⟨h1, h2, h3⟩ := mA_ok h
  rw [fX11_isThere]
  simp only [jck_true, jde_is, jlt_is, jcl_0, beq_self_eq_true, jT_sI, jT_sJ, jP_sI, jP_sJ, jJ_sI, jI_sJ, jZ_sI, jZ_sJ, h1.1, hX]
  by_cases q : md = 2
  · rw [if_pos q, if_neg (by decide), hd, m_placed h hc (hP q)]
    simp only [jck_true, jde_is, jlt_is, jcl_0, beq_self_eq_true, jT_sI, jT_sJ, jP_sI, jP_sJ, jJ_sI, jI_sJ, jZ_sI, jZ_sJ, h1.1]
    have e57 : jI (jsI μ M 57 (oI 0 (lfnd cls (Cd l k) df))) M 57 = oI 0 (lfnd cls (Cd l k) df) := by rw [jI_sI, if_pos ⟨rfl, rfl⟩]
    have s1 : sm M [57] [] μ (jsI μ M 57 (oI 0 (lfnd cls (Cd l k) df))) := sm.sF (by decide)
    rw [e57]
    cases hl : lfnd cls (Cd l k) df with
    | none =>
      rw [hl] at s1
      rw [if_pos (by decide), jcl_0]; exact g0 _ ⟨q, hl⟩ s1
    | some i =>
      rw [hl] at s1 e57
      have := lfnd_lt hl
      have := (hP q).2.1
      rw [if_neg (by simp only [oI]; exact nI_pos (by omega)), jcl_0]
      exact g1 _ (fun z => by rw [hl] at z; cases z.2) (fun _ => by rw [hl]; exact e57) s1
  · rw [if_neg q, if_pos rfl, jcl_0]
    exact g1 μ (fun z => q z.1) (fun z => absurd z q) sm.rf
theorem defs_snoc (cls : List Cl) (c : Cl) : defs (cls ++ [c]) = if isDf c then defs cls ++ [(c.2.1, Cl.cas c)] else defs cls := by
  unfold defs
  rw [List.filter_append]
  cases h : isDf c <;> simp [List.filter, h]
theorem defs_len (cls : List Cl) : (defs cls).length ≤ cls.length := by
  unfold defs; rw [List.length_map]; exact List.length_filter_le _ _
theorem defs_find (cls : List Cl) (c : Int64) : ((defs cls).map (·.1)).idxOf? c = none ↔ lfnd cls c true = none := by
  unfold lfnd defs
  rw [List.idxOf?_eq_none_iff, List.findIdx?_eq_none_iff]
  constructor
  · intro h x hx
    cases q : isDf x with
    | false => simp
    | true =>
      have : ¬ x.2.1 = c := by
        intro e
        apply h
        rw [List.mem_map]
        exact ⟨(x.2.1, Cl.cas x), List.mem_map.mpr ⟨x, List.mem_filter.mpr ⟨hx, q⟩, rfl⟩, e⟩
      simp [this]
  · intro h hm
    rw [List.mem_map] at hm
    obtain ⟨y, hy, e⟩ := hm
    rw [List.mem_map] at hy
    obtain ⟨x, hx, rfl⟩ := hy
    rw [List.mem_filter] at hx
    have := h x hx.1
    simp only [hx.2, beq_self_eq_true, Bool.and_true, decide_eq_false_iff_not] at this
    exact this e
/-- now[] into the name's set and the clause's -/
theorem df_l {M e n : Nat} {wh : Bool} {v : CS} (he : e < 120) (hn : n < 25) : ∀ (fu i : Nat) (μ : JM), MT M μ → i ≤ 4 → 4 - i < fu → mNow M μ v → jI μ M 29 = nI n → jI μ M 33 = (if wh then 1 else 0) → (∀ j, j < i → jJ μ (M + 30) (4 * e + j) = v j &&& jJ μ (M + 10) j ∧ jJ μ (M + 19) (4 * n + j) = v j &&& jJ μ (M + 10) j) →
    Res (fX11_defines_b145 fu M (nI e) (nI i) μ) (fun r ν => r = 1 ∧ sm M [29] [19, 30] μ ν ∧ clsBut M μ ν e ∧ mHo M ν e v ∧ jI ν M 29 = nI (n + if wh then 1 else 0) ∧ (∀ j, j < 4 → jJ ν (M + 19) (4 * n + j) = v j &&& jJ ν (M + 10) j) ∧ (∀ j, j < 4 * n → jJ ν (M + 19) j = jJ μ (M + 19) j)) := by
  intro fu
  induction fu with
  | zero => intro i μ _ _ h; omega
  | succ fu ih =>
    intro i μ h hi hf hv h29 h33 hp
    rw [fX11_defines_b145]
    by_cases q : i = 4
    · subst q
      rw [if_pos (by decide)]
      simp only [jck_true, jde_is, jlt_is, jcl_0, beq_self_eq_true, jT_sI, jT_sJ, jP_sI, jP_sJ, jJ_sI, jI_sJ, jZ_sI, jZ_sJ, h.1, h33, h29]
      have fin : ∀ x : Nat, (x = if wh then 1 else 0) → Res (some ((1 : Int32), jsI μ M 29 (nI (n + x)), 0, 0)) (fun r ν => r = 1 ∧ sm M [29] [19, 30] μ ν ∧ clsBut M μ ν e ∧ mHo M ν e v ∧ jI ν M 29 = nI (n + if wh then 1 else 0) ∧ (∀ j, j < 4 → jJ ν (M + 19) (4 * n + j) = v j &&& jJ ν (M + 10) j) ∧ (∀ j, j < 4 * n → jJ ν (M + 19) j = jJ μ (M + 19) j)) := by
        intro x hx
        have s : sm M [29] [] μ (jsI μ M 29 (nI (n + x))) := sm.sF (by decide)
        exact .ret ⟨rfl, s.wk (by decide) (by decide), clsBut.sm s (by decide), fun j hj => (hp j hj).1, by rw [jI_sI, if_pos ⟨rfl, rfl⟩, hx], fun j hj => (hp j hj).2, fun j hj => rfl⟩
      cases wh with
      | false =>
        simp only [Bool.false_eq_true, if_false, if_true]
        have := fin 0 rfl
        rw [← nI_add] at this
        simp only [Bool.false_eq_true, if_false] at this
        exact this
      | true =>
        simp only [if_true]
        rw [if_neg (by decide), nI_1]; exact fin 1 rfl
    · have i4 : i < 4 := by omega
      rw [if_neg (show ¬ (4 : Int32) ≤ nI i from nI_ge (b := 4) (by omega) (by decide))]
      simp only [jck_true, jde_is, jlt_is, jcl_0, beq_self_eq_true, jT_sI, jT_sJ, jP_sI, jP_sJ, jJ_sI, jI_sJ, jZ_sI, jZ_sJ, h.1, h29, mP_now h, mT_now h, mP_nameSet h, mT_nameSet h, mP_holding h, mT_holding h, ix4, jin_nI i4 (show 4 < 2 ^ 31 by decide), jin_nI (show 4 * e + i < 480 by omega) (by decide), jin_nI (show 4 * n + i < 100 by omega) (by decide), nI_clamp (show 4 * e + i < 2 ^ 31 by omega), nI_clamp (show 4 * n + i < 2 ^ 31 by omega), nI_clamp (show i < 2 ^ 31 by omega), nI_1, jJ_sJ_ne (show M + 16 ≠ M + 19 by omega), hv i i4]
      generalize hμ1 : jsJ μ (M + 19) (4 * n + i) (v i &&& jJ μ (M + 10) i) = μ1
      have s1 : sm M [29] [19, 30] μ μ1 := by rw [← hμ1]; exact sm.sJ (by decide)
      have s1' : sm M [] [19] μ μ1 := by rw [← hμ1]; exact sm.sJ (by decide)
      have c1 : clsBut M μ μ1 e := clsBut.sm s1' (by decide)
      obtain ⟨s2, c2, v2⟩ := ho_step (M := M) (e := e) (μ := μ1) (v i &&& jJ μ (M + 10) i) i4
      generalize jsJ μ1 (M + 30) (4 * e + i) (v i &&& jJ μ (M + 10) i) = μ2 at s2 c2 v2 ⊢
      have S : sm M [] [19, 30] μ μ2 := (s1'.wk (by decide) (by decide)).tr (s2.wk (by decide) (by decide))
      have e10 : jJ μ2 (M + 10) = jJ μ (M + 10) := S.aJ (by decide) (by decide)
      have e19 : ∀ j, jJ μ2 (M + 19) j = if j = 4 * n + i then v i &&& jJ μ (M + 10) i else jJ μ (M + 19) j := by
        intro j
        rw [s2.aJ (by decide) (by decide), ← hμ1, jJ_sJ]
        by_cases z : j = 4 * n + i
        · rw [if_pos ⟨rfl, z⟩, if_pos z]
        · rw [if_neg (fun y => z y.2), if_neg z]
      have e30 : ∀ j, j < 4 → jJ μ1 (M + 30) (4 * e + j) = jJ μ (M + 30) (4 * e + j) := fun j hj => by rw [s1'.aJ (by decide) (by decide)]
      refine (ih (i + 1) μ2 (S.mt h) (by omega) (by omega) (hv.sm S (by decide) (by decide)) ((S.fI (by decide)).trans h29) ((S.fI (by decide)).trans h33) (fun j hj => ?_)).mono ?_
      · rw [v2 j (by omega), e19, e10]
        by_cases z : j = i
        · subst z; rw [if_pos rfl, if_pos rfl]; exact ⟨rfl, rfl⟩
        · rw [if_neg z, if_neg (by omega), e30 j (by omega)]; exact hp j (by omega)
      · rintro r ν ⟨q1, q2, q3, q4, q5, q6, q7⟩
        refine ⟨q1, (S.wk (by decide) (by decide)).tr q2, (c1.tr c2).tr q3, q4, q5, q6, fun j hj => ?_⟩
        rw [q7 j hj, e19, if_neg (by omega)]
def mIni (M : Nat) (μ : JM) (e : Nat) : Prop := jI μ (M + 22) e = -1 ∧ jI μ (M + 23) e = -1 ∧ jI μ (M + 24) e = -1 ∧ jI μ (M + 25) e = -1 ∧ jI μ (M + 26) e = 0 ∧ jI μ (M + 27) e = 0
theorem mIni.sm {M : Nat} {μ ν : JM} {fs as : List Nat} {e : Nat} (h : mIni M μ e) (s : sm M fs as μ ν) (ha : ∀ i ∈ [22, 23, 24, 25, 26, 27], i ∉ as) : mIni M ν e := by
  unfold mIni
  rw [s.aI (by decide) (ha 22 (by decide)), s.aI (by decide) (ha 23 (by decide)), s.aI (by decide) (ha 24 (by decide)), s.aI (by decide) (ha 25 (by decide)), s.aI (by decide) (ha 26 (by decide)), s.aI (by decide) (ha 27 (by decide))]
  exact h
def Cx (M : Nat) (μ : JM) (l : List Int32) (F : List Int64) (md : Nat) (cls : List Cl) (kk : Nat) : Prop := CI M μ l F (dfs (decide (md = 0)) cls) (decide (md = 0)) ∧ jI μ M 56 = (if md = 2 then 1 else 0) ∧ (md = 0 → kk = cls.length ∧ mCls M μ 96 cls) ∧ (md = 2 → mPr M μ cls) ∧ (md ≠ 0 → kk = 0) ∧ kk < 24
def XF : List Nat := [13, 14, 15, 16, 17, 18, 20, 21, 5, 8, 29, 57]
def XA : List Nat := [4, 5, 6, 7, 9, 13, 14, 15, 16, 17, 18, 19, 21, 22, 23, 24, 25, 26, 27, 28, 29, 30]
def mCz (M : Nat) (ν : JM) (l : List Int32) (md : Nat) (cls : List Cl) (ts : List Int64) (k kk : Nat) (P A : List Int64) (r : Int32) (x : Except Er (Cl × List Int64 × List Int64 × Nat)) : Prop := match x with
  | .error f => r = 0 ∧ mBad M ν l f ∧ mWe (decide (md = 0)) M ν 5 4 5 P ∧ mWe (decide (md = 0)) M ν 8 6 7 A
  | .ok y => r = 1 ∧ k ≤ y.2.2.2 ∧ mAt M ν l (ts ++ sl (Cd l) k y.2.2.2) y.2.2.2 ∧ mWl M ν 5 4 5 6 y.2.1 ∧ pfx (decide (md = 0)) P y.2.1 ∧ mWl M ν 8 6 7 12 y.2.2.1 ∧ pfx (decide (md = 0)) A y.2.2.1 ∧ mCl M ν (96 + kk) y.1 ∧ mNa M ν (dfs (decide (md = 0)) (cls ++ [y.1])) ∧ (md = 2 → jI ν M 57 = oI 0 (lfnd cls y.1.2.1 (isDf y.1))) ∧ wfc y.1
theorem sl_cons (C : Nat → Int64) {s k : Nat} (h : s < k) : sl C s k = C s :: sl C (s + 1) k := by
  rw [← sl_app C (show s ≤ s + 1 by omega) (show s + 1 ≤ k by omega), sl_one]; rfl
theorem mLab_sm2 {M : Nat} {μ ν : JM} {fs as : List Nat} {e : Nat} {c : Int64} (h : mLab M μ e c) (s : sm M fs as μ ν) (h1 : 28 ∉ as) (h2 : 29 ∉ as) : mLab M ν e c := by
  unfold mLab
  rw [s.aI (by decide) h1, s.aI (by decide) h2]
  exact h
def mD3 (M : Nat) (ν : JM) (l : List Int32) (N : List (Int64 × CS)) (wh : Bool) (ts : List Int64) (k e : Nat) (r : Int32) (x : Except Er (CS × Nat)) : Prop := match x with
  | .error f => r = 0 ∧ mBad M ν l f
  | .ok v => r = 1 ∧ k + 2 ≤ v.2 ∧ Cd l (k + 1) = -3001 ∧ mAt M ν l (ts ++ sl (Cd l) k v.2) v.2 ∧ mHo M ν e v.1 ∧ mNa M ν (if wh then N ++ [(Cd l k, v.1)] else N)
theorem m_df3 {M e : Nat} {μ : JM} {l : List Int32} {ts : List Int64} {k : Nat} {F : List Int64} {N : List (Int64 × CS)} {wh : Bool} (he : e < 120) (h : mAt M μ l ts k) (hc : 0 < Cd l k) (hC : CI M μ l F N wh) (hW : mW μ (M + 17) (M + 18) (N.map (·.1) ++ [Cd l k])) (hn : wh = true → N.length < 24) :
    Res (jcl (fX11_takes M μ) fun r96 μ97 => if r96 = 0 then (some ((0 : Int32), μ97, 0, 0)) else (jck ((jT μ97 M).1 == 12) <| jcl (fX11_expects M (51 : Int64) μ97) fun r107 μ108 => if r107 = 0 then (some ((0 : Int32), μ108, 0, 0)) else (jck ((jT μ108 M).1 == 12) <| jcl (fX11_condition M μ108) fun r118 μ119 => if r118 = 0 then (some ((0 : Int32), μ119, 0, 0)) else (fX11_defines_b145 jfuel M (nI e) (0 : Int32) μ119))))
    (fun r ν => sm M (29 :: TK) [9, 13, 14, 15, 16, 19, 30] μ ν ∧ clsBut M μ ν e ∧ mD3 M ν l N wh ts k e r (eb (tk (Cd l) k) fun k2 => eb (exC (Cd l) (-3001) k2) fun k3 => sCon (Cd l) F N wh 2000 k3)) := by
  obtain ⟨h1, h2, h3⟩ := mA_ok h
  refine st_take h (isT_free hc) (fun ν f hf hs hb => ?_) (fun μ6 hf6 s6 hA6 => ?_)
  · rw [if_pos rfl, hf, eb_err]
    exact .ret ⟨hs.wk (by decide) (by decide), clsBut.sm hs (by decide), rfl, hb⟩
  · have hM6 := s6.mt h1
    rw [if_neg (by decide), hf6, eb_ok]
    simp only [jck_true, jde_is, jlt_is, jcl_0, beq_self_eq_true, jT_sI, jT_sJ, jP_sI, jP_sJ, jJ_sI, jI_sJ, jZ_sI, jZ_sJ, hM6.1]
    refine st_exW 51 (-3001) 1 (by decide) (by decide) (by decide) hA6 (fun ν f hf hs hb => ?_) (fun μ7 hf7 s7 hA7 => ?_)
    · rw [if_pos rfl, hf, eb_err]
      exact .ret ⟨(s6.tr hs).wk (by decide) (by decide), clsBut.sm (s6.tr hs) (by decide), rfl, hb⟩
    · have S7 := s6.tr s7
      have hM7 := S7.mt h1
      have k2as : Cd l (k + 1) = -3001 := by
        unfold exC at hf7
        by_cases z : Cd l (k + 1) = -3001
        · exact z
        · rw [if_neg z] at hf7; cases hf7
      rw [if_neg (by decide), hf7, eb_ok]
      simp only [jck_true, jde_is, jlt_is, jcl_0, beq_self_eq_true, jT_sI, jT_sJ, jP_sI, jP_sJ, jJ_sI, jI_sJ, jZ_sI, jZ_sJ, hM7.1]
      have hC7 := hC.sm S7 (by decide) (by decide)
      refine st_cond hA7 hC7 (fun ν f hf hs hb => ?_) (fun μ8 v hf8 s8 hk8 hA8 hN8 => ?_)
      · rw [if_pos rfl, hf]
        have S8 : sm M TK CA μ ν := (S7.wk (by decide) (by decide)).tr hs
        exact .ret ⟨S8.wk (by decide) (by decide), clsBut.sm S8 (by decide), rfl, hb⟩
      · have S8 : sm M TK CA μ μ8 := (S7.wk (by decide) (by decide)).tr s8
        have hM8 := S8.mt h1
        have hC8 := hC7.sm s8 (by decide) (by decide)
        have Nl := hC.2.1.2.1
        rw [if_neg (by decide), hf8]
        refine (df_l (wh := wh) (n := N.length) he (by omega) jfuel 0 μ8 hM8 (by omega) (jfuel_gt (by omega)) hN8 hC8.2.1.1 hC8.2.2 (fun j hj => by omega)).mono ?_
        rintro r ν ⟨rfl, q2, q3, q4, q5, q6, q7⟩
        have S9 : sm M (29 :: TK) [9, 13, 14, 15, 16, 19, 30] μ ν := (S8.wk (by decide) (by decide)).tr (q2.wk (by decide) (by decide))
        have eL : ts ++ sl (Cd l) k (k + 1) ++ sl (Cd l) (k + 1) (k + 1 + 1) ++ sl (Cd l) (k + 1 + 1) v.2 = ts ++ sl (Cd l) k v.2 := by
          rw [List.append_assoc, List.append_assoc, sl_app _ (by omega) hk8, sl_app _ (by omega) (by omega)]
        rw [eL] at hA8
        refine ⟨S9, (clsBut.sm S8 (by decide)).tr q3, rfl, by show k + 2 ≤ v.2; omega, k2as, hA8.sm q2 (by decide) (by decide), q4, ?_⟩
        cases wh with
        | false =>
          rw [if_neg (by decide)]
          refine ⟨by rw [q5]; simp, Nl, (hW.pre (List.prefix_append _ _)).sm S9 (by decide) (by decide) (by decide) (by decide), fun n hn i hi => ?_⟩
          rw [q7 _ (by omega), S8.aJ (by decide) (by decide), S9.aJ (by decide) (by decide)]; exact hC.2.1.2.2.2 n hn i hi
        | true =>
          rw [if_pos rfl]
          have := hn rfl
          refine ⟨by rw [q5]; simp, by simp; omega, ?_, fun n hn i hi => ?_⟩
          · rw [List.map_append]; exact hW.sm S9 (by decide) (by decide) (by decide) (by decide)
          · rw [List.length_append, List.length_singleton] at hn
            by_cases y : n = N.length
            · subst y
              rw [q6 i hi]
              congr 2
              simp [List.getD]
            · have hn2 : n < N.length := by omega
              rw [q7 _ (by omega), S8.aJ (by decide) (by decide), S9.aJ (by decide) (by decide), hC.2.1.2.2.2 n hn2 i hi]
              congr 2
              simp [List.getD, List.getElem?_append_left hn2]
def XG : List Nat := [13, 14, 15, 16, 17, 18, 20, 21, 29, 57]
def XB : List Nat := [9, 13, 14, 15, 16, 17, 18, 19, 21, 28, 29, 30]
def mD4 (M : Nat) (ν : JM) (l : List Int32) (md : Nat) (cls : List Cl) (ts : List Int64) (k e : Nat) (r : Int32) (x : Except Er (CS × Nat)) : Prop := match x with
  | .error f => r = 0 ∧ mBad M ν l f
  | .ok v => r = 1 ∧ k + 2 ≤ v.2 ∧ Cd l (k + 1) = -3001 ∧ mAt M ν l (ts ++ sl (Cd l) k v.2) v.2 ∧ mHo M ν e v.1 ∧ jI ν (M + 21) e = 0 ∧ mLab M ν e (Cd l k) ∧ mNa M ν (if md = 0 then defs cls ++ [(Cd l k, v.1)] else []) ∧ (md = 2 → jI ν M 57 = oI 0 (lfnd cls (Cd l k) true))
theorem m_b71 {M md kk : Nat} {μ : JM} {l : List Int32} {ts : List Int64} {k : Nat} {F : List Int64} {cls : List Cl} (h : mAt M μ l ts k) (hc : 0 < Cd l k) (hX : Cx M μ l F md cls kk) :
    Res (fX11_defines_b71 M (nI (96 + kk)) μ) (fun r ν => sm M XG XB μ ν ∧ clsBut M μ ν (96 + kk) ∧ mD4 M ν l md cls ts k (96 + kk) r (if md = 2 ∧ lfnd cls (Cd l k) true = none then .error (k, 3) else eb (tk (Cd l) k) fun k2 => eb (exC (Cd l) (-3001) k2) fun k3 => sCon (Cd l) F (dfs (decide (md = 0)) cls) (decide (md = 0)) 2000 k3)) := by
  obtain ⟨h1, h2, h3⟩ := mA_ok h
  obtain ⟨x1, x2, x3, x4, x5, x6⟩ := hX
  have he : 96 + kk < 120 := by omega
  rw [fX11_defines_b71]
  simp only [jck_true, jde_is, jlt_is, jcl_0, beq_self_eq_true, jT_sI, jT_sJ, jP_sI, jP_sJ, jJ_sI, jI_sJ, jZ_sI, jZ_sJ, h1.1]
  refine st_there (md := md) (df := true) (cls := cls) rfl h hc x2 x4 (fun μ2 hz s2 => ?_) (fun μ2 hz h57 s2 => ?_)
  · rw [if_pos rfl, if_pos hz]
    have hM2 := s2.mt h1
    simp only [jck_true, jde_is, jlt_is, jcl_0, beq_self_eq_true, jT_sI, jT_sJ, jP_sI, jP_sJ, jJ_sI, jI_sJ, jZ_sI, jZ_sJ, hM2.1]
    refine st_fail 3 3 rfl (by decide) (h.sm s2 (by decide) (by decide)) (fun ν hs hb => ?_)
    have S : sm M XG [9] μ ν := (s2.wk (by decide) (by decide)).tr (hs.wk (by decide) (by decide))
    exact .ck jbl_0 (.ret ⟨S.wk (by decide) (by decide), clsBut.sm S (by decide), rfl, hb⟩)
  · rw [if_neg (by decide), if_neg hz]
    have hM2 := s2.mt h1
    simp only [jck_true, jde_is, jlt_is, jcl_0, beq_self_eq_true, jT_sI, jT_sJ, jP_sI, jP_sJ, jJ_sI, jI_sJ, jZ_sI, jZ_sJ, hM2.1, mP_kind hM2, mT_kind hM2, jin_nI he (by decide), nI_clamp (show 96 + kk < 2 ^ 31 by omega)]
    generalize hμ3 : jsI μ2 (M + 21) (96 + kk) 0 = μ3
    have s3 : sm M [] [21] μ2 μ3 := by rw [← hμ3]; exact sm.sA (by decide) (by decide)
    have c3 : clsBut M μ2 μ3 (96 + kk) := by rw [← hμ3]; exact clsBut.setI (by decide)
    have v3 : jI μ3 (M + 21) (96 + kk) = 0 := by rw [← hμ3, jI_sI, if_pos ⟨rfl, rfl⟩]
    have s23 : sm M [57] [21] μ μ3 := (s2.wk (by decide) (by decide)).tr (s3.wk (by decide) (by decide))
    obtain ⟨μ4, k1, s4, c4, l4⟩ := m_keepsLabel (e := 96 + kk) (h.sm s23 (by decide) (by decide)) hc he
    rw [k1]
    have s14 : sm M [57] [21, 28, 29] μ μ4 := (s23.wk (by decide) (by decide)).tr (s4.wk (by decide) (by decide))
    have hM4 := s14.mt h1
    have hA4 := h.sm s14 (by decide) (by decide)
    have hC4 := x1.sm s14 (by decide) (by decide)
    have hN4 := hC4.2.1
    have Nl := hN4.2.1
    simp only [jck_true, jde_is, jlt_is, jcl_0, beq_self_eq_true, jT_sI, jT_sJ, jP_sI, jP_sJ, jJ_sI, jI_sJ, jZ_sI, jZ_sJ, hM4.1, mP_nameName hM4, mP_nameSize hM4, hN4.1]
    have hmx : ((dfs (decide (md = 0)) cls).map (·.1)).length < 25 := by rw [List.length_map]; omega
    obtain ⟨μ5, k2, s5, w5⟩ := m_nameC (mx := 25) hA4 hc (a := 17) (s := 18) (by decide) (by decide) (by decide) (by decide) (by decide) (mT_nameName hM4) (mT_nameSize hM4) hmx (by decide) hN4.2.2.1
    rw [List.length_map] at k2
    rw [k2]
    have s15 : sm M [57] [17, 18, 21, 28, 29] μ μ5 := (s14.wk (by decide) (by decide)).tr (s5.wk (by decide) (by decide))
    have hM5 := s15.mt h1
    have hA5 := h.sm s15 (by decide) (by decide)
    have C5 : clsBut M μ μ5 (96 + kk) := (clsBut.sm s2 (by decide)).tr (c3.tr (c4.tr (clsBut.sm s5 (by decide))))
    have hN5 : mNa M μ5 (dfs (decide (md = 0)) cls) := ⟨(s5.fI (by decide)).trans hN4.1, Nl, w5.pre (List.prefix_append _ _), fun n hn i hi => by rw [s5.aJ (by decide) (by decide), s5.aJ (by decide) (by decide)]; exact hN4.2.2.2 n hn i hi⟩
    have hC5 : CI M μ5 l F (dfs (decide (md = 0)) cls) (decide (md = 0)) := ⟨hC4.1.sm s5 (by decide) (by decide), hN5, (s5.fI (by decide)).trans hC4.2.2⟩
    have l5 := mLab_sm2 l4 s5 (by decide) (by decide)
    have v5 : jI μ5 (M + 21) (96 + kk) = 0 := by rw [s5.aI (by decide) (by decide), s4.aI (by decide) (by decide)]; exact v3
    have u5 : jI μ5 M 57 = jI μ2 M 57 := by rw [s5.fI (by decide), s4.fI (by decide), s3.fI (by decide)]
    simp only [jck_true, jde_is, jlt_is, jcl_0, beq_self_eq_true, jT_sI, jT_sJ, jP_sI, jP_sJ, jJ_sI, jI_sJ, jZ_sI, jZ_sJ, hM5.1]
    refine (m_df3 he hA5 hc hC5 w5 (fun z => ?_)).mono ?_
    · have := (x3 (by simpa using z)).1
      unfold dfs; rw [z, if_pos rfl]
      have := defs_len cls; omega
    · rintro r ν ⟨q1, q2, q3⟩
      refine ⟨(s15.wk (by decide) (by decide)).tr (q1.wk (by decide) (by decide)), C5.tr q2, ?_⟩
      generalize (eb (tk (Cd l) k) fun k2 => eb (exC (Cd l) (-3001) k2) fun k3 => sCon (Cd l) F (dfs (decide (md = 0)) cls) (decide (md = 0)) 2000 k3) = x at q3 ⊢
      cases x with
      | error f => exact q3
      | ok v =>
        obtain ⟨z1, z2, z3, z4, z5, z6⟩ := q3
        refine ⟨z1, z2, z3, z4, z5, by rw [q1.aI (by decide) (by decide)]; exact v5, mLab_sm2 l5 q1 (by decide) (by decide), ?_, fun y => by rw [q1.fI (by decide), u5]; exact h57 y⟩
        by_cases y : md = 0
        · unfold dfs at z6
          rw [show decide (md = 0) = true by simpa using y, if_pos rfl, if_pos rfl] at z6
          rw [if_pos y]; exact z6
        · unfold dfs at z6
          rw [show decide (md = 0) = false by simpa using y, if_neg (by decide), if_neg (by decide)] at z6
          rw [if_neg y]; exact z6
theorem eb_assoc {α β γ : Type} (x : Except Er α) (f : α → Except Er β) (g : β → Except Er γ) : eb (eb x f) g = eb x fun a => eb (f a) g := by cases x <;> rfl
theorem eb_if {α β : Type} {p : Prop} [Decidable p] (x y : Except Er α) (f : α → Except Er β) : eb (if p then x else y) f = if p then eb x f else eb y f := by split <;> rfl
theorem m_defines {M md kk : Nat} {μ : JM} {l : List Int32} {ts : List Int64} {k : Nat} {F : List Int64} {cls : List Cl} {P A : List Int64} (h : mAt M μ l ts k) (hk : Cd l k = -3000) (hX : Cx M μ l F md cls kk) (hI : mIni M μ (96 + kk)) (hP : mWl M μ 5 4 5 6 P) (hA : mWl M μ 8 6 7 12 A) :
    Res (fX11_defines M (nI (96 + kk)) μ) (fun r ν => sm M XF XA μ ν ∧ clsBut M μ ν (96 + kk) ∧ mCz M ν l md cls ts k kk P A r (sDefine (Cd l) F md cls P A k)) := by
  obtain ⟨h1, h2, h3⟩ := mA_ok h
  have hX0 := hX
  obtain ⟨x1, x2, x3, x4, x5, x6⟩ := hX
  have he : 96 + kk < 120 := by omega
  have bad : ∀ {ν : JM} {f : Er} {fs as : List Nat}, sm M fs as μ ν → (∀ i ∈ fs, i ∈ XF) → (∀ i ∈ as, i ∈ XA) → (∀ i ∈ [4, 5, 6, 7], i ∉ as) → (∀ i ∈ [5, 8], i ∉ fs) → clsBut M μ ν (96 + kk) → mBad M ν l f → sm M XF XA μ ν ∧ clsBut M μ ν (96 + kk) ∧ mCz M ν l md cls ts k kk P A 0 (.error f) := by
    intro ν f fs as s q1 q2 q3 q0 q4 q5
    exact ⟨s.wk q1 q2, q4, rfl, q5, (hP.sm s (q0 5 (by decide)) (by decide) (by decide) (q3 4 (by decide)) (q3 5 (by decide))).we0, (hA.sm s (q0 8 (by decide)) (by decide) (by decide) (q3 6 (by decide)) (q3 7 (by decide))).we0⟩
  rw [fX11_defines]
  simp only [jck_true, jde_is, jlt_is, jcl_0, beq_self_eq_true, jT_sI, jT_sJ, jP_sI, jP_sJ, jJ_sI, jI_sJ, jZ_sI, jZ_sJ, h1.1]
  unfold sDefine
  rw [if_neg (by rintro ⟨z1, z2⟩; have := (x3 z1).1; omega)]
  refine st_take h (isT_lit (-3000) hk (by decide) (z := -3000) (by decide)) (fun ν f hf hs hb => ?_) (fun μ1 hf1 s1 hA1 => ?_)
  · rw [if_pos rfl, hf, eb_err]
    exact .ret (bad hs (by decide) (by decide) (by decide) (by decide) (clsBut.sm hs (by decide)) hb)
  · have hM1 := s1.mt h1
    have C1 : clsBut M μ μ1 (96 + kk) := clsBut.sm s1 (by decide)
    rw [if_neg (by decide), hf1, eb_ok]
    simp only [jck_true, jde_is, jlt_is, jcl_0, beq_self_eq_true, jT_sI, jT_sJ, jP_sI, jP_sJ, jJ_sI, jI_sJ, jZ_sI, jZ_sJ, hM1.1]
    refine st_name hA1 (fun ν f hf hs hb => ?_) (fun he1 hc => ?_)
    · rw [if_pos rfl, hf, eb_err]
      exact .ret (bad (s1.tr hs) (by decide) (by decide) (by decide) (by decide) (clsBut.sm (s1.tr hs) (by decide)) hb)
    · rw [if_neg (by decide), he1, eb_ok]
      have hC1 := x1.sm s1 (by decide) (by decide)
      have w1 : jI μ1 M 33 = if decide (md = 0) then 1 else 0 := hC1.2.2
      simp only [jck_true, jde_is, jlt_is, jcl_0, beq_self_eq_true, jT_sI, jT_sJ, jP_sI, jP_sJ, jJ_sI, jI_sJ, jZ_sI, jZ_sJ, hM1.1, w1]
      have hX1 : Cx M μ1 l F md cls kk := ⟨hC1, (s1.fI (by decide)).trans x2, fun z => ⟨(x3 z).1, (x3 z).2.but C1 (Or.inr (by have := (x3 z).1; omega))⟩, fun z => (x4 z).sm s1 (by decide) (by decide), x5, x6⟩
      have b71 : Res (fX11_defines_b71 M (nI (96 + kk)) μ1) (fun r ν => sm M XF XA μ ν ∧ clsBut M μ ν (96 + kk) ∧ mCz M ν l md cls ts k kk P A r (if md = 2 ∧ lfnd cls (Cd l (k + 1)) true = none then .error (k + 1, 3) else eb (tk (Cd l) (k + 1)) fun k2 => eb (exC (Cd l) (-3001) k2) fun k3 => eb (sCon (Cd l) F (dfs (decide (md = 0)) cls) (decide (md = 0)) 2000 k3) fun x => .ok ((0, Cd l (k + 1), -1, -1, -1, -1, 0, x.1, sl (Cd l) k x.2), P, A, x.2))) := by
        refine (m_b71 hA1 hc hX1).mono ?_
        rintro r ν ⟨q1, q2, q3⟩
        have e : (if md = 2 ∧ lfnd cls (Cd l (k + 1)) true = none then .error (k + 1, 3) else eb (tk (Cd l) (k + 1)) fun k2 => eb (exC (Cd l) (-3001) k2) fun k3 => eb (sCon (Cd l) F (dfs (decide (md = 0)) cls) (decide (md = 0)) 2000 k3) fun x => .ok (((0, Cd l (k + 1), -1, -1, -1, -1, 0, x.1, sl (Cd l) k x.2), P, A, x.2) : Cl × List Int64 × List Int64 × Nat)) = eb (if md = 2 ∧ lfnd cls (Cd l (k + 1)) true = none then .error (k + 1, 3) else eb (tk (Cd l) (k + 1)) fun k2 => eb (exC (Cd l) (-3001) k2) fun k3 => sCon (Cd l) F (dfs (decide (md = 0)) cls) (decide (md = 0)) 2000 k3) (fun x => .ok ((0, Cd l (k + 1), -1, -1, -1, -1, 0, x.1, sl (Cd l) k x.2), P, A, x.2)) := by
          rw [eb_if, eb_err, eb_assoc]
          simp only [eb_assoc]
        rw [e]
        have S : sm M XG XB μ ν := (s1.wk (by decide) (by decide)).tr q1
        generalize (if md = 2 ∧ lfnd cls (Cd l (k + 1)) true = none then .error (k + 1, 3) else eb (tk (Cd l) (k + 1)) fun k2 => eb (exC (Cd l) (-3001) k2) fun k3 => sCon (Cd l) F (dfs (decide (md = 0)) cls) (decide (md = 0)) 2000 k3) = y at q3 ⊢
        cases y with
        | error f =>
          obtain ⟨rfl, q4⟩ := q3
          rw [eb_err]
          exact bad S (by decide) (by decide) (by decide) (by decide) (C1.tr q2) q4
        | ok v =>
          obtain ⟨rfl, z2, z3, z4, z5, z6, z7, z8, z9⟩ := q3
          rw [eb_ok]
          rw [List.append_assoc, sl_app _ (by omega) (by omega)] at z4
          have hI9 : mIni M ν (96 + kk) := hI.sm S (by decide)
          refine ⟨S.wk (by decide) (by decide), C1.tr q2, rfl, by show k ≤ v.2; omega, z4, hP.sm S (by decide) (by decide) (by decide) (by decide) (by decide), pfx.rf, hA.sm S (by decide) (by decide) (by decide) (by decide) (by decide), pfx.rf, ⟨⟨z6, hI9.1, hI9.2.1, hI9.2.2.1, hI9.2.2.2.1, hI9.2.2.2.2.1.trans (show (0 : Int32) = pcI 0 by decide), hI9.2.2.2.2.2⟩, z7, z5⟩, ?_, z9, ?_⟩
          · unfold dfs
            by_cases z : md = 0
            · rw [if_pos z] at z8
              rw [if_pos (by simpa using z), defs_snoc]; exact z8
            · rw [if_neg z] at z8
              rw [if_neg (by simpa using z)]; exact z8
          · obtain ⟨-, d2, d3⟩ := hA1.wd hc
            refine ⟨_, d2, d3, ?_⟩
            rw [if_pos (by rfl)]
            refine ⟨sl (Cd l) (k + 1 + 1 + 1) v.2, ?_⟩
            show sl (Cd l) k v.2 = _
            rw [sl_cons _ (by omega), sl_cons _ (by omega), sl_cons _ (by omega), hk, z3]
      have b61 : Res (fX11_defines_b61 M μ1) (fun r ν => sm M XF XA μ ν ∧ clsBut M μ ν (96 + kk) ∧ mCz M ν l md cls ts k kk P A r (.error (k + 1, 2))) := by
        rw [fX11_defines_b61]
        simp only [jck_true, jde_is, jlt_is, jcl_0, beq_self_eq_true, jT_sI, jT_sJ, jP_sI, jP_sJ, jJ_sI, jI_sJ, jZ_sI, jZ_sJ, hM1.1]
        refine st_fail 2 2 rfl (by decide) hA1 (fun ν hs hb => ?_)
        exact .ck jbl_0 (.ret (bad (s1.tr hs) (by decide) (by decide) (by decide) (by decide) (clsBut.sm (s1.tr hs) (by decide)) hb))
      by_cases z : md = 0
      · have zt : decide (md = 0) = true := by simpa using z
        have hF := hC1.1
        have hFl := hF.2.1
        rw [if_neg (by rw [zt]; decide), mP_factName hM1, mP_factSize hM1, hF.1]
        rw [mA_find hA1 hc (A := M + 2) (S := M + 3) (by rw [mT_factName hM1]) (by rw [mT_factName hM1]; simp; omega) (by rw [mT_factName hM1]; decide) (by rw [mT_factSize hM1]) (by rw [mT_factSize hM1]; simp; omega) (by rw [mT_factSize hM1]; decide) hF.2.2.1 (by omega), jcl_0]
        rcases ixC_lt (cs := F) (c := Cd l (k + 1)) (by omega) with ⟨i, f1, f2, f3, f4, f5⟩ | ⟨f1, f2⟩
        · rw [if_pos f5, if_pos ⟨z, Or.inl (by rw [f1]; rfl)⟩]; exact b61
        · rw [f2, if_neg (by decide)]
          have hN := hC1.2.1
          have e2 : dfs (decide (md = 0)) cls = defs cls := by unfold dfs; rw [if_pos zt]
          rw [e2] at hN
          have hNl := hN.2.1
          have fi := mA_find (cs := (defs cls).map (·.1)) hA1 hc (A := M + 17) (S := M + 18) (by rw [mT_nameName hM1]) (by rw [mT_nameName hM1, List.length_map]; simp; omega) (by rw [mT_nameName hM1]; decide) (by rw [mT_nameSize hM1]) (by rw [mT_nameSize hM1, List.length_map]; simp; omega) (by rw [mT_nameSize hM1]; decide) hN.2.2.1 (by rw [List.length_map]; omega)
          rw [List.length_map] at fi
          simp only [jck_true, jde_is, jlt_is, jcl_0, beq_self_eq_true, jT_sI, jT_sJ, jP_sI, jP_sJ, jJ_sI, jI_sJ, jZ_sI, jZ_sJ, hM1.1, mP_nameName hM1, mP_nameSize hM1, hN.1, fi]
          rcases ixC_lt (cs := (defs cls).map (·.1)) (c := Cd l (k + 1)) (by rw [List.length_map]; omega) with ⟨i, g1, g2, g3, g4, g5⟩ | ⟨g1, g2⟩
          · rw [if_neg g4, if_pos]
            · exact b61
            · refine ⟨z, Or.inr ?_⟩
              cases y : lfnd cls (Cd l (k + 1)) true with
              | none => rw [(defs_find cls _).mpr y] at g1; cases g1
              | some i => rfl
          · rw [g2, if_pos (by decide), if_neg]
            · exact b71
            · rintro ⟨-, y | y⟩
              · rw [f1] at y; cases y
              · rw [(defs_find cls _).mp g1] at y; cases y
      · rw [if_pos (by rw [if_neg (by simpa using z)]), if_neg (fun y => z y.1)]
        exact b71
