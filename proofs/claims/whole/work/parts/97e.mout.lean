/-! the reference: feed, end, write, octet, back, quarreling, free -/
theorem nb_nb (x : Int32) : nb (nb x) = nb x := fb_byte_twice x
theorem four_byt (x : Int32) : byt (four x) := by
  intro c hc
  unfold four at hc
  simp only [List.mem_cons, List.not_mem_nil, or_false] at hc
  rcases hc with rfl | rfl | rfl | rfl <;> exact nb_nb _
theorem mSt_tp {M : Nat} {μ ν : JM} {s : SS} {l : List Int32} (h : mSt M μ s) (q : sm M [1] [1] μ ν) (ht : mTape M ν l) (hb : byt l) : mSt M ν (wTp s l) := by
  obtain ⟨h1, h2, h3, h4, h5, h6, h7, h8, h9, h10, h11, h12, h13, h14, h15⟩ := h
  exact ⟨q.mt h1, ht, hb, h4.sm q (by decide) (by decide), h5.sm q (by decide) (by decide) (by decide) (by decide) (by decide), h6.sm q (by decide) (by decide) (by decide) (by decide) (by decide), h7.sm q (by decide) (by decide), h8.sm q (by decide) (clsLow.sm q (by decide) (by decide)), (q.fI (by decide)).trans h9, h10.sm q (by decide) (by decide), h11.sm q (by decide), h12.sm q (by decide) (by decide), h13.sm q (by decide) (by decide), (q.fI (by decide)).trans h14, (q.fI (by decide)).trans h15⟩
theorem wTape_sm {M : Nat} {μ ν : JM} (h : smI (wTape M) μ ν) : sm M [1] [1] μ ν := by
  refine ⟨h.1, h.2.1, h.2.2.1, fun k hk => h.2.2.2.2 M k ?_, fun a h1 h2 => ⟨funext fun k => h.2.2.2.2 a k ?_, by rw [h.2.2.2.1]⟩⟩
  · unfold wTape; simp at hk; omega
  · have := h2 1 (by simp); unfold wTape; omega
theorem R_four {M : Nat} {μ : JM} {l : List Int32} (x : Int32) (h : MT M μ) (ht : mTape M μ l) (hl : l.length + 4 ≤ 900) : Res (fX11_four M x μ) (fun _ ν => sm M [1] [1] μ ν ∧ mTape M ν (l ++ four x)) := by
  obtain ⟨ν, e1, e2, e3⟩ := m_four x h ht hl
  exact ⟨(), ν, e1, wTape_sm e2, e3⟩
def spFeed (a b c d e : Int32) (s : SS) : Int32 × SS := if 900 < (sTp s).length + 20 then (-1, s) else (nI ((sTp s).length + 20), wTp s (sTp s ++ four a ++ four b ++ four c ++ four d ++ four e))
theorem m_feedS {M : Nat} {μ : JM} {s : SS} (a b c d e : Int32) (h : mSt M μ s) : Res (fX11_feed M a b c d e μ) (fun r ν => r = (spFeed a b c d e s).1 ∧ mSt M ν (spFeed a b c d e s).2) := by
  have h1 := h.1
  have t0 := h.2.1
  have tl := t0.2.2
  have l4 : ∀ x, (four x).length = 4 := fun _ => rfl
  rw [fX11_feed, jck_of (by rw [h1.1]; rfl), t0.1, show nI (sTp s).length + 20 = nI ((sTp s).length + 20) from nI_add _ 20]
  unfold spFeed
  by_cases q : 900 < (sTp s).length + 20
  · rw [if_neg (show ¬ nI ((sTp s).length + 20) ≤ 900 from nI_ge (a := 900) q (by omega)), if_pos q]
    exact .ret ⟨rfl, h⟩
  · rw [if_pos (show nI ((sTp s).length + 20) ≤ 900 from nI_le (b := 900) (by omega) (by omega)), if_neg q]
    refine Res.cl (R_four a h1 t0 (by omega)) fun _ μ1 ⟨s1, t1⟩ => ?_
    have m1 := s1.mt h1
    rw [jck_of (by rw [m1.1]; rfl)]
    refine Res.cl (R_four b m1 t1 (by simp only [List.length_append, l4]; omega)) fun _ μ2 ⟨s2, t2⟩ => ?_
    have m2 := s2.mt m1
    rw [jck_of (by rw [m2.1]; rfl)]
    refine Res.cl (R_four c m2 t2 (by simp only [List.length_append, l4]; omega)) fun _ μ3 ⟨s3, t3⟩ => ?_
    have m3 := s3.mt m2
    rw [jck_of (by rw [m3.1]; rfl)]
    refine Res.cl (R_four d m3 t3 (by simp only [List.length_append, l4]; omega)) fun _ μ4 ⟨s4, t4⟩ => ?_
    have m4 := s4.mt m3
    rw [jck_of (by rw [m4.1]; rfl)]
    refine Res.cl (R_four e m4 t4 (by simp only [List.length_append, l4]; omega)) fun _ μ5 ⟨s5, t5⟩ => ?_
    have m5 := s5.mt m4
    rw [jck_of (by rw [m5.1]; rfl), t5.1]
    refine .ret ⟨?_, mSt_tp h (s1.tr (s2.tr (s3.tr (s4.tr s5)))) t5 (((((h.2.2.1.app (four_byt a)).app (four_byt b)).app (four_byt c)).app (four_byt d)).app (four_byt e))⟩
    simp only [List.length_append, l4]
def spEnd (n : Int32) (s : SS) : Int32 × SS := if n < 0 then (-1, s) else if n ≤ nI (sTp s).length then (n, wTp s ((sTp s).take n.toNatClampNeg)) else (-1, s)
theorem m_end {M : Nat} {μ : JM} {s : SS} (n : Int32) (h : mSt M μ s) : Res (fX11_end M n μ) (fun r ν => r = (spEnd n s).1 ∧ mSt M ν (spEnd n s).2) := by
  have h1 := h.1
  have t0 := h.2.1
  have tl := t0.2.2
  rw [fX11_end]
  unfold spEnd
  by_cases q : n < 0
  · rw [if_pos q, if_pos q]; exact .ret ⟨rfl, h⟩
  · rw [if_neg q, if_neg q, jck_of (by rw [h1.1]; rfl), t0.1]
    by_cases z : n ≤ nI (sTp s).length
    · rw [if_pos z, if_pos z, jlt_is]
      have hn := nI_cl (Int32.not_lt.mp q)
      generalize hm : n.toNatClampNeg = m at hn ⊢
      have hm2 : m < 2 ^ 31 := by rw [← hm]; have := (fb_rng n).2; show n.toInt.toNat < _; omega
      have ml : m ≤ (sTp s).length := by
        rw [← hn] at z
        rcases Nat.lt_or_ge (sTp s).length m with y | y
        · exact absurd z (nI_ge y hm2)
        · exact y
      have s1 : sm M [1] [1] μ (jsI μ M 1 n) := (sm.sF (by decide) : sm M [1] [] μ _).wk (by decide) (by decide)
      refine .ret ⟨rfl, mSt_tp h s1 ⟨?_, fun i hi => ?_, ?_⟩ (fun c hc => h.2.2.1 c (List.mem_of_mem_take hc))⟩
      · rw [jI_sI, if_pos ⟨rfl, rfl⟩, List.length_take, Nat.min_eq_left ml, hn]
      · rw [List.length_take, Nat.min_eq_left ml] at hi
        rw [jI_sI, if_neg (by omega), t0.2.1 i (by omega), List.getD_eq_getElem?_getD, List.getD_eq_getElem?_getD, List.getElem?_take_of_lt hi]
      · rw [List.length_take]; omega
    · rw [if_neg z, if_neg z]; exact .ret ⟨rfl, h⟩
/-! in() of small numbers -/
theorem m_in {v : Int32} {n : Nat} {z : Int32} (hn : n < 2 ^ 31) (hz : z = nI n - 1) (μ : JM) : fX11_in v 0 z μ = some (if (inR v n).isSome then 1 else 0, μ, 0, 0) := by
  rw [fX11_in]
  by_cases q : 0 ≤ v
  · obtain ⟨m, hm, hv⟩ : ∃ m, m < 2 ^ 31 ∧ v = nI m := ⟨v.toNatClampNeg, by have := (fb_rng v).2; show v.toInt.toNat < _; omega, (nI_cl q).symm⟩
    subst hv
    rw [if_neg (Int32.not_lt.mpr q)]
    cases n with
    | zero =>
      have e : inR (nI m) 0 = none := by unfold inR; rw [if_neg (by omega)]
      have : z < nI m := by rw [hz]; exact Int32.lt_of_lt_of_le (by decide) q
      rw [if_pos this, e]; rfl
    | succ n =>
      have ez : z = nI n := by rw [hz, Int32.sub_eq_add_neg, ← nI_1, Int32.add_assoc, show (1 : Int32) + (-1) = 0 from by decide, Int32.add_zero]
      rw [ez]
      by_cases y : m < n + 1
      · have e : inR (nI m) (n + 1) = some m := by unfold inR; rw [nI_clamp hm, if_pos ⟨q, y⟩]
        rw [if_neg (Int32.not_lt.mpr (nI_le (by omega) (by omega))), e]; rfl
      · have e : inR (nI m) (n + 1) = none := by unfold inR; rw [nI_clamp hm, if_neg (fun t => y t.2)]
        rw [if_pos (Int32.not_le.mp (nI_ge (by omega) hm)), e]; rfl
  · have e : inR v n = none := by unfold inR; rw [if_neg (fun t => q t.1)]
    rw [if_pos (Int32.not_le.mp q), e]; rfl
def spOctet (i : Int32) (s : SS) : Int32 × SS := (match inR i (sO s).length with | none => -1 | some k => (sO s).getD k 0, s)
theorem m_octet {M : Nat} {μ : JM} {s : SS} (i : Int32) (h : mSt M μ s) : Res (fX11_octet M i μ) (fun r ν => r = (spOctet i s).1 ∧ mSt M ν (spOctet i s).2) := by
  have h1 := h.1
  obtain ⟨o1, o2, o3, o4⟩ := h.2.2.2.2.2.2.2.2.2.2.2.1
  rw [fX11_octet, jck_of (by rw [h1.1]; rfl), o1, m_in (n := (sO s).length) (by omega) rfl, jcl_0]
  unfold spOctet
  cases hv : inR i (sO s).length with
  | none => exact .ret ⟨rfl, h⟩
  | some k =>
    obtain ⟨rfl, hk⟩ := inR_some hv
    rw [Option.isSome_some, if_pos rfl, if_neg (by decide)]
    have e := o2 k hk
    rw [Nat.zero_add] at e
    simp only [jck_true, jde_is, jlt_is, jcl_0, beq_self_eq_true, jT_sI, jT_sJ, jP_sI, jP_sJ, jJ_sI, jI_sJ, jZ_sI, jZ_sJ, h1.1, mP_out h1, mT_out h1, jin_nI (show k < 2400 by omega) (show 2400 < 2 ^ 31 by decide), nI_clamp (show k < 2 ^ 31 by omega), e]
    exact .ret ⟨rfl, h⟩
theorem mSt_ou {M : Nat} {μ ν : JM} {s : SS} {l : List Int32} (h : mSt M μ s) (q : sm M [63] [41] μ ν) (ho : mOu M ν l) : mSt M ν (wO s l) := by
  obtain ⟨h1, h2, h3, h4, h5, h6, h7, h8, h9, h10, h11, h12, h13, h14, h15⟩ := h
  exact ⟨q.mt h1, h2.sm q (by decide) (by decide), h3, h4.sm q (by decide) (by decide), h5.sm q (by decide) (by decide) (by decide) (by decide) (by decide), h6.sm q (by decide) (by decide) (by decide) (by decide) (by decide), h7.sm q (by decide) (by decide), h8.sm q (by decide) (clsLow.sm q (by decide) (by decide)), (q.fI (by decide)).trans h9, h10.sm q (by decide) (by decide), h11.sm q (by decide), ho, h13.sm q (by decide) (by decide), (q.fI (by decide)).trans h14, (q.fI (by decide)).trans h15⟩
def spWrite (v : Int32) (s : SS) : Int32 × SS := match vAt s v with
  | none => (-1, s)
  | some t => (nI (txB (txA s t)).length, wO s (txB (txA s t)))
theorem wr_l {M t u : Nat} {B : List Int32} (hu : u < 4) (ht : t < 600) : ∀ (fu i : Nat) (μ : JM), MT M μ → jI μ (M + 34) u = nI t → mPt M μ t B → jI μ M 63 = nI B.length → Sg (jI μ (M + 41)) 0 (B.take i) → i ≤ B.length → B.length - i < fu →
    Res (fX11_write_b27 fu M (nI u) (nI i) μ) (fun r ν => r = nI B.length ∧ sm M [63] [41] μ ν ∧ mOu M ν B) := by
  intro fu
  induction fu with
  | zero => intro i μ _ _ _ _ _ _ h; omega
  | succ fu ih =>
    intro i μ h hv hp h63 hs hi hf
    obtain ⟨o, p1, p2, p3, p4, p5, p6⟩ := id hp
    rw [fX11_write_b27]
    simp only [jck_true, jde_is, jlt_is, jcl_0, beq_self_eq_true, jT_sI, jT_sJ, jP_sI, jP_sJ, jJ_sI, jI_sJ, jZ_sI, jZ_sJ, h.1, h63]
    by_cases q : i = B.length
    · rw [if_pos (nI_le (by omega) (by omega))]
      rw [q, List.take_length] at hs
      exact .ret ⟨rfl, sm.rf, h63, hs, p5, p6⟩
    · have hi2 : i < B.length := by omega
      rw [if_neg (nI_ge hi2 (by omega))]
      simp only [jck_true, jde_is, jlt_is, jcl_0, beq_self_eq_true, jT_sI, jT_sJ, jP_sI, jP_sJ, jJ_sI, jI_sJ, jZ_sI, jZ_sJ, mP_version h, mT_version h, mP_poolFrom h, mT_poolFrom h, mP_pool h, mT_pool h, mP_out h, mT_out h, jin_nI hu (show 4 < 2 ^ 31 by decide), nI_clamp (show u < 2 ^ 31 by omega), hv, jin_nI ht (show 600 < 2 ^ 31 by decide), nI_clamp (show t < 2 ^ 31 by omega), p1, nI_add, jin_nI (show o + i < 300000 by omega) (show 300000 < 2 ^ 31 by decide), jin_nI (show i < 2400 by omega) (show 2400 < 2 ^ 31 by decide), nI_clamp (show i < 2 ^ 31 by omega), nI_clamp (show o + i < 2 ^ 31 by omega), vp_byte, p4 i hi2, p6.at hi2, nI_1]
      have hseg : Sg (jI (jsI μ (M + 41) i (B.getD i 0)) (M + 41)) 0 (B.take (i + 1)) := by
        rw [jI_at]
        have := hs.step hi2
        rwa [Nat.zero_add] at this
      have s1 : sm M [] [41] μ (jsI μ (M + 41) i (B.getD i 0)) := sm.sA (by decide) (by decide)
      generalize jsI μ (M + 41) i (B.getD i 0) = μ1 at hseg s1 ⊢
      refine (ih (i + 1) μ1 (s1.mt h) (by rw [s1.aI (by decide) (by decide)]; exact hv) (hp.sm s1 (by decide)) ((s1.fI (by decide)).trans h63) hseg (by omega) (by omega)).mono ?_
      rintro r ν ⟨q1, q2, q3⟩
      exact ⟨q1, (s1.wk (by decide) (by decide)).tr q2, q3⟩
theorem vAt_some {s : SS} {v : Int32} {t : Nat} (h : vAt s v = some t) : ∃ u, v = nI u ∧ u < 4 ∧ sV s u = some t := by
  unfold vAt at h
  cases hi : inR v 4 with
  | none => rw [hi] at h; cases h
  | some u =>
    rw [hi] at h
    obtain ⟨e, hu⟩ := inR_some hi
    exact ⟨u, e, hu, h⟩
theorem m_write {M : Nat} {μ : JM} {s : SS} (v : Int32) (h : mSt M μ s) (hT : (sTx s).length < 600) : Res (fX11_write M v μ) (fun r ν => r = (spWrite v s).1 ∧ mSt M ν (spWrite v s).2) := by
  have h1 := h.1
  rw [fX11_write, jck_of (by rw [h1.1]; rfl), m_isVersion v h hT, jcl_0]
  unfold spWrite
  cases hv : vAt s v with
  | none => exact .ret ⟨rfl, h⟩
  | some t =>
    obtain ⟨u, rfl, hu, hV⟩ := vAt_some hv
    rw [Option.isSome_some, if_pos rfl, if_neg (by decide)]
    have vs := h.2.2.2.2.2.2.2.1
    obtain ⟨e34, ev⟩ := vs u hu
    have tl := (ev t hV).1
    have e34 : jI μ (M + 34) u = nI t := by rw [e34, hV]; simp only [oI, Nat.zero_add]
    have egB : ((sTx s).map txB).getD t [] = txB (txA s t) := by unfold txA; simp [List.getD, tl]
    have pt := h.2.2.2.2.2.2.1.pt (t := t) (by rw [List.length_map]; exact tl)
    rw [egB] at pt
    obtain ⟨o, p1, p2, p3, p4, p5, p6⟩ := id pt
    simp only [jck_true, jde_is, jlt_is, jcl_0, beq_self_eq_true, jT_sI, jT_sJ, jP_sI, jP_sJ, jJ_sI, jI_sJ, jZ_sI, jZ_sJ, h1.1, mP_version h1, mT_version h1, mP_poolSize h1, mT_poolSize h1, jin_nI hu (show 4 < 2 ^ 31 by decide), nI_clamp (show u < 2 ^ 31 by omega), e34, jin_nI (show t < 600 by omega) (show 600 < 2 ^ 31 by decide), nI_clamp (show t < 2 ^ 31 by omega), p2]
    have s1 : sm M [63] [] μ (jsI μ M 63 (nI (txB (txA s t)).length)) := sm.sF (by decide)
    have v1 : jI (jsI μ M 63 (nI (txB (txA s t)).length)) M 63 = nI (txB (txA s t)).length := by rw [jI_sI, if_pos ⟨rfl, rfl⟩]
    generalize jsI μ M 63 (nI (txB (txA s t)).length) = μ1 at s1 v1 ⊢
    refine (wr_l hu (by omega) jfuel 0 μ1 (s1.mt h1) (by rw [s1.aI (by decide) (by decide)]; exact e34) (pt.sm s1 (by decide)) v1 Sg.nil (by omega) (jfuel_gt (by omega))).mono ?_
    rintro r ν ⟨q1, q2, q3⟩
    exact ⟨q1, mSt_ou h ((s1.wk (by decide) (by decide)).tr q2) q3⟩
def spBack (s : SS) : Int32 × SS := if 900 < (sTp s).length + (sO s).length then (-1, s) else (nI ((sTp s).length + (sO s).length), wO (wTp s (sTp s ++ sO s)) [])
theorem bk_l {M : Nat} {T O : List Int32} (hO : O.length ≤ 1900) (hb : byt O) (hl : T.length + O.length ≤ 900) : ∀ (fu i : Nat) (μ : JM), MT M μ → jI μ M 1 = nI T.length → jI μ M 63 = nI O.length → Sg (jI μ (M + 41)) 0 O → Sg (jI μ (M + 1)) 0 T → Sg (jI μ (M + 1)) T.length (O.take i) → i ≤ O.length → O.length - i < fu →
    Res (fX11_back_b19 fu M (nI i) μ) (fun r ν => r = nI (T.length + O.length) ∧ sm M [1, 63] [1] μ ν ∧ mTape M ν (T ++ O) ∧ jI ν M 63 = 0) := by
  intro fu
  induction fu with
  | zero => intro i μ _ _ _ _ _ _ _ h; omega
  | succ fu ih =>
    intro i μ h h1 h63 ho ht hs hi hf
    rw [fX11_back_b19]
    simp only [jck_true, jde_is, jlt_is, jcl_0, beq_self_eq_true, jT_sI, jT_sJ, jP_sI, jP_sJ, jJ_sI, jI_sJ, jZ_sI, jZ_sJ, h.1, h63]
    by_cases q : i = O.length
    · rw [if_pos (nI_le (by omega) (by omega)), h1, nI_add]
      rw [q, List.take_length] at hs
      have r1 : jI (jsI (jsI μ M 1 (nI (T.length + O.length))) M 63 0) M 1 = nI (T.length + O.length) := by rw [jI_sI, if_neg (by omega), jI_sI, if_pos ⟨rfl, rfl⟩]
      rw [r1]
      have s1 : sm M [1, 63] [] μ (jsI (jsI μ M 1 (nI (T.length + O.length))) M 63 0) := (sm.sF (by decide)).tr (sm.sF (by decide))
      refine .ret ⟨rfl, s1.wk (by decide) (by decide), ⟨by rw [r1, List.length_append], fun j hj => ?_, by simp; omega⟩, by rw [jI_sI, if_pos ⟨rfl, rfl⟩]⟩
      rw [s1.aI (by decide) (by decide)]
      by_cases y : j < T.length
      · rw [get_app_l y]; exact ht j y
      · have hj : j < T.length + O.length := by simpa using hj
        have := hs (j - T.length) (by omega)
        rw [Nat.zero_add, show j = T.length + (j - T.length) by omega, this, List.getD_eq_getElem?_getD, List.getD_eq_getElem?_getD, List.getElem?_append_right (by omega)]
        congr 2; omega
    · have hi2 : i < O.length := by omega
      rw [if_neg (nI_ge hi2 (by omega))]
      have ev : jI μ (M + 41) i = O.getD i 0 := by have := ho i hi2; rwa [Nat.zero_add] at this
      simp only [jck_true, jde_is, jlt_is, jcl_0, beq_self_eq_true, jT_sI, jT_sJ, jP_sI, jP_sJ, jJ_sI, jI_sJ, jZ_sI, jZ_sJ, mP_out h, mT_out h, mP_tape h, mT_tape h, h1, nI_add, jin_nI (show i < 2400 by omega) (show 2400 < 2 ^ 31 by decide), jin_nI (show T.length + i < 900 by omega) (show 900 < 2 ^ 31 by decide), nI_clamp (show i < 2 ^ 31 by omega), nI_clamp (show T.length + i < 2 ^ 31 by omega), vp_byte, ev, hb.at hi2, nI_1]
      have hseg : Sg (jI (jsI μ (M + 1) (T.length + i) (O.getD i 0)) (M + 1)) T.length (O.take (i + 1)) := by
        rw [jI_at]; exact hs.step hi2
      have hT1 : Sg (jI (jsI μ (M + 1) (T.length + i) (O.getD i 0)) (M + 1)) 0 T := ht.eq fun j hj => by rw [jI_sI, if_neg (by omega)]
      have s1 : sm M [] [1] μ (jsI μ (M + 1) (T.length + i) (O.getD i 0)) := sm.sA (by decide) (by decide)
      generalize jsI μ (M + 1) (T.length + i) (O.getD i 0) = μ1 at hseg s1 hT1 ⊢
      refine (ih (i + 1) μ1 (s1.mt h) ((s1.fI (by decide)).trans h1) ((s1.fI (by decide)).trans h63) (by rw [s1.aI (by decide) (by decide)]; exact ho) hT1 hseg (by omega) (by omega)).mono ?_
      rintro r ν ⟨q1, q2, q3⟩
      exact ⟨q1, (s1.wk (by decide) (by decide)).tr q2, q3⟩
theorem m_back {M : Nat} {μ : JM} {s : SS} (h : mSt M μ s) : Res (fX11_back M μ) (fun r ν => r = (spBack s).1 ∧ mSt M ν (spBack s).2) := by
  have h1 := h.1
  have t0 := h.2.1
  have tl := t0.2.2
  obtain ⟨o1, o2, o3, o4⟩ := h.2.2.2.2.2.2.2.2.2.2.2.1
  rw [fX11_back, jck_of (by rw [h1.1]; rfl), t0.1, o1, nI_add]
  unfold spBack
  by_cases q : 900 < (sTp s).length + (sO s).length
  · rw [if_neg (show ¬ nI ((sTp s).length + (sO s).length) ≤ 900 from nI_ge (a := 900) q (by omega)), if_pos q]
    exact .ret ⟨rfl, h⟩
  · rw [if_pos (show nI ((sTp s).length + (sO s).length) ≤ 900 from nI_le (b := 900) (by omega) (by omega)), if_neg q]
    refine (bk_l o3 o4 (by omega) jfuel 0 μ h1 t0.1 o1 o2 t0.2.1 Sg.nil (by omega) (jfuel_gt (by omega))).mono ?_
    rintro r ν ⟨q1, q2, q3, q4⟩
    obtain ⟨h1, h2, h3, h4, h5, h6, h7, h8, h9, h10, h11, h12, h13, h14, h15⟩ := h
    exact ⟨q1, q2.mt h1, q3, h3.app o4, h4.sm q2 (by decide) (by decide), h5.sm q2 (by decide) (by decide) (by decide) (by decide) (by decide), h6.sm q2 (by decide) (by decide) (by decide) (by decide) (by decide), h7.sm q2 (by decide) (by decide), h8.sm q2 (by decide) (clsLow.sm q2 (by decide) (by decide)), (q2.fI (by decide)).trans h9, h10.sm q2 (by decide) (by decide), h11.sm q2 (by decide), ⟨q4, Sg.nil, by simp [wO, sO], nil_byt⟩, h13.sm q2 (by decide) (by decide), (q2.fI (by decide)).trans h14, (q2.fI (by decide)).trans h15⟩
def spQuarreling (w : Int32) (s : SS) : Int32 × SS := (if w = 0 then sQd s else if w = 1 then sQb s else -1, s)
theorem m_quarreling {M : Nat} {μ : JM} {s : SS} (w : Int32) (h : mSt M μ s) : Res (fX11_quarreling M w μ) (fun r ν => r = (spQuarreling w s).1 ∧ mSt M ν (spQuarreling w s).2) := by
  have h1 := h.1
  have e1 := h.2.2.2.2.2.2.2.2.2.2.2.2.2.1
  have e2 := h.2.2.2.2.2.2.2.2.2.2.2.2.2.2
  rw [fX11_quarreling, jck_of (by rw [h1.1]; rfl), jck_of (by rw [h1.1]; rfl), e1, e2]
  unfold spQuarreling
  by_cases q : w = 0
  · rw [if_pos q]; refine .ret ⟨?_, h⟩; rw [if_pos q]
  · rw [if_neg q]
    by_cases z : w = 1
    · rw [if_pos z]; refine .ret ⟨?_, h⟩; rw [if_neg q, if_pos z]
    · rw [if_neg z]; refine .ret ⟨?_, h⟩; rw [if_neg q, if_neg z]
def spFree (day : Int32) (is : Bool) (s : SS) : Int32 × SS := match inR day 10000 with
  | none => (0, s)
  | some d => if sFr s d = is then (0, s) else (1, wFr s (fun k => if k = d then is else sFr s k))
theorem m_free {M : Nat} {μ : JM} {s : SS} (day : Int32) (is : Bool) (h : mSt M μ s) : Res (fX11_free M day (if is then 1 else 0) μ) (fun r ν => r = (spFree day is s).1 ∧ mSt M ν (spFree day is s).2) := by
  have h1 := h.1
  obtain ⟨f1, f2⟩ := h.2.2.2.2.2.2.2.2.2.2.2.2.1
  rw [fX11_free, m_in (n := 10000) (by decide) (by decide), jcl_0]
  unfold spFree
  cases hv : inR day 10000 with
  | none => exact .ret ⟨rfl, h⟩
  | some d =>
    obtain ⟨rfl, hd⟩ := inR_some hv
    rw [Option.isSome_some, if_pos rfl, if_neg (by decide)]
    have e := f2 d hd
    simp only [jck_true, jde_is, jlt_is, jcl_0, beq_self_eq_true, jT_sI, jT_sJ, jP_sI, jP_sJ, jJ_sI, jI_sJ, jZ_sI, jZ_sJ, h1.1, mP_isFree h1, mT_isFree h1, jin_nI hd (show 10000 < 2 ^ 31 by decide), nI_clamp (show d < 2 ^ 31 by omega), e]
    by_cases q : sFr s d = is
    · rw [if_pos (by rw [q]), if_pos q]
      exact .ret ⟨rfl, h⟩
    · have q2 : ¬ (if sFr s d = true then (1 : Int32) else 0) = if is = true then 1 else 0 := by
        revert q; cases sFr s d <;> cases is <;> decide
      rw [if_neg q2, if_neg q]
      have hup := fb_ct_upd (sFr s) is (i := d) (n := 10000) hd
      have fin : ∀ (n : Nat), n = fb_ct (fun k => if k = d then is else sFr s k) 10000 → Res (some ((1 : Int32), jsI (jsI μ (M + 44) d (if is then 1 else 0)) M 70 (nI n), 0, 0)) (fun r ν => r = 1 ∧ mSt M ν (wFr s (fun k => if k = d then is else sFr s k))) := by
        intro n hn
        have s1 : sm M [70] [44] μ (jsI (jsI μ (M + 44) d (if is then 1 else 0)) M 70 (nI n)) := (sm.sA (by decide) (by decide)).tr (sm.sF (by decide))
        obtain ⟨h1, h2, h3, h4, h5, h6, h7, h8, h9, h10, h11, h12, h13, h14, h15⟩ := h
        refine .ret ⟨rfl, s1.mt h1, h2.sm s1 (by decide) (by decide), h3, h4.sm s1 (by decide) (by decide), h5.sm s1 (by decide) (by decide) (by decide) (by decide) (by decide), h6.sm s1 (by decide) (by decide) (by decide) (by decide) (by decide), h7.sm s1 (by decide) (by decide), h8.sm s1 (by decide) (clsLow.sm s1 (by decide) (by decide)), (s1.fI (by decide)).trans h9, h10.sm s1 (by decide) (by decide), h11.sm s1 (by decide), h12.sm s1 (by decide) (by decide), ⟨by rw [jI_sI, if_pos ⟨rfl, rfl⟩, hn]; rfl, fun k hk => ?_⟩, (s1.fI (by decide)).trans h14, (s1.fI (by decide)).trans h15⟩
        show _ = if (if k = d then is else sFr s k) = true then 1 else 0
        rw [jI_sI, if_neg (by omega), jI_sI]
        by_cases y : k = d
        · rw [if_pos ⟨rfl, y⟩, if_pos y]
        · rw [if_neg (fun t => y t.2), if_neg y]; exact f2 k hk
      have r70 : ∀ x, jI (jsI μ (M + 44) d x) M 70 = nI (fb_ct (sFr s) 10000) := fun x => by rw [jI_sI, if_neg (by omega)]; exact f1
      have nb1 : vp_nar .boolean (if is = true then (1 : Int32) else 0) = if is = true then 1 else 0 := by cases is <;> rfl
      rw [nb1]
      cases is with
      | false =>
        have hf : sFr s d = true := by cases t : sFr s d with
          | true => rfl
          | false => exact absurd t q
        rw [hf] at hup
        simp only [if_true, Bool.false_eq_true, if_false, Nat.add_zero] at hup fin ⊢
        rw [r70]
        have e2 : nI (fb_ct (sFr s) 10000) + (-1) = nI (fb_ct (fun k => if k = d then false else sFr s k) 10000) := by
          rw [← hup, ← nI_1, Int32.add_assoc, show (1 : Int32) + (-1) = 0 from by decide, Int32.add_zero]
        rw [e2]; exact fin _ rfl
      | true =>
        have hf : sFr s d = false := by cases t : sFr s d with
          | true => exact absurd t q
          | false => rfl
        rw [hf] at hup
        simp only [if_true, Bool.false_eq_true, if_false, Nat.add_zero] at hup fin ⊢
        rw [if_neg (by decide), r70, nI_1, ← hup]
        exact fin _ rfl
