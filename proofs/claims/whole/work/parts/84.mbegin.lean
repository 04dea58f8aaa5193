/-! the reference: begins, takesTape, takesText -/
theorem Sg.nil {f : Nat → Int32} {o : Nat} : Sg f o [] := fun i hi => by simp at hi
theorem Sg.step {f : Nat → Int32} {o i : Nat} {l : List Int32} (h : Sg f o (l.take i)) (hi : i < l.length) : Sg (upd f (o + i) (l.getD i 0)) o (l.take (i + 1)) := by
  have := h.snoc (v := l.getD i 0)
  rw [List.length_take, Nat.min_eq_left (by omega)] at this
  rw [List.take_succ_eq_append_getElem hi]
  have e : l[i] = l.getD i 0 := by simp [List.getD, hi]
  rw [e]; exact this
theorem byt.at {l : List Int32} (h : byt l) {i : Nat} (hi : i < l.length) : nb (l.getD i 0) = l.getD i 0 := h _ (getD_mem hi)
theorem m_begins {M : Nat} {μ : JM} {l : List Int32} (h : MT M μ) (ht : mTx M μ l) (hb : byt l) (hl : l.length ≤ 1900) : Res (fX11_begins M μ) (fun _ ν => sm M TK [] μ ν ∧ mBeg M ν l) := by
  rw [fX11_begins]
  simp only [jck_true, jde_is, jlt_is, jcl_0, beq_self_eq_true, jT_sI, jT_sJ, jP_sI, jP_sJ, jJ_sI, jI_sJ, jZ_sI, jZ_sJ, h.1]
  generalize hμ1 : jsI (jsI (jsI (jsI μ M 13 0) M 18 0) M 20 0) M 21 0 = μ1
  have s1 : sm M TK [] μ μ1 := by
    rw [← hμ1]; exact (sm.sF (by decide)).tr ((sm.sF (by decide)).tr ((sm.sF (by decide)).tr (sm.sF (by decide))))
  have hM1 := s1.mt h
  have v13 : jI μ1 M 13 = nI 0 := by rw [← hμ1]; simp [jI_sI, nI_0]
  have v18 : jI μ1 M 18 = 0 := by rw [← hμ1]; simp [jI_sI]
  have v20 : jI μ1 M 20 = 0 := by rw [← hμ1]; simp [jI_sI]
  have v21 : jI μ1 M 21 = 0 := by rw [← hμ1]; simp [jI_sI]
  have ht1 : mTx M μ1 l := ⟨(s1.fI (by decide)).trans ht.1, by rw [s1.aI (by decide) (by decide)]; exact ht.2.1, ht.2.2⟩
  obtain ⟨ν, e1, e2, e3, e4⟩ := m_looks hM1 ht1 v13 (by omega)
  rw [e1, jcl_0]
  have e2s : sm M TK [] μ1 ν := ⟨e2.1, e2.2.1, e2.2.2.1, fun k hk => e2.2.2.2.2 M k (by unfold wLk; simp [TK] at hk; omega), fun a h1 h2 => ⟨funext fun k => e2.2.2.2.2 a k (by unfold wLk; omega), by rw [e2.2.2.2.1]⟩⟩
  rw [Nat.zero_add, List.drop_zero] at e3 e4
  have hp : pl l 0 = skp l := rfl
  refine .ret ⟨s1.tr e2s, ?_⟩
  have hMν := e2s.mt hM1
  have htν : mTx M ν l := ⟨(e2s.fI (by decide)).trans ht1.1, by rw [e2s.aI (by decide) (by decide)]; exact ht1.2.1, ht1.2.2⟩
  unfold mBeg
  by_cases q : Cd l 0 = -2000
  · rw [if_pos q]
    have o := (ovr_iff (k := 0) hb).mpr q
    rw [hp] at o
    rw [if_pos ⟨o, v18⟩] at e4
    exact mBad.of hMν (by rw [e4]; rfl) hl (by omega)
  · rw [if_neg q]
    have o : ovr (l.drop (skp l)) = false := by
      cases z : ovr (l.drop (skp l)) with
      | false => rfl
      | true => exact absurd ((ovr_iff (k := 0) hb).mp z) q
    rw [o, if_neg (fun z => by cases z.1), v18] at e4
    refine ⟨⟨hMν, htν, e3, ⟨?_, Sg.nil, by simp [cB]⟩, ?_, e4, o, by simp [cB], hl⟩, hb⟩
    · rw [e2.2.2.2.2 M 20 (by unfold wLk; omega), v20]; rfl
    · rw [e2.2.2.2.2 M 21 (by unfold wLk; omega), v21]; rfl
def TF : List Nat := [1, 12, 13, 14, 15, 16, 17, 18, 20, 21]
def TG : List Nat := [12, 13, 14, 15, 16, 17, 18, 20, 21]
theorem tt_l {M : Nat} {l : List Int32} (hb : byt l) (hl : l.length ≤ 900) : ∀ (fu i : Nat) (μ : JM), MT M μ → mTape M μ l → jI μ M 12 = nI l.length → Sg (jI μ (M + 8)) 0 (l.take i) → i ≤ l.length → l.length - i < fu →
    Res (fX11_takesTape_b10 fu M (nI i) μ) (fun _ ν => sm M TF [8] μ ν ∧ mTape M ν [] ∧ mBeg M ν l) := by
  intro fu
  induction fu with
  | zero => intro i μ _ _ _ _ _ h; omega
  | succ fu ih =>
    intro i μ h ht h12 hs hi hf
    rw [fX11_takesTape_b10]
    simp only [jck_true, jde_is, jlt_is, jcl_0, beq_self_eq_true, jT_sI, jT_sJ, jP_sI, jP_sJ, jJ_sI, jI_sJ, jZ_sI, jZ_sJ, h.1, ht.1]
    by_cases q : i = l.length
    · rw [if_pos (nI_le (by omega) (by omega))]
      rw [q, List.take_length] at hs
      generalize hμ1 : jsI μ M 1 0 = μ1
      have s1 : sm M [1] [] μ μ1 := by rw [← hμ1]; exact sm.sF (by decide)
      have v1 : jI μ1 M 1 = 0 := by rw [← hμ1, jI_sI, if_pos ⟨rfl, rfl⟩]
      refine Res.cl (m_begins (s1.mt h) (l := l) ⟨(s1.fI (by decide)).trans h12, by rw [s1.aI (by decide) (by decide)]; exact hs, by omega⟩ hb (by omega)) fun _ ν ⟨q1, q2⟩ => ?_
      exact .ret ⟨(s1.wk (by decide) (by decide)).tr (q1.wk (by decide) (by decide)), ⟨by rw [q1.fI (by decide), v1]; rfl, Sg.nil, by simp⟩, q2⟩
    · have hi2 : i < l.length := by omega
      rw [if_neg (nI_ge hi2 (by omega))]
      have ev : jI μ (M + 1) i = l.getD i 0 := by have := ht.2.1 i hi2; rwa [Nat.zero_add] at this
      simp only [jck_true, jde_is, jlt_is, jcl_0, beq_self_eq_true, jT_sI, jT_sJ, jP_sI, jP_sJ, jJ_sI, jI_sJ, jZ_sI, jZ_sJ, mP_tape h, mT_tape h, mP_text h, mT_text h, jin_nI (show i < 900 by omega) (show 900 < 2 ^ 31 by decide), jin_nI (show i < 2400 by omega) (show 2400 < 2 ^ 31 by decide), nI_clamp (show i < 2 ^ 31 by omega), vp_byte, ev, hb.at hi2, nI_1]
      have hseg : Sg (jI (jsI μ (M + 8) i (l.getD i 0)) (M + 8)) 0 (l.take (i + 1)) := by
        rw [jI_at]
        have := hs.step hi2
        rwa [Nat.zero_add] at this
      have s1 : sm M [] [8] μ (jsI μ (M + 8) i (l.getD i 0)) := sm.sA (by decide) (by decide)
      generalize jsI μ (M + 8) i (l.getD i 0) = μ1 at hseg s1 ⊢
      refine (ih (i + 1) μ1 (s1.mt h) ⟨(s1.fI (by decide)).trans ht.1, by rw [s1.aI (by decide) (by decide)]; exact ht.2.1, ht.2.2⟩ ((s1.fI (by decide)).trans h12) hseg (by omega) (by omega)).mono ?_
      rintro _ ν ⟨q1, q2⟩
      exact ⟨(s1.wk (by decide) (by decide)).tr q1, q2⟩
theorem m_takesTape {M : Nat} {μ : JM} {l : List Int32} (h : MT M μ) (ht : mTape M μ l) (hb : byt l) : Res (fX11_takesTape M μ) (fun _ ν => sm M TF [8] μ ν ∧ mTape M ν [] ∧ mBeg M ν l) := by
  rw [fX11_takesTape]
  simp only [jck_true, jde_is, jlt_is, jcl_0, beq_self_eq_true, jT_sI, jT_sJ, jP_sI, jP_sJ, jJ_sI, jI_sJ, jZ_sI, jZ_sJ, h.1, ht.1]
  have s1 : sm M [12] [] μ (jsI μ M 12 (nI l.length)) := sm.sF (by decide)
  have v1 : jI (jsI μ M 12 (nI l.length)) M 12 = nI l.length := by rw [jI_sI, if_pos ⟨rfl, rfl⟩]
  generalize jsI μ M 12 (nI l.length) = μ1 at s1 v1 ⊢
  have hl := ht.2.2
  refine (tt_l hb hl jfuel 0 μ1 (s1.mt h) ⟨(s1.fI (by decide)).trans ht.1, by rw [s1.aI (by decide) (by decide)]; exact ht.2.1, ht.2.2⟩ v1 Sg.nil (by omega) (jfuel_gt (by omega))).mono ?_
  rintro _ ν ⟨q1, q2⟩
  exact ⟨(s1.wk (by decide) (by decide)).tr q1, q2⟩
/-- text t of the pool -/
def mPt (M : Nat) (μ : JM) (t : Nat) (B : List Int32) : Prop := ∃ o, jI μ (M + 32) t = nI o ∧ jI μ (M + 33) t = nI B.length ∧ o + B.length ≤ 300000 ∧ Sg (jI μ (M + 31)) o B ∧ B.length ≤ 1900 ∧ byt B
theorem mPt.sm {M t : Nat} {μ ν : JM} {fs as : List Nat} {B : List Int32} (h : mPt M μ t B) (s : sm M fs as μ ν) (ha : ∀ i ∈ [31, 32, 33], i ∉ as) : mPt M ν t B := by
  unfold mPt
  rw [s.aI (by decide) (ha 31 (by decide)), s.aI (by decide) (ha 32 (by decide)), s.aI (by decide) (ha 33 (by decide))]; exact h
theorem tx_l {M t : Nat} {l : List Int32} (ht : t < 600) : ∀ (fu i : Nat) (μ : JM), MT M μ → mPt M μ t l → jI μ M 12 = nI l.length → Sg (jI μ (M + 8)) 0 (l.take i) → i ≤ l.length → l.length - i < fu →
    Res (fX11_takesText_b12 fu M (nI t) (nI i) μ) (fun _ ν => sm M TG [8] μ ν ∧ mBeg M ν l) := by
  intro fu
  induction fu with
  | zero => intro i μ _ _ _ _ _ h; omega
  | succ fu ih =>
    intro i μ h hp h12 hs hi hf
    obtain ⟨o, p1, p2, p3, p4, p5, p6⟩ := id hp
    rw [fX11_takesText_b12]
    simp only [jck_true, jde_is, jlt_is, jcl_0, beq_self_eq_true, jT_sI, jT_sJ, jP_sI, jP_sJ, jJ_sI, jI_sJ, jZ_sI, jZ_sJ, h.1, h12]
    by_cases q : i = l.length
    · rw [if_pos (nI_le (by omega) (by omega))]
      rw [q, List.take_length] at hs
      refine Res.cl (m_begins h (l := l) ⟨h12, hs, by omega⟩ p6 p5) fun _ ν ⟨q1, q2⟩ => ?_
      exact .ret ⟨q1.wk (by decide) (by decide), q2⟩
    · have hi2 : i < l.length := by omega
      rw [if_neg (nI_ge hi2 (by omega))]
      simp only [jck_true, jde_is, jlt_is, jcl_0, beq_self_eq_true, jT_sI, jT_sJ, jP_sI, jP_sJ, jJ_sI, jI_sJ, jZ_sI, jZ_sJ, mP_poolFrom h, mT_poolFrom h, mP_pool h, mT_pool h, mP_text h, mT_text h, jin_nI ht (show 600 < 2 ^ 31 by decide), p1, nI_add, jin_nI (show o + i < 300000 by omega) (show 300000 < 2 ^ 31 by decide), jin_nI (show i < 2400 by omega) (show 2400 < 2 ^ 31 by decide), nI_clamp (show i < 2 ^ 31 by omega), nI_clamp (show t < 2 ^ 31 by omega), nI_clamp (show o + i < 2 ^ 31 by omega), vp_byte, p4 i hi2, p6.at hi2, nI_1]
      have hseg : Sg (jI (jsI μ (M + 8) i (l.getD i 0)) (M + 8)) 0 (l.take (i + 1)) := by
        rw [jI_at]
        have := hs.step hi2
        rwa [Nat.zero_add] at this
      have s1 : sm M [] [8] μ (jsI μ (M + 8) i (l.getD i 0)) := sm.sA (by decide) (by decide)
      generalize jsI μ (M + 8) i (l.getD i 0) = μ1 at hseg s1 ⊢
      refine (ih (i + 1) μ1 (s1.mt h) (hp.sm s1 (by decide)) ((s1.fI (by decide)).trans h12) hseg (by omega) (by omega)).mono ?_
      rintro _ ν ⟨q1, q2⟩
      exact ⟨(s1.wk (by decide) (by decide)).tr q1, q2⟩
theorem m_takesText {M t : Nat} {μ : JM} {l : List Int32} (ht : t < 600) (h : MT M μ) (hp : mPt M μ t l) : Res (fX11_takesText M (nI t) μ) (fun _ ν => sm M TG [8] μ ν ∧ mBeg M ν l) := by
  obtain ⟨o, p1, p2, p3, p4, p5, p6⟩ := id hp
  rw [fX11_takesText]
  simp only [jck_true, jde_is, jlt_is, jcl_0, beq_self_eq_true, jT_sI, jT_sJ, jP_sI, jP_sJ, jJ_sI, jI_sJ, jZ_sI, jZ_sJ, h.1, mP_poolSize h, mT_poolSize h, jin_nI ht (show 600 < 2 ^ 31 by decide), nI_clamp (show t < 2 ^ 31 by omega), p2]
  have s1 : sm M [12] [] μ (jsI μ M 12 (nI l.length)) := sm.sF (by decide)
  have v1 : jI (jsI μ M 12 (nI l.length)) M 12 = nI l.length := by rw [jI_sI, if_pos ⟨rfl, rfl⟩]
  generalize jsI μ M 12 (nI l.length) = μ1 at s1 v1 ⊢
  refine (tx_l ht jfuel 0 μ1 (s1.mt h) (hp.sm s1 (by decide)) v1 Sg.nil (by omega) (jfuel_gt (by omega))).mono ?_
  rintro _ ν ⟨q1, q2⟩
  exact ⟨(s1.wk (by decide) (by decide)).tr q1, q2⟩
