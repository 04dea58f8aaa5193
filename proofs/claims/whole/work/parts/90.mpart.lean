/-! the reference: part -/
theorem part_l {M a bm bg cap : Nat} {B : List Int32} (ha : a ≠ 0) (ha2 : a ≠ 37) (hcap : bg + B.length ≤ cap) (hc3 : cap < 2 ^ 31) (hb : byt B) (hbm : bm + B.length ≤ 8000) : ∀ (fu i : Nat) (μ : JM), MT M μ → jT μ (M + a) = (100, cap) → Sg (jI μ (M + a)) bg B → jI μ M 55 = nI bm → Sg (jI μ (M + 37)) bm (B.take i) → i ≤ B.length → B.length - i < fu →
    Res (fX11_part_b21 fu M (some (M + a)) (nI bg) (nI B.length) (nI i) μ) (fun _ ν => sm M [55] [37] μ ν ∧ jI ν M 55 = nI (bm + B.length) ∧ Sg (jI ν (M + 37)) bm B ∧ ∀ j, j < bm → jI ν (M + 37) j = jI μ (M + 37) j) := by
  intro fu
  induction fu with
  | zero => intro i μ _ _ _ _ _ _ h; omega
  | succ fu ih =>
    intro i μ h hT hS h55 hs hi hf
    rw [fX11_part_b21]
    by_cases q : i = B.length
    · rw [if_pos (nI_le (by omega) (by omega))]
      simp only [jck_true, jde_is, jlt_is, jcl_0, beq_self_eq_true, jT_sI, jT_sJ, jP_sI, jP_sJ, jJ_sI, jI_sJ, jZ_sI, jZ_sJ, h.1, h55, nI_add]
      rw [q, List.take_length] at hs
      have s1 : sm M [55] [] μ (jsI μ M 55 (nI (bm + B.length))) := sm.sF (by decide)
      exact .ret ⟨s1.wk (by decide) (by decide), by rw [jI_sI, if_pos ⟨rfl, rfl⟩], by rw [s1.aI (by decide) (by decide)]; exact hs, fun j hj => by rw [s1.aI (by decide) (by decide)]⟩
    · have hi2 : i < B.length := by omega
      rw [if_neg (nI_ge hi2 (by omega))]
      simp only [jck_true, jde_is, jlt_is, jcl_0, beq_self_eq_true, jT_sI, jT_sJ, jP_sI, jP_sJ, jJ_sI, jI_sJ, jZ_sI, jZ_sJ, h.1, mP_bytes h, mT_bytes h, hT, nI_add, jin_nI (show bg + i < cap by omega) hc3, h55, jin_nI (show bm + i < 8000 by omega) (show 8000 < 2 ^ 31 by decide), nI_clamp (show bg + i < 2 ^ 31 by omega), nI_clamp (show bm + i < 2 ^ 31 by omega), vp_byte, hS i hi2, hb.at hi2, nI_1]
      have hseg : Sg (jI (jsI μ (M + 37) (bm + i) (B.getD i 0)) (M + 37)) bm (B.take (i + 1)) := by
        rw [jI_at]; exact hs.step hi2
      have kp : ∀ j, j < bm → jI (jsI μ (M + 37) (bm + i) (B.getD i 0)) (M + 37) j = jI μ (M + 37) j := fun j hj => by rw [jI_sI, if_neg (by omega)]
      have s1 : sm M [] [37] μ (jsI μ (M + 37) (bm + i) (B.getD i 0)) := sm.sA (by decide) (by decide)
      generalize jsI μ (M + 37) (bm + i) (B.getD i 0) = μ1 at hseg s1 kp ⊢
      refine (ih (i + 1) μ1 (s1.mt h) (by rw [s1.2.1]; exact hT) (by rw [s1.aI ha (by simpa using ha2)]; exact hS) ((s1.fI (by decide)).trans h55) hseg (by omega) (by omega)).mono ?_
      rintro _ ν ⟨q1, q2, q3, q4⟩
      exact ⟨(s1.wk (by decide) (by decide)).tr q1, q2, q3, fun j hj => (q4 j hj).trans (kp j hj)⟩
def mPa (M : Nat) (μ ν : JM) (p bm : Nat) (B : List Int32) : Prop := sm M [55] [35, 36, 37] μ ν ∧ jI ν M 55 = nI (bm + B.length) ∧ Sg (jI ν (M + 37)) bm B ∧ (∀ j, j < bm → jI ν (M + 37) j = jI μ (M + 37) j) ∧ (∀ i, jI ν (M + 35) i = if i = p then nI bm else jI μ (M + 35) i) ∧ (∀ i, jI ν (M + 36) i = if i = p then nI B.length else jI μ (M + 36) i)
theorem m_part {M a bm bg cap p : Nat} {B : List Int32} {μ : JM} (ha : a ≠ 0) (ha2 : a ∉ [35, 36, 37]) (hcap : bg + B.length ≤ cap) (hc3 : cap < 2 ^ 31) (hb : byt B) (hbm : bm + B.length ≤ 8000) (hp : p < 40) (h : MT M μ) (hT : jT μ (M + a) = (100, cap)) (hS : Sg (jI μ (M + a)) bg B) (h55 : jI μ M 55 = nI bm) :
    Res (fX11_part M (nI p) (some (M + a)) (nI bg) (nI B.length) μ) (fun _ ν => mPa M μ ν p bm B) := by
  rw [fX11_part]
  simp only [jck_true, jde_is, jlt_is, jcl_0, beq_self_eq_true, jT_sI, jT_sJ, jP_sI, jP_sJ, jJ_sI, jI_sJ, jZ_sI, jZ_sJ, h.1, mP_partFrom h, mT_partFrom h, mP_partSize h, mT_partSize h, jin_nI hp (show 40 < 2 ^ 31 by decide), nI_clamp (show p < 2 ^ 31 by omega), h55]
  have s1 : sm M [] [35, 36] μ (jsI (jsI μ (M + 35) p (nI bm)) (M + 36) p (nI B.length)) := (sm.sA (by decide) (by decide)).tr (sm.sA (by decide) (by decide))
  have v35 : ∀ i, jI (jsI (jsI μ (M + 35) p (nI bm)) (M + 36) p (nI B.length)) (M + 35) i = if i = p then nI bm else jI μ (M + 35) i := by
    intro i
    rw [jI_sI, if_neg (by omega), jI_sI]
    by_cases z : i = p
    · rw [if_pos ⟨rfl, z⟩, if_pos z]
    · rw [if_neg (fun y => z y.2), if_neg z]
  have v36 : ∀ i, jI (jsI (jsI μ (M + 35) p (nI bm)) (M + 36) p (nI B.length)) (M + 36) i = if i = p then nI B.length else jI μ (M + 36) i := by
    intro i
    rw [jI_sI]
    by_cases z : i = p
    · rw [if_pos ⟨rfl, z⟩, if_pos z]
    · rw [if_neg (fun y => z y.2), if_neg z, jI_sI, if_neg (by omega)]
  generalize jsI (jsI μ (M + 35) p (nI bm)) (M + 36) p (nI B.length) = μ1 at s1 v35 v36 ⊢
  have hne : a ≠ 37 := fun z => ha2 (by rw [z]; decide)
  refine (part_l ha hne hcap hc3 hb hbm jfuel 0 μ1 (s1.mt h) (by rw [s1.2.1]; exact hT) (by rw [s1.aI ha (fun z => ha2 (by revert z; simp; omega))]; exact hS) ((s1.fI (by decide)).trans h55) Sg.nil (by omega) (jfuel_gt (by omega))).mono ?_
  rintro _ ν ⟨q1, q2, q3, q4⟩
  exact ⟨(s1.wk (by decide) (by decide)).tr (q1.wk (by decide) (by decide)), q2, q3, fun j hj => by rw [q4 j hj, s1.aI (by decide) (by decide)], fun i => by rw [q1.aI (by decide) (by decide)]; exact v35 i, fun i => by rw [q1.aI (by decide) (by decide)]; exact v36 i⟩
/-- the parts, their bytes below bm -/
def mPo (M : Nat) (μ : JM) (i bm : Nat) (c : Cl) : Prop := ∃ o, jI μ (M + 35) i = nI o ∧ jI μ (M + 36) i = nI (cB (Cl.tks c)).1.length ∧ o + (cB (Cl.tks c)).1.length ≤ bm ∧ Sg (jI μ (M + 37)) o (cB (Cl.tks c)).1 ∧ wfc c
def mPq (M : Nat) (μ : JM) (cls : List Cl) (bm : Nat) : Prop := jI μ M 51 = nI cls.length ∧ cls.length ≤ 36 ∧ jI μ M 55 = nI bm ∧ bm ≤ 8000 ∧ ∀ i, i < cls.length → mPo M μ i bm (cls.getD i cl0)
theorem mPq.pr {M bm : Nat} {μ : JM} {cls : List Cl} (h : mPq M μ cls bm) : mPr M μ cls := by
  obtain ⟨h1, h2, h3, h4, h5⟩ := h
  refine ⟨h1, h2, fun i hi => ?_⟩
  obtain ⟨o, o1, o2, o3, o4⟩ := h5 i hi
  exact ⟨o, o1, o2, by omega, o4⟩
theorem mPq.sm {M bm : Nat} {μ ν : JM} {cls : List Cl} {fs as : List Nat} (h : mPq M μ cls bm) (s : sm M fs as μ ν) (hf : ∀ i ∈ [51, 55], i ∉ fs) (ha : ∀ i ∈ [35, 36, 37], i ∉ as) : mPq M ν cls bm := by
  unfold mPq mPo
  rw [s.fI (hf 51 (by decide)), s.fI (hf 55 (by decide)), s.aI (by decide) (ha 35 (by decide)), s.aI (by decide) (ha 36 (by decide)), s.aI (by decide) (ha 37 (by decide))]; exact h
theorem mPo.pa {M i p bm : Nat} {μ ν : JM} {c : Cl} {B : List Int32} (h : mPo M μ i bm c) (hp : mPa M μ ν p bm B) (hi : i ≠ p) : mPo M ν i (bm + B.length) c := by
  obtain ⟨o, o1, o2, o3, o4, o5⟩ := h
  obtain ⟨p1, p2, p3, p4, p5, p6⟩ := hp
  refine ⟨o, by rw [p5, if_neg hi]; exact o1, by rw [p6, if_neg hi]; exact o2, by omega, o4.eq fun j hj => p4 _ (by omega), o5⟩
theorem mPo.new {M p bm : Nat} {μ ν : JM} {c : Cl} (hp : mPa M μ ν p bm (cB (Cl.tks c)).1) (hc : wfc c) : mPo M ν p (bm + (cB (Cl.tks c)).1.length) c := by
  obtain ⟨p1, p2, p3, p4, p5, p6⟩ := hp
  exact ⟨bm, by rw [p5, if_pos rfl], by rw [p6, if_pos rfl], by omega, p3, hc⟩
theorem getD_snoc {cls : List Cl} {c : Cl} {i : Nat} : (cls ++ [c]).getD i cl0 = if i < cls.length then cls.getD i cl0 else if i = cls.length then c else cl0 := by
  by_cases q : i < cls.length
  · rw [if_pos q]; simp [List.getD, List.getElem?_append_left q]
  · rw [if_neg q]
    by_cases z : i = cls.length
    · rw [if_pos z, z]; simp [List.getD]
    · rw [if_neg z]
      have : (cls ++ [c])[i]? = none := by rw [List.getElem?_eq_none_iff, List.length_append, List.length_singleton]; omega
      simp [List.getD, this]
theorem getD_set {cls : List Cl} {c : Cl} {i p : Nat} (hi : i < cls.length) : (cls.set p c).getD i cl0 = if i = p then c else cls.getD i cl0 := by
  by_cases z : i = p
  · subst z
    rw [if_pos rfl]; simp [List.getD, hi]
  · rw [if_neg z, List.getD_eq_getElem?_getD, List.getElem?_set_ne (fun y => z y.symm), List.getD_eq_getElem?_getD]
theorem getD_erase {cls : List Cl} {i p : Nat} : (cls.eraseIdx p).getD i cl0 = if i < p then cls.getD i cl0 else cls.getD (i + 1) cl0 := by
  rw [List.getD_eq_getElem?_getD, List.getElem?_eraseIdx]
  split
  · rfl
  · rfl
/-- a part is taken out -/
theorem shift_l {M p bm n : Nat} {rest : Int32 → JM → JO Int32} {Q : Int32 → JM → Prop} {μ0 : JM} (hp : p ≤ n) (hn : n ≤ 36) (hQ : ∀ ν, sm M [] [35, 36] μ0 ν → (∀ i, i < n → jI ν (M + 35) i = jI μ0 (M + 35) (if i < p then i else i + 1) ∧ jI ν (M + 36) i = jI μ0 (M + 36) (if i < p then i else i + 1)) → Res (jcl (fX11_takes M ν) fun r105 μ106 => jck (jbl r105) <| some (r105, μ106, 0, 0)) Q) : ∀ (fu k : Nat) (μ : JM), MT M μ → p ≤ k → k ≤ n → n - k < fu → jI μ M 51 = nI n → sm M [] [35, 36] μ0 μ → (∀ i, jI μ (M + 35) i = jI μ0 (M + 35) (if i < p ∨ k ≤ i then i else i + 1) ∧ jI μ (M + 36) i = jI μ0 (M + 36) (if i < p ∨ k ≤ i then i else i + 1)) →
    Res (fX11_change_b68 fu M (nI k) μ) Q := by
  intro fu
  induction fu with
  | zero => intro k μ _ _ _ h; omega
  | succ fu ih =>
    intro k μ h hk1 hk2 hf h51 hs hv
    rw [fX11_change_b68]
    simp only [jck_true, jde_is, jlt_is, jcl_0, beq_self_eq_true, jT_sI, jT_sJ, jP_sI, jP_sJ, jJ_sI, jI_sJ, jZ_sI, jZ_sJ, h.1, h51]
    by_cases q : k = n
    · rw [if_pos (nI_le (by omega) (by omega))]
      refine hQ μ hs fun i hi => ?_
      have := hv i
      by_cases z : i < p
      · rw [if_pos (Or.inl z)] at this; rw [if_pos z]; exact this
      · rw [if_neg (by omega)] at this; rw [if_neg z]; exact this
    · rw [if_neg (nI_ge (by omega) (by omega))]
      simp only [jck_true, jde_is, jlt_is, jcl_0, beq_self_eq_true, jT_sI, jT_sJ, jP_sI, jP_sJ, jJ_sI, jI_sJ, jZ_sI, jZ_sJ, mP_partFrom h, mT_partFrom h, mP_partSize h, mT_partSize h, nI_1, jin_nI (show k + 1 < 40 by omega) (show 40 < 2 ^ 31 by decide), jin_nI (show k < 40 by omega) (show 40 < 2 ^ 31 by decide), nI_clamp (show k < 2 ^ 31 by omega), nI_clamp (show k + 1 < 2 ^ 31 by omega)]
      have r36 : ∀ x, jI (jsI μ (M + 35) k x) (M + 36) (k + 1) = jI μ (M + 36) (k + 1) := fun x => by rw [jI_sI, if_neg (by omega)]
      rw [r36]
      have s1 : sm M [] [35, 36] μ (jsI (jsI μ (M + 35) k (jI μ (M + 35) (k + 1))) (M + 36) k (jI μ (M + 36) (k + 1))) := (sm.sA (by decide) (by decide)).tr (sm.sA (by decide) (by decide))
      have a35 : ∀ i, jI (jsI (jsI μ (M + 35) k (jI μ (M + 35) (k + 1))) (M + 36) k (jI μ (M + 36) (k + 1))) (M + 35) i = if i = k then jI μ (M + 35) (k + 1) else jI μ (M + 35) i := by
        intro i
        rw [jI_off (by decide), jI_sI]
        by_cases z : i = k
        · rw [if_pos ⟨rfl, z⟩, if_pos z]
        · rw [if_neg (fun y => z y.2), if_neg z]
      have a36 : ∀ i, jI (jsI (jsI μ (M + 35) k (jI μ (M + 35) (k + 1))) (M + 36) k (jI μ (M + 36) (k + 1))) (M + 36) i = if i = k then jI μ (M + 36) (k + 1) else jI μ (M + 36) i := by
        intro i
        rw [jI_sI]
        by_cases z : i = k
        · rw [if_pos ⟨rfl, z⟩, if_pos z]
        · rw [if_neg (fun y => z y.2), if_neg z, jI_off (by decide)]
      generalize jsI (jsI μ (M + 35) k (jI μ (M + 35) (k + 1))) (M + 36) k (jI μ (M + 36) (k + 1)) = μ1 at s1 a35 a36 ⊢
      refine ih (k + 1) μ1 (s1.mt h) (by omega) (by omega) (by omega) ((s1.fI (by decide)).trans h51) (hs.tr s1) (fun i => ?_)
      have v1 := hv i
      have v2 := hv (k + 1)
      rw [if_pos (Or.inr (by omega))] at v2
      rw [a35, a36]
      by_cases z : i = k
      · rw [if_pos z, if_pos z, if_neg (by omega), z]
        exact v2
      · rw [if_neg z, if_neg z]
        by_cases y : i < p ∨ k ≤ i
        · rw [if_pos y] at v1; rw [if_pos (by omega)]; exact v1
        · rw [if_neg y] at v1; rw [if_neg (by omega)]; exact v1
