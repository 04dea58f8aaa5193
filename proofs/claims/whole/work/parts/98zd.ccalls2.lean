/-! the class: feed, end, octet, back, write, quarreling, free -/
theorem Rq.res {α : Type} {x : JO α} {P : α → JM → Prop} {Q : α → JM → Nat → Nat → Prop} (h : Res x P) (g : ∀ r ν, P r ν → Q r ν 0 0) : Rq x Q := by
  obtain ⟨r, ν, e, hp⟩ := h
  exact ⟨r, ν, 0, 0, e, g r ν hp⟩
theorem cSt.tp {B : Nat} {μ ν : JM} {s : SS} {l : List Int32} (h : cSt B μ s) (r : cs B (jZ μ) [3, 4] μ ν) (w : cS B 3 900 ν l) (hl : l.length ≤ 900) (hb : byt l) : cSt B ν (wTp s l) := by
  obtain ⟨g1, g2, g3, g4, g5, g6, g7, g8⟩ := h
  have hB := g1.2.2
  have r4 := r.tocr
  exact ⟨r.ct g1 hB, g2.kr r4 hB (by decide) (by rw [r.iI (by omega) (by decide)]; exact g2.2.2.2.2), ⟨w, hl, hb⟩, g4.kr r4 hB (by decide) (by decide), g5.kr r4 (by decide) hB, g6.kr r4 hB (by decide), g7.kr r4 hB (by decide), g8.kr r4 hB (by decide) (by decide)⟩
theorem cSt.ou {B : Nat} {μ ν : JM} {s : SS} {l : List Int32} (h : cSt B μ s) (r : cs B (jZ μ) [5, 6] μ ν) (w : cS B 5 1800 ν l) (hl : l.length ≤ 1800) : cSt B ν (wO s l) := by
  obtain ⟨g1, g2, g3, g4, g5, g6, g7, g8⟩ := h
  have hB := g1.2.2
  have r4 := r.tocr
  exact ⟨r.ct g1 hB, g2.kr r4 hB (by decide) (by rw [r.iI (by omega) (by decide)]; exact g2.2.2.2.2), g3.kr r4 hB (by decide) (by decide), ⟨w, hl⟩, g5.kr r4 (by decide) hB, g6.kr r4 hB (by decide), g7.kr r4 hB (by decide), g8.kr r4 hB (by decide) (by decide)⟩
theorem byt_app {a b : List Int32} (h : byt a) (g : byt b) : byt (a ++ b) := fun c hc => by
  rcases List.mem_append.mp hc with y | y
  · exact h c y
  · exact g c y
theorem c_feed {B : Nat} {μ : JM} {s : SS} (a b c d e : Int32) (h : cSt B μ s) : Rq (fX10_feed B a b c d e μ) (cQ B 0 0 μ (spFeed a b c d e s)) := by
  have hC := h.1
  have hB := hC.2.2
  have w := h.2.2.1.1
  have hl := h.2.2.1.2.1
  have hb := h.2.2.1.2.2
  unfold fX10_feed spFeed
  simp only [jck_true, jde_is, jlt_is, jcl_0, beq_self_eq_true, jT_sI, jT_sJ, jP_sI, jP_sJ, jJ_sI, jI_sJ, jZ_sI, jZ_sJ, cT0 hC, cP0_0 hC, cT3 hC, w.1]
  have e20 : nI (sTp s).length + 20 = nI ((sTp s).length + 20) := nI_add _ 20
  rw [e20]
  by_cases q : (sTp s).length + 20 ≤ 900
  · rw [if_pos (show nI ((sTp s).length + 20) ≤ 900 from nI_le (b := 900) q (by decide)), if_neg (by omega)]
    have l4 : ∀ x, (four x).length = 4 := fun x => rfl
    refine Rq.cl0 (c_addFour (z := jZ μ) a (sh3 hC) w (by decide) (by omega)) fun _ μ1 ⟨s1, w1, h1⟩ => ?_
    have C1 := s1.ct hC hB
    simp only [jck_true, jde_is, jlt_is, jcl_0, beq_self_eq_true, jT_sI, jT_sJ, jP_sI, jP_sJ, jJ_sI, jI_sJ, jZ_sI, jZ_sJ, cT0 C1, cP0_0 C1, cT3 C1]
    refine Rq.cl0 (c_addFour (z := jZ μ) b h1 w1 (by decide) (by simp [l4]; omega)) fun _ μ2 ⟨s2, w2, h2⟩ => ?_
    have C2 := s2.ct C1 hB
    simp only [jck_true, jde_is, jlt_is, jcl_0, beq_self_eq_true, jT_sI, jT_sJ, jP_sI, jP_sJ, jJ_sI, jI_sJ, jZ_sI, jZ_sJ, cT0 C2, cP0_0 C2, cT3 C2]
    refine Rq.cl0 (c_addFour (z := jZ μ) c h2 w2 (by decide) (by simp [l4]; omega)) fun _ μ3 ⟨s3, w3, h3⟩ => ?_
    have C3 := s3.ct C2 hB
    simp only [jck_true, jde_is, jlt_is, jcl_0, beq_self_eq_true, jT_sI, jT_sJ, jP_sI, jP_sJ, jJ_sI, jI_sJ, jZ_sI, jZ_sJ, cT0 C3, cP0_0 C3, cT3 C3]
    refine Rq.cl0 (c_addFour (z := jZ μ) d h3 w3 (by decide) (by simp [l4]; omega)) fun _ μ4 ⟨s4x, w4, h4⟩ => ?_
    have C4 := s4x.ct C3 hB
    simp only [jck_true, jde_is, jlt_is, jcl_0, beq_self_eq_true, jT_sI, jT_sJ, jP_sI, jP_sJ, jJ_sI, jI_sJ, jZ_sI, jZ_sJ, cT0 C4, cP0_0 C4, cT3 C4]
    refine Rq.cl0 (c_addFour (z := jZ μ) e h4 w4 (by decide) (by simp [l4]; omega)) fun _ μ5 ⟨s5, w5, h5⟩ => ?_
    have C5 := s5.ct C4 hB
    simp only [jck_true, jde_is, jlt_is, jcl_0, beq_self_eq_true, jT_sI, jT_sJ, jP_sI, jP_sJ, jJ_sI, jI_sJ, jZ_sI, jZ_sJ, cT0 C5, cP0_0 C5, cT3 C5, w5.1]
    have S := (((s1.tr s2).tr s3).tr s4x).tr s5
    refine .ret ⟨Nat.le_refl _, Nat.le_refl _, ?_, h.tp S w5 (by simp [l4]; omega) ?_, S.km hB hB (by decide)⟩
    · simp [l4]
    · exact byt_app (byt_app (byt_app (byt_app (byt_app hb (four_byt a)) (four_byt b)) (four_byt c)) (four_byt d)) (four_byt e)
  · rw [if_neg (show ¬ nI ((sTp s).length + 20) ≤ 900 from nI_ge (a := 900) (by omega) (by omega)), if_pos (by omega)]
    exact .ret ⟨Nat.le_refl _, Nat.le_refl _, rfl, h, kM.rf⟩
theorem c_end {B : Nat} {μ : JM} {s : SS} (n : Int32) (h : cSt B μ s) : Rq (fX10_end B n μ) (cQ B 0 0 μ (spEnd n s)) := by
  have hC := h.1
  have hB := hC.2.2
  have w := h.2.2.1.1
  have hl := h.2.2.1.2.1
  have hb := h.2.2.1.2.2
  unfold fX10_end spEnd
  by_cases q : n < 0
  · rw [if_pos q, if_pos q]
    exact .ret ⟨Nat.le_refl _, Nat.le_refl _, rfl, h, kM.rf⟩
  · rw [if_neg q, if_neg q]
    obtain ⟨j, hj, rfl⟩ := nI_of q
    simp only [jck_true, jde_is, jlt_is, jcl_0, beq_self_eq_true, jT_sI, jT_sJ, jP_sI, jP_sJ, jJ_sI, jI_sJ, jZ_sI, jZ_sJ, cT0 hC, cP0_0 hC, cT3 hC, w.1]
    by_cases t : nI j ≤ nI (sTp s).length
    · have hj2 := (nI_leI hj (by omega)).mp t
      rw [if_pos t, if_pos t, nI_clamp hj]
      have S : cs B (jZ μ) [3, 4] μ (jsI μ (B + 3) 2 (nI j)) := cs.sI (by decide)
      refine .ret ⟨Nat.le_refl _, Nat.le_refl _, rfl, h.tp S ⟨?_, by simp; omega, fun i hi hr => ?_⟩ (by simp; omega) (fun c hc => hb c (List.mem_of_mem_take hc)), S.km hB hB (by decide)⟩
      · rw [jI_sI, if_pos ⟨rfl, rfl⟩, List.length_take, Nat.min_eq_left hj2]
      · have hi2 : i < j := by simp at hi; omega
        rw [jI_sI_ne (by omega), w.2.2 i (by omega) hr]
        simp [List.getD, List.getElem?_take, hi2]
    · rw [if_neg t, if_neg t]
      exact .ret ⟨Nat.le_refl _, Nat.le_refl _, rfl, h, kM.rf⟩
/-- OUT's bytes are small -/
def gO (s : SS) : Prop := ∀ c ∈ sO s, c &&& 255 = c
theorem c_octet {B : Nat} {μ : JM} {s : SS} (i : Int32) (h : cSt B μ s) (hg : gO s) : Rq (fX10_octet B i μ) (cQ B 0 0 μ (spOctet i s)) := by
  have hC := h.1
  have w := h.2.2.2.1
  unfold fX10_octet spOctet
  simp only [jck_true, jde_is, jlt_is, jcl_0, beq_self_eq_true, jT_sI, jT_sJ, jP_sI, jP_sJ, jJ_sI, jI_sJ, jZ_sI, jZ_sJ, cT0 hC, cP0_1 hC, cT5 hC, c_byteAt2 (sh5 hC) w.1 (by decide) w.2]
  refine .ret ⟨Nat.le_refl _, Nat.le_refl _, ?_, h, kM.rf⟩
  cases hx : inR i (sO s).length with
  | none => rfl
  | some k =>
    obtain ⟨-, hk⟩ := inR_some hx
    exact hg _ (by rw [List.getD_eq_getElem?_getD, List.getElem?_eq_getElem hk]; exact List.getElem_mem hk)
theorem nb_255 (x : Int32) : nb (x &&& 255) = nb x := by
  unfold nb; rw [fa_byte_low]
theorem cbk_l {B : Nat} {μ0 : JM} {s : SS} (h : cSt B μ0 s) (hbO : byt (sO s)) (hl : (sTp s).length + (sO s).length ≤ 900) : ∀ (fu i : Nat) (μ : JM), cs B (jZ μ0) [3, 4] μ0 μ → cS B 3 900 μ (sTp s ++ (sO s).take i) → SH B 3 900 μ → i ≤ (sO s).length → (sO s).length - i < fu → Rq (fX10_back_b25 fu B (nI i) μ) (cQ B 0 0 μ0 (nI ((sTp s).length + (sO s).length), wO (wTp s (sTp s ++ sO s)) [])) := by
  have hC0 := h.1
  have hB := hC0.2.2
  intro fu
  induction fu with
  | zero => intro i μ _ _ _ _ q; omega
  | succ fu ih =>
    intro i μ S w hS hi hf
    have hC := S.ct hC0 hB
    have wO1 : cS B 5 1800 μ (sO s) := h.2.2.2.1.1.ke S (by omega) (by decide) (by decide)
    have hO := h.2.2.2.1.2
    rw [fX10_back_b25]
    simp only [jck_true, jde_is, jlt_is, jcl_0, beq_self_eq_true, jT_sI, jT_sJ, jP_sI, jP_sJ, jJ_sI, jI_sJ, jZ_sI, jZ_sJ, cT0 hC, cP0_1 hC, cT5 hC, wO1.1]
    by_cases c : i = (sO s).length
    · rw [if_pos (nI_le (by omega) (by omega))]
      rw [c, List.take_length] at w
      have h1 := h.tp S w (by simp; omega) (byt_app h.2.2.1.2.2 hbO)
      refine Rq.cl0 (c_clr (z := jZ μ) (sh5 hC)) fun _ ν ⟨s2, w2, z2⟩ => ?_
      have hC2 := s2.ct hC (by have := S.1; omega)
      have h2 := h1.ou (s2.wk (by decide)) w2 (Nat.zero_le _)
      simp only [jck_true, jde_is, jlt_is, jcl_0, beq_self_eq_true, jT_sI, jT_sJ, jP_sI, jP_sJ, jJ_sI, jI_sJ, jZ_sI, jZ_sJ, cT0 hC2, cP0_0 hC2, cT3 hC2, h2.2.2.1.1.1]
      refine .ret ⟨Nat.le_refl _, Nat.le_refl _, ?_, h2, (S.km hB hB (by decide)).tr (s2.km (by have := S.1; omega) (by have := S.1; omega) (by decide))⟩
      show nI (sTp s ++ sO s).length = _
      rw [List.length_append]
    · have hi2 : i < (sO s).length := by omega
      rw [if_neg (nI_ge hi2 (by omega)), c_byteAt (sh5 hC) wO1 (by decide) hO hi2, jcl_0]
      simp only [jck_true, jde_is, jlt_is, jcl_0, beq_self_eq_true, jT_sI, jT_sJ, jP_sI, jP_sJ, jJ_sI, jI_sJ, jZ_sI, jZ_sJ, cP0_0 hC, cT3 hC]
      refine Rq.cl0 (c_addByte (z := jZ μ0) _ hS w (by decide) (by simp; omega)) fun _ μ1 ⟨s1, w1, h1, _, z1, _, _⟩ => ?_
      rw [nb_255, byt_at hbO hi2] at w1
      rw [nI_1]
      refine ih (i + 1) μ1 (S.tr s1) ?_ h1 (by omega) (by omega)
      have et : sTp s ++ (sO s).take i ++ [(sO s).getD i 0] = sTp s ++ (sO s).take (i + 1) := by
        rw [List.append_assoc, List.take_succ_eq_append_getElem hi2]; congr 3; simp [List.getD, hi2]
      rw [← et]; exact w1
theorem c_back {B : Nat} {μ : JM} {s : SS} (h : cSt B μ s) (hbO : byt (sO s)) : Rq (fX10_back B μ) (cQ B 0 0 μ (spBack s)) := by
  have hC := h.1
  have hB := hC.2.2
  have w := h.2.2.1.1
  have wO1 := h.2.2.2.1
  have hl := h.2.2.1.2.1
  unfold fX10_back spBack
  simp only [jck_true, jde_is, jlt_is, jcl_0, beq_self_eq_true, jT_sI, jT_sJ, jP_sI, jP_sJ, jJ_sI, jI_sJ, jZ_sI, jZ_sJ, cT0 hC, cP0_0 hC, cT3 hC, w.1, cP0_1 hC, cT5 hC, wO1.1.1, nI_add]
  have := wO1.2
  by_cases q : (sTp s).length + (sO s).length ≤ 900
  · rw [if_pos (show nI ((sTp s).length + (sO s).length) ≤ 900 from nI_le (b := 900) q (by decide)), if_neg (by omega)]
    exact cbk_l h hbO q jfuel 0 μ cs.rf (by rw [List.take_zero, List.append_nil]; exact w) (sh3 hC) (by omega) (jfuel_gt (by omega))
  · rw [if_neg (show ¬ nI ((sTp s).length + (sO s).length) ≤ 900 from nI_ge (a := 900) (by omega) (by omega)), if_pos (by omega)]
    exact .ret ⟨Nat.le_refl _, Nat.le_refl _, rfl, h, kM.rf⟩
theorem c_quarreling {B : Nat} {μ : JM} {s : SS} (x : Int32) (h : cSt B μ s) : Rq (fX10_quarreling B x μ) (cQ B 0 0 μ (spQuarreling x s)) := by
  have hC := h.1
  have hN := h.2.2.2.2.2.1
  unfold fX10_quarreling spQuarreling
  by_cases q : x = 0
  · rw [if_pos q, if_pos q, jck_of (by rw [cT0 hC]; rfl), hN.2.2.2.1]
    exact .ret ⟨Nat.le_refl _, Nat.le_refl _, rfl, h, kM.rf⟩
  · rw [if_neg q, if_neg q]
    by_cases t : x = 1
    · rw [if_pos t, if_pos t, jck_of (by rw [cT0 hC]; rfl), hN.2.2.2.2]
      exact .ret ⟨Nat.le_refl _, Nat.le_refl _, rfl, h, kM.rf⟩
    · rw [if_neg t, if_neg t]
      exact .ret ⟨Nat.le_refl _, Nat.le_refl _, rfl, h, kM.rf⟩
/-! VERSIONS by their numbers -/
theorem c_vAt {B : Nat} {μ : JM} {s : SS} (h : cSt B μ s) : ∃ va : Nat → Nat, (∀ t, t < (sTx s).length → cVr B (jZ μ) μ (va t) (txA s t) t) ∧ (∀ v t, vAt s v = some t → t < (sTx s).length) ∧ ∀ v, fX10_versionAt B v μ = some ((vAt s v).map va, μ, 0, 0) := by
  have hC := h.1
  obtain ⟨va, h1, h2, h3⟩ := h.2.2.2.2.1
  refine ⟨va, h1, fun v t hv => ?_, fun v => ?_⟩
  · unfold vAt at hv
    cases hx : inR v 4 with
    | none => rw [hx] at hv; cases hv
    | some u => rw [hx] at hv; exact (h2 u (inR_some hx).2).2 t hv
  · unfold fX10_versionAt vAt
    cases hx : inR v 4 with
    | none =>
      by_cases c : v < 0
      · rw [if_pos c]; rfl
      · rw [if_neg c]
        obtain ⟨j, hj, rfl⟩ := nI_of c
        have : ¬ j < 4 := fun t => by
          unfold inR at hx
          rw [if_pos ⟨nI_pos' hj, by rw [nI_clamp hj]; exact t⟩] at hx
          cases hx
        rw [if_neg (show ¬ nI j < 4 from nI_nlt (b := 4) (by omega) hj)]; rfl
    | some u =>
      obtain ⟨rfl, hu⟩ := inR_some hx
      rw [if_neg (nI_pos (by omega)), if_pos (show nI u < 4 from nI_lt (b := 4) hu (by decide))]
      simp only [jck_true, jde_is, jlt_is, jcl_0, beq_self_eq_true, jT_sI, jT_sJ, jP_sI, jP_sJ, jJ_sI, jI_sJ, jZ_sI, jZ_sJ, cT0 hC, cP0_8 hC, cT69 hC, jin_nI hu (show 4 < 2 ^ 31 by decide), nI_clamp (show u < 2 ^ 31 by omega), (h2 u hu).1]
/-- texts are such as can be WRITTEN -/
def gV (s : SS) : Prop := ∀ t, t < (sTx s).length → (∀ c ∈ txA s t, ∀ k ∈ Cl.tks c, isV k) ∧ (∀ c ∈ txA s t, (Cl.tks c).length ≤ 1000) ∧ (∀ k, k ≤ (txA s t).length → 13 * (jT2 ((txA s t).take k)).length + 13 < 2 ^ 29) ∧ (txB (txA s t)).length ≤ 1800
theorem c_write {B : Nat} {μ : JM} {s : SS} (v : Int32) (h : cSt B μ s) (hg : gV s) : Rq (fX10_write B v μ) (cQ B 0 0 μ (spWrite v s)) := by
  have hC := h.1
  have hB := hC.2.2
  obtain ⟨va, h1, h2, h3⟩ := c_vAt h
  unfold fX10_write spWrite
  rw [jck_of (by rw [cT0 hC]; rfl), h3 v, jcl_0]
  cases hv : vAt s v with
  | none => exact .ret ⟨Nat.le_refl _, Nat.le_refl _, rfl, h, kM.rf⟩
  | some t =>
    have ht := h2 v t hv
    obtain ⟨q, cl, -⟩ := h1 t ht
    obtain ⟨g1, g2, g3, g4⟩ := hg t ht
    simp only [Option.map_some]
    rw [if_neg (by intro e; cases e)]
    simp only [jck_true, jde_is, jlt_is, jcl_0, beq_self_eq_true, jT_sI, jT_sJ, jP_sI, jP_sJ, jJ_sI, jI_sJ, jZ_sI, jZ_sJ, cT0 hC, cP0_1 hC, cT5 hC]
    refine Rq.cl0 (c_clr (z := jZ μ) (sh5 hC)) fun _ μ1 ⟨s1, w1, z1⟩ => ?_
    have C1 := s1.ct hC hB
    have cl1 := cl.ke s1 (by decide) (Nat.le_refl _) (Nat.le_refl _)
    simp only [jck_true, jde_is, jlt_is, jcl_0, beq_self_eq_true, jT_sI, jT_sJ, jP_sI, jP_sJ, jJ_sI, jI_sJ, jZ_sI, jZ_sJ, cT0 C1, cP0_1 C1, cl1.2.2.1]
    have L1 : cLang B μ1 := cW.ke h.2.1.1 s1 (by omega) (by decide) (by decide)
    refine Rq.cl0 (c_putOn (z := jZ μ) (by decide) hB (by decide) g1 g3 g2 (Nat.le_refl _) (by decide) C1 L1 (sh5 C1) (by omega) cl1 w1) fun _ μ2 ⟨s2, z2, w2⟩ => ?_
    have C2 := s2.ct C1 hB
    simp only [jck_true, jde_is, jlt_is, jcl_0, beq_self_eq_true, jT_sI, jT_sJ, jP_sI, jP_sJ, jJ_sI, jI_sJ, jZ_sI, jZ_sJ, cT0 C2, cP0_1 C2, cT5 C2, w2.1]
    have S : cs B (jZ μ) [5, 6] μ μ2 := (s1.wk (by decide)).tr s2
    exact .ret ⟨Nat.le_refl _, Nat.le_refl _, rfl, h.ou S w2 g4, S.km hB hB (by decide)⟩
