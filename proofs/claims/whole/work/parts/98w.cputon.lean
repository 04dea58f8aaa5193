/-! the class: CLAUSES are put on a Sheet -/
theorem jT2_sn : ∀ (r : List Cl) (c : Cl), r ≠ [] → jT2 (r ++ [c]) = jT2 r ++ -60 :: Cl.tks c
  | [], c, h => absurd rfl h
  | [d], c, _ => rfl
  | d :: e :: r, c, _ => by
    have := jT2_sn (e :: r) c (by simp)
    show Cl.tks d ++ -60 :: jT2 (e :: r ++ [c]) = _
    rw [this]
    show _ = (Cl.tks d ++ -60 :: jT2 (e :: r)) ++ -60 :: Cl.tks c
    simp
theorem cf_l13 : ∀ (ts : List Int64) (s : List Int32 × Int32), (∀ t ∈ ts, isV t) → (ts.foldl cput s).1.length ≤ s.1.length + 13 * ts.length
  | [], s, _ => by simp
  | c :: r, s, h => by
    have h1 := cf_l13 r (cput s c) (fun x hx => h x (List.mem_cons_of_mem _ hx))
    have h2 := cb_len (h c List.mem_cons_self)
    have h3 : (cput s c).1.length ≤ s.1.length + 13 := by
      unfold cput
      simp only [List.length_append]
      have : (if s.2 = 0 ∨ s.2 = 40 ∨ (isSg c = true ∧ c ≠ -41) then ([] : List Int32) else [32]).length ≤ 1 := by split <;> simp
      omega
    rw [List.foldl_cons, List.length_cons]
    omega
theorem cB_l13 (ts : List Int64) (h : ∀ t ∈ ts, isV t) : (cB ts).1.length ≤ 13 * ts.length := by
  have := cf_l13 ts ([], 0) h
  unfold cB
  simpa using this
theorem po_in {B i room z v k q : Nat} {ts : List Int64} {tk2 : List Int64} {rec2 : Nat → Option Nat → Int32 → JM → JO Unit} (hi : 3 ≤ i ∧ i < 20) (hz : B + 121 ≤ z) (hr : room < 2 ^ 30) (hts : ∀ t ∈ ts, isV t) (htk : ∀ t ∈ tk2, isV t) (hl : 13 * (ts.length + tk2.length) + 13 < 2 ^ 30) (hq : B + 121 ≤ q) (hqz : q < z) : ∀ (fu j : Nat) (μ : JM), CT B μ → cLang B μ → SH B i room μ → z ≤ jZ μ → jT μ q = (102, tk2.length) → (∀ j, j < tk2.length → jJ μ q j = tk2.getD j 0) → cSp B i room μ (ts ++ tk2.take j) → j ≤ tk2.length → tk2.length - j < fu →
    ∃ ν, fX8_putOn_b34 rec2 fu v (some (B + i)) (nI k) (some q) (nI j) μ = rec2 v (some (B + i)) (nI k + 1) ν ∧ cs B z [i, i + 1] μ ν ∧ jZ ν = jZ μ ∧ SH B i room ν ∧ cSp B i room ν (ts ++ tk2) := by
  intro fu
  induction fu with
  | zero => intro j μ _ _ _ _ _ _ _ _ q; omega
  | succ fu ih =>
    intro j μ hC hL h hzj hT hJ w hj hf
    rw [fX8_putOn_b34, if_neg (by intro e; cases e)]
    simp only [jck_true, jde_is, jlt_is, jcl_0, beq_self_eq_true, jT_sI, jT_sJ, jP_sI, jP_sJ, jJ_sI, jI_sJ, jZ_sI, jZ_sJ, hT]
    by_cases c : j = tk2.length
    · rw [if_pos (nI_le (by omega) (by omega)), fX8_putOn_b59]
      rw [c, List.take_length] at w
      exact ⟨μ, rfl, cs.rf, rfl, h, w⟩
    · have hj2 : j < tk2.length := by omega
      rw [if_neg (nI_ge hj2 (by omega))]
      simp only [jck_true, jde_is, jlt_is, jcl_0, beq_self_eq_true, jT_sI, jT_sJ, jP_sI, jP_sJ, jJ_sI, jI_sJ, jZ_sI, jZ_sJ, jin_nI hj2 (by omega), nI_clamp (show j < 2 ^ 31 by omega), h.1, hJ j hj2]
      have hm : tk2.getD j 0 ∈ tk2 := by rw [List.getD_eq_getElem?_getD, List.getElem?_eq_getElem hj2]; exact List.getElem_mem hj2
      have hv : ∀ t ∈ ts ++ tk2.take j, isV t := fun t ht => by
        rcases List.mem_append.mp ht with y | y
        · exact hts t y
        · exact htk t (List.mem_of_mem_take y)
      have hlen := cB_l13 _ hv
      rw [List.length_append, List.length_take, Nat.min_eq_left (by omega)] at hlen
      obtain ⟨u, μ1, e1, s1, w1, h1, z1⟩ := c_put (z := z) hC hL hi hz hr (by omega) h w hv (htk _ hm)
      rw [e1, jcl_0, nI_1]
      have et : ts ++ tk2.take j ++ [tk2.getD j 0] = ts ++ tk2.take (j + 1) := by
        rw [List.append_assoc, List.take_succ_eq_append_getElem hj2]; congr 3; simp [List.getD, hj2]
      rw [et] at w1
      have D := s1.dyn (by simp; omega) hzj q hq hqz
      obtain ⟨ν, e2, s2, z2, h2, w2⟩ := ih (j + 1) μ1 (s1.ct hC hz) (cW.ke hL s1 (by omega) (by simp; omega) (by simp; omega)) h1 (by omega) (by rw [D.1]; exact hT) (by rw [D.2.2.1]; exact hJ) w1 (by omega) (by omega)
      exact ⟨ν, e2, s1.tr s2, by rw [z2, z1], h2, w2⟩
theorem po_l {B i room z hi v q cap : Nat} {full : Bool} {cls : List Cl} (hi3 : 3 ≤ i ∧ i < 20) (hz : B + 121 ≤ z) (hr : room < 2 ^ 30) (hv : ∀ c ∈ cls, ∀ t ∈ Cl.tks c, isV t) (hl : ∀ k, k ≤ cls.length → 13 * (jT2 (cls.take k)).length + 13 < 2 ^ 29) (htl : ∀ c ∈ cls, (Cl.tks c).length ≤ 1000) (hh : hi ≤ z) (hcap : cap ≤ 1000) : ∀ (fu k : Nat) (μ : JM), CT B μ → cLang B μ → SH B i room μ → z ≤ jZ μ → cL (B + 121) hi full cap μ v q cls → cSp B i room μ (jT2 (cls.take k)) → k ≤ cls.length → cls.length - k < fu → Res (fX8_putOn_b2 fu v (some (B + i)) (nI k) μ) (fun _ ν => cs B z [i, i + 1] μ ν ∧ jZ ν = jZ μ ∧ cSp B i room ν (jT2 cls)) := by
  intro fu
  induction fu with
  | zero => intro k μ _ _ _ _ _ _ _ q; omega
  | succ fu ih =>
    intro k μ hC hL h hzj hcl w hk hf
    obtain ⟨l1, l2, l3, l4, l5, l6, l7, l8⟩ := id hcl
    rw [fX8_putOn_b2]
    simp only [jck_true, jde_is, jlt_is, jcl_0, beq_self_eq_true, jT_sI, jT_sJ, jP_sI, jP_sJ, jJ_sI, jI_sJ, jZ_sI, jZ_sJ, l3, l4]
    by_cases c : k = cls.length
    · rw [if_pos (nI_le (by omega) (by omega))]
      rw [c, List.take_length] at w
      exact .ret ⟨cs.rf, rfl, w⟩
    · have hk2 : k < cls.length := by omega
      rw [if_neg (nI_ge hk2 (by omega))]
      have hvt : ∀ n, ∀ t ∈ jT2 (cls.take n), isV t := by
        have key : ∀ (L : List Cl), (∀ c ∈ L, ∀ t ∈ Cl.tks c, isV t) → ∀ t ∈ jT2 L, isV t := by
          intro L
          induction L with
          | nil => intro _ t ht; cases ht
          | cons d r ihr =>
            intro hL t ht
            cases r with
            | nil => exact hL d (by simp) t ht
            | cons e r =>
              have ht : t ∈ Cl.tks d ++ -60 :: jT2 (e :: r) := ht
              rcases List.mem_append.mp ht with y | y
              · exact hL d (by simp) t y
              · rcases List.mem_cons.mp y with y | y
                · rw [y]; exact Or.inr (Or.inr (Or.inr (by decide)))
                · exact ihr (fun c hc => hL c (List.mem_cons_of_mem _ hc)) t y
        exact fun n => key _ (fun c hc => hv c (List.mem_of_mem_take hc))
      have hmem : cls.getD k cl0 ∈ cls := by rw [List.getD_eq_getElem?_getD, List.getElem?_eq_getElem hk2]; exact List.getElem_mem hk2
      -- the clause's own tokens
      have b21 : ∀ (μ1 : JM) (ts : List Int64), cs B z [i, i + 1] μ μ1 → jZ μ1 = jZ μ → SH B i room μ1 → cSp B i room μ1 ts → (∀ t ∈ ts, isV t) → 13 * ts.length + 13 < 2 ^ 29 → ts ++ Cl.tks (cls.getD k cl0) = jT2 (cls.take (k + 1)) → Res (fX8_putOn_b21 (fX8_putOn_b2 fu) v (some (B + i)) (nI k) μ1) (fun _ ν => cs B z [i, i + 1] μ ν ∧ jZ ν = jZ μ ∧ cSp B i room ν (jT2 cls)) := by
        intro μ1 ts s1 z1 h1 w1 hts hl1 et
        have hC1 := s1.ct hC hz
        have hL1 : cLang B μ1 := cW.ke hL s1 (by omega) (by simp; omega) (by simp; omega)
        have hcl1 : cL (B + 121) hi full cap μ1 v q cls := hcl.ke s1 (by simp; omega) hzj hh
        obtain ⟨m1, m2, m3, m4, m5, m6, m7, m8⟩ := id hcl1
        obtain ⟨a, e1, qq, b, t, a1, a2, a3, a4, a5, a6, a7, a8, a9, a10, a11, a12, -⟩ := m8 k hk2
        rw [fX8_putOn_b21]
        simp only [jck_true, jde_is, jlt_is, jcl_0, beq_self_eq_true, jT_sI, jT_sJ, jP_sI, jP_sJ, jJ_sI, jI_sJ, jZ_sI, jZ_sJ, m3, m6, m7, jin_nI (show k < cap by omega) (by omega), nI_clamp (show k < 2 ^ 31 by omega), e1, a5, a10]
        obtain ⟨μ2, e2, s2, z2, h2, w2⟩ := po_in (v := v) (k := k) (q := t) (rec2 := fX8_putOn_b2 fu) hi3 hz hr hts (hv _ hmem) (by have := htl _ hmem; omega) a4.1 (by omega) jfuel 0 μ1 hC1 hL1 h1 (by omega) a11 a12 (by rw [List.take_zero, List.append_nil]; exact w1) (by omega) (jfuel_gt (by have := htl _ hmem; omega))
        rw [show (0 : Int32) = nI 0 from rfl, e2, nI_1]
        rw [et] at w2
        refine (ih (k + 1) μ2 (s2.ct hC1 hz) (cW.ke hL1 s2 (by omega) (by simp; omega) (by simp; omega)) h2 (by omega) (hcl1.ke s2 (by simp; omega) (by omega) hh) w2 (by omega) (by omega)).mono ?_
        rintro x ν ⟨b1, b2, b3⟩
        exact ⟨(s1.tr s2).tr b1, by rw [b2, z2, z1], b3⟩
      have tsn : cls.take (k + 1) = cls.take k ++ [cls.getD k cl0] := by rw [List.take_succ_eq_append_getElem hk2]; congr 2; simp [List.getD, hk2]
      by_cases q0 : k = 0
      · subst q0
        rw [if_pos (by decide)]
        refine b21 μ [] cs.rf rfl h (by rw [List.take_zero] at w; exact w) (fun t ht => by cases ht) (by decide) ?_
        rw [tsn]; rfl
      · rw [if_neg (nI_nle (by omega) (by omega))]
        simp only [jck_true, jde_is, jlt_is, jcl_0, beq_self_eq_true, jT_sI, jT_sJ, jP_sI, jP_sJ, jJ_sI, jI_sJ, jZ_sI, jZ_sJ, h.1]
        have hne : cls.take k ≠ [] := by
          intro e
          have e2 := congrArg List.length e
          rw [List.length_take, List.length_nil] at e2
          omega
        have hlk := hl k hk
        have h13 := cB_l13 _ (hvt k)
        obtain ⟨u, μ1, e1, s1, w1, h1, z1⟩ := c_put (z := z) (c := -60) hC hL hi3 hz hr (by omega) h w (hvt k) (Or.inr (Or.inr (Or.inr (by decide))))
        rw [e1, jcl_0]
        refine b21 μ1 (jT2 (cls.take k) ++ [-60]) s1 z1 h1 w1 (fun t ht => ?_) ?_ ?_
        · rcases List.mem_append.mp ht with y | y
          · exact hvt k t y
          · rw [List.mem_singleton.mp y]; exact Or.inr (Or.inr (Or.inr (by decide)))
        · have h2 := hl (k + 1) (by omega)
          rw [tsn, jT2_sn _ _ hne] at h2
          simp only [List.length_append, List.length_cons, List.length_nil] at h2 ⊢
          omega
        · rw [tsn, jT2_sn _ _ hne]; simp
theorem c_putOn {B i room z hi v q cap : Nat} {full : Bool} {cls : List Cl} {μ : JM} (hi3 : 3 ≤ i ∧ i < 20) (hz : B + 121 ≤ z) (hr : room < 2 ^ 30) (hv : ∀ c ∈ cls, ∀ t ∈ Cl.tks c, isV t) (hl : ∀ k, k ≤ cls.length → 13 * (jT2 (cls.take k)).length + 13 < 2 ^ 29) (htl : ∀ c ∈ cls, (Cl.tks c).length ≤ 1000) (hh : hi ≤ z) (hcap : cap ≤ 1000) (hC : CT B μ) (hL : cLang B μ) (h : SH B i room μ) (hzj : z ≤ jZ μ) (hcl : cL (B + 121) hi full cap μ v q cls) (w : cS B i room μ []) : Res (fX8_putOn v (some (B + i)) μ) (fun _ ν => cs B z [i, i + 1] μ ν ∧ jZ ν = jZ μ ∧ cS B i room ν (txB cls)) := by
  unfold fX8_putOn
  refine (po_l hi3 hz hr hv hl htl hh hcap jfuel 0 μ hC hL h hzj hcl ⟨by rw [List.take_zero]; exact w, fun t c e => ?_⟩ (by omega) (jfuel_gt (by have := hcl.2.2.2.2.1; omega))).mono ?_
  · rw [List.take_zero] at e
    have := congrArg List.length e
    simp [jT2] at this
  · rintro x ν ⟨b1, b2, b3⟩
    exact ⟨b1, b2, b3.1⟩
