/-! the class: a rider's list of clauses -/
theorem rm_l {v q cap len p : Nat} {f0 : Nat → Option Nat} (hcap : cap ≤ 1000) (hlen : len ≤ cap) (hvq : v ≠ q) : ∀ (fu j : Nat) (μ : JM), p < j → j ≤ len → len - j < fu → (jT μ v).1 = 9 → jT μ q = (105, cap) → jP μ v 0 = some q → jI μ v 2 = nI len → (∀ i, i < len → ∃ a, f0 i = some a ∧ (jT μ a).1 = 3) → (∀ i, jP μ q i = if p ≤ i ∧ i + 1 < j then f0 (i + 1) else f0 i) → ∃ ν, fX8_remove_b17 fu v (nI j) μ = some ((), ν, 0, 0) ∧ jT ν = jT μ ∧ jJ ν = jJ μ ∧ jZ ν = jZ μ ∧ (∀ x, x ≠ q → jP ν x = jP μ x) ∧ (∀ x, x ≠ v → jI ν x = jI μ x) ∧ jI ν v 1 = jI μ v 1 ∧ jI ν v 2 = nI (len - 1) ∧ ∀ i, i < len - 1 → jP ν q i = if i < p then f0 i else f0 (i + 1) := by
  intro fu
  induction fu with
  | zero => intro j μ _ _ q; omega
  | succ fu ih =>
    intro j μ hp hj hf t9 tq pv iv kd fr
    rw [fX8_remove_b17]
    simp only [jck_true, jde_is, jlt_is, jcl_0, beq_self_eq_true, jT_sI, jT_sJ, jP_sI, jP_sJ, jJ_sI, jI_sJ, jZ_sI, jZ_sJ, t9, iv]
    by_cases c : j = len
    · rw [if_pos (nI_le (by omega) (by omega))]
      have em : nI len - 1 = nI (len - 1) := by
        obtain ⟨m, rfl⟩ : ∃ m, len = m + 1 := ⟨len - 1, by omega⟩
        rw [show m + 1 - 1 = m by omega, ← nI_1, Int32.sub_eq_add_neg, Int32.add_assoc, show (1 : Int32) + (-1) = 0 from by decide, Int32.add_zero]
      have e2 : jI (jsI μ v 2 (nI (len - 1))) v 2 = nI (len - 1) := by rw [jI_sI, if_pos ⟨rfl, rfl⟩]
      rw [em]
      simp only [jck_true, jde_is, jlt_is, jcl_0, beq_self_eq_true, jT_sI, jT_sJ, jP_sI, jP_sJ, jJ_sI, jI_sJ, jZ_sI, jZ_sJ, pv, tq, e2, jin_nI (show len - 1 < cap by omega) (show cap < 2 ^ 31 by omega), nI_clamp (show len - 1 < 2 ^ 31 by omega)]
      refine ⟨_, rfl, rfl, rfl, rfl, fun x hx => jP_sP_ne hx, fun x hx => by rw [jI_sP, jI_sI_ne hx], ?_, by rw [jI_sP]; exact e2, fun i hi => ?_⟩
      · rw [jI_sP, jI_sI, if_neg (by omega)]
      · rw [jP_sP, if_neg (fun z => by have := z.2; omega), jP_sI, fr i]
        by_cases d : i < p
        · rw [if_pos d, if_neg (by omega)]
        · rw [if_neg d, if_pos (by omega)]
    · have hj2 : j < len := by omega
      rw [if_neg (nI_ge hj2 (by omega))]
      have em : nI j - 1 = nI (j - 1) := by
        obtain ⟨m, rfl⟩ : ∃ m, j = m + 1 := ⟨j - 1, by omega⟩
        rw [show m + 1 - 1 = m by omega, ← nI_1, Int32.sub_eq_add_neg, Int32.add_assoc, show (1 : Int32) + (-1) = 0 from by decide, Int32.add_zero]
      obtain ⟨a, a1, a2⟩ := kd j hj2
      have fj : jP μ q j = some a := by rw [fr j, if_neg (by omega), a1]
      simp only [jck_true, jde_is, jlt_is, jcl_0, beq_self_eq_true, jT_sI, jT_sJ, jP_sI, jP_sJ, jJ_sI, jI_sJ, jZ_sI, jZ_sJ, em, pv, tq, jin_nI (show j < cap by omega) (show cap < 2 ^ 31 by omega), jin_nI (show j - 1 < cap by omega) (show cap < 2 ^ 31 by omega), nI_clamp (show j < 2 ^ 31 by omega), nI_clamp (show j - 1 < 2 ^ 31 by omega), fj, jkd, a2, nI_1]
      obtain ⟨ν, g1, g2, g3, g4, g5, g6, g7, g8, g9⟩ := ih (j + 1) (jsP μ q (j - 1) (some a)) (by omega) (by omega) (by omega) t9 tq (by rw [jP_sP_ne hvq]; exact pv) iv kd (fun i => by
        rw [jP_sP]
        by_cases d : i = j - 1
        · rw [if_pos ⟨rfl, d⟩, if_pos (by omega), d, show j - 1 + 1 = j by omega, a1]
        · rw [if_neg (fun z => d z.2), fr i]
          by_cases e : p ≤ i ∧ i + 1 < j
          · rw [if_pos e, if_pos (by omega)]
          · rw [if_neg e, if_neg (by omega)])
      exact ⟨ν, g1, g2, g3, g4, fun x hx => by rw [g5 x hx, jP_sP_ne hx], g6, g7, g8, g9⟩
theorem c_lrem {B z lo hi p : Nat} {as : List Nat} {full : Bool} {cap : Nat} {μ : JM} {v q : Nat} {cls : List Cl} (h : cL lo hi full cap μ v q cls) (hc : cap ≤ 1000) (hp : p < cls.length) (hv : z ≤ v) (hq : z ≤ q) : Res (fX8_remove v (nI p) μ) (fun _ ν => cs B z as μ ν ∧ jZ ν = jZ μ ∧ cL lo hi full cap ν v q (cls.eraseIdx p)) := by
  obtain ⟨h1, h2, h3, h4, h5, h6, h7, h8⟩ := h
  have hvq : v ≠ q := by intro e; rw [e, h7] at h3; exact absurd h3 (show ¬ (105 : Nat) = 9 by decide)
  unfold fX8_remove
  rw [if_neg (nI_pos (by omega))]
  simp only [jck_true, jde_is, jlt_is, jcl_0, beq_self_eq_true, jT_sI, jT_sJ, jP_sI, jP_sJ, jJ_sI, jI_sJ, jZ_sI, jZ_sJ, h3, h4]
  rw [if_pos (nI_lt hp (by omega)), nI_1]
  obtain ⟨ν, g1, g2, g3, g4, g5, g6, g7, g8, g9⟩ := rm_l (f0 := jP μ q) (p := p) hc h5 hvq jfuel (p + 1) μ (by omega) (by omega) (jfuel_gt (by omega)) h3 h7 h6 h4 (fun i hi => by
    obtain ⟨a, a1, E⟩ := h8 i hi
    obtain ⟨_, _, _, -, -, -, -, e, -⟩ := E
    exact ⟨a, a1, e⟩) (fun i => by rw [if_neg (by omega)])
  rw [g1]
  have hk : ∀ x, x ≠ v → x ≠ q → sameC μ ν x := fun x q1 q2 => ⟨by rw [g2], g6 x q1, by rw [g3], g5 x q2⟩
  have kp : ∀ b d, cE lo hi full μ b d → cE lo hi full ν b d := fun b d hb => hb.kp fun x _ _ k1 k2 => hk x (fun e => k1 (by rw [e]; exact h3)) (fun e => k2 (by rw [e, h7]))
  have ln : (cls.eraseIdx p).length = cls.length - 1 := by rw [List.length_eraseIdx, if_pos hp]
  refine .ret ⟨⟨by rw [g4]; exact Nat.le_refl _, fun a _ => by rw [g2], fun a ha => g5 a (by omega), fun a ha _ => ⟨g6 a (by omega), by rw [g3]⟩⟩, g4, h1, h2, by rw [g2]; exact h3, by rw [ln]; exact g8, by omega, by rw [g5 v hvq]; exact h6, by rw [g2]; exact h7, fun i hi => ?_⟩
  rw [ln] at hi
  rw [g9 i hi]
  have ge : (cls.eraseIdx p).getD i cl0 = if i < p then cls.getD i cl0 else cls.getD (i + 1) cl0 := by
    rw [List.getD_eq_getElem?_getD, List.getElem?_eraseIdx]
    by_cases d : i < p
    · rw [if_pos d, if_pos d, List.getD_eq_getElem?_getD]
    · rw [if_neg d, if_neg d, List.getD_eq_getElem?_getD]
  rw [ge]
  by_cases d : i < p
  · rw [if_pos d, if_pos d]
    obtain ⟨a, a1, E⟩ := h8 i (by omega)
    exact ⟨a, a1, kp _ _ E⟩
  · rw [if_neg d, if_neg d]
    obtain ⟨a, a1, E⟩ := h8 (i + 1) (by omega)
    exact ⟨a, a1, kp _ _ E⟩
theorem c_lrem0 {v : Nat} {μ : JM} : fX8_remove v (-1) μ = some ((), μ, 0, 0) := by
  unfold fX8_remove
  rw [if_pos (by decide)]
/-- all clauses of a list are put behind another's -/
theorem aa_l {B z lo hi w qw v q : Nat} {cap cap2 : Nat} {all : List Cl} (hc : cap ≤ 1000) (hc2 : cap2 ≤ 1000) (hl : all.length ≤ cap) (hv : z ≤ v) (hq : z ≤ q) (hlv : hi ≤ v) (hlq : hi ≤ q) (hz : hi ≤ z) : ∀ (fu k : Nat) (μ : JM), cL lo hi true cap2 μ w qw all → cL lo (jZ μ) false cap μ v q (all.take k) → k ≤ all.length → all.length - k < fu → hi ≤ jZ μ → Res (fX8_addAll_b2 fu v (some w) (nI k) μ) (fun _ ν => cs B z [] μ ν ∧ jZ ν = jZ μ ∧ cL lo (jZ ν) false cap ν v q all) := by
  intro fu
  induction fu with
  | zero => intro k μ _ _ _ q; omega
  | succ fu ih =>
    intro k μ cw cv hk hf hj
    have h24 := cw.2.2.2.2.1
    rw [fX8_addAll_b2]
    simp only [jck_true, jde_is, jlt_is, jcl_0, beq_self_eq_true, jT_sI, jT_sJ, jP_sI, jP_sJ, jJ_sI, jI_sJ, jZ_sI, jZ_sJ, cw.2.2.1, cw.2.2.2.1]
    by_cases c : k = all.length
    · rw [if_pos (nI_le (by omega) (by omega))]
      rw [c, List.take_length] at cv
      exact .ret ⟨cs.rf, rfl, cv⟩
    · have hk2 : k < all.length := by omega
      rw [if_neg (nI_ge hk2 (by omega))]
      obtain ⟨a, a1, E⟩ := cw.2.2.2.2.2.2.2 k hk2
      simp only [jck_true, jde_is, jlt_is, jcl_0, beq_self_eq_true, jT_sI, jT_sJ, jP_sI, jP_sJ, jJ_sI, jI_sJ, jZ_sI, jZ_sJ, cw.2.2.2.2.2.1, cw.2.2.2.2.2.2.1, jin_nI (show k < cap2 by omega) (show cap2 < 2 ^ 31 by omega), nI_clamp (show k < 2 ^ 31 by omega), a1, cv.2.2.1]
      have lt : (all.take k).length = k := by rw [List.length_take]; omega
      refine Res.cl (c_ladd (B := B) (z := z) (as := []) cv hc (by omega) ((E.wk (Nat.le_refl _) hj).half) hv hq) fun _ ν ⟨s1, z1, k1, _, l1⟩ => ?_
      have tk : all.take k ++ [all.getD k cl0] = all.take (k + 1) := by
        rw [List.take_add_one, List.getElem?_eq_getElem hk2, List.getD_eq_getElem?_getD, List.getElem?_eq_getElem hk2]; rfl
      rw [tk, ← z1] at l1
      rw [nI_1]
      refine (ih (k + 1) ν (cw.kp fun x _ hx => k1 x (by omega) (by omega)) l1 (by omega) (by omega) (by omega)).mono fun _ ρ ⟨s2, z2, l2⟩ => ⟨s1.tr s2, by rw [z2, z1], l2⟩
theorem c_lab {B z hi n k : Nat} {μ : JM} {v q cap : Nat} {full : Bool} {cls : List Cl} {l : List Int32} (hC : CT B μ) (hL : cL (B + 121) hi full cap μ v q cls) (hcap : cap ≤ 1000) (h : cAt B μ l n k) (hz : B + 121 ≤ z) : Res (fX4_readLabelIn (B + 18) (some v) μ) (fun r ν => cn B z [15] μ ν ∧ ((∃ e, ov (Cd l) k (eb (nmC (Cd l) k) fun _ => match lfnd cls (Cd l k) false with | none => (.error (k, 3) : Except Er (List Cl × Nat)) | some p => eb (tk (Cd l) k) fun k2 => .ok (cls.eraseIdx p, k2)) = .error e ∧ r = -1 ∧ cF B ν l e) ∨ ∃ p, p < cls.length ∧ ov (Cd l) k (eb (nmC (Cd l) k) fun _ => match lfnd cls (Cd l k) false with | none => (.error (k, 3) : Except Er (List Cl × Nat)) | some p => eb (tk (Cd l) k) fun k2 => .ok (cls.eraseIdx p, k2)) = ov (Cd l) (k + 1) (.ok (cls.eraseIdx p, k + 1)) ∧ r = nI p ∧ cAt B ν l n (k + 1))) := by
  unfold fX4_readLabelIn
  simp only [jck_true, jde_is, jlt_is, jcl_0, beq_self_eq_true, jT_sI, jT_sJ, jP_sI, jP_sJ, jJ_sI, jI_sJ, jZ_sI, jZ_sJ, cT18 hC, cP18_0 hC, cT15 hC, c_token hC h, c_isFree]
  rw [ov_nmC]
  by_cases q1 : 0 < Cd l k
  · have ne0 : ¬ Cd l k = 0 := by intro e; rw [e] at q1; exact absurd q1 (by decide)
    have nov : ¬ Cd l k = -2000 := by intro e; rw [e] at q1; exact absurd q1 (by decide)
    rw [if_pos q1, if_pos q1, if_neg (by decide)]
    simp only [jck_true, jde_is, jlt_is, jcl_0, beq_self_eq_true, jT_sI, jT_sJ, jP_sI, jP_sJ, jJ_sI, jI_sJ, jZ_sI, jZ_sJ, hL.2.2.1, c_lfind false 0 rfl hL hcap, fX4_readLabelIn_b25]
    cases hf : lfnd cls (Cd l k) false with
    | none =>
      rw [if_pos (show oI 0 none = -1 from rfl)]
      simp only [jck_true, jde_is, jlt_is, jcl_0, beq_self_eq_true, jT_sI, jT_sJ, jP_sI, jP_sJ, jJ_sI, jI_sJ, jZ_sI, jZ_sJ, c_isFree]
      rw [if_pos q1, if_neg (by decide)]
      simp only [jck_true, jde_is, jlt_is, jcl_0, beq_self_eq_true, jT_sI, jT_sJ, jP_sI, jP_sJ, jJ_sI, jI_sJ, jZ_sI, jZ_sJ, cT18 hC, cP18_0 hC, cT15 hC]
      refine Res.cl (c_fail (z := z) 3 3 rfl (by decide) hC h) fun r ν ⟨e1, s1, f1⟩ => ?_
      refine .ret ⟨s1, Or.inl ⟨_, rfl, rfl, ?_⟩⟩
      have : fk (Cd l) k 3 = 3 := by unfold fk; rw [if_neg nov]
      rw [this] at f1; exact f1
    | some p =>
      have hp := lfnd_lt hf
      have h5 := hL.2.2.2.2.1
      rw [if_neg (by intro e; have := (oI_no (o := some p) (fun t ht => by injection ht; omega)).mp e; cases this)]
      simp only [jck_true, jde_is, jlt_is, jcl_0, beq_self_eq_true, jT_sI, jT_sJ, jP_sI, jP_sJ, jJ_sI, jI_sJ, jZ_sI, jZ_sJ, cT18 hC, cP18_0 hC, cT15 hC]
      refine Res.cl (c_step (z := z) hC h ne0 (by omega)) fun _ ν ⟨s2, a2⟩ => ?_
      exact .ret ⟨s2, Or.inr ⟨p, hp, eb_tk, by simp only [oI, Nat.zero_add], a2⟩⟩
  · rw [if_neg q1, if_neg q1, if_pos rfl, fX4_readLabelIn_b25, if_pos rfl, c_isFree, jcl_0, if_neg q1, if_pos rfl, jck_of (by rw [cT18 hC]; rfl), c_isOurs, jcl_0]
    by_cases q2 : Cd l k ≤ -3000
    · rw [if_pos q2, if_neg (by decide), fX4_readLabelIn_b78, if_pos q2]
      simp only [jck_true, jde_is, jlt_is, jcl_0, beq_self_eq_true, jT_sI, jT_sJ, jP_sI, jP_sJ, jJ_sI, jI_sJ, jZ_sI, jZ_sJ, cP18_0 hC, cT15 hC]
      refine Res.cl (c_fail (z := z) 2 2 rfl (by decide) hC h) fun r ν ⟨e1, s1, f1⟩ => .ret ⟨s1, Or.inl ⟨_, rfl, rfl, f1⟩⟩
    · rw [if_neg q2, if_pos rfl, fX4_readLabelIn_b78, if_neg q2]
      simp only [jck_true, jde_is, jlt_is, jcl_0, beq_self_eq_true, jT_sI, jT_sJ, jP_sI, jP_sJ, jJ_sI, jI_sJ, jZ_sI, jZ_sJ, cP18_0 hC, cT15 hC]
      refine Res.cl (c_fail (z := z) 0 0 rfl (by decide) hC h) fun r ν ⟨e1, s1, f1⟩ => .ret ⟨s1, Or.inl ⟨_, rfl, rfl, f1⟩⟩
