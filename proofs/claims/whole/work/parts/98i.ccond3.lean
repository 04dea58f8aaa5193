/-! the class: Cond, closing; read -/
theorem xx_m1 (x : Int64) : (x ^^^ (-1)) ^^^ (-1) = x := by rw [Int64.xor_assoc, show (-1 : Int64) ^^^ (-1) = 0 from by decide, Int64.xor_zero]
theorem cfl_s (m : Nat) (v : CS) : cfl m (fun i => v i ^^^ (-1)) = cfl (m + 1) v := by
  unfold cfl; funext i
  by_cases q : m % 2 = 1
  · rw [if_pos q, if_neg (by omega), xx_m1]
  · rw [if_neg q, if_pos (by omega)]
theorem cfl_0 (v : CS) : cfl 0 v = v := by unfold cfl; funext i; rw [if_neg (by decide)]
theorem c_nots {B z : Nat} {wh : Bool} (hz : B + 121 ≤ z) : ∀ (m b fu i : Nat) (μ : JM) (v : CS), CT B μ → jI μ (B + 19) 5 = nI (b + m) → (∀ j, 1 ≤ j → j ≤ m → jI μ (B + 66) (b + j) = 1) → b + m ≤ 10 → i + m ≤ 10 → (wh = true → ∀ i, i < 4 → jJ μ (B + 68) i = v i) →
    ∃ ν, fX3_closeLevels_b2 (fu + m) (B + 19) (nI i) μ = fX3_closeLevels_b2 fu (B + 19) (nI (i + m)) ν ∧ cn B z [19, 68] μ ν ∧ jI ν (B + 19) 5 = nI b ∧ jI ν (B + 19) 6 = jI μ (B + 19) 6 ∧ (wh = true → ∀ i, i < 4 → jJ ν (B + 68) i = cfl m v i) := by
  intro m
  induction m with
  | zero => intro b fu i μ v hC h5 _ _ _ hv; exact ⟨μ, rfl, cn.rf, h5, rfl, fun w i hi => by rw [cfl_0]; exact hv w i hi⟩
  | succ m ih =>
    intro b fu i μ v hC h5 hn hb hi hv
    rw [show fu + (m + 1) = (fu + m) + 1 by omega, fX3_closeLevels_b2, if_neg (show ¬ (10 : Int32) < nI i from nI_nlt (a := 10) (by omega) (by decide))]
    simp only [jck_true, jde_is, jlt_is, jcl_0, beq_self_eq_true, jT_sI, jT_sJ, jP_sI, jP_sJ, jJ_sI, jI_sJ, jZ_sI, jZ_sJ, cT19 hC, cP19_4 hC, cT66 hC, h5, jin_nI (show b + (m + 1) < 11 by omega) (by decide), nI_clamp (show b + (m + 1) < 2 ^ 31 by omega), hn (m + 1) (by omega) (by omega)]
    rw [if_neg (by decide)]
    simp only [jck_true, jde_is, jlt_is, jcl_0, beq_self_eq_true, jT_sI, jT_sJ, jP_sI, jP_sJ, jJ_sI, jI_sJ, jZ_sI, jZ_sJ, cP19_7 hC, cT67 hC, c_flip (ca_v hC), jT_s4, jI_s4, cT19 hC, h5]
    rw [show b + (m + 1) = (b + m) + 1 by omega, nI_pred, fX3_closeLevels_b132, nI_1]
    have s1 : cs B z [19, 68] μ (jsI (s4 μ (B + 68) (fun i => jJ μ (B + 68) i ^^^ (-1))) (B + 19) 5 (nI (b + m))) := (cs.q4 (by decide)).tr (cs.sI (by decide))
    have k5 : jI (jsI (s4 μ (B + 68) (fun i => jJ μ (B + 68) i ^^^ (-1))) (B + 19) 5 (nI (b + m))) (B + 19) 5 = nI (b + m) := by rw [jI_sI, if_pos ⟨rfl, rfl⟩]
    have k6 : jI (jsI (s4 μ (B + 68) (fun i => jJ μ (B + 68) i ^^^ (-1))) (B + 19) 5 (nI (b + m))) (B + 19) 6 = jI μ (B + 19) 6 := by rw [jI_sI, if_neg (by omega)]; rfl
    have kv : ∀ i, i < 4 → jJ (jsI (s4 μ (B + 68) (fun i => jJ μ (B + 68) i ^^^ (-1))) (B + 19) 5 (nI (b + m))) (B + 68) i = jJ μ (B + 68) i ^^^ (-1) := fun i hi => by rw [jJ_sI, jJ_s4 hi]
    have kZ : jZ (jsI (s4 μ (B + 68) (fun i => jJ μ (B + 68) i ^^^ (-1))) (B + 19) 5 (nI (b + m))) = jZ μ := rfl
    generalize jsI (s4 μ (B + 68) (fun i => jJ μ (B + 68) i ^^^ (-1))) (B + 19) 5 (nI (b + m)) = μ1 at s1 k5 k6 kv kZ ⊢
    have e66 : jI μ1 (B + 66) = jI μ (B + 66) := s1.iI (by omega) (by decide)
    obtain ⟨ν, e1, e2, e3, e4, e5⟩ := ih b fu (i + 1) μ1 (fun i => v i ^^^ (-1)) (s1.ct hC hz) k5 (fun j h1 h2 => by rw [e66]; exact hn j h1 (by omega)) (by omega) (by omega) (fun w i hi => by rw [kv i hi, hv w i hi])
    refine ⟨ν, ?_, cn.tr ⟨s1, kZ⟩ e2, e3, e4.trans k6, fun w i hi => ?_⟩
    · rw [e1, show i + 1 + m = i + (m + 1) by omega]
    · rw [e5 w i hi, cfl_s]
theorem bs_0 {r : List Lv} (h : bs r = 0) : r = [] := by
  cases r with
  | nil => rfl
  | cons b s => rw [bs_cons] at h; omega
theorem cD.op {B z : Nat} {μ ν : JM} {wh : Bool} {t : Lv} {r : List Lv} {ops o2 : Nat} (h : cD B μ wh t r ops) (s : cs B z [15, 19, 68] μ ν) (hz : B + 121 ≤ z) (h5 : jI ν (B + 19) 5 = jI μ (B + 19) 5) (h6 : jI ν (B + 19) 6 = nI o2) : cD B ν wh t r o2 := by
  have := h.2.1
  refine ⟨h5.trans h.1, h.2.1, h6, lvs.lo r t h.2.2.2 (fun j _ => by rw [s.iI (by omega) (by decide)]) (fun d hd => ⟨s.iJ (by omega) (by simp; omega), s.iJ (by omega) (by simp; omega)⟩)⟩
theorem c_close {B z n : Nat} {l : List Int32} {wh : Bool} {ops : Nat} (hz : B + 121 ≤ z) : ∀ (r : List Lv) (t : Lv) (k fu i : Nat) (μ : JM) (v : CS), CT B μ → cAt B μ l n k → cD B μ wh t r ops → (wh = true → ∀ i, i < 4 → jJ μ (B + 68) i = v i) → i + dpt t r ≤ 10 → dpt t r < fu →
    Res (fX3_closeLevels_b2 fu (B + 19) (nI i) μ) (fun _ ν => cc B z μ ν ∧ ∃ t' r' k', ov (Cd l) k (sClo (Cd l) (lvJoin t v) r k) = ov (Cd l) k' (.ok (t', r', k')) ∧ cAt B ν l n k' ∧ cD B ν wh t' r' ops ∧ t'.1 = 0 ∧ k ≤ k') := by
  intro r
  induction r with
  | nil =>
    intro t k fu i μ v hC h hD hv hi hf
    obtain ⟨d1, d2, d3, d4⟩ := hD
    have db : dpt t [] = t.1 := by rw [dpt_bs]; rfl
    obtain ⟨f, rfl⟩ : ∃ f, fu = (f + 1) + t.1 := ⟨fu - 1 - t.1, by omega⟩
    obtain ⟨μ1, e1, s1, k5, k6, kv⟩ := c_nots (z := z) (wh := wh) hz t.1 0 (f + 1) i μ v hC (by rw [d1, db, Nat.zero_add]) (fun j h1 h2 => d4.2.1 j h1 h2) (by omega) (by omega) hv
    rw [e1]
    have hC1 := s1.1.ct hC hz
    have a1 := h.ke s1.1 (by omega) (by decide) (by decide) (by decide)
    have e66 : jI μ1 (B + 66) = jI μ (B + 66) := s1.1.iI (by omega) (by decide)
    have n0 : jI μ1 (B + 66) 0 = 0 := by rw [e66]; exact d4.1
    rw [fX3_closeLevels_b2, if_neg (show ¬ (10 : Int32) < nI (i + t.1) from nI_nlt (a := 10) (by omega) (by decide))]
    simp only [jck_true, jde_is, jlt_is, jcl_0, beq_self_eq_true, jT_sI, jT_sJ, jP_sI, jP_sJ, jJ_sI, jI_sJ, jZ_sI, jZ_sJ, cT19 hC1, cP19_4 hC1, cT66 hC1, k5, jin_nI (show 0 < 11 by omega) (by decide), nI_clamp (show 0 < 2 ^ 31 by omega), n0, if_true, cP19_3 hC1, cT21 hC1, (ca_g hC1 (show 0 < 11 by omega)).1, (ca_g hC1 (show 0 < 11 by omega)).2.1, cP19_7 hC1, c_and (ca_g hC1 (show 0 < 11 by omega)).2 (ca_v hC1), jT_s4, jI_s4]
    rw [if_pos (show nI 0 = 0 from rfl)]
    have s2 : cs B z CDA μ1 (s4 μ1 (B + (25 + 4 * 0)) (fun i => jJ μ1 (B + (25 + 4 * 0)) i &&& jJ μ1 (B + 68) i)) := cs.q4 (by decide)
    refine .ret ⟨⟨(s1.1.wk (by decide)).tr s2, by rw [jI_s4, e66], by rw [jZ_s4]; exact s1.2⟩, lvJoin t v, [], k, rfl, ?_, ?_, rfl, Nat.le_refl _⟩
    · exact a1.ke (z := z) (as := [25]) (cs.q4 (i := 25) (by decide)) (by omega) (by decide) (by decide) (by decide)
    · refine ⟨k5, by show 0 ≤ 10; omega, by rw [jI_s4, k6]; exact d3, by rw [jI_s4, n0], fun j h1 h2 => ?_, fun w i hi => ⟨?_, ?_⟩⟩
      · have h2 : j ≤ 0 := h2
        omega
      · rw [jJ_s4_ne (by omega), s1.1.iJ (by omega) (by decide)]; exact (d4.2.2 w i hi).1
      · rw [jJ_s4 hi, kv w i hi, s1.1.iJ (by omega) (by decide), (d4.2.2 w i hi).2]; rfl
  | cons b r ih =>
    intro t k fu i μ v hC h hD hv hi hf
    obtain ⟨d1, d2, d3, d41, d42⟩ := hD
    have db := dpt_bs t (b :: r)
    have dc := bs_cons b r
    obtain ⟨f, rfl⟩ : ∃ f, fu = (f + 1) + t.1 := ⟨fu - 1 - t.1, by omega⟩
    obtain ⟨μ1, e1, s1, k5, k6, kv⟩ := c_nots (z := z) (wh := wh) hz t.1 (bs (b :: r)) (f + 1) i μ v hC (by rw [d1, db, Nat.add_comm]) (fun j h1 h2 => d41.2.1 j h1 h2) (by omega) (by omega) hv
    rw [e1]
    have hC1 := s1.1.ct hC hz
    have a1 := h.ke s1.1 (by omega) (by decide) (by decide) (by decide)
    have e66 : jI μ1 (B + 66) = jI μ (B + 66) := s1.1.iI (by omega) (by decide)
    generalize hd : bs (b :: r) = d at *
    have d11 : d < 11 := by omega
    have n0 : jI μ1 (B + 66) d = 0 := by rw [e66]; exact d41.1
    rw [fX3_closeLevels_b2, if_neg (show ¬ (10 : Int32) < nI (i + t.1) from nI_nlt (a := 10) (by omega) (by decide))]
    simp only [jck_true, jde_is, jlt_is, jcl_0, beq_self_eq_true, jT_sI, jT_sJ, jP_sI, jP_sJ, jJ_sI, jI_sJ, jZ_sI, jZ_sJ, cT19 hC1, cP19_4 hC1, cT66 hC1, k5, jin_nI d11 (by decide), nI_clamp (show d < 2 ^ 31 by omega), n0, if_true, cP19_3 hC1, cT21 hC1, (ca_g hC1 d11).1, (ca_g hC1 d11).2.1, cP19_7 hC1, c_and (ca_g hC1 d11).2 (ca_v hC1), jT_s4, jI_s4, jP_s4]
    rw [if_neg (nI_ne0 (by omega) (by omega))]
    have s2 : cs B z [25 + 4 * d] μ1 (s4 μ1 (B + (25 + 4 * d)) (fun i => jJ μ1 (B + (25 + 4 * d)) i &&& jJ μ1 (B + 68) i)) := cs.q4 (by simp)
    have j2 : ∀ i, i < 4 → jJ (s4 μ1 (B + (25 + 4 * d)) (fun i => jJ μ1 (B + (25 + 4 * d)) i &&& jJ μ1 (B + 68) i)) (B + (25 + 4 * d)) i = jJ μ1 (B + (25 + 4 * d)) i &&& jJ μ1 (B + 68) i := fun i hi => jJ_s4 hi
    have jn2 : ∀ x, x ≠ B + (25 + 4 * d) → jJ (s4 μ1 (B + (25 + 4 * d)) (fun i => jJ μ1 (B + (25 + 4 * d)) i &&& jJ μ1 (B + 68) i)) x = jJ μ1 x := fun x hx => jJ_s4_ne hx
    have i2 : jI (s4 μ1 (B + (25 + 4 * d)) (fun i => jJ μ1 (B + (25 + 4 * d)) i &&& jJ μ1 (B + 68) i)) = jI μ1 := rfl
    have z2 : jZ (s4 μ1 (B + (25 + 4 * d)) (fun i => jJ μ1 (B + (25 + 4 * d)) i &&& jJ μ1 (B + 68) i)) = jZ μ1 := rfl
    have t2 : jT (s4 μ1 (B + (25 + 4 * d)) (fun i => jJ μ1 (B + (25 + 4 * d)) i &&& jJ μ1 (B + 68) i)) = jT μ1 := rfl
    have p2 : jP (s4 μ1 (B + (25 + 4 * d)) (fun i => jJ μ1 (B + (25 + 4 * d)) i &&& jJ μ1 (B + 68) i)) = jP μ1 := rfl
    simp only [← t2, ← p2]
    generalize s4 μ1 (B + (25 + 4 * d)) (fun i => jJ μ1 (B + (25 + 4 * d)) i &&& jJ μ1 (B + 68) i) = μ2 at s2 j2 jn2 i2 z2 t2 p2 ⊢
    have hC2 := s2.ct hC1 hz
    have a2 := a1.ke s2 (by omega) (by simp; omega) (by simp; omega) (by simp; omega)
    -- the level, joined
    have J2 : wh = true → ∀ i, i < 4 → jJ μ2 (B + (23 + 4 * d)) i = (lvJoin t v).2.1 i ∧ jJ μ2 (B + (25 + 4 * d)) i = (lvJoin t v).2.2 i := by
      intro w i hi
      refine ⟨?_, ?_⟩
      · rw [jn2 _ (by omega), s1.1.iJ (by omega) (by simp; omega)]; exact (d41.2.2 w i hi).1
      · rw [j2 i hi, kv w i hi, s1.1.iJ (by omega) (by simp; omega), (d41.2.2 w i hi).2]; rfl
    have low : lvs wh B μ2 b r := lvs.lo r b d42 (fun j hj => by rw [i2, e66]) (fun e he => ⟨by rw [jn2 _ (by omega), s1.1.iJ (by omega) (by simp; omega)], by rw [jn2 _ (by omega), s1.1.iJ (by omega) (by simp; omega)]⟩)
    have c12 : cc B z μ μ2 := ⟨(s1.1.wk (by decide)).tr (s2.wk (fun i hi => by simp at hi; rw [hi]; exact cda_g d d11)), by rw [i2, e66], by rw [z2]; exact s1.2⟩
    simp only [jck_true, jde_is, jlt_is, jcl_0, beq_self_eq_true, jT_sI, jT_sJ, jP_sI, jP_sJ, jJ_sI, jI_sJ, jZ_sI, jZ_sJ, cP19_0 hC2, cT15 hC2, c_token hC2 a2, lg_cmp_0]
    by_cases q : Cd l k = -42
    · rw [if_pos q]
      have k5' : jI μ2 (B + 19) 5 = nI d := by rw [i2]; exact k5
      simp only [jck_true, jde_is, jlt_is, jcl_0, beq_self_eq_true, jT_sI, jT_sJ, jP_sI, jP_sJ, jJ_sI, jI_sJ, jZ_sI, jZ_sJ, cT19 hC2, cP19_2 hC2, cT20 hC2, k5', jin_nI d11 (by decide), nI_clamp (show d < 2 ^ 31 by omega), cP19_3 hC2, cT21 hC2, (ca_d hC2 d11).1, (ca_d hC2 d11).2.1, (ca_g hC2 d11).1, c_or (ca_d hC2 d11).2 (ca_g hC2 d11).2, jT_s4, jI_s4, jP_s4, cP19_7 hC2, cT67 hC2]
      have s3 : cs B z [23 + 4 * d] μ2 (s4 μ2 (B + (23 + 4 * d)) (fun i => jJ μ2 (B + (23 + 4 * d)) i ||| jJ μ2 (B + (25 + 4 * d)) i)) := cs.q4 (by simp)
      have hC3 := s3.ct hC2 hz
      have a3 := a2.ke s3 (by omega) (by simp; omega) (by simp; omega) (by simp; omega)
      have e3 := c_copy (ca_v hC3) (ca_d hC3 d11).2
      rw [e3, jcl_0]
      simp only [jck_true, jde_is, jlt_is, jcl_0, beq_self_eq_true, jT_sI, jT_sJ, jP_sI, jP_sJ, jJ_sI, jI_sJ, jZ_sI, jZ_sJ, cT19 hC2, jT_s4, jP_s4, jI_s4, k5', cP19_0 hC2, cT15 hC2]
      obtain ⟨d', rfl⟩ : ∃ d', d = d' + 1 := ⟨d - 1, by omega⟩
      rw [nI_pred]
      have s4' : cs B z [19, 68] (s4 μ2 (B + (23 + 4 * (d' + 1))) (fun i => jJ μ2 (B + (23 + 4 * (d' + 1))) i ||| jJ μ2 (B + (25 + 4 * (d' + 1))) i)) (jsI (s4 (s4 μ2 (B + (23 + 4 * (d' + 1))) (fun i => jJ μ2 (B + (23 + 4 * (d' + 1))) i ||| jJ μ2 (B + (25 + 4 * (d' + 1))) i)) (B + 68) (fun i => jJ (s4 μ2 (B + (23 + 4 * (d' + 1))) (fun i => jJ μ2 (B + (23 + 4 * (d' + 1))) i ||| jJ μ2 (B + (25 + 4 * (d' + 1))) i)) (B + (23 + 4 * (d' + 1))) i)) (B + 19) 5 (nI d')) := (cs.q4 (by decide)).tr (cs.sI (by decide))
      have a4 := a3.ke s4' (by omega) (by decide) (by decide) (by decide)
      have f5 : jI (jsI (s4 (s4 μ2 (B + (23 + 4 * (d' + 1))) (fun i => jJ μ2 (B + (23 + 4 * (d' + 1))) i ||| jJ μ2 (B + (25 + 4 * (d' + 1))) i)) (B + 68) (fun i => jJ (s4 μ2 (B + (23 + 4 * (d' + 1))) (fun i => jJ μ2 (B + (23 + 4 * (d' + 1))) i ||| jJ μ2 (B + (25 + 4 * (d' + 1))) i)) (B + (23 + 4 * (d' + 1))) i)) (B + 19) 5 (nI d')) (B + 19) 5 = nI d' := by rw [jI_sI, if_pos ⟨rfl, rfl⟩]
      have f6 : jI (jsI (s4 (s4 μ2 (B + (23 + 4 * (d' + 1))) (fun i => jJ μ2 (B + (23 + 4 * (d' + 1))) i ||| jJ μ2 (B + (25 + 4 * (d' + 1))) i)) (B + 68) (fun i => jJ (s4 μ2 (B + (23 + 4 * (d' + 1))) (fun i => jJ μ2 (B + (23 + 4 * (d' + 1))) i ||| jJ μ2 (B + (25 + 4 * (d' + 1))) i)) (B + (23 + 4 * (d' + 1))) i)) (B + 19) 5 (nI d')) (B + 19) 6 = nI ops := by rw [jI_sI, if_neg (by omega), jI_s4, jI_s4, i2, k6]; exact d3
      have fv : ∀ i, i < 4 → jJ (jsI (s4 (s4 μ2 (B + (23 + 4 * (d' + 1))) (fun i => jJ μ2 (B + (23 + 4 * (d' + 1))) i ||| jJ μ2 (B + (25 + 4 * (d' + 1))) i)) (B + 68) (fun i => jJ (s4 μ2 (B + (23 + 4 * (d' + 1))) (fun i => jJ μ2 (B + (23 + 4 * (d' + 1))) i ||| jJ μ2 (B + (25 + 4 * (d' + 1))) i)) (B + (23 + 4 * (d' + 1))) i)) (B + 19) 5 (nI d')) (B + 68) i = jJ μ2 (B + (23 + 4 * (d' + 1))) i ||| jJ μ2 (B + (25 + 4 * (d' + 1))) i := fun i hi => by rw [jJ_sI, jJ_s4 hi, jJ_s4 hi]
      have fJ : ∀ x, x ≠ B + (23 + 4 * (d' + 1)) → x ≠ B + 68 → jJ (jsI (s4 (s4 μ2 (B + (23 + 4 * (d' + 1))) (fun i => jJ μ2 (B + (23 + 4 * (d' + 1))) i ||| jJ μ2 (B + (25 + 4 * (d' + 1))) i)) (B + 68) (fun i => jJ (s4 μ2 (B + (23 + 4 * (d' + 1))) (fun i => jJ μ2 (B + (23 + 4 * (d' + 1))) i ||| jJ μ2 (B + (25 + 4 * (d' + 1))) i)) (B + (23 + 4 * (d' + 1))) i)) (B + 19) 5 (nI d')) x = jJ μ2 x := fun x h1 h2 => by rw [jJ_sI, jJ_s4_ne h2, jJ_s4_ne h1]
      have f66 : jI (jsI (s4 (s4 μ2 (B + (23 + 4 * (d' + 1))) (fun i => jJ μ2 (B + (23 + 4 * (d' + 1))) i ||| jJ μ2 (B + (25 + 4 * (d' + 1))) i)) (B + 68) (fun i => jJ (s4 μ2 (B + (23 + 4 * (d' + 1))) (fun i => jJ μ2 (B + (23 + 4 * (d' + 1))) i ||| jJ μ2 (B + (25 + 4 * (d' + 1))) i)) (B + (23 + 4 * (d' + 1))) i)) (B + 19) 5 (nI d')) (B + 66) = jI μ2 (B + 66) := by rw [jI_sI_ne (by omega)]; rfl
      have fZ : jZ (jsI (s4 (s4 μ2 (B + (23 + 4 * (d' + 1))) (fun i => jJ μ2 (B + (23 + 4 * (d' + 1))) i ||| jJ μ2 (B + (25 + 4 * (d' + 1))) i)) (B + 68) (fun i => jJ (s4 μ2 (B + (23 + 4 * (d' + 1))) (fun i => jJ μ2 (B + (23 + 4 * (d' + 1))) i ||| jJ μ2 (B + (25 + 4 * (d' + 1))) i)) (B + (23 + 4 * (d' + 1))) i)) (B + 19) 5 (nI d')) = jZ μ2 := rfl
      have s34 : cs B z CDA μ2 _ := (s3.wk (fun i hi => by simp at hi; rw [hi]; exact cda_d _ d11)).tr (s4'.wk (by decide))
      generalize jsI (s4 (s4 μ2 (B + (23 + 4 * (d' + 1))) (fun i => jJ μ2 (B + (23 + 4 * (d' + 1))) i ||| jJ μ2 (B + (25 + 4 * (d' + 1))) i)) (B + 68) (fun i => jJ (s4 μ2 (B + (23 + 4 * (d' + 1))) (fun i => jJ μ2 (B + (23 + 4 * (d' + 1))) i ||| jJ μ2 (B + (25 + 4 * (d' + 1))) i)) (B + (23 + 4 * (d' + 1))) i)) (B + 19) 5 (nI d') = μ4 at s34 a4 f5 f6 fv fJ f66 fZ ⊢
      have hC4 := s34.ct hC2 hz
      obtain ⟨u, μ5, e5, s5, a5⟩ := c_step (z := z) hC4 a4 (by rw [q]; decide) (by omega)
      rw [e5, jcl_0, fX3_closeLevels_b132, nI_1]
      have hC5 := s5.1.ct hC4 hz
      have c25 : cc B z μ2 μ5 := ⟨s34.tr (s5.1.wk (by decide)), by rw [s5.1.iI (by omega) (by decide), f66], by rw [s5.2, fZ]⟩
      have D5 : cD B μ5 wh b r ops := by
        refine ⟨by rw [s5.1.iI (by omega) (by decide), f5]; congr 1; omega, by omega, by rw [s5.1.iI (by omega) (by decide), f6], lvs.lo r b low (fun j hj => by rw [s5.1.iI (by omega) (by decide), f66]) (fun e he => ⟨?_, ?_⟩)⟩
        · rw [s5.1.iJ (by omega) (by simp; omega), fJ _ (by omega) (by omega)]
        · rw [s5.1.iJ (by omega) (by simp; omega), fJ _ (by omega) (by omega)]
      have es : ov (Cd l) k (sClo (Cd l) (lvJoin t v) (b :: r) k) = ov (Cd l) (k + 1) (sClo (Cd l) (lvJoin b (lvVal (lvJoin t v))) r (k + 1)) := by
        rw [ov_ne (by rw [q]; decide), sClo, if_pos q, eb_tk]
      rw [es]
      refine (ih b (k + 1) f (i + t.1 + 1) μ5 (lvVal (lvJoin t v)) hC5 a5 D5 (fun w i hi => ?_) (by omega) (by omega)).mono ?_
      · rw [s5.1.iJ (by omega) (by decide), fv i hi, (J2 w i hi).1, (J2 w i hi).2]; rfl
      · rintro x ν ⟨c6, t', r', k', g1, g2, g3, g4, g5⟩
        exact ⟨(c12.tr c25).tr c6, t', r', k', g1, g2, g3, g4, by omega⟩
    · rw [if_neg q]
      have es : sClo (Cd l) (lvJoin t v) (b :: r) k = .ok (lvJoin t v, b :: r, k) := by rw [sClo, if_neg q]
      rw [es]
      refine .ret ⟨c12, lvJoin t v, b :: r, k, rfl, a2, ⟨?_, ?_, by rw [i2, k6]; exact d3, ?_, low⟩, rfl, Nat.le_refl _⟩
      · rw [i2, k5]; congr 1; show d = 0 + bs (b :: r); omega
      · show 0 + bs (b :: r) ≤ 10; omega
      · rw [hd]
        refine ⟨by rw [i2]; exact n0, fun j h1 h2 => ?_, J2⟩
        have h2 : j ≤ 0 := h2
        omega
