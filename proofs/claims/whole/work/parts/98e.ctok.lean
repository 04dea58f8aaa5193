/-! the class: tokens, step, fail, take; an overlong token is seen where it is asked for -/
/-- as cs, and nothing is made -/
def cn (B z : Nat) (as : List Nat) (μ ν : JM) : Prop := cs B z as μ ν ∧ jZ ν = jZ μ
theorem cn.rf {B z : Nat} {as : List Nat} {μ : JM} : cn B z as μ μ := ⟨cs.rf, rfl⟩
theorem cn.tr {B z : Nat} {as : List Nat} {μ ν ρ : JM} (h : cn B z as μ ν) (g : cn B z as ν ρ) : cn B z as μ ρ := ⟨h.1.tr g.1, g.2.trans h.2⟩
theorem cn.wk {B z : Nat} {as bs : List Nat} {μ ν : JM} (h : cn B z as μ ν) (hw : ∀ i ∈ as, i ∈ bs) : cn B z bs μ ν := ⟨h.1.wk hw, h.2⟩
def ov {α : Type} (C : Nat → Int64) (k : Nat) (x : Except Er α) : Except Er α := if C k = -2000 then .error (k, 1) else x
theorem eb_tk {α : Type} {C : Nat → Int64} {k : Nat} {g : Nat → Except Er α} : eb (tk C k) g = ov C (k + 1) (g (k + 1)) := by
  unfold tk ov
  by_cases q : C (k + 1) = -2000
  · rw [if_pos q, if_pos q]; rfl
  · rw [if_neg q, if_neg q]; rfl
theorem tk_ov {C : Nat → Int64} {k : Nat} : tk C k = ov C (k + 1) (.ok (k + 1)) := rfl
theorem eb_ov {α β : Type} {C : Nat → Int64} {k : Nat} {x : Except Er α} {g : α → Except Er β} : eb (ov C k x) g = ov C k (eb x g) := by
  unfold ov
  by_cases q : C k = -2000
  · rw [if_pos q, if_pos q]; rfl
  · rw [if_neg q, if_neg q]
theorem ov_ov {α : Type} {C : Nat → Int64} {k : Nat} {x : Except Er α} : ov C k (ov C k x) = ov C k x := by
  unfold ov
  by_cases q : C k = -2000
  · rw [if_pos q, if_pos q]
  · rw [if_neg q, if_neg q]
theorem ov_ne {α : Type} {C : Nat → Int64} {k : Nat} {x : Except Er α} (h : ¬ C k = -2000) : ov C k x = x := by unfold ov; rw [if_neg h]
theorem ov_yes {α : Type} {C : Nat → Int64} {k : Nat} {x : Except Er α} (h : C k = -2000) : ov C k x = .error (k, 1) := by unfold ov; rw [if_pos h]
/-- the kind of a fault at a token -/
def fk (C : Nat → Int64) (k d : Nat) : Nat := if C k = -2000 then 1 else d
theorem ov_er {α : Type} {C : Nat → Int64} {k d : Nat} : ov (α := α) C k (.error (k, d)) = .error (k, fk C k d) := by
  unfold ov fk
  by_cases q : C k = -2000
  · rw [if_pos q, if_pos q]
  · rw [if_neg q, if_neg q]
theorem ov_exC {α : Type} {C : Nat → Int64} {c : Int64} {k : Nat} {g : Nat → Except Er α} (hc : ¬ c = -2000) : ov C k (eb (exC C c k) g) = if C k = c then ov C (k + 1) (g (k + 1)) else .error (k, fk C k 0) := by
  unfold exC
  by_cases q : C k = c
  · rw [if_pos q, if_pos q, ov_ne (by rw [q]; exact hc), eb_tk]
  · rw [if_neg q, if_neg q, eb_err, ov_er]
theorem ov_nmC {α : Type} {C : Nat → Int64} {k : Nat} {g : Unit → Except Er α} : ov C k (eb (nmC C k) g) = if 0 < C k then g () else .error (k, fk C k (if C k ≤ -3000 then 2 else 0)) := by
  unfold nmC
  by_cases q : 0 < C k
  · rw [if_pos q, if_pos q, ov_ne (by intro e; rw [e] at q; exact absurd q (by decide)), eb_ok]
  · rw [if_neg q, if_neg q]
    by_cases t : C k ≤ -3000
    · rw [if_pos t, if_pos t, eb_err, ov_er]
    · rw [if_neg t, if_neg t, eb_err, ov_er]
theorem Cd_end {l : List Int32} {n : Nat} (h : pl l n = l.length) : Cd l n = 0 := by unfold Cd; rw [h, List.drop_length]; rfl
theorem cAt.lt {B n k : Nat} {μ : JM} {l : List Int32} (h : cAt B μ l n k) (hc : ¬ Cd l k = 0) : k < n := by
  have h1 := h.2.2.2
  have : k ≠ n := by intro e; rw [e] at hc; exact hc (Cd_end h.1.2.2.1)
  omega
theorem c_token {B n k : Nat} {μ : JM} {l : List Int32} (hC : CT B μ) (h : cAt B μ l n k) : fX7_token (B + 15) μ = some (Cd l k, μ, 0, 0) := by
  obtain ⟨⟨a1, a2, a3, a4, a5, a6, a7⟩, h4, h5, hk⟩ := h
  unfold fX7_token
  simp only [jck_true, jde_is, jlt_is, jcl_0, beq_self_eq_true, jT_sI, jT_sJ, jP_sI, jP_sJ, jJ_sI, jI_sJ, jZ_sI, jZ_sJ, cT15 hC, a1, h4]
  by_cases q : k = n
  · rw [if_pos (nI_le (by omega) (by omega)), q, Cd_end a3]
  · rw [if_neg (nI_ge (by omega) (by omega))]
    simp only [jck_true, jde_is, jlt_is, jcl_0, beq_self_eq_true, jT_sI, jT_sJ, jP_sI, jP_sJ, jJ_sI, jI_sJ, jZ_sI, jZ_sJ, cP15_1 hC, cT16 hC, jin_nI (show k < 900 by omega) (by decide), nI_clamp (show k < 2 ^ 31 by omega), (a4 k (by omega)).2]
theorem c_step {B n k z : Nat} {μ : JM} {l : List Int32} (hC : CT B μ) (h : cAt B μ l n k) (hc : ¬ Cd l k = 0) (hz : B + 18 ≤ z) : Res (fX7_step (B + 15) μ) (fun _ ν => cn B z [15] μ ν ∧ cAt B ν l n (k + 1)) := by
  have hk := h.lt hc
  have h18 := h
  obtain ⟨⟨a1, a2, a3, a4, a5, a6, a7⟩, h4, h5, -⟩ := h
  unfold fX7_step
  simp only [jck_true, jde_is, jlt_is, jcl_0, beq_self_eq_true, jT_sI, jT_sJ, jP_sI, jP_sJ, jJ_sI, jI_sJ, jZ_sI, jZ_sJ, cT15 hC, a1, h4]
  rw [if_neg (nI_ge hk (by omega)), nI_1]
  have s1 : cs B z [15] μ (jsI μ (B + 15) 4 (nI (k + 1))) := cs.sI (by decide)
  refine .ret ⟨⟨s1, rfl⟩, h18.1.ke s1 hz ?_ (by decide) (by decide), ?_, ?_, by omega⟩
  · rw [jI_sI, if_neg (by omega)]
  · rw [jI_sI, if_pos ⟨rfl, rfl⟩]
  · rw [jI_sI, if_neg (by omega)]; exact h5
theorem flt_is {j d : Nat} : (1 : Int32) + nI j * 8 + nI d = flt j d := by
  unfold flt
  rw [Int32.mul_comm, show (8 : Int32) = nI 8 from rfl, pk_mul, show (1 : Int32) = nI 1 from rfl, nI_add, nI_add]
theorem cflt_ne {j d : Nat} (hj : j ≤ 900) (hd : d ≤ 7) : ¬ flt j d = 0 := nI_ne0 (by omega) (by omega)
theorem c_fail {B n k z : Nat} {μ : JM} {l : List Int32} (d : Nat) (w : Int32) (hw : nI d = w) (hd : d ≤ 7) (hC : CT B μ) (h : cAt B μ l n k) : Res (fX7_fail (B + 15) w μ) (fun r ν => r = 0 ∧ cn B z [15] μ ν ∧ cF B ν l (k, fk (Cd l) k d)) := by
  obtain ⟨⟨a1, a2, a3, a4, a5, a6, a7⟩, h4, h5, hk⟩ := h
  subst hw
  have hp : pl l k ≤ 900 := by
    by_cases q : k = n
    · rw [q, a3]; exact a6
    · have := (a4 k (by omega)).1; omega
  have fin : ∀ (s0 : Int32) (d2 : Nat), d2 ≤ 7 → (s0 = 0 → d2 = d) → (¬ s0 = 0 → d2 = 1) → fk (Cd l) k d = d2 → Res (fX7_fail_b39 (B + 15) (nI d) s0 μ) (fun r ν => r = 0 ∧ cn B z [15] μ ν ∧ cF B ν l (k, fk (Cd l) k d)) := by
    intro s0 d2 hd2 e1 e2 e3
    rw [fX7_fail_b39]
    simp only [jck_true, jde_is, jlt_is, jcl_0, beq_self_eq_true, jT_sI, jT_sJ, jP_sI, jP_sJ, jJ_sI, jI_sJ, jZ_sI, jZ_sJ, cT15 hC, cP15_2 hC, cT17 hC, h4, jin_nI (show k < 901 by omega) (by decide), nI_clamp (show k < 2 ^ 31 by omega), a5 k hk]
    rw [e3]
    by_cases q : s0 = 0
    · rw [if_pos q, ← e1 q, flt_is]
      refine .ret ⟨rfl, ⟨cs.sI (by decide), rfl⟩, ?_, ?_⟩
      · rw [jI_sI, if_pos ⟨rfl, rfl⟩]
      · rw [jI_sI, if_pos ⟨rfl, rfl⟩]; exact cflt_ne hp (by omega)
    · rw [if_neg q, show (1 : Int32) + nI (pl l k) * 8 + 1 = flt (pl l k) 1 from flt_is (d := 1), ← e2 q]
      refine .ret ⟨rfl, ⟨cs.sI (by decide), rfl⟩, ?_, ?_⟩
      · rw [jI_sI, if_pos ⟨rfl, rfl⟩]
      · rw [jI_sI, if_pos ⟨rfl, rfl⟩]; exact cflt_ne hp (by omega)
  unfold fX7_fail
  simp only [jck_true, jde_is, jlt_is, jcl_0, beq_self_eq_true, jT_sI, jT_sJ, jP_sI, jP_sJ, jJ_sI, jI_sJ, jZ_sI, jZ_sJ, cT15 hC, h5, a1, h4, if_true]
  by_cases q : k = n
  · rw [if_pos (nI_le (by omega) (by omega)), fX7_fail_b38]
    refine fin 0 d hd (fun _ => rfl) (fun t => absurd rfl t) ?_
    unfold fk; rw [q, Cd_end a3, if_neg (by decide)]
  · rw [if_neg (nI_ge (by omega) (by omega))]
    simp only [jck_true, jde_is, jlt_is, jcl_0, beq_self_eq_true, jT_sI, jT_sJ, jP_sI, jP_sJ, jJ_sI, jI_sJ, jZ_sI, jZ_sJ, cP15_1 hC, cT16 hC, jin_nI (show k < 900 by omega) (by decide), nI_clamp (show k < 2 ^ 31 by omega), (a4 k (by omega)).2, lg_cmp_0]
    by_cases t : Cd l k = -2000
    · rw [if_pos t]
      exact fin 1 1 (by omega) (fun t => absurd t (by decide)) (fun _ => rfl) (by unfold fk; rw [if_pos t])
    · rw [if_neg t, fX7_fail_b38]
      exact fin 0 d hd (fun _ => rfl) (fun t => absurd rfl t) (by unfold fk; rw [if_neg t])
theorem c_take {B n k z : Nat} {μ : JM} {l : List Int32} (c : Int64) (h0 : ¬ c = 0) (hC : CT B μ) (h : cAt B μ l n k) (hz : B + 18 ≤ z) : Res (fX7_take (B + 15) c μ) (fun r ν => cn B z [15] μ ν ∧ ((Cd l k = c ∧ r = 1 ∧ cAt B ν l n (k + 1)) ∨ (¬ Cd l k = c ∧ r = 0 ∧ cF B ν l (k, fk (Cd l) k 0)))) := by
  unfold fX7_take
  rw [jck_of (by rw [cT15 hC]; rfl), c_token hC h, jcl_0]
  simp only [lg_cmp_0]
  by_cases q : Cd l k = c
  · rw [if_pos q, jck_of (by rw [cT15 hC]; rfl)]
    refine Res.cl (c_step hC h (by rw [q]; exact h0) hz) fun _ ν ⟨s1, t1⟩ => .ret ⟨s1, Or.inl ⟨q, rfl, t1⟩⟩
  · rw [if_neg q, jck_of (by rw [cT15 hC]; rfl)]
    refine Res.cl (c_fail (z := z) 0 0 rfl (by decide) hC h) fun r ν ⟨e1, s1, t1⟩ => ?_
    rw [e1]
    exact .ret ⟨s1, Or.inr ⟨q, rfl, t1⟩⟩
theorem c_takeEnd {B n k z : Nat} {μ : JM} {l : List Int32} (hC : CT B μ) (h : cAt B μ l n k) (hz : B + 18 ≤ z) : Res (fX7_take (B + 15) 0 μ) (fun r ν => cn B z [15] μ ν ∧ ((Cd l k = 0 ∧ r = 1 ∧ ν = μ) ∨ (¬ Cd l k = 0 ∧ r = 0 ∧ cF B ν l (k, fk (Cd l) k 0)))) := by
  unfold fX7_take
  rw [jck_of (by rw [cT15 hC]; rfl), c_token hC h, jcl_0]
  simp only [lg_cmp_0]
  by_cases q : Cd l k = 0
  · rw [if_pos q, jck_of (by rw [cT15 hC]; rfl)]
    have hkn : n ≤ k := by
      obtain ⟨⟨a1, a2, a3, a4, -⟩, -, -, hk⟩ := h
      by_cases t : k = n
      · omega
      · exfalso
        have hlt := (a4 k (by omega)).1
        have := tcode_cases (l.drop (pl l k))
        have q2 : tcode (l.drop (pl l k)) = 0 := q
        have hne : l.drop (pl l k) ≠ [] := by intro e; have := congrArg List.length e; rw [List.length_drop] at this; simp at this; omega
        have z0 : (0 : Int64).toInt = 0 := by decide
        rcases this with ⟨e, -⟩ | ⟨c, r, e1, e2, e3, i, e4, e5, e6, e7⟩ | ⟨c, r, e1, e2, e3, e4, e5, e6, e7, e8⟩ | ⟨c, r, e1, e2, e3, e4, v, e5, e6, e7, e8⟩ | ⟨c, r, e1, e2, e3, v, e4, e5, e6, e7⟩ | ⟨c, r, e1, e2, e3⟩
        · exact hne e
        · rw [q2, z0] at e7; omega
        · rw [q2, z0] at e6; omega
        · rw [q2, z0] at e8; omega
        · rw [q2, z0] at e7; omega
        · rw [q2] at e3; exact absurd e3 (by decide)
    have hk := h.2.2.2
    have e : fX7_step (B + 15) μ = some ((), μ, 0, 0) := by
      unfold fX7_step
      simp only [jck_true, jde_is, jlt_is, jcl_0, beq_self_eq_true, jT_sI, jT_sJ, jP_sI, jP_sJ, jJ_sI, jI_sJ, jZ_sI, jZ_sJ, cT15 hC, h.1.1, h.2.1]
      rw [if_pos (nI_le hkn (by have := h.1.2.1; omega))]
    rw [e, jcl_0]
    exact .ret ⟨cn.rf, Or.inl ⟨q, rfl, rfl⟩⟩
  · rw [if_neg q, jck_of (by rw [cT15 hC]; rfl)]
    refine Res.cl (c_fail (z := z) 0 0 rfl (by decide) hC h) fun r ν ⟨e1, s1, t1⟩ => ?_
    rw [e1]
    exact .ret ⟨s1, Or.inr ⟨q, rfl, t1⟩⟩
theorem cAt.ke {B z n k : Nat} {μ ν : JM} {l : List Int32} {as : List Nat} (h : cAt B μ l n k) (s : cs B z as μ ν) (hz : B + 18 ≤ z) (h0 : 15 ∉ as) (h1 : 16 ∉ as) (h2 : 17 ∉ as) : cAt B ν l n k := by
  have e : jI ν (B + 15) = jI μ (B + 15) := s.iI (by omega) h0
  exact ⟨h.1.ke s hz (by rw [e]) h1 h2, by rw [e]; exact h.2.1, by rw [e]; exact h.2.2.1, h.2.2.2⟩
theorem cF.ke {B z : Nat} {μ ν : JM} {l : List Int32} {e : Er} {as : List Nat} (h : cF B μ l e) (s : cs B z as μ ν) (hz : B + 18 ≤ z) (h0 : 15 ∉ as) : cF B ν l e := by
  have e : jI ν (B + 15) = jI μ (B + 15) := s.iI (by omega) h0
  unfold cF; rw [e]; exact h
