/-! the class: changed -/
theorem ws_l {B : Nat} {μ0 μ : JM} {s : SS} (h : cSt B μ0 s) (L : ∀ x, x < jZ μ0 → sameC μ0 μ x) (hz : jZ μ0 ≤ jZ μ) : CT B μ ∧ ∀ i, i < 4 → jJ μ (B + 72) i = sW s i := by
  have hB := h.1.2.2
  have k : cs B (jZ μ0) [] μ0 μ := same_cs L rfl hz
  exact ⟨k.ct h.1 hB, fun i hi => by rw [k.iJ (by omega) (by decide)]; exact h.2.2.2.2.2.2.1 i hi⟩
theorem c_wl {B a b : Nat} {μ0 μ : JM} {s : SS} {p' : Nat → Bool} (h : cSt B μ0 s) (hw : gW s) (L : ∀ x, x < jZ μ0 → sameC μ0 μ x) (hz : jZ μ0 ≤ jZ μ) (hA : CAS μ a b) (hb : jZ μ0 ≤ b) (hp : ∀ c, c < 256 → hasC (jJ μ b) c = p' c) : ∃ ν, fX1_and a (jP μ B 10) μ = some ((), ν, 0, 0) ∧ lo (jZ μ0) μ ν ∧ CAS ν a b ∧ fX1_least a ν = some (lst (fun c => hasC (sW s) c && p' c) (nCs s) 0, ν, 0, 0) := by
  obtain ⟨hC, e72⟩ := ws_l h L hz
  have hB := h.1.2.2
  have hA2 : CAS (s4 μ b (fun i => jJ μ b i &&& jJ μ (B + 72) i)) a b := hA
  refine ⟨_, by rw [cP0_10 hC, c_and hA (ca_w hC)], lo.s4 hb, hA2, ?_⟩
  rw [c_least hA2 (fun i _ => rfl)]
  have := lst_w h hw (p := hasC (fun i => jJ (s4 μ b (fun i => jJ μ b i &&& jJ μ (B + 72) i)) b i)) (p' := p') (fun c hc => by
    rw [show (fun i => jJ (s4 μ b (fun i => jJ μ b i &&& jJ μ (B + 72) i)) b i) = jJ (s4 μ b (fun i => jJ μ b i &&& jJ μ (B + 72) i)) b from rfl, ha_s4 hc, ← hp c hc]
    unfold hasC
    rw [lb_and, e72 _ (by omega)])
  exact congrArg (fun r => some (r, _, 0, 0)) this
theorem lst_N {p : Nat → Bool} : ∀ (d c : Nat), lst p d c = match lstN p d c with | none => -1 | some k => nI k
  | 0, _ => rfl
  | d + 1, c => by
    rw [lst, lstN]
    by_cases q : p c = true
    · rw [if_pos q, if_pos q]
    · rw [if_neg q, if_neg q, lst_N d (c + 1)]
theorem c_comp {B z v q w qw a b i : Nat} {cls cls2 : List Cl} {μ : JM} (cl : cL (B + 121) z true 24 μ v q cls) (cl2 : cL (B + 121) z true 24 μ w qw cls2) (hA : CAS μ a b) (hb : z ≤ b) (hi : i < cls.length) : ∃ ν, fX8_compareClause v (nI i) (some w) (some a) μ = some ((), ν, 0, 0) ∧ lo z μ ν ∧ CAS ν a b ∧ ∀ c, c < 256 → hasC (jJ ν b) c = (!isDf (cls.getD i cl0) && (hasC (Cl.cas (cls.getD i cl0)) c != match lfnd cls2 (cls.getD i cl0).2.1 false with
  | none => false
  | some j => hasC (Cl.cas (cls2.getD j cl0)) c)) := by
  have h24 := cl.2.2.2.2.1
  unfold fX8_compareClause
  simp only [jck_true, jde_is, jlt_is, jcl_0, beq_self_eq_true, jT_sI, jT_sJ, jP_sI, jP_sJ, jJ_sI, jI_sJ, jZ_sI, jZ_sJ, hA.1, c_clear hA]
  have l1 : lo z μ (s4 μ b (fun _ => 0)) := lo.s4 hb
  have cl1 := l1.cl cl
  obtain ⟨e, e1, E⟩ := cl1.2.2.2.2.2.2.2 i hi
  obtain ⟨qq, bb, tt, e2, e3, e4, -, a5, a6, a7, a8, a9, -, -, -, a13⟩ := id E
  have hr : inR (nI i) cls.length = some i := by unfold inR; rw [nI_clamp (by omega), if_pos ⟨nI_pos' (by omega), hi⟩]
  simp only [jck_true, jde_is, jlt_is, jcl_0, beq_self_eq_true, jT_sI, jT_sJ, jP_sI, jP_sJ, jJ_sI, jI_sJ, jZ_sI, jZ_sJ, cl1.2.2.1, c_lat cl1 (by decide), hr, e1]
  rw [if_neg (by intro z; cases z)]
  simp only [jck_true, jde_is, jlt_is, jcl_0, beq_self_eq_true, jT_sI, jT_sJ, jP_sI, jP_sJ, jJ_sI, jI_sJ, jZ_sI, jZ_sJ, a5, fX2_isDefine, a6]
  by_cases d : (cls.getD i cl0).1 = 0
  · rw [if_pos d, jcl_0, if_neg (by decide)]
    refine ⟨_, rfl, l1, hA, fun c hc => ?_⟩
    rw [ha_s4 hc, isDf_t.mpr d, Bool.not_true, Bool.false_and]
    unfold hasC lb; simp
  · rw [if_neg d, jcl_0, if_pos rfl]
    have hA1 : CAS (s4 μ b (fun _ => 0)) a b := hA
    have nd : isDf (cls.getD i cl0) = false := by
      cases hq : isDf (cls.getD i cl0)
      · rfl
      · exact absurd (isDf_t.mp hq) d
    simp only [jck_true, jde_is, jlt_is, jcl_0, beq_self_eq_true, jT_sI, jT_sJ, jP_sI, jP_sJ, jJ_sI, jI_sJ, jZ_sI, jZ_sJ, a5, a8, hA1.1, c_copy hA1 a9]
    have l2 : lo z (s4 μ b (fun _ => 0)) (s4 (s4 μ b (fun _ => 0)) b (fun i => jJ (s4 μ b (fun _ => 0)) bb i)) := lo.s4 hb
    have cl3 := l2.cl (l1.cl cl2)
    have hA2 : CAS (s4 (s4 μ b (fun _ => 0)) b (fun i => jJ (s4 μ b (fun _ => 0)) bb i)) a b := hA
    have v2 : ∀ c, c < 256 → hasC (jJ (s4 (s4 μ b (fun _ => 0)) b (fun i => jJ (s4 μ b (fun _ => 0)) bb i)) b) c = hasC (Cl.cas (cls.getD i cl0)) c := fun c hc => by
      rw [ha_s4 hc]; exact hasC_cg hc (a13 rfl).2.2.2.2.2
    have t5 : (jT (s4 (s4 μ b (fun _ => 0)) b (fun i => jJ (s4 μ b (fun _ => 0)) bb i)) e).1 = 3 := a5
    have j1 : jJ (s4 (s4 μ b (fun _ => 0)) b (fun i => jJ (s4 μ b (fun _ => 0)) bb i)) e 1 = (cls.getD i cl0).2.1 := by rw [jJ_s4_ne (by omega)]; exact a7
    generalize s4 (s4 μ b (fun _ => 0)) b (fun i => jJ (s4 μ b (fun _ => 0)) bb i) = μ2 at l2 cl3 hA2 v2 t5 j1 ⊢
    have l2 := l1.tr l2
    simp only [jck_true, jde_is, jlt_is, jcl_0, beq_self_eq_true, jT_sI, jT_sJ, jP_sI, jP_sJ, jJ_sI, jI_sJ, jZ_sI, jZ_sJ, t5, j1, cl3.2.2.1, c_lfind false 0 rfl cl3 (by decide), c_lfa cl3 (by decide)]
    cases hf : lfnd cls2 (cls.getD i cl0).2.1 false with
    | none =>
      dsimp only
      rw [if_pos rfl]
      refine ⟨_, rfl, l2, hA2, fun c hc => ?_⟩
      rw [v2 c hc, nd, Bool.not_false, Bool.true_and, Bool.bne_false]
    | some j =>
      have hj := lfnd_lt hf
      obtain ⟨e', e1', E'⟩ := cl3.2.2.2.2.2.2.2 j hj
      obtain ⟨qq', bb', tt', -, -, b4, -, b5, -, -, b8, b9, -, -, -, b13⟩ := id E'
      dsimp only
      rw [if_neg (by rw [e1']; intro z; cases z)]
      simp only [jck_true, jde_is, jlt_is, jcl_0, beq_self_eq_true, jT_sI, jT_sJ, jP_sI, jP_sJ, jJ_sI, jI_sJ, jZ_sI, jZ_sJ, e1', b5, b8, hA2.1, c_xor hA2 b9]
      refine ⟨_, rfl, l2.tr (lo.s4 hb), hA2, fun c hc => ?_⟩
      rw [ha_s4 hc, nd, Bool.not_false, Bool.true_and, ← v2 c hc]
      have e9 : hasC (Cl.cas (cls2.getD j cl0)) c = lb (jJ μ2 bb' (c / 64)) (c % 64) := by unfold hasC; rw [(b13 rfl).2.2.2.2.2 _ (show c / 64 < 4 by omega)]
      rw [e9]
      unfold hasC
      rw [lb_xor]
theorem nI_m1 {n : Nat} (h : n < 2 ^ 31) : ¬ nI n = -1 := by
  intro e
  have := congrArg Int32.toInt e
  rw [nI_toInt h] at this
  have e2 : (-1 : Int32).toInt = -1 := by decide
  omega
theorem chg_l {B z v q w qw a b t2 : Nat} {cls : List Cl} {k x4 : Int32} {μ0 : JM} {s : SS} (h : cSt B μ0 s) (hw : gW s) (hz : z = jZ μ0) (hb : z ≤ b) : ∀ (fu i n : Nat) (μ : JM), (∀ x, x < z → sameC μ0 μ x) → z ≤ jZ μ → cL (B + 121) z true 24 μ v q cls → cL (B + 121) z true 24 μ w qw (txA s t2) → CAS μ a b → i ≤ cls.length → cls.length - i < fu → ∃ ν, fX10_changed_b56 fu B k x4 (some v) (some w) (some a) (nI n) (nI i) μ = some (chg s t2 k x4 (cls.drop i) i n, ν, 0, 0) ∧ lo z μ ν := by
  intro fu
  induction fu with
  | zero => intro i n μ _ _ _ _ _ _ q; omega
  | succ fu ih =>
    intro i n μ L hz2 cl cl2 hA hi hf
    have h24 := cl.2.2.2.2.1
    have hC := (ws_l h (by rw [← hz]; exact L) (by omega)).1
    rw [fX10_changed_b56]
    simp only [jck_true, jde_is, jlt_is, jcl_0, beq_self_eq_true, jT_sI, jT_sJ, jP_sI, jP_sJ, jJ_sI, jI_sJ, jZ_sI, jZ_sJ, cl.2.2.1, cl.2.2.2.1]
    by_cases c : i = cls.length
    · rw [if_pos (nI_le (by omega) (by omega)), c, List.drop_length]
      exact ⟨μ, rfl, lo.rf⟩
    · have hi2 : i < cls.length := by omega
      rw [if_neg (nI_ge hi2 (by omega)), drop_getD (d := cl0) hi2, chg]
      obtain ⟨μ1, e1, l1, A1, p1⟩ := c_comp cl cl2 hA hb hi2
      have L1 : ∀ x, x < jZ μ0 → sameC μ0 μ1 x := fun x hx => (L x (by omega)).tr (l1.1 x (by omega))
      have z1 : jZ μ0 ≤ jZ μ1 := by rw [l1.2]; omega
      have hC1 := (ws_l h L1 z1).1
      obtain ⟨μ2, e2, l2, A2, e3⟩ := c_wl h hw L1 z1 A1 (by omega) p1
      rw [← hz] at l2
      rw [e1, jcl_0]
      simp only [jck_true, jde_is, jlt_is, jcl_0, beq_self_eq_true, jT_sI, jT_sJ, jP_sI, jP_sJ, jJ_sI, jI_sJ, jZ_sI, jZ_sJ, cT0 hC1, A1.1, e2, A2.1, e3]
      have l3 := l1.tr l2
      have nx : ∀ n2, ∃ ν, fX10_changed_b124 (fX10_changed_b56 fu) B k x4 (some v) (some w) (some a) (nI n2) (nI i) μ2 = some (chg s t2 k x4 (cls.drop (i + 1)) (i + 1) n2, ν, 0, 0) ∧ lo z μ ν := by
        intro n2
        rw [fX10_changed_b124, nI_1]
        obtain ⟨ν, g1, g2⟩ := ih (i + 1) n2 μ2 (fun x hx => (L x hx).tr (l3.1 x hx)) (by rw [l3.2]; exact hz2) (l3.cl cl) (l3.cl cl2) A2 (by omega) (by omega)
        exact ⟨ν, g1, l3.tr g2⟩
      rw [lst_N]
      cases hd : isDf (cls.getD i cl0) with
      | true =>
        have : lstN (fun c => hasC (sW s) c && (!true && (hasC (Cl.cas (cls.getD i cl0)) c != match lfnd (txA s t2) (cls.getD i cl0).2.1 false with | none => false | some j => hasC (Cl.cas ((txA s t2).getD j cl0)) c))) (nCs s) 0 = none := by
          have g : ∀ d c, lstN (fun c => hasC (sW s) c && (!true && (hasC (Cl.cas (cls.getD i cl0)) c != match lfnd (txA s t2) (cls.getD i cl0).2.1 false with | none => false | some j => hasC (Cl.cas ((txA s t2).getD j cl0)) c))) d c = none := by
            intro d
            induction d with
            | zero => intro c; rfl
            | succ d ih => intro c; rw [lstN, if_neg (by simp), ih]
          exact g _ _
        rw [this, if_pos rfl, if_pos rfl]
        exact nx n
      | false =>
        rw [if_neg (show ¬ false = true by decide)]
        have e4 : (fun c => hasC (sW s) c && (!false && (hasC (Cl.cas (cls.getD i cl0)) c != match lfnd (txA s t2) (cls.getD i cl0).2.1 false with | none => false | some j => hasC (Cl.cas ((txA s t2).getD j cl0)) c))) = chP s t2 (cls.getD i cl0) := by
          funext c
          unfold chP
          rw [Bool.not_false, Bool.true_and]
          rfl
        rw [e4]
        cases hN : lstN (chP s t2 (cls.getD i cl0)) (nCs s) 0 with
        | none =>
          dsimp only
          rw [if_pos rfl]
          exact nx n
        | some c0 =>
          have hc0 := lstN_lt _ _ _ hN
          have := nCs_256 h
          dsimp only
          rw [if_neg (show ¬ nI c0 = -1 from nI_m1 (by omega))]
          by_cases q1 : nI n = k
          · rw [if_pos q1, if_pos q1]
            by_cases q2 : x4 = 0
            · rw [if_pos q2, if_pos q2]; exact ⟨μ2, rfl, l3⟩
            · rw [if_neg q2, if_neg q2]; exact ⟨μ2, rfl, l3⟩
          · rw [if_neg q1, if_neg q1, nI_1]; exact nx (n + 1)
theorem chg_neg {s : SS} {t2 : Nat} {k w : Int32} (hk : k < 0) : ∀ (cls : List Cl) (i n : Nat), n + cls.length < 2 ^ 31 → chg s t2 k w cls i n = -1
  | [], _, _, _ => rfl
  | x :: r, i, n, hn => by
    rw [List.length_cons] at hn
    rw [chg]
    have e : ¬ nI n = k := fun e => nI_pos (show n < 2 ^ 31 by omega) (by rw [e]; exact hk)
    by_cases d : isDf x = true
    · rw [if_pos d, chg_neg hk r _ _ (by omega)]
    · rw [if_neg d]
      cases lstN (chP s t2 x) (nCs s) 0 with
      | none => exact chg_neg hk r _ _ (by omega)
      | some c => dsimp only; rw [if_neg e]; exact chg_neg hk r _ _ (by omega)
theorem c_changed {B : Nat} {μ : JM} {s : SS} (v w k x4 : Int32) (h : cSt B μ s) (hw : gW s) : Rq (fX10_changed B v w k x4 μ) (cQ B 2 5 μ (spChanged v w k x4 s)) := by
  have hC := h.1
  have hB := hC.2.2
  have y1 : (spChanged v w k x4 s).1 = (match vAt s v with
  | none => -1
  | some t => match vAt s w with
    | none => -1
    | some t2 => match inR x4 2 with
      | none => -1
      | some _ => chg s t2 k x4 (txA s t) 0 0) := rfl
  have y2 : (spChanged v w k x4 s).2 = s := rfl
  obtain ⟨va, h1, h2, h3⟩ := c_vAt h
  have ok : ∀ r, r = (spChanged v w k x4 s).1 → Rq (some (r, μ, 0, 0)) (cQ B 2 5 μ (spChanged v w k x4 s)) := fun r hr => .ret (cQ.lo h rfl hr (fun _ _ => sameC.rf) (Nat.le_refl _) (by decide) (by decide))
  generalize spChanged v w k x4 s = y at ok y1 y2 ⊢
  unfold fX10_changed
  rw [jck_of (by rw [cT0 hC]; rfl), h3 v, jcl_0, jck_of (by rw [cT0 hC]; rfl), h3 w, jcl_0]
  cases hv : vAt s v with
  | none => rw [hv] at y1; exact ok _ y1.symm
  | some t =>
    rw [hv] at y1
    obtain ⟨q, cl, -⟩ := h1 t (h2 v t hv)
    simp only [Option.map_some]
    rw [if_neg (by intro e; cases e)]
    dsimp only at y1
    cases hv2 : vAt s w with
    | none => rw [hv2] at y1; exact ok _ y1.symm
    | some t2 =>
      rw [hv2] at y1
      obtain ⟨q2, cl2, -⟩ := h1 t2 (h2 w t2 hv2)
      simp only [Option.map_some]
      rw [if_neg (by intro e; cases e)]
      dsimp only at y1
      by_cases k0 : k < 0
      · rw [if_pos k0]
        refine ok _ ?_
        rw [y1, chg_neg k0 _ _ _ (by have := cl.2.2.2.2.1; omega)]
        cases inR x4 2 <;> rfl
      · rw [if_neg k0]
        by_cases x0 : x4 < 0
        · rw [if_pos x0]
          have : inR x4 2 = none := by unfold inR; rw [if_neg (fun z => nn_of z.1 x0)]
          rw [this] at y1; exact ok _ y1.symm
        · rw [if_neg x0]
          obtain ⟨j, hj, rfl⟩ := nI_of x0
          by_cases x1 : j < 2
          · rw [if_pos (show nI j ≤ (1 : Int32) from nI_le (b := 1) (by omega) (by decide))]
            have : inR (nI j) 2 = some j := by unfold inR; rw [nI_clamp hj, if_pos ⟨nI_pos' hj, x1⟩]
            rw [this] at y1
            dsimp only at y1
            refine Rq.nc fun ν l0 z0 hA0 n0 => ?_
            obtain ⟨ρ, g1, g2⟩ := chg_l (k := k) (x4 := nI j) (t2 := t2) h hw rfl (show jZ μ ≤ jZ μ + 1 by omega) jfuel 0 0 ν l0 (by omega) (cl.kp fun x _ h2 => l0 x h2) (cl2.kp fun x _ h2 => l0 x h2) hA0 (Nat.zero_le _) (jfuel_gt (by have := cl.2.2.2.2.1; omega))
            rw [List.drop_zero] at g1
            refine ⟨_, ρ, 0, 0, g1, cQ.lo h y2 y1.symm (fun x hx => (l0 x hx).tr (g2.1 x hx)) (by rw [g2.2]; omega) (by decide) (by decide)⟩
          · rw [if_neg (show ¬ nI j ≤ (1 : Int32) from nI_ge (a := 1) (by omega) hj)]
            have : inR (nI j) 2 = none := by unfold inR; rw [nI_clamp hj, if_neg (fun z => x1 z.2)]
            rw [this] at y1; exact ok _ y1.symm
