/-! over bits, of what is read -/
theorem lfnd_df {cls : List Cl} {c : Int64} {d : Bool} {i : Nat} (h : lfnd cls c d = some i) : i < cls.length ∧ isDf (cls.getD i cl0) = d ∧ (cls.getD i cl0).2.1 = c := by
  unfold lfnd at h
  obtain ⟨h1, h2, -⟩ := List.findIdx?_eq_some_iff_getElem.mp h
  have e : cls.getD i cl0 = cls[i] := by simp [List.getD, h1]
  simp only [Bool.and_eq_true, decide_eq_true_eq, beq_iff_eq] at h2
  rw [e]; exact ⟨h1, h2.2, h2.1⟩
theorem bt_1 {u b : Nat} (hu : u < 32) (hb : b < 32) (h : bt (jshl 1 (nI u)) b = true) : b = u := by
  unfold jshl at h
  rw [b_shl u hu 1 hb] at h
  simp only [Bool.and_eq_true, decide_eq_true_eq] at h
  have : ∀ i, i < 32 → bt 1 i = true → i = 0 := by decide +kernel
  have := this (b - u) (by omega) h.2
  omega
theorem sOver_b {C : Nat → Int64} {cls : List Cl} (hl : cls.length ≤ 24) : ∀ (n k : Nat) (o : Int32) (y : Int32 × Nat), sOver C true cls n k o = .ok y → ∀ b, b < 32 → bt y.1 b = true → bt o b = true ∨ (b < cls.length ∧ isDf (cls.getD b cl0) = false)
  | 0, k, o, y, h => by rw [sOver] at h; cases h
  | n + 1, k, o, y, h => by
    intro b hb hy
    rw [sOver] at h
    obtain ⟨k1, -, h⟩ := eb_inv h
    obtain ⟨_, -, h⟩ := eb_inv h
    rw [if_pos rfl] at h
    cases hx : lfnd cls (C k1) false with
    | none => rw [hx] at h; cases h
    | some u =>
      rw [hx] at h
      dsimp only at h
      obtain ⟨u1, u2, -⟩ := lfnd_df hx
      obtain ⟨k2, -, h⟩ := eb_inv h
      have key : bt (o ||| jshl 1 (nI u)) b = true → bt o b = true ∨ (b < cls.length ∧ isDf (cls.getD b cl0) = false) := by
        intro t
        rw [b_or, Bool.or_eq_true] at t
        rcases t with t | t
        · exact Or.inl t
        · have := bt_1 (by omega) hb t
          subst this
          exact Or.inr ⟨u1, u2⟩
      by_cases q : C k2 = -3012
      · rw [if_pos q] at h
        rcases sOver_b hl n k2 _ y h b hb hy with t | t
        · exact key t
        · exact Or.inr t
      · rw [if_neg q] at h
        injection h with h
        rw [← h] at hy
        exact key hy
theorem sClause_O {C : Nat → Int64} {F : List Int64} {cls : List Cl} {P A : List Int64} {k : Nat} {y : Cl × List Int64 × List Int64 × Nat} (h : sClause C F 0 cls P A k = .ok y) : cls.length < 24 ∧ (isDf y.1 = true → Cl.ovr y.1 = 0) ∧ ∀ b, b < 32 → bt (Cl.ovr y.1) b = true → isDf (cls.getD b cl0) = false := by
  unfold sClause at h
  by_cases q : C k = -3000
  · rw [if_pos q] at h
    unfold sDefine at h
    obtain ⟨n24, h⟩ := ite_inv h
    obtain ⟨k1, -, h⟩ := eb_inv h
    obtain ⟨_, -, h⟩ := eb_inv h
    obtain ⟨-, h⟩ := ite_inv h
    obtain ⟨-, h⟩ := ite_inv h
    obtain ⟨k2, -, h⟩ := eb_inv h
    obtain ⟨k3, -, h⟩ := eb_inv h
    obtain ⟨x, -, h⟩ := eb_inv h
    injection h with h
    rw [← h]
    exact ⟨by omega, fun _ => rfl, fun b _ hb => by have hb : bt 0 b = true := hb; rw [b_0] at hb; cases hb⟩
  · rw [if_neg q] at h
    unfold sLabel at h
    obtain ⟨_, -, h⟩ := eb_inv h
    obtain ⟨-, h⟩ := ite_inv h
    obtain ⟨-, h⟩ := ite_inv h
    obtain ⟨n24, h⟩ := ite_inv h
    obtain ⟨k1, -, h⟩ := eb_inv h
    unfold sDeed at h
    obtain ⟨k2, -, h⟩ := eb_inv h
    obtain ⟨nk, h⟩ := ite_inv h
    obtain ⟨k3, -, h⟩ := eb_inv h
    obtain ⟨p, -, h⟩ := eb_inv h
    obtain ⟨k4, -, h⟩ := eb_inv h
    obtain ⟨a, -, h⟩ := eb_inv h
    obtain ⟨t, -, h⟩ := eb_inv h
    obtain ⟨z, hz, h⟩ := eb_inv h
    injection h with h
    rw [← h]
    have hl : cls.length < 24 := by omega
    refine ⟨hl, fun d => ?_, fun b hb ho => ?_⟩
    · have d : decide (sKind (C k2) = 0) = true := d
      have d := of_decide_eq_true d
      unfold sKind at d
      split at d
      · exact absurd d (by decide)
      · split at d
        · exact absurd d (by decide)
        · split at d <;> exact absurd d (by decide)
    · have ho : bt z.1 b = true := ho
      unfold sTail at hz
      obtain ⟨y1, -, hz⟩ := eb_inv hz
      obtain ⟨z1, -, hz⟩ := eb_inv hz
      by_cases c : C z1.2 = -3011
      · rw [if_pos c] at hz
        obtain ⟨o, hov, hz⟩ := eb_inv hz
        injection hz with hz
        rw [← hz] at ho
        have ho : bt o.1 b = true := ho
        rcases sOver_b (by omega) 2000 _ 0 o hov b hb ho with w | w
        · rw [b_0] at w; cases w
        · exact w.2
      · rw [if_neg c] at hz
        injection hz with hz
        rw [← hz] at ho
        have ho : bt 0 b = true := ho
        rw [b_0] at ho; cases ho
theorem wfO.snoc {cls : List Cl} {c : Cl} (h : wfO cls) (hl : cls.length < 24) (h1 : isDf c = true → Cl.ovr c = 0) (h2 : ∀ b, b < 32 → bt (Cl.ovr c) b = true → isDf (cls.getD b cl0) = false) : wfO (cls ++ [c]) := by
  intro j hj
  have g : ∀ u, u < cls.length → (cls ++ [c]).getD u cl0 = cls.getD u cl0 := fun u hu => by simp [List.getD, List.getElem?_append_left hu]
  by_cases e : j = cls.length
  · have ec : (cls ++ [c]).getD j cl0 = c := by rw [e]; simp [List.getD]
    rw [ec]
    exact ⟨h1, fun u hu b => by rw [g u (by omega)]; exact h2 u (by omega) b⟩
  · have hj2 : j < cls.length := by simp at hj; omega
    rw [g j hj2]
    exact ⟨(h j hj2).1, fun u hu b => by rw [g u (by omega)]; exact (h j hj2).2 u hu b⟩
/-! the class: readVersion -/
theorem c_dadd {B z : Nat} {as : List Nat} {ser : Int32} {μ : JM} {cls : List Cl} {c : Cl} (h : dL z ser μ cls) (hl : cls.length < 24) (hc : cE (dA z cls.length) (dA z cls.length + 4) true μ (dA z cls.length) c) : Res (fX8_add z (some (dA z cls.length)) μ) (fun _ ν => cs B z as μ ν ∧ jZ ν = jZ μ ∧ dL z ser ν (cls ++ [c])) := by
  obtain ⟨a1, a2, a3, a4, a5, a6, a7⟩ := h
  have ka : (jT μ (dA z cls.length)).1 = 3 := by obtain ⟨_, _, _, -, -, -, -, e, -⟩ := hc; exact e
  unfold fX8_add
  rw [if_neg (by intro e; cases e)]
  simp only [jck_true, jde_is, jlt_is, jcl_0, beq_self_eq_true, jT_sI, jT_sJ, jP_sI, jP_sJ, jJ_sI, jI_sJ, jZ_sI, jZ_sJ, a1, a3, a4, a5]
  rw [if_neg (show ¬ nI 24 ≤ nI cls.length from nI_ge hl (by omega))]
  simp only [jck_true, jde_is, jlt_is, jcl_0, beq_self_eq_true, jT_sI, jT_sJ, jP_sI, jP_sJ, jJ_sI, jI_sJ, jZ_sI, jZ_sJ, jin_nI hl (by omega), nI_clamp (show cls.length < 2 ^ 31 by omega), jkd, ka]
  have e3 : jI (jsP μ (z + 1) cls.length (some (dA z cls.length))) z 2 = nI cls.length := a3
  rw [e3, nI_1]
  have hk : ∀ x, x ≠ z → x ≠ z + 1 → sameC μ (jsI (jsP μ (z + 1) cls.length (some (dA z cls.length))) z 2 (nI (cls.length + 1))) x := fun x q1 q2 => (sameC.sP q2).tr (sameC.sI q1)
  refine .ret ⟨(cs.zP (by omega)).tr (cs.zI (by omega)), rfl, a1, ?_, ?_, ?_, a5, by simp; omega, fun i hi => ?_⟩
  · rw [jI_sI, if_neg (by omega)]; exact a2
  · rw [jI_sI, if_pos ⟨rfl, rfl⟩]; simp
  · rw [jP_sI, jP_sP_ne (by omega)]; exact a4
  · rw [jP_sI, jP_sP]
    by_cases e : i = cls.length
    · rw [if_pos ⟨rfl, e⟩, e]
      have : (cls ++ [c]).getD cls.length cl0 = c := by simp [List.getD]
      rw [this]
      exact ⟨rfl, hc.kp fun x h1 h2 _ _ => hk x (by unfold dA at h1; omega) (by unfold dA at h1; omega)⟩
    · have hi2 : i < cls.length := by simp at hi; omega
      rw [if_neg (fun t => e t.2)]
      obtain ⟨e1, e2⟩ := a7 i hi2
      have : (cls ++ [c]).getD i cl0 = cls.getD i cl0 := by simp [List.getD, List.getElem?_append_left hi2]
      rw [this]
      exact ⟨e1, e2.kp fun x h1 h2 _ _ => hk x (by unfold dA at h1; omega) (by unfold dA at h1; omega)⟩
theorem c_b136 {B z : Nat} {μ : JM} {P0 A0 P A : List Int64} (hC : CT B μ) (hz : B + 121 ≤ z) (hP : cW B 11 6 μ P) (hA : cW B 13 12 μ A) (h1 : P0 <+: P) (h2 : A0 <+: A) : Res (fX4_readVersion_b136 (B + 18) (nI P0.length) (nI A0.length) μ) (fun r ν => r = none ∧ cn B z [11, 13] μ ν ∧ cW B 11 6 ν P0 ∧ cW B 13 12 ν A0) := by
  rw [fX4_readVersion_b136]
  simp only [jck_true, jde_is, jlt_is, jcl_0, beq_self_eq_true, jT_sI, jT_sJ, jP_sI, jP_sJ, jJ_sI, jI_sJ, jZ_sI, jZ_sJ, cT18 hC, cP18_2 hC, cT11 hC]
  have tk1 : P.take P0.length = P0 := by obtain ⟨t, rfl⟩ := h1; simp
  have tk2 : A.take A0.length = A0 := by obtain ⟨t, rfl⟩ := h2; simp
  refine Res.cl (c_cut (z := z) (wh11 hC) hP (by decide) h1.length_le) fun _ μ1 ⟨s1, w1, z1⟩ => ?_
  have hC1 := s1.ct hC hz
  simp only [jck_true, jde_is, jlt_is, jcl_0, beq_self_eq_true, jT_sI, jT_sJ, jP_sI, jP_sJ, jJ_sI, jI_sJ, jZ_sI, jZ_sJ, cT18 hC1, cP18_3 hC1, cT13 hC1]
  refine Res.cl (c_cut (z := z) (wh13 hC1) (hA.ke s1 (by omega) (by decide) (by decide)) (by decide) h2.length_le) fun _ μ2 ⟨s2, w2, z2⟩ => ?_
  rw [tk1] at w1
  rw [tk2] at w2
  exact .ret ⟨rfl, ⟨(s1.wk (by decide)).tr (s2.wk (by decide)), by rw [z2, z1]⟩, w1.ke s2 (by omega) (by decide) (by decide), w2⟩
def vrQ (B z n : Nat) (l : List Int32) (ser : Int32) (P0 A0 : List Int64) (μ : JM) (j k : Nat) (x : Except Er (List Cl × List Int64 × List Int64 × Nat)) (r : Option Nat) (ν : JM) (c m : Nat) : Prop := c ≤ 4 * (25 - j) ∧ m ≤ 14 * (25 - j) + (n - k) ∧ cr B z RDM μ ν ∧ jI ν (B + 66) 0 = 0 ∧ ((∃ e, x = .error e ∧ r = none ∧ cF B ν l e ∧ cW B 11 6 ν P0 ∧ cW B 13 12 ν A0) ∨ (∃ y, x = .ok y ∧ r = some z ∧ cW B 11 6 ν y.2.1 ∧ cW B 13 12 ν y.2.2.1 ∧ dL z ser ν (stlC y.1) ∧ z + 2 + 4 * y.1.length ≤ jZ ν))
theorem c_ver_l {B z n : Nat} {l : List Int32} {F : List Int64} {ser : Int32} {P0 A0 : List Int64} (hz : B + 121 ≤ z) : ∀ (fu j fl k : Nat) (cls : List Cl) (P A : List Int64) (μ : JM), CT B μ → cW B 9 8 μ F → cW B 11 6 μ P → cW B 13 12 μ A → jI μ (B + 66) 0 = 0 → cAt B μ l n k → dL z ser μ cls → jZ μ = z + 2 + 4 * cls.length → cls.length = j → j ≤ 24 → wfO cls → P0 <+: P → A0 <+: A → 26 - j < fu → fl + j = 26 →
    Rq (fX4_readVersion_b34 fu (B + 18) (nI P0.length) (nI A0.length) (some z) 1 (nI j) μ) (vrQ B z n l ser P0 A0 μ j k (ov (Cd l) k (sVer (Cd l) F fl cls P A k))) := by
  intro fu
  induction fu with
  | zero => intro j fl k cls P A μ _ _ _ _ _ _ _ _ _ _ _ _ _ q; omega
  | succ fu ih =>
    intro j fl k cls P A μ hC hF hP hA h66 h D hZ hlen hj hw hp0 ha0 hf hfl
    obtain ⟨fl, rfl⟩ : ∃ f, fl = f + 1 := ⟨fl - 1, by omega⟩
    have hn := h.1.2.1
    have hkn := h.2.2.2
    rw [fX4_readVersion_b34, if_neg (show ¬ (24 : Int32) < nI j from nI_nlt (a := 24) (by omega) (by decide)), if_neg (by decide), jck_of (by rw [cT18 hC]; rfl)]
    have hL := D.cl (lo := B + 121) (hi := jZ μ) hz (by omega)
    have sp : ov (Cd l) k (sVer (Cd l) F (fl + 1) cls P A k) = eb (ov (Cd l) k (sClause (Cd l) F 0 cls P A k)) fun x => if Cd l x.2.2.2 = 0 then .ok (cls ++ [x.1], x.2.1, x.2.2.1, x.2.2.2) else eb (exC (Cd l) (-60) x.2.2.2) fun k2 => sVer (Cd l) F fl (cls ++ [x.1]) x.2.1 x.2.2.1 k2 := by rw [sVer, eb_ov]
    generalize ov (Cd l) k (sVer (Cd l) F (fl + 1) cls P A k) = S at sp ⊢
    refine Rq.cl (c_clause (md := 0) hC hF hP hA h66 (by omega) hL (by decide) (Nat.le_refl _) h) fun r μ1 c1 m1 ⟨hc1, r1, n66, P', A', ⟨hp, _⟩, ⟨ha, _⟩, w1, w2, Q⟩ => ?_
    have r1z : cr B z RDM μ μ1 := r1.lo (by omega)
    have hC1 := r1z.ct hC hz
    have hF1 : cW B 9 8 μ1 F := ⟨by rw [r1z.iI (by omega) (by decide)]; exact hF.1, hF.2.1, by rw [r1z.iJ (by omega) (by decide)]; exact hF.2.2⟩
    have k9 : (jT μ1 z).1 = 9 := by rw [r1.2.1 z (by omega)]; exact D.1
    simp only [jde_is]
    rw [jck_of (by rw [k9]; rfl)]
    rcases Q with ⟨rfl, hm1, z1, e, es, f⟩ | ⟨y, h24, rfl, hm1, z1, es, a1, k1, g1, g2, E⟩
    · -- refused
      have ea : fX8_add z none μ1 = some ((), μ1, 0, 0) := by unfold fX8_add; rw [if_pos rfl]
      rw [ea, jcl_0]
      simp only [jck_true, jde_is, jlt_is, jcl_0, beq_self_eq_true, jT_sI, jT_sJ, jP_sI, jP_sJ, jJ_sI, jI_sJ, jZ_sI, jZ_sJ, cT18 hC1, cP18_0 hC1, cT15 hC1]
      rw [if_neg f.2, fX4_readVersion_b86, fX4_readVersion_b87, if_pos rfl, fX4_readVersion_b101]
      obtain ⟨fu, rfl⟩ : ∃ f, fu = f + 1 := ⟨fu - 1, by omega⟩
      have ex : fX4_readVersion_b34 (fu + 1) (B + 18) (nI P0.length) (nI A0.length) (some z) 0 (nI j + 1) μ1 = fX4_readVersion_b107 (B + 18) (nI P0.length) (nI A0.length) (some z) μ1 := by
        rw [fX4_readVersion_b34]
        by_cases t : (24 : Int32) < nI j + 1
        · rw [if_pos t]
        · rw [if_neg t, if_pos rfl]
      rw [ex, fX4_readVersion_b107]
      simp only [jck_true, jde_is, jlt_is, jcl_0, beq_self_eq_true, jT_sI, jT_sJ, jP_sI, jP_sJ, jJ_sI, jI_sJ, jZ_sI, jZ_sJ, cT18 hC1, cP18_0 hC1, cT15 hC1]
      rw [if_neg f.2]
      obtain ⟨r2, ν, e2, q1, q2, q3, q4⟩ := c_b136 (z := z) hC1 hz w1 w2 (hp0.trans hp) (ha0.trans ha)
      refine ⟨r2, ν, 0, 0, e2, by omega, by omega, r1z.tr (q2.1.wk (by decide)).tocr, by rw [q2.1.iI (by omega) (by decide)]; exact n66, Or.inl ⟨e, by rw [sp, es, eb_err], q1, f.ke q2.1 (by omega) (by decide), q3, q4⟩⟩
    · -- read
      have h24 := h24 rfl
      rw [es, eb_ov, eb_ok] at sp
      have D1 : dL z ser μ1 cls := D.kp fun x h1 h2 => r1.dyn rdm_lt (Nat.le_refl _) x (by omega) (by omega)
      have ed : jZ μ = dA z cls.length := by unfold dA; omega
      rw [ed] at E ⊢
      have E : cE (dA z cls.length) (dA z cls.length + 4) true μ1 (dA z cls.length) y.1 := E
      refine Rq.cl0 (c_dadd (B := B) (as := []) D1 h24 E) fun _ μ2 ⟨s2, z2, D2⟩ => ?_
      have hC2 := s2.ct hC1 hz
      have a2 := a1.ke s2 (by omega) (by decide) (by decide) (by decide)
      have r2 : cr B z RDM μ μ2 := r1z.tr (s2.wk (by decide)).tocr
      have w12 := w1.ke s2 (by omega) (by decide) (by decide)
      have w22 := w2.ke s2 (by omega) (by decide) (by decide)
      have n662 : jI μ2 (B + 66) 0 = 0 := by rw [s2.iI (by omega) (by decide)]; exact n66
      have hF2 := hF1.ke s2 (by omega) (by decide) (by decide)
      have Z2 : jZ μ2 = z + 2 + 4 * (cls.length + 1) := by rw [z2, z1]; omega
      have kn2 := a2.2.2.2
      simp only [jck_true, jde_is, jlt_is, jcl_0, beq_self_eq_true, jT_sI, jT_sJ, jP_sI, jP_sJ, jJ_sI, jI_sJ, jZ_sI, jZ_sJ, cT18 hC2, cP18_0 hC2, cT15 hC2]
      rw [if_pos a2.2.2.1, c_token hC2 a2, jcl_0]
      simp only [lg_cmp_0]
      by_cases q1 : Cd l y.2.2.2 = -60
      · have nov : ¬ Cd l y.2.2.2 = -2000 := by rw [q1]; decide
        rw [if_pos q1, fX4_readVersion_b87, if_neg (by decide)]
        rw [ov_ne nov, if_neg (by rw [q1]; decide)] at sp
        have e6 : exC (Cd l) (-60) y.2.2.2 = tk (Cd l) y.2.2.2 := by unfold exC; rw [if_pos q1]
        rw [e6, eb_tk] at sp
        have hlt := a2.lt (by rw [q1]; decide)
        simp only [jck_true, jde_is, jlt_is, jcl_0, beq_self_eq_true, jT_sI, jT_sJ, jP_sI, jP_sJ, jJ_sI, jI_sJ, jZ_sI, jZ_sJ, cT18 hC2, cP18_0 hC2, cT15 hC2]
        refine Rq.cl0 (c_step (z := jZ μ2) hC2 a2 (by rw [q1]; decide) (by omega)) fun _ μ3 ⟨s3', a3⟩ => ?_
        have s3 : cn B z [15] μ2 μ3 := ⟨s3'.1.lo (by omega), s3'.2⟩
        have hC3 := s3.1.ct hC2 hz
        rw [fX4_readVersion_b101, nI_1]
        have eok : sClause (Cd l) F 0 cls P A k = .ok y := by
          rw [ov_ne nov] at es
          by_cases o : Cd l k = -2000
          · rw [ov_yes o] at es; cases es
          · rw [ov_ne o] at es; exact es
        obtain ⟨-, o1, o2⟩ := sClause_O eok
        have D3 : dL z ser μ3 (cls ++ [y.1]) := by
          exact D2.kp fun x h1 h2 => s3'.1.dyn (by decide) (Nat.le_refl _) x (by omega) (by simp at h2; omega)
        refine (ih (j + 1) fl (y.2.2.2 + 1) (cls ++ [y.1]) y.2.1 y.2.2.1 μ3 hC3 (hF2.ke s3.1 (by omega) (by decide) (by decide)) (by rw [g1]; exact w12.ke s3.1 (by omega) (by decide) (by decide)) (by rw [g2]; exact w22.ke s3.1 (by omega) (by decide) (by decide)) (by rw [s3.1.iI (by omega) (by decide)]; exact n662) a3 D3 (by rw [s3.2, Z2]; simp) (by simp; exact hlen) (by omega) (hw.snoc h24 o1 o2) (by rw [g1]; exact hp0.trans hp) (by rw [g2]; exact ha0.trans ha) (by omega) (by omega)).mono ?_
        rintro r ν c m ⟨b1, b2, b3, b4, b5⟩
        rw [sp]
        exact ⟨by omega, by omega, r2.tr ((s3.1.wk (by decide)).tocr.tr b3), b4, b5⟩
      · rw [if_neg q1, fX4_readVersion_b86, fX4_readVersion_b87, if_pos rfl, fX4_readVersion_b101]
        obtain ⟨fu, rfl⟩ : ∃ f, fu = f + 1 := ⟨fu - 1, by omega⟩
        have ex : fX4_readVersion_b34 (fu + 1) (B + 18) (nI P0.length) (nI A0.length) (some z) 0 (nI j + 1) μ2 = fX4_readVersion_b107 (B + 18) (nI P0.length) (nI A0.length) (some z) μ2 := by
          rw [fX4_readVersion_b34]
          by_cases t : (24 : Int32) < nI j + 1
          · rw [if_pos t]
          · rw [if_neg t, if_pos rfl]
        rw [ex, fX4_readVersion_b107]
        simp only [jck_true, jde_is, jlt_is, jcl_0, beq_self_eq_true, jT_sI, jT_sJ, jP_sI, jP_sJ, jJ_sI, jI_sJ, jZ_sI, jZ_sJ, cT18 hC2, cP18_0 hC2, cT15 hC2]
        rw [if_pos a2.2.2.1]
        refine Rq.cl0 (c_takeEnd (z := z) hC2 a2 (by omega)) fun t μ3 ⟨s3, Q3⟩ => ?_
        rcases Q3 with ⟨q3, rfl, rfl⟩ | ⟨q3, rfl, f3⟩
        · rw [if_neg (by decide)]
          have nov : ¬ Cd l y.2.2.2 = -2000 := by rw [q3]; decide
          rw [ov_ne nov, if_pos q3] at sp
          have eok : sClause (Cd l) F 0 cls P A k = .ok y := by
            rw [ov_ne nov] at es
            by_cases o : Cd l k = -2000
            · rw [ov_yes o] at es; cases es
            · rw [ov_ne o] at es; exact es
          obtain ⟨-, o1, o2⟩ := sClause_O eok
          simp only [jck_true, jde_is, jlt_is, jcl_0, beq_self_eq_true, jT_sI, jT_sJ, jP_sI, jP_sJ, jJ_sI, jI_sJ, jZ_sI, jZ_sJ, D2.1]
          obtain ⟨u, ν, e4, s4x, z4, D4⟩ := c_settle (B := B) (as := []) (hw.snoc h24 o1 o2) D2
          rw [e4, jcl_0]
          refine .ret ⟨by omega, by omega, r2.tr (s4x.wk (by decide)).tocr, by rw [s4x.iI (by omega) (by decide)]; exact n662, Or.inr ⟨_, sp, rfl, by rw [g1]; exact w12.ke s4x (by omega) (by decide) (by decide), by rw [g2]; exact w22.ke s4x (by omega) (by decide) (by decide), D4, ?_⟩⟩
          rw [z4, Z2]; simp
        · rw [if_pos rfl]
          have hC3 := s3.1.ct hC2 hz
          obtain ⟨r4, ν, e4, q5, q6, q7, q8⟩ := c_b136 (z := z) hC3 hz (w12.ke s3.1 (by omega) (by decide) (by decide)) (w22.ke s3.1 (by omega) (by decide) (by decide)) (hp0.trans hp) (ha0.trans ha)
          refine ⟨r4, ν, 0, 0, e4, by omega, by omega, r2.tr ((s3.1.wk (by decide)).tocr.tr (q6.1.wk (by decide)).tocr), ?_, Or.inl ⟨_, ?_, q5, f3.ke q6.1 (by omega) (by decide), q7, q8⟩⟩
          · rw [q6.1.iI (by omega) (by decide), s3.1.iI (by omega) (by decide)]; exact n662
          · rw [sp, if_neg q3, ov_exC (by decide), if_neg q1]
