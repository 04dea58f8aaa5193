/-! the class: drafts of VERSIONS; settle -/
def dA (z i : Nat) : Nat := z + 2 + 4 * i
def dL (z : Nat) (ser : Int32) (μ : JM) (cls : List Cl) : Prop := (jT μ z).1 = 9 ∧ jI μ z 1 = ser ∧ jI μ z 2 = nI cls.length ∧ jP μ z 0 = some (z + 1) ∧ jT μ (z + 1) = (105, 24) ∧ cls.length ≤ 24 ∧ ∀ i, i < cls.length → jP μ (z + 1) i = some (dA z i) ∧ cE (dA z i) (dA z i + 4) true μ (dA z i) (cls.getD i cl0)
theorem dL.cl {z lo hi : Nat} {ser : Int32} {μ : JM} {cls : List Cl} (h : dL z ser μ cls) (h1 : lo ≤ z) (h2 : z + 2 + 4 * cls.length ≤ hi) : cL lo hi true 24 μ z (z + 1) cls := by
  obtain ⟨a1, a2, a3, a4, a5, a6, a7⟩ := h
  refine ⟨by omega, by omega, a1, a3, a6, a4, a5, fun i hi => ?_⟩
  obtain ⟨e1, e2⟩ := a7 i hi
  exact ⟨_, e1, e2.wk (by unfold dA; omega) (by unfold dA; omega)⟩
theorem dL.kp {z : Nat} {ser : Int32} {μ ν : JM} {cls : List Cl} (h : dL z ser μ cls) (H : ∀ x, z ≤ x → x < z + 2 + 4 * cls.length → sameC μ ν x) : dL z ser ν cls := by
  obtain ⟨a1, a2, a3, a4, a5, a6, a7⟩ := h
  obtain ⟨b1, b2, b3, b4⟩ := H z (by omega) (by omega)
  obtain ⟨c1, c2, c3, c4⟩ := H (z + 1) (by omega) (by omega)
  refine ⟨by rw [b1]; exact a1, by rw [b2]; exact a2, by rw [b2]; exact a3, by rw [b4]; exact a4, by rw [c1]; exact a5, a6, fun i hi => ?_⟩
  obtain ⟨e1, e2⟩ := a7 i hi
  exact ⟨by rw [c4]; exact e1, e2.kp fun x h1 h2 _ _ => H x (by unfold dA at h1; omega) (by unfold dA at h2; omega)⟩
/-- clauses, and their CASES as they are now -/
def dH (z : Nat) (ser : Int32) (μ : JM) (cls : List Cl) (h : Nat → CS) : Prop := (jT μ z).1 = 9 ∧ jI μ z 1 = ser ∧ jI μ z 2 = nI cls.length ∧ jP μ z 0 = some (z + 1) ∧ jT μ (z + 1) = (105, 24) ∧ cls.length ≤ 24 ∧ ∀ i, i < cls.length → jP μ (z + 1) i = some (dA z i) ∧ cE (dA z i) (dA z i + 4) true μ (dA z i) (setC (cls.getD i cl0) (h i))
theorem dH.cg {z : Nat} {ser : Int32} {μ : JM} {cls : List Cl} {h g : Nat → CS} (H : dH z ser μ cls h) (e : ∀ i, i < cls.length → h i = g i) : dH z ser μ cls g := by
  obtain ⟨a1, a2, a3, a4, a5, a6, a7⟩ := H
  exact ⟨a1, a2, a3, a4, a5, a6, fun i hi => by rw [← e i hi]; exact a7 i hi⟩
theorem and1_01 (x : Int32) : x &&& 1 = 0 ∨ x &&& 1 = 1 := by
  obtain ⟨v, h1, h2⟩ : ∃ v : Nat, v < 2 ∧ x &&& 1 = nI v := pk_andE x 1 rfl
  have : v = 0 ∨ v = 1 := by omega
  have e : x &&& 1 = nI v := h2
  rcases this with rfl | rfl
  · exact Or.inl e
  · exact Or.inr e
theorem set_step {B z u k : Nat} {as : List Nat} {ser : Int32} {μ : JM} {cls : List Cl} {h : Nat → CS} {rec7 : Nat → Int32 → JM → JO Unit} {fu : Nat} (H : dH z ser μ cls h) (hk : k < cls.length) (hu : u < k) : ∃ ν, fX8_settle_b13 rec7 (fu + 1) z (nI k) (nI u) μ = fX8_settle_b13 rec7 fu z (nI k) (nI (u + 1)) ν ∧ cs B z as μ ν ∧ jZ ν = jZ μ ∧ dH z ser ν cls (fun i => if i = u ∧ bt (Cl.ovr (cls.getD k cl0)) u = true then (fun j => h u j &&& (h k j ^^^ (-1))) else h i) := by
  obtain ⟨a1, a2, a3, a4, a5, a6, a7⟩ := H
  obtain ⟨ek, qk, bk, tk2, k1, k2, k3, k4, k5, k6, k7, k8, ⟨k9, k9b, k9c⟩, k10, k11, k12, k13⟩ := a7 k hk
  obtain ⟨eu, qu, bu, tu, u1, u2, u3, u4, u5, u6, u7, u8, ⟨u9, u9b, u9c⟩, u10, u11, u12, u13⟩ := a7 u (by omega)
  rw [fX8_settle_b13, if_neg (nI_ge hu (by omega))]
  simp only [jck_true, jde_is, jlt_is, jcl_0, beq_self_eq_true, jT_sI, jT_sJ, jP_sI, jP_sJ, jJ_sI, jI_sJ, jZ_sI, jZ_sJ, a1, a4, a5, jin_nI (show k < 24 by omega) (by decide), nI_clamp (show k < 2 ^ 31 by omega), ek, k5]
  have eo : jI μ (dA z k) 6 = Cl.ovr (cls.getD k cl0) := (k13 rfl).2.2.2.2.1
  rw [eo]
  have hb : (jshr (Cl.ovr (cls.getD k cl0)) (nI u) &&& 1 = 1) ↔ bt (Cl.ovr (cls.getD k cl0)) u = true := by
    have t := b_test (o := Cl.ovr (cls.getD k cl0)) (u := u) (show u < 32 by omega)
    constructor
    · intro e
      cases c : bt (Cl.ovr (cls.getD k cl0)) u with
      | true => rfl
      | false => have := t.mpr c; rw [e] at this; exact absurd this (by decide)
    · intro e
      have hn : ¬ (jshr (Cl.ovr (cls.getD k cl0)) (nI u) &&& 1 = 0) := fun c => by have := t.mp c; rw [e] at this; cases this
      rcases and1_01 (jshr (Cl.ovr (cls.getD k cl0)) (nI u)) with w | w
      · exact absurd w hn
      · exact w
  by_cases q : bt (Cl.ovr (cls.getD k cl0)) u = true
  · rw [if_pos (hb.mpr q)]
    simp only [jck_true, jde_is, jlt_is, jcl_0, beq_self_eq_true, jT_sI, jT_sJ, jP_sI, jP_sJ, jJ_sI, jI_sJ, jZ_sI, jZ_sJ, jin_nI (show u < 24 by omega) (by decide), nI_clamp (show u < 2 ^ 31 by omega), eu, u5, u8, u9, k8]
    rw [c_andNot ⟨u9, u9b, u9c⟩ ⟨k9, k9b, k9c⟩, jcl_0, fX8_settle_b56, nI_1]
    have fv : s4 μ bu (fun i => jJ μ bu i &&& (jJ μ bk i ^^^ (-1))) = s4 μ bu (fun j => h u j &&& (h k j ^^^ (-1))) := s4_cg fun i hi => by rw [(u13 rfl).2.2.2.2.2 i hi, (k13 rfl).2.2.2.2.2 i hi]; rfl
    rw [fv]
    have hbu : z + 2 + 4 * u ≤ bu ∧ bu < z + 2 + 4 * u + 4 := by unfold dA at u3; exact u3
    refine ⟨_, rfl, cs.z4 (by omega), rfl, a1, a2, a3, a4, a5, a6, fun i hi => ?_⟩
    obtain ⟨e1, e2⟩ := a7 i hi
    refine ⟨e1, ?_⟩
    by_cases c : i = u
    · subst c
      dsimp only
      rw [if_pos ⟨rfl, q⟩]
      have ne1 : dA z i ≠ bu := by intro e; rw [e, u9c] at u5; exact absurd u5 (show ¬ (102 : Nat) = 3 by decide)
      refine ⟨qu, bu, tu, u1, u2, u3, u4, u5, u6, by rw [jJ_s4_ne ne1]; exact u7, u8, ⟨u9, u9b, u9c⟩, u10, u11, fun j hj => ?_, fun w => ?_⟩
      · rw [jJ_s4_ne u4.2.2]; exact u12 j hj
      · obtain ⟨f1, f2, f3, f4, f5, f6⟩ := u13 rfl
        exact ⟨f1, f2, f3, f4, f5, fun j hj => by rw [jJ_s4 hj]; rfl⟩
    · dsimp only
      rw [if_neg (fun t => c t.1)]
      refine e2.kp fun x h1 h2 _ _ => ⟨rfl, rfl, jJ_s4_ne ?_, rfl⟩
      unfold dA at h1 h2
      omega
  · rw [if_neg (fun t => q (hb.mp t)), fX8_settle_b56, nI_1]
    refine ⟨μ, rfl, cs.rf, rfl, a1, a2, a3, a4, a5, a6, fun i hi => ?_⟩
    dsimp only
    rw [if_neg (fun t => q t.2)]; exact a7 i hi
theorem set_l {B z k : Nat} {as : List Nat} {ser : Int32} {cls : List Cl} {rec7 : Nat → Int32 → JM → JO Unit} (hk : k < cls.length) : ∀ (fu u : Nat) (μ : JM) (h : Nat → CS), dH z ser μ cls h → u ≤ k → k - u < fu → ∃ ν, fX8_settle_b13 rec7 fu z (nI k) (nI u) μ = rec7 z (nI k + (-1)) ν ∧ cs B z as μ ν ∧ jZ ν = jZ μ ∧ dH z ser ν cls (fun i => if u ≤ i ∧ i < k ∧ bt (Cl.ovr (cls.getD k cl0)) i = true then (fun j => h i j &&& (h k j ^^^ (-1))) else h i) := by
  intro fu
  induction fu with
  | zero => intro u μ h _ _ q; omega
  | succ fu ih =>
    intro u μ h H hu hf
    have h24 := H.2.2.2.2.2.1
    by_cases q : u = k
    · rw [fX8_settle_b13, if_pos (nI_le (by omega) (by omega))]
      exact ⟨μ, rfl, cs.rf, rfl, H.cg fun i hi => by rw [if_neg (by omega)]⟩
    · obtain ⟨μ1, e1, s1, z1, H1⟩ := set_step (B := B) (as := as) (rec7 := rec7) (fu := fu) H hk (show u < k by omega)
      obtain ⟨ν, e2, s2, z2, H2⟩ := ih (u + 1) μ1 _ H1 (by omega) (by omega)
      refine ⟨ν, by rw [e1, e2], s1.tr s2, by rw [z2, z1], H2.cg fun i hi => ?_⟩
      have hkk : ¬ (k = u ∧ bt (Cl.ovr (cls.getD k cl0)) u = true) := fun t => by omega
      rw [if_neg hkk]
      by_cases c : i = u
      · subst c
        by_cases b : bt (Cl.ovr (cls.getD k cl0)) i = true
        · rw [if_neg (by omega), if_pos ⟨rfl, b⟩, if_pos ⟨by omega, by omega, b⟩]
        · rw [if_neg (by omega), if_neg (fun t => b t.2), if_neg (fun t => b t.2.2)]
      · have cc2 : ¬ (i = u ∧ bt (Cl.ovr (cls.getD k cl0)) u = true) := fun t => c t.1
        rw [if_neg cc2]
        by_cases b : u ≤ i ∧ i < k ∧ bt (Cl.ovr (cls.getD k cl0)) i = true
        · rw [if_pos ⟨by omega, b.2⟩, if_pos b]
        · rw [if_neg (fun t => b ⟨by omega, t.2⟩), if_neg b]
/-! what comes of it -/
theorem an_co (x a b : Int64) : x &&& a &&& b = x &&& b &&& a := by rw [Int64.and_assoc, Int64.and_comm a b, ← Int64.and_assoc]
theorem hfold_and (k : Nat) (w : CS) : ∀ (cls : List Cl) (hs : List CS) (v : CS), hfold k (fun i => v i &&& w i) cls hs = fun i => hfold k v cls hs i &&& w i
  | [], hs, v => by simp only [hfold]
  | c :: r, [], v => by simp only [hfold]
  | c :: r, h :: hs, v => by
    rw [hfold, hfold]
    by_cases q : isDf c = false ∧ bt (Cl.ovr c) k = true
    · rw [if_pos q, if_pos q]
      have e : (fun i => v i &&& w i &&& (h i ^^^ (-1))) = fun i => (fun i => v i &&& (h i ^^^ (-1))) i &&& w i := funext fun i => an_co _ _ _
      rw [e, hfold_and k w r hs]
    · rw [if_neg q, if_neg q, hfold_and k w r hs]
/-- over bits are of CLAUSES ahead that are no defines -/
def wfO (cls : List Cl) : Prop := ∀ j, j < cls.length → (isDf (cls.getD j cl0) = true → Cl.ovr (cls.getD j cl0) = 0) ∧ ∀ u, u < j → bt (Cl.ovr (cls.getD j cl0)) u = true → isDf (cls.getD u cl0) = false
def HH (cls : List Cl) (m i : Nat) : CS := if isDf (cls.getD i cl0) then Cl.cas (cls.getD i cl0) else hfold i (Cl.cas (cls.getD i cl0)) (cls.drop (max m (i + 1))) ((stl 0 cls).drop (max m (i + 1)))
theorem HH_S0 {cls : List Cl} {m i : Nat} (hi : i < cls.length) (h : m ≤ i + 1) : HH cls m i = S0 cls i := by
  rw [S0_is hi]; unfold HH
  rw [show max m (i + 1) = i + 1 by omega]
theorem HH_step {cls : List Cl} (hw : wfO cls) {k i : Nat} (hk : k < cls.length) (hi : i < k) : HH cls k i = if bt (Cl.ovr (cls.getD k cl0)) i = true then (fun j => HH cls (k + 1) i j &&& (HH cls (k + 1) k j ^^^ (-1))) else HH cls (k + 1) i := by
  obtain ⟨w1, w2⟩ := hw k hk
  rw [HH_S0 hk (Nat.le_refl _)]
  unfold HH
  by_cases d : isDf (cls.getD i cl0) = true
  · rw [if_pos d, if_pos d, if_neg (fun t => by have := w2 i hi t; rw [d] at this; cases this)]
  · rw [if_neg d, if_neg d, show max k (i + 1) = k by omega, show max (k + 1) (i + 1) = k + 1 by omega]
    have hs : k < (stl 0 cls).length := by rw [stl_len]; exact hk
    rw [drop_getD (d := cl0) hk, drop_getD (d := fun _ => 0) hs, hfold]
    by_cases b : bt (Cl.ovr (cls.getD k cl0)) i = true
    · have nd : isDf (cls.getD k cl0) = false := by
        cases c : isDf (cls.getD k cl0) with
        | false => rfl
        | true => rw [w1 c, b_0] at b; cases b
      rw [if_pos ⟨nd, b⟩, if_pos b]
      exact hfold_and i (fun j => S0 cls k j ^^^ (-1)) _ _ _
    · rw [if_neg (fun t => b t.2), if_neg b]
theorem setk_l {B z : Nat} {as : List Nat} {ser : Int32} {cls : List Cl} (hw : wfO cls) : ∀ (fu m : Nat) (μ : JM), dH z ser μ cls (HH cls m) → m ≤ cls.length → m < fu → Res (fX8_settle_b7 fu z (nI m + (-1)) μ) (fun _ ν => cs B z as μ ν ∧ jZ ν = jZ μ ∧ dL z ser ν (stlC cls)) := by
  intro fu
  induction fu with
  | zero => intro m μ _ _ q; omega
  | succ fu ih =>
    intro m μ H hm hf
    have h24 := H.2.2.2.2.2.1
    rw [fX8_settle_b7]
    cases m with
    | zero =>
      rw [if_pos (by decide)]
      obtain ⟨a1, a2, a3, a4, a5, a6, a7⟩ := H
      refine .ret ⟨cs.rf, rfl, a1, a2, by rw [stlC_len]; exact a3, a4, a5, by rw [stlC_len]; exact a6, fun i hi => ?_⟩
      rw [stlC_len] at hi
      rw [stlC_get hi, ← HH_S0 (m := 0) hi (by omega)]
      exact a7 i hi
    | succ k =>
      have e1 : nI (k + 1) + (-1) = nI k := by rw [← nI_1, Int32.add_assoc, show (1 : Int32) + (-1) = 0 from by decide, Int32.add_zero]
      rw [e1, if_neg (nI_pos (by omega))]
      obtain ⟨μ1, e2, s2, z2, H2⟩ := set_l (B := B) (as := as) (rec7 := fX8_settle_b7 fu) (show k < cls.length by omega) jfuel 0 μ _ H (by omega) (jfuel_gt (by omega))
      rw [show (0 : Int32) = nI 0 from rfl, e2]
      have H3 : dH z ser μ1 cls (HH cls k) := H2.cg fun i hi => by
        by_cases c : i < k
        · rw [HH_step hw (by omega) c]
          by_cases b : bt (Cl.ovr (cls.getD k cl0)) i = true
          · rw [if_pos ⟨by omega, c, b⟩, if_pos b]
          · rw [if_neg (fun t => b t.2.2), if_neg b]
        · rw [if_neg (fun t => c t.2.1), HH_S0 hi (by omega), HH_S0 hi (by omega)]
      refine (ih k μ1 H3 (by omega) (by omega)).mono ?_
      rintro x ν ⟨s3, z3, D⟩
      exact ⟨s2.tr s3, by rw [z3, z2], D⟩
theorem setC_self (c : Cl) : setC c (Cl.cas c) = c := rfl
theorem c_settle {B z : Nat} {as : List Nat} {ser : Int32} {μ : JM} {cls : List Cl} (hw : wfO cls) (h : dL z ser μ cls) : Res (fX8_settle z μ) (fun _ ν => cs B z as μ ν ∧ jZ ν = jZ μ ∧ dL z ser ν (stlC cls)) := by
  unfold fX8_settle
  rw [jck_of (by rw [h.1]; rfl), h.2.2.1, show nI cls.length - 1 = nI cls.length + (-1) from Int32.sub_eq_add_neg _ _]
  refine setk_l hw jfuel cls.length μ ?_ (Nat.le_refl _) (jfuel_gt (by have := h.2.2.2.2.2.1; omega))
  obtain ⟨a1, a2, a3, a4, a5, a6, a7⟩ := h
  refine ⟨a1, a2, a3, a4, a5, a6, fun i hi => ?_⟩
  have e : HH cls cls.length i = Cl.cas (cls.getD i cl0) := by
    unfold HH
    by_cases d : isDf (cls.getD i cl0) = true
    · rw [if_pos d]
    · rw [if_neg d, show max cls.length (i + 1) = cls.length by omega, List.drop_length]
      simp only [hfold]
  rw [e, setC_self]
  exact a7 i hi
