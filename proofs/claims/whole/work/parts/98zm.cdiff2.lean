/-! the class: differs, the loops -/
def ob (b : Nat) (μ ν : JM) : Prop := jT ν = jT μ ∧ jP ν = jP μ ∧ jI ν = jI μ ∧ jZ ν = jZ μ ∧ ∀ x, x ≠ b → jJ ν x = jJ μ x
theorem ob.rf {b : Nat} {μ : JM} : ob b μ μ := ⟨rfl, rfl, rfl, rfl, fun _ _ => rfl⟩
theorem ob.tr {b : Nat} {μ ν ρ : JM} (h : ob b μ ν) (g : ob b ν ρ) : ob b μ ρ := ⟨g.1.trans h.1, g.2.1.trans h.2.1, g.2.2.1.trans h.2.2.1, g.2.2.2.1.trans h.2.2.2.1, fun x hx => (g.2.2.2.2 x hx).trans (h.2.2.2.2 x hx)⟩
theorem ob.s4 {μ : JM} {b : Nat} {v : CS} : ob b μ (s4 μ b v) := ⟨rfl, rfl, rfl, rfl, fun _ hx => jJ_s4_ne hx⟩
def lp (z : Nat) (μ ν : JM) : Prop := jT ν = jT μ ∧ jP ν = jP μ ∧ jI ν = jI μ ∧ jZ ν = jZ μ ∧ ∀ x, x < z → jJ ν x = jJ μ x
theorem lp.rf {z : Nat} {μ : JM} : lp z μ μ := ⟨rfl, rfl, rfl, rfl, fun _ _ => rfl⟩
theorem lp.tr {z : Nat} {μ ν ρ : JM} (h : lp z μ ν) (g : lp z ν ρ) : lp z μ ρ := ⟨g.1.trans h.1, g.2.1.trans h.2.1, g.2.2.1.trans h.2.2.1, g.2.2.2.1.trans h.2.2.2.1, fun x hx => (g.2.2.2.2 x hx).trans (h.2.2.2.2 x hx)⟩
theorem ob.lp {z b : Nat} {μ ν : JM} (h : ob b μ ν) (hb : z ≤ b) : lp z μ ν := ⟨h.1, h.2.1, h.2.2.1, h.2.2.2.1, fun x hx => h.2.2.2.2 x (by omega)⟩
theorem lp.sa {z x : Nat} {μ ν : JM} (h : lp z μ ν) (hx : x < z) : sameC μ ν x := ⟨by rw [h.1], by rw [h.2.2.1], h.2.2.2.2 x hx, by rw [h.2.1]⟩
theorem lp.cl {B z v q : Nat} {μ ν : JM} {cls : List Cl} (h : lp z μ ν) (cl : cL (B + 121) z true 24 μ v q cls) : cL (B + 121) z true 24 ν v q cls := cl.kp fun _ _ h2 => h.sa h2
theorem lp.ca {z a q : Nat} {μ ν : JM} (h : lp z μ ν) (g : CAS μ a q) : CAS ν a q := by
  unfold CAS at *; rw [h.1, h.2.1]; exact g
theorem so_l {B z v q a b : Nat} {x : Int32} {cls : List Cl} (hr : ∀ c ∈ cls, isDf c = true ∨ rngK c) (ha : z ≤ b) : ∀ (fu k : Nat) (μ : JM), cL (B + 121) z true 24 μ v q cls → CAS μ a b → k ≤ cls.length → cls.length - k < fu → ∃ ν, fX8_setOutcome_b6 fu v x (some a) (nI k) μ = some ((), ν, 0, 0) ∧ ob b μ ν ∧ ∀ c, c < 256 → hasC (jJ ν b) c = (hasC (jJ μ b) c || setO (cls.drop k) x c) := by
  intro fu
  induction fu with
  | zero => intro k μ _ _ _ q; omega
  | succ fu ih =>
    intro k μ cl hA hk hf
    have h24 := cl.2.2.2.2.1
    rw [fX8_setOutcome_b6]
    simp only [jck_true, jde_is, jlt_is, jcl_0, beq_self_eq_true, jT_sI, jT_sJ, jP_sI, jP_sJ, jJ_sI, jI_sJ, jZ_sI, jZ_sJ, cl.2.2.1, cl.2.2.2.1]
    by_cases c : k = cls.length
    · rw [if_pos (nI_le (by omega) (by omega)), c, List.drop_length]
      exact ⟨μ, rfl, ob.rf, fun c _ => by unfold setO; rw [List.any_nil, Bool.or_false]⟩
    · have hk2 : k < cls.length := by omega
      rw [if_neg (nI_ge hk2 (by omega)), drop_getD (d := cl0) hk2]
      obtain ⟨e, e1, E⟩ := cl.2.2.2.2.2.2.2 k hk2
      obtain ⟨qq, bb, tt, e2, e3, e4, -, a5, a6, -, a8, a9, -, -, -, a13⟩ := id E
      have hm : cls.getD k cl0 ∈ cls := by rw [List.getD_eq_getElem?_getD, List.getElem?_eq_getElem hk2]; exact List.getElem_mem hk2
      simp only [jck_true, jde_is, jlt_is, jcl_0, beq_self_eq_true, jT_sI, jT_sJ, jP_sI, jP_sJ, jJ_sI, jI_sJ, jZ_sI, jZ_sJ, cl.2.2.2.2.2.1, cl.2.2.2.2.2.2.1, jin_nI (show k < 24 by omega) (by decide), nI_clamp (show k < 2 ^ 31 by omega), e1, a5, fX2_isDefine, a6]
      have no : (∀ c, (!isDf (cls.getD k cl0) && decide (okey (cls.getD k cl0) = x) && hasC (Cl.cas (cls.getD k cl0)) c) = false) → ∃ ν, fX8_setOutcome_b52 (fX8_setOutcome_b6 fu) v x (some a) (nI k) μ = some ((), ν, 0, 0) ∧ ob b μ ν ∧ ∀ c, c < 256 → hasC (jJ ν b) c = (hasC (jJ μ b) c || setO (cls.getD k cl0 :: cls.drop (k + 1)) x c) := by
        intro w
        rw [fX8_setOutcome_b52, nI_1]
        obtain ⟨ν, g1, g2, g4⟩ := ih (k + 1) μ cl hA (by omega) (by omega)
        refine ⟨ν, g1, g2, fun c hc => ?_⟩
        have e : setO (cls.getD k cl0 :: cls.drop (k + 1)) x c = setO (cls.drop (k + 1)) x c := by unfold setO; rw [List.any_cons, w c, Bool.false_or]
        rw [g4 c hc, e]
      by_cases d : (cls.getD k cl0).1 = 0
      · rw [if_pos d, jcl_0, if_neg (by decide)]
        exact no (fun c => by rw [isDf_t.mpr d]; rfl)
      · rw [if_neg d, jcl_0, if_pos rfl]
        have rk : rngK (cls.getD k cl0) := by
          rcases hr _ hm with z | z
          · exact absurd (isDf_t.mp z) d
          · exact z
        have nd : isDf (cls.getD k cl0) = false := by
          cases hq : isDf (cls.getD k cl0)
          · rfl
          · exact absurd (isDf_t.mp hq) d
        simp only [jck_true, jde_is, jlt_is, jcl_0, beq_self_eq_true, jT_sI, jT_sJ, jP_sI, jP_sJ, jJ_sI, jI_sJ, jZ_sI, jZ_sJ, cl.2.2.1, cl.2.2.2.2.2.1, cl.2.2.2.2.2.2.1, jin_nI (show k < 24 by omega) (show 24 < 2 ^ 31 by decide), nI_clamp (show k < 2 ^ 31 by omega), e1, a5, c_key E rk]
        by_cases q2 : okey (cls.getD k cl0) = x
        · rw [if_pos q2]
          simp only [jck_true, jde_is, jlt_is, jcl_0, beq_self_eq_true, jT_sI, jT_sJ, jP_sI, jP_sJ, jJ_sI, jI_sJ, jZ_sI, jZ_sJ, cl.2.2.1, cl.2.2.2.2.2.1, cl.2.2.2.2.2.2.1, jin_nI (show k < 24 by omega) (show 24 < 2 ^ 31 by decide), nI_clamp (show k < 2 ^ 31 by omega), e1, a5, hA.1, a8, c_or hA a9, fX8_setOutcome_b52, nI_1]
          have l1 : ob b μ (s4 μ b (fun i => jJ μ b i ||| jJ μ bb i)) := ob.s4
          obtain ⟨ν, g1, g2, g4⟩ := ih (k + 1) _ ((l1.lp ha).cl cl) hA.s4 (by omega) (by omega)
          refine ⟨ν, g1, l1.tr g2, fun c hc => ?_⟩
          have e : setO (cls.getD k cl0 :: cls.drop (k + 1)) x c = (hasC (Cl.cas (cls.getD k cl0)) c || setO (cls.drop (k + 1)) x c) := by unfold setO; rw [List.any_cons, nd, decide_eq_true q2]; rfl
          rw [g4 c hc, ha_s4 hc, e, ← Bool.or_assoc]
          congr 1
          unfold hasC
          rw [lb_or, (a13 rfl).2.2.2.2.2 _ (show c / 64 < 4 by omega)]
        · rw [if_neg q2]
          exact no (fun c => by rw [decide_eq_false q2]; simp)
theorem c_setO {B z v q a b : Nat} {x : Int32} {cls : List Cl} {μ : JM} (hr : ∀ c ∈ cls, isDf c = true ∨ rngK c) (ha : z ≤ b) (cl : cL (B + 121) z true 24 μ v q cls) (hA : CAS μ a b) : ∃ ν, fX8_setOutcome v x (some a) μ = some ((), ν, 0, 0) ∧ ob b μ ν ∧ ∀ c, c < 256 → hasC (jJ ν b) c = setO cls x c := by
  unfold fX8_setOutcome
  simp only [jck_true, jde_is, jlt_is, jcl_0, beq_self_eq_true, jT_sI, jT_sJ, jP_sI, jP_sJ, jJ_sI, jI_sJ, jZ_sI, jZ_sJ, hA.1, c_clear hA]
  have l1 : ob b μ (s4 μ b (fun _ => 0)) := ob.s4
  obtain ⟨ν, g1, g2, g4⟩ := so_l (x := x) hr ha jfuel 0 _ ((l1.lp ha).cl cl) hA.s4 (Nat.zero_le _) (jfuel_gt (by have := cl.2.2.2.2.1; omega))
  refine ⟨ν, g1, l1.tr g2, fun c hc => ?_⟩
  rw [g4 c hc, ha_s4 hc, List.drop_zero]
  have : hasC (fun _ => (0 : Int64)) c = false := by unfold hasC lb; simp
  rw [this, Bool.false_or]
theorem au_l {B z v q w qw t tb p pb r rb : Nat} {cls cls2 : List Cl} (hr : ∀ c ∈ cls, isDf c = true ∨ rngK c) (hr2 : ∀ c ∈ cls2, isDf c = true ∨ rngK c) (h1 : z ≤ tb) (h2 : z ≤ pb) (h3 : z ≤ rb) (n1 : tb ≠ pb) (n2 : tb ≠ rb) (n3 : pb ≠ rb) : ∀ (fu k : Nat) (μ : JM), cL (B + 121) z true 24 μ v q cls → cL (B + 121) z true 24 μ w qw cls2 → CAS μ t tb → CAS μ p pb → CAS μ r rb → k ≤ cls.length → cls.length - k < fu → ∃ ν, fX8_addUnlike_b20 fu v (some w) (some t) (some p) (some r) (nI k) μ = some ((), ν, 0, 0) ∧ lp z μ ν ∧ ∀ c, c < 256 → hasC (jJ ν tb) c = (hasC (jJ μ tb) c || (cls.drop k).any (unl cls cls2 c)) := by
  intro fu
  induction fu with
  | zero => intro k μ _ _ _ _ _ _ q; omega
  | succ fu ih =>
    intro k μ cl cl2 hT hP hR hk hf
    have h24 := cl.2.2.2.2.1
    rw [fX8_addUnlike_b20]
    simp only [jck_true, jde_is, jlt_is, jcl_0, beq_self_eq_true, jT_sI, jT_sJ, jP_sI, jP_sJ, jJ_sI, jI_sJ, jZ_sI, jZ_sJ, cl.2.2.1, cl.2.2.2.1]
    by_cases c : k = cls.length
    · rw [if_pos (nI_le (by omega) (by omega)), c, List.drop_length]
      exact ⟨μ, rfl, lp.rf, fun c _ => by rw [List.any_nil, Bool.or_false]⟩
    · have hk2 : k < cls.length := by omega
      rw [if_neg (nI_ge hk2 (by omega)), drop_getD (d := cl0) hk2]
      obtain ⟨e, e1, E⟩ := cl.2.2.2.2.2.2.2 k hk2
      obtain ⟨qq, bb, tt, -, -, -, -, a5, a6, -, a8, a9, -, -, -, a13⟩ := id E
      have hm : cls.getD k cl0 ∈ cls := by rw [List.getD_eq_getElem?_getD, List.getElem?_eq_getElem hk2]; exact List.getElem_mem hk2
      simp only [jck_true, jde_is, jlt_is, jcl_0, beq_self_eq_true, jT_sI, jT_sJ, jP_sI, jP_sJ, jJ_sI, jI_sJ, jZ_sI, jZ_sJ, cl.2.2.2.2.2.1, cl.2.2.2.2.2.2.1, jin_nI (show k < 24 by omega) (by decide), nI_clamp (show k < 2 ^ 31 by omega), e1, a5, fX2_isDefine, a6]
      by_cases d : (cls.getD k cl0).1 = 0
      · rw [if_pos d, jcl_0, if_neg (by decide), fX8_addUnlike_b84, nI_1]
        obtain ⟨ν, g1, g2, g4⟩ := ih (k + 1) μ cl cl2 hT hP hR (by omega) (by omega)
        refine ⟨ν, g1, g2, fun c hc => ?_⟩
        have e : unl cls cls2 c (cls.getD k cl0) = false := by unfold unl; rw [isDf_t.mpr d]; rfl
        rw [g4 c hc, List.any_cons, e, Bool.false_or]
      · rw [if_neg d, jcl_0, if_pos rfl]
        have rk : rngK (cls.getD k cl0) := by
          rcases hr _ hm with z | z
          · exact absurd (isDf_t.mp z) d
          · exact z
        have nd : isDf (cls.getD k cl0) = false := by
          cases hq : isDf (cls.getD k cl0)
          · rfl
          · exact absurd (isDf_t.mp hq) d
        simp only [jck_true, jde_is, jlt_is, jcl_0, beq_self_eq_true, jT_sI, jT_sJ, jP_sI, jP_sJ, jJ_sI, jI_sJ, jZ_sI, jZ_sJ, cl.2.2.1, cl.2.2.2.2.2.1, cl.2.2.2.2.2.2.1, jin_nI (show k < 24 by omega) (show 24 < 2 ^ 31 by decide), nI_clamp (show k < 2 ^ 31 by omega), e1, a5, c_key E rk]
        obtain ⟨μ1, s1, o1, v1⟩ := c_setO (x := okey (cls.getD k cl0)) hr h2 cl hP
        have L1 := o1.lp h2
        have clA := L1.cl cl
        have clB := L1.cl cl2
        obtain ⟨e', e1', E'⟩ := clA.2.2.2.2.2.2.2 k hk2
        obtain ⟨qq', bb', tt', -, -, -, -, b5, -, -, -, -, -, -, -, -⟩ := id E'
        rw [s1, jcl_0]
        simp only [jck_true, jde_is, jlt_is, jcl_0, beq_self_eq_true, jT_sI, jT_sJ, jP_sI, jP_sJ, jJ_sI, jI_sJ, jZ_sI, jZ_sJ, clA.2.2.1, clA.2.2.2.2.2.1, clA.2.2.2.2.2.2.1, jin_nI (show k < 24 by omega) (by decide), nI_clamp (show k < 2 ^ 31 by omega), e1', b5, c_key E' rk, clB.2.2.1]
        obtain ⟨μ2, s2, o2, v2⟩ := c_setO (x := okey (cls.getD k cl0)) hr2 h3 clB (L1.ca hR)
        have L2 := o2.lp h3
        rw [s2, jcl_0]
        have P2 := L2.ca (L1.ca hP)
        have R2 := L2.ca (L1.ca hR)
        have T2 := L2.ca (L1.ca hT)
        simp only [jck_true, jde_is, jlt_is, jcl_0, beq_self_eq_true, jT_sI, jT_sJ, jP_sI, jP_sJ, jJ_sI, jI_sJ, jZ_sI, jZ_sJ, P2.1, c_xor P2 R2, jT_s4, T2.1]
        have P3 : CAS (s4 μ2 pb (fun i => jJ μ2 pb i ^^^ jJ μ2 rb i)) p pb := P2
        have T3 : CAS (s4 μ2 pb (fun i => jJ μ2 pb i ^^^ jJ μ2 rb i)) t tb := T2
        simp only [jck_true, jde_is, jlt_is, jcl_0, beq_self_eq_true, jT_sI, jT_sJ, jP_sI, jP_sJ, jJ_sI, jI_sJ, jZ_sI, jZ_sJ, c_or T3 P3, fX8_addUnlike_b84, nI_1]
        have L3 : lp z μ2 (s4 μ2 pb (fun i => jJ μ2 pb i ^^^ jJ μ2 rb i)) := ob.s4.lp h2
        have L4 : lp z (s4 μ2 pb (fun i => jJ μ2 pb i ^^^ jJ μ2 rb i)) (s4 (s4 μ2 pb (fun i => jJ μ2 pb i ^^^ jJ μ2 rb i)) tb (fun i => jJ (s4 μ2 pb (fun i => jJ μ2 pb i ^^^ jJ μ2 rb i)) tb i ||| jJ (s4 μ2 pb (fun i => jJ μ2 pb i ^^^ jJ μ2 rb i)) pb i)) := ob.s4.lp h1
        have LL := ((L1.tr L2).tr L3).tr L4
        obtain ⟨ν, g1, g2, g4⟩ := ih (k + 1) _ (LL.cl cl) (LL.cl cl2) (LL.ca hT) (LL.ca hP) (LL.ca hR) (by omega) (by omega)
        refine ⟨ν, g1, LL.tr g2, fun c hc => ?_⟩
        have c4 : c / 64 < 4 := by omega
        rw [g4 c hc, List.any_cons, ha_s4 hc, ← Bool.or_assoc]
        congr 1
        have f1 : lb (jJ μ2 tb (c / 64)) (c % 64) = hasC (jJ μ tb) c := by unfold hasC; rw [o2.2.2.2.2 tb n2, o1.2.2.2.2 tb n1]
        have f2 : lb (jJ μ2 pb (c / 64)) (c % 64) = setO cls (okey (cls.getD k cl0)) c := by rw [← v1 c hc]; unfold hasC; rw [o2.2.2.2.2 pb n3]
        have f3 : lb (jJ μ2 rb (c / 64)) (c % 64) = setO cls2 (okey (cls.getD k cl0)) c := v2 c hc
        unfold hasC unl
        dsimp only
        rw [lb_or, jJ_s4_ne n1, jJ_s4 c4, lb_xor, f1, f2, f3, nd]
        unfold hasC
        simp
theorem c_addU {B z v q w qw t tb : Nat} {cls cls2 : List Cl} {μ : JM} (hr : ∀ c ∈ cls, isDf c = true ∨ rngK c) (hr2 : ∀ c ∈ cls2, isDf c = true ∨ rngK c) (h1 : z ≤ tb) (h2 : tb < jZ μ) (h3 : t < jZ μ) (cl : cL (B + 121) z true 24 μ v q cls) (cl2 : cL (B + 121) z true 24 μ w qw cls2) (hT : CAS μ t tb) : Rq (fX8_addUnlike v (some w) (some t) μ) (fun _ ν c m => c = 4 ∧ m = 10 ∧ (∀ x, x < z → sameC μ ν x) ∧ jZ ν = jZ μ + 4 ∧ CAS ν t tb ∧ ∀ c, c < 256 → hasC (jJ ν tb) c = (hasC (jJ μ tb) c || cls.any (unl cls cls2 c))) := by
  unfold fX8_addUnlike
  refine Rq.nc fun μ1 l1 z1 A1 _ => ?_
  refine Rq.nc fun μ2 l2 z2 A2 _ => ?_
  have sa : ∀ x, x < jZ μ → sameC μ μ2 x := fun x hx => (l1 x hx).tr (l2 x (by omega))
  have kc : ∀ a q, a < jZ μ1 → q < jZ μ1 → CAS μ1 a q → CAS μ2 a q := fun a q ha hq h => by
    unfold CAS at *; rw [(l2 a ha).1, (l2 a ha).2.2.2, (l2 q hq).1]; exact h
  have T2 : CAS μ2 t tb := by unfold CAS at *; rw [(sa t h3).1, (sa t h3).2.2.2, (sa tb h2).1]; exact hT
  have P2 := kc _ _ (by omega) (by omega) A1
  obtain ⟨ν, g1, g2, g4⟩ := au_l hr hr2 h1 (show z ≤ jZ μ + 1 by omega) (show z ≤ jZ μ1 + 1 by omega) (by omega) (by omega) (by omega) jfuel 0 μ2 (cl.kp fun x _ hx => sa x (by omega)) (cl2.kp fun x _ hx => sa x (by omega)) T2 P2 A2 (Nat.zero_le _) (jfuel_gt (by have := cl.2.2.2.2.1; omega))
  refine ⟨(), ν, 0, 0, g1, rfl, rfl, fun x hx => (sa x (by omega)).tr (g2.sa hx), by rw [g2.2.2.2.1]; omega, g2.ca T2, fun c hc => ?_⟩
  rw [g4 c hc, List.drop_zero]
  congr 1
  rw [(sa tb h2).2.2.1]
theorem c_differs {B : Nat} {μ : JM} {s : SS} (v w : Int32) (h : cSt B μ s) (hw : gW s) (hg : gK s) : Rq (fX10_differs B v w μ) (cQ B 10 25 μ (spDiffers v w s)) := by
  have hC := h.1
  have hB := hC.2.2
  have y1 : (spDiffers v w s).1 = (match vAt s v with
  | none => -2
  | some t => match vAt s w with
    | none => -2
    | some t2 => lst (difP s t t2) (nCs s) 0) := rfl
  have y2 : (spDiffers v w s).2 = s := rfl
  obtain ⟨va, h1, h2, h3⟩ := c_vAt h
  have ok : ∀ r, r = (spDiffers v w s).1 → Rq (some (r, μ, 0, 0)) (cQ B 10 25 μ (spDiffers v w s)) := fun r hr => .ret (cQ.lo h rfl hr (fun _ _ => sameC.rf) (Nat.le_refl _) (by decide) (by decide))
  generalize spDiffers v w s = y at ok y1 y2 ⊢
  unfold fX10_differs
  rw [jck_of (by rw [cT0 hC]; rfl), h3 v, jcl_0, jck_of (by rw [cT0 hC]; rfl), h3 w, jcl_0]
  cases hv : vAt s v with
  | none => rw [hv] at y1; exact ok _ y1.symm
  | some t =>
    rw [hv] at y1
    have ht := h2 v t hv
    obtain ⟨q, cl, -⟩ := h1 t ht
    simp only [Option.map_some]
    rw [if_neg (by intro e; cases e)]
    dsimp only at y1
    cases hv2 : vAt s w with
    | none => rw [hv2] at y1; exact ok _ y1.symm
    | some t2 =>
      rw [hv2] at y1
      have ht2 := h2 w t2 hv2
      obtain ⟨q2, cl2, -⟩ := h1 t2 ht2
      simp only [Option.map_some]
      rw [if_neg (by intro e; cases e)]
      dsimp only at y1
      refine Rq.nc fun ν l0 z0 A0 n0 => ?_
      have clA : cL (B + 121) (jZ μ) true 24 ν (va t) q (txA s t) := cl.kp fun x _ h2 => l0 x h2
      have clB : cL (B + 121) (jZ μ) true 24 ν (va t2) q2 (txA s t2) := cl2.kp fun x _ h2 => l0 x h2
      simp only [jck_true, jde_is, jlt_is, jcl_0, beq_self_eq_true, jT_sI, jT_sJ, jP_sI, jP_sJ, jJ_sI, jI_sJ, jZ_sI, jZ_sJ, clA.2.2.1]
      refine Rq.cl (c_addU (hg t ht) (hg t2 ht2) (show jZ μ ≤ jZ μ + 1 by omega) (by omega) (by omega) clA clB A0) fun _ μ1 c1 m1 ⟨e1, e2, l1, z1, A1, v1⟩ => ?_
      subst e1 e2
      have clA1 := clA.kp (ν := μ1) fun x _ h2 => l1 x h2
      have clB1 := clB.kp (ν := μ1) fun x _ h2 => l1 x h2
      simp only [jck_true, jde_is, jlt_is, jcl_0, beq_self_eq_true, jT_sI, jT_sJ, jP_sI, jP_sJ, jJ_sI, jI_sJ, jZ_sI, jZ_sJ, clB1.2.2.1]
      refine Rq.cl (c_addU (hg t2 ht2) (hg t ht) (show jZ μ ≤ jZ μ + 1 by omega) (by omega) (by omega) clB1 clA1 A1) fun _ μ2 c2 m2 ⟨e1, e2, l2, z2, A2, v2⟩ => ?_
      subst e1 e2
      have sa : ∀ x, x < jZ μ → sameC μ μ2 x := fun x hx => ((l0 x hx).tr (l1 x hx)).tr (l2 x hx)
      have hC2 := (ws_l h sa (by omega)).1
      obtain ⟨μ3, e3, l3, A3, e4⟩ := c_wl (p' := fun c => decide (kys c (txA s t) [] ≠ kys c (txA s t2) [])) h hw sa (by omega) A2 (by omega) (fun c hc => by
        rw [v2 c hc, v1 c hc, ← unl_eq]
        have : hasC (jJ ν (jZ μ + 1)) c = false := by unfold hasC; rw [n0]; unfold lb; simp
        rw [this, Bool.false_or])
      simp only [jck_true, jde_is, jlt_is, jcl_0, beq_self_eq_true, jT_sI, jT_sJ, jP_sI, jP_sJ, jJ_sI, jI_sJ, jZ_sI, jZ_sJ, cT0 hC2, A2.1, e3, A3.1, e4]
      refine .ret (cQ.lo h y2 ?_ (fun x hx => (sa x hx).tr (l3.1 x hx)) (by rw [l3.2]; omega) (by decide) (by decide))
      rw [y1]; rfl
