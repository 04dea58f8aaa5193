/-! the class: quarrel, the loops -/
def qO : Option (Nat × Nat × Nat) → Int32
  | none => -1
  | some e => nI e.1
def QS (B : Nat) (μ0 μ : JM) (st : Option (Nat × Nat × Nat)) : Prop := cs B (jZ μ0) [0] μ0 μ ∧ jI μ B 13 = jI μ0 B 13 ∧ jI μ B 14 = jI μ0 B 14 ∧ jI μ B 15 = (match st with | none => jI μ0 B 15 | some e => nI e.2.1) ∧ jI μ B 16 = (match st with | none => jI μ0 B 16 | some e => nI e.2.2)
theorem QS.lo {B : Nat} {μ0 μ ν : JM} {st : Option (Nat × Nat × Nat)} (h : QS B μ0 μ st) (l : lo (jZ μ0) μ ν) (hB : B < jZ μ0) : QS B μ0 ν st := by
  obtain ⟨h1, h2, h3, h4, h5⟩ := h
  have e := (l.1 B hB).2.1
  exact ⟨⟨by rw [l.2]; exact h1.1, fun a ha => (l.1 a ha).1.trans (h1.2.1 a ha), fun a ha => (l.1 a ha).2.2.2.trans (h1.2.2.1 a ha), fun a ha g => ⟨(l.1 a ha).2.1.trans (h1.2.2.2 a ha g).1, (l.1 a ha).2.2.1.trans (h1.2.2.2 a ha g).2⟩⟩, by rw [e]; exact h2, by rw [e]; exact h3, by rw [e]; exact h4, by rw [e]; exact h5⟩
theorem QS.up {B : Nat} {μ0 μ : JM} {st : Option (Nat × Nat × Nat)} (c d b : Nat) (h : QS B μ0 μ st) : QS B μ0 (jsI (jsI μ B 15 (nI d)) B 16 (nI b)) (some (c, d, b)) := by
  obtain ⟨h1, h2, h3, -, -⟩ := h
  have k : cs B (jZ μ0) [0] μ (jsI (jsI μ (B + 0) 15 (nI d)) (B + 0) 16 (nI b)) := (cs.sI (i := 0) (by decide)).tr (cs.sI (i := 0) (by decide))
  have e : ∀ j, jI (jsI (jsI μ B 15 (nI d)) B 16 (nI b)) B j = if j = 16 then nI b else if j = 15 then nI d else jI μ B j := fun j => by
    rw [jI_sI, jI_sI]; simp only [true_and]
  exact ⟨h1.tr k, by rw [e]; exact h2, by rw [e]; exact h3, by rw [e]; rfl, by rw [e]; rfl⟩
theorem c_wl2 {B a b z : Nat} {μ0 μ : JM} {s : SS} {p' : Nat → Bool} (h : cSt B μ0 s) (hw : gW s) (hC : CT B μ) (e72 : ∀ i, i < 4 → jJ μ (B + 72) i = sW s i) (hA : CAS μ a b) (hb : z ≤ b) (hp : ∀ c, c < 256 → hasC (jJ μ b) c = p' c) : ∃ ν, fX1_and a (jP μ B 10) μ = some ((), ν, 0, 0) ∧ lo z μ ν ∧ CAS ν a b ∧ fX1_least a ν = some (lst (fun c => hasC (sW s) c && p' c) (nCs s) 0, ν, 0, 0) := by
  have hA2 : CAS (s4 μ b (fun i => jJ μ b i &&& jJ μ (B + 72) i)) a b := hA
  refine ⟨_, by rw [cP0_10 hC, c_and hA (ca_w hC)], lo.s4 hb, hA2, ?_⟩
  rw [c_least hA2 (fun i _ => rfl)]
  have := lst_w h hw (p := hasC (fun i => jJ (s4 μ b (fun i => jJ μ b i &&& jJ μ (B + 72) i)) b i)) (p' := p') (fun c hc => by
    rw [show (fun i => jJ (s4 μ b (fun i => jJ μ b i &&& jJ μ (B + 72) i)) b i) = jJ (s4 μ b (fun i => jJ μ b i &&& jJ μ (B + 72) i)) b from rfl, ha_s4 hc, ← hp c hc]
    unfold hasC
    rw [lb_and, e72 _ (by omega)])
  exact congrArg (fun r => some (r, _, 0, 0)) this
theorem qi_l {B v q a w d : Nat} {cls : List Cl} {μ0 : JM} {s : SS} {rec27 : Nat → Option Nat → Option Nat → Int32 → Int32 → JM → JO Int32} (h : cSt B μ0 s) (hw : gW s) (cl0' : cL (B + 121) (jZ μ0) true 24 μ0 v q cls) (hb : jZ μ0 ≤ w) (hd : d < cls.length) : ∀ (fu b : Nat) (μ : JM) (st : Option (Nat × Nat × Nat)), QS B μ0 μ st → CAS μ a w → qI s cls d b st → b ≤ cls.length → cls.length - b < fu → ∃ st' μ', fX10_quarrel_b39 rec27 fu B (some v) (some a) (qO st) (nI d) (nI b) μ = rec27 B (some v) (some a) (qO st') (nI (d + 1)) μ' ∧ QS B μ0 μ' st' ∧ CAS μ' a w ∧ qI s cls (d + 1) 0 st' ∧ jZ μ' = jZ μ := by
  intro fu
  induction fu with
  | zero => intro b μ st _ _ _ _ q; omega
  | succ fu ih =>
    intro b μ st S hA I hb2 hf
    have hB := h.1.2.2
    have h24 := cl0'.2.2.2.2.1
    have cl : cL (B + 121) (jZ μ0) true 24 μ v q cls := cl0'.ke S.1 (by decide) (Nat.le_refl _) (Nat.le_refl _)
    rw [fX10_quarrel_b39]
    simp only [jck_true, jde_is, jlt_is, jcl_0, beq_self_eq_true, jT_sI, jT_sJ, jP_sI, jP_sJ, jJ_sI, jI_sJ, jZ_sI, jZ_sJ, cl.2.2.1, cl.2.2.2.1]
    by_cases c : b = cls.length
    · rw [if_pos (nI_le (by omega) (by omega)), nI_1]
      subst c
      exact ⟨st, μ, rfl, S, hA, qI_row I, rfl⟩
    · have hb3 : b < cls.length := by omega
      rw [if_neg (nI_ge hb3 (by omega))]
      obtain ⟨μ1, e1, l1, A1, p1⟩ := c_clash cl hA hb hd hb3
      have S1 := S.lo l1 (by omega)
      have hC1 := S1.1.ct h.1 hB
      obtain ⟨μ2, e2, l2, A2, e3⟩ := c_wl2 h hw hC1 (fun i hi => by rw [S1.1.iJ (by omega) (by decide)]; exact h.2.2.2.2.2.2.1 i hi) A1 hb p1
      have S2 := S1.lo l2 (by omega)
      have hC2 := S2.1.ct h.1 hB
      rw [e1, jcl_0]
      simp only [jck_true, jde_is, jlt_is, jcl_0, beq_self_eq_true, jT_sI, jT_sJ, jP_sI, jP_sJ, jJ_sI, jI_sJ, jZ_sI, jZ_sJ, cT0 hC1, A1.1, e2, A2.1, e3]
      rw [lst_N]
      have I2 := qI_step I hd hb3
      have stay : qU st d b (lstN (fun c => hasC (sW s) c && clp (cls.getD d cl0) (cls.getD b cl0) c) (nCs s) 0) = st → ∃ st' μ', fX10_quarrel_b106 rec27 (fX10_quarrel_b39 rec27 fu) B (some v) (some a) (qO st) (nI d) (nI b) μ2 = rec27 B (some v) (some a) (qO st') (nI (d + 1)) μ' ∧ QS B μ0 μ' st' ∧ CAS μ' a w ∧ qI s cls (d + 1) 0 st' ∧ jZ μ' = jZ μ := by
        intro e
        rw [e] at I2
        rw [fX10_quarrel_b106, nI_1]
        obtain ⟨st', μ', g1, g2, g3, g4, g5⟩ := ih (b + 1) μ2 st S2 A2 I2 (by omega) (by omega)
        exact ⟨st', μ', g1, g2, g3, g4, by rw [g5, l2.2, l1.2]⟩
      have go : ∀ c0, qU st d b (lstN (fun c => hasC (sW s) c && clp (cls.getD d cl0) (cls.getD b cl0) c) (nCs s) 0) = some (c0, d, b) → ∃ st' μ', fX10_quarrel_b90 rec27 (fX10_quarrel_b39 rec27 fu) B (some v) (some a) (nI d) (nI b) (nI c0) μ2 = rec27 B (some v) (some a) (qO st') (nI (d + 1)) μ' ∧ QS B μ0 μ' st' ∧ CAS μ' a w ∧ qI s cls (d + 1) 0 st' ∧ jZ μ' = jZ μ := by
        intro c0 e
        rw [e] at I2
        rw [fX10_quarrel_b90]
        simp only [jck_true, jde_is, jlt_is, jcl_0, beq_self_eq_true, jT_sI, jT_sJ, jP_sI, jP_sJ, jJ_sI, jI_sJ, jZ_sI, jZ_sJ, cT0 hC2, fX10_quarrel_b106, nI_1]
        obtain ⟨st', μ', g1, g2, g3, g4, g5⟩ := ih (b + 1) _ _ (S2.up c0 d b) A2 I2 (by omega) (by omega)
        exact ⟨st', μ', g1, g2, g3, g4, by rw [g5]; show jZ μ2 = _; rw [l2.2, l1.2]⟩
      cases hN : lstN (fun c => hasC (sW s) c && clp (cls.getD d cl0) (cls.getD b cl0) c) (nCs s) 0 with
      | none =>
        rw [hN] at stay
        dsimp only
        rw [if_pos rfl]
        exact stay rfl
      | some c0 =>
        rw [hN] at stay go
        have n256 := nCs_256 h
        have c256 := lstN_lt _ _ _ hN
        dsimp only
        rw [if_neg (nI_m1 (by omega))]
        cases st with
        | none =>
          rw [if_pos (show qO none = -1 from rfl)]
          exact go c0 rfl
        | some e =>
          have e256 : e.1 < nCs s := I.2.1.2.2.1
          rw [if_neg (show ¬ qO (some e) = -1 from nI_m1 (by omega))]
          by_cases q1 : e.1 ≤ c0
          · rw [if_pos (show qO (some e) ≤ nI c0 from nI_le q1 (by omega))]
            exact stay (by unfold qU; dsimp only; rw [if_pos q1])
          · rw [if_neg (show ¬ qO (some e) ≤ nI c0 from nI_ge (by omega) (by omega))]
            exact go c0 (by unfold qU; dsimp only; rw [if_neg q1])
theorem qo_l {B v q a w : Nat} {cls : List Cl} {μ0 : JM} {s : SS} (h : cSt B μ0 s) (hw : gW s) (cl0' : cL (B + 121) (jZ μ0) true 24 μ0 v q cls) (hb : jZ μ0 ≤ w) : ∀ (fu d : Nat) (μ : JM) (st : Option (Nat × Nat × Nat)), QS B μ0 μ st → CAS μ a w → qI s cls d 0 st → d ≤ cls.length → cls.length - d < fu → ∃ st' μ', fX10_quarrel_b27 fu B (some v) (some a) (qO st) (nI d) μ = some (qO st', μ', 0, 0) ∧ QS B μ0 μ' st' ∧ qI s cls cls.length 0 st' ∧ jZ μ' = jZ μ := by
  intro fu
  induction fu with
  | zero => intro d μ st _ _ _ _ q; omega
  | succ fu ih =>
    intro d μ st S hA I hd hf
    have h24 := cl0'.2.2.2.2.1
    have cl : cL (B + 121) (jZ μ0) true 24 μ v q cls := cl0'.ke S.1 (by decide) (Nat.le_refl _) (Nat.le_refl _)
    rw [fX10_quarrel_b27]
    simp only [jck_true, jde_is, jlt_is, jcl_0, beq_self_eq_true, jT_sI, jT_sJ, jP_sI, jP_sJ, jJ_sI, jI_sJ, jZ_sI, jZ_sJ, cl.2.2.1, cl.2.2.2.1]
    by_cases c : d = cls.length
    · rw [if_pos (nI_le (by omega) (by omega))]
      subst c
      exact ⟨st, μ, rfl, S, I, rfl⟩
    · have hd2 : d < cls.length := by omega
      rw [if_neg (nI_ge hd2 (by omega))]
      obtain ⟨st1, μ1, e1, S1, A1, I1, z1⟩ := qi_l (rec27 := fX10_quarrel_b27 fu) h hw cl0' hb hd2 jfuel 0 μ st S hA I (Nat.zero_le _) (jfuel_gt (by omega))
      have e1' : fX10_quarrel_b39 (fX10_quarrel_b27 fu) jfuel B (some v) (some a) (qO st) (nI d) 0 μ = _ := e1
      rw [e1']
      obtain ⟨st2, μ2, e2, S2, I2, z2⟩ := ih (d + 1) μ1 st1 S1 A1 I1 (by omega) (by omega)
      exact ⟨st2, μ2, e2, S2, I2, by rw [z2, z1]⟩
theorem c_quarrel {B : Nat} {μ : JM} {s : SS} (v : Int32) (h : cSt B μ s) (hw : gW s) : Rq (fX10_quarrel B v μ) (cQ B 2 5 μ (spQuarrel v s)) := by
  have hC := h.1
  have hB := hC.2.2
  obtain ⟨va, h1, h2, h3⟩ := c_vAt h
  unfold fX10_quarrel
  rw [jck_of (by rw [cT0 hC]; rfl), h3 v, jcl_0]
  cases hv : vAt s v with
  | none =>
    have e : spQuarrel v s = (-2, s) := by unfold spQuarrel; rw [hv]
    rw [e]
    exact .ret (cQ.lo h rfl rfl (fun _ _ => sameC.rf) (Nat.le_refl _) (by decide) (by decide))
  | some t =>
    obtain ⟨q, cl, -⟩ := h1 t (h2 v t hv)
    simp only [Option.map_some]
    rw [if_neg (by intro e; cases e)]
    refine Rq.nc fun ν l0 z0 hA0 n0 => ?_
    have c0 : cs B (jZ μ) [0] μ ν := same_cs l0 rfl (by omega)
    have eB := (l0 B (by omega)).2.1
    have S0 : QS B μ ν none := ⟨c0, by rw [eB], by rw [eB], by rw [eB], by rw [eB]⟩
    have I0 : qI s (txA s t) 0 0 none := fun d b c z => by unfold qB at z; omega
    obtain ⟨st, ρ, g1, g2, g3, g4⟩ := qo_l h hw cl (show jZ μ ≤ jZ μ + 1 by omega) jfuel 0 ν none S0 hA0 I0 (Nat.zero_le _) (jfuel_gt (by have := cl.2.2.2.2.1; omega))
    rw [qI_end hv g3]
    have r := g2.1.tocr
    obtain ⟨b1, b2, b3, b4, b5, b6, b7, b8⟩ := h
    have st1 : cSt B ρ (qW s st).2 := by
      have hn : cNu B ρ (qW s st).2 := by
        obtain ⟨u1, u2, u3, u4, u5⟩ := b6
        obtain ⟨-, k1, k2, k3, k4⟩ := g2
        cases st with
        | none => exact ⟨by rw [k1]; exact u1, by rw [k2]; exact u2, u3, by rw [k3]; exact u4, by rw [k4]; exact u5⟩
        | some e => exact ⟨by rw [k1]; exact u1, by rw [k2]; exact u2, u3, k3, k4⟩
      have x2 := b2.kr r hB (by decide) (by rw [r.iI (by omega) (by decide)]; exact b2.2.2.2.2)
      have x3 := b3.kr r hB (by decide) (by decide)
      have x4 := b4.kr r hB (by decide) (by decide)
      have x5 := b5.kr r (by decide) hB
      have x7 := b7.kr r hB (by decide)
      have x8 := b8.kr r hB (by decide) (by decide)
      cases st with
      | none => exact ⟨r.ct b1 hB, x2, x3, x4, x5, hn, x7, x8⟩
      | some e => exact ⟨r.ct b1 hB, x2, x3, x4, x5, hn, x7, x8⟩
    refine ⟨_, ρ, 0, 0, g1, by decide, by decide, ?_, st1, r.km hB hB (by decide)⟩
    cases st <;> rfl
