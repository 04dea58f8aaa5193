/-! the class: takeOff -/
def cTw (B : Nat) (μ : JM) (s : SS) (va : Nat → Nat) : Prop := (∀ t, t < (sTx s).length → cVr B (jZ μ) μ (va t) (txA s t) t) ∧ (∀ v, v < 4 → jP μ (B + 69) v = (sV s v).map va ∧ ∀ t, sV s v = some t → t < (sTx s).length) ∧ ∀ i, i < (sR s).length → cRe B μ va (jP μ (B + 70) i) ((sR s).getD i (0, none, 0)) ∧ ∀ t, ((sR s).getD i (0, none, 0)).2.1 = some t → t < (sTx s).length
theorem vat_w {B : Nat} {μ : JM} {s : SS} {va : Nat → Nat} (hC : CT B μ) (h2 : ∀ v, v < 4 → jP μ (B + 69) v = (sV s v).map va) {u : Nat} (hu : u < 4) : fX10_versionAt B (nI u) μ = some ((sV s u).map va, μ, 0, 0) := by
  unfold fX10_versionAt
  rw [if_neg (nI_pos (by omega)), if_pos (show nI u < 4 from nI_lt (b := 4) hu (by decide))]
  simp only [jck_true, jde_is, jlt_is, jcl_0, beq_self_eq_true, jT_sI, jT_sJ, jP_sI, jP_sJ, jJ_sI, jI_sJ, jZ_sI, jZ_sJ, cT0 hC, cP0_8 hC, cT69 hC, jin_nI hu (show 4 < 2 ^ 31 by decide), nI_clamp (show u < 2 ^ 31 by omega), h2 u hu]
theorem ct_p {B k x : Nat} {μ : JM} {v : Option Nat} (h : CT B μ) (hx : ∀ e ∈ cptr, e.1 ≠ x) : CT B (jsP μ (B + x) k v) := by
  refine ⟨h.1, fun e he => ?_, h.2.2⟩
  rw [jP_sP_ne (by have := hx e he; omega)]; exact h.2.1 e he
theorem cVr.p {B k x a t : Nat} {μ : JM} {v : Option Nat} {cls : List Cl} (h : cVr B (jZ μ) μ a cls t) (hx : x < 121) : cVr B (jZ μ) (jsP μ (B + x) k v) a cls t := by
  obtain ⟨q, h1, h2⟩ := h
  exact ⟨q, h1.kp fun y q1 _ => sameC.sP (by omega), h2⟩
theorem cRe.p {B k x : Nat} {μ : JM} {va : Nat → Nat} {p v : Option Nat} {e : Nat × Option Nat × Nat} (h : cRe B μ va p e) (hx : x < 121) : cRe B (jsP μ (B + x) k v) va p e := by
  obtain ⟨a, h1, h2, h3, h4, h5, h6⟩ := h
  exact ⟨a, h1, h2, h3, h4, by rw [jP_sP_ne (by omega)]; exact h5, h6⟩
theorem c_takeOff {B : Nat} {μ : JM} {s : SS} (h : cSt B μ s) (hi : gRi s) (hT : (sTx s).length < 600) : Rq (fX10_takeOff B μ) (cQ B 0 0 μ (spTakeOff s)) := by
  have hC := h.1
  have hB := hC.2.2
  obtain ⟨n1, n2, n3, n4, n5⟩ := h.2.2.2.2.2.1
  unfold fX10_takeOff
  rw [jck_of (by rw [cT0 hC]; rfl), n2]
  rcases List.eq_nil_or_concat (sR s) with e | ⟨R, e, eR⟩
  · have y : spTakeOff s = (0, s) := by unfold spTakeOff; rw [e]; rfl
    rw [y, if_neg (by rw [e]; decide)]
    exact .ret ⟨Nat.le_refl _, Nat.le_refl _, rfl, h, kM.rf⟩
  · have eR : sR s = R ++ [e] := by rw [eR]; simp
    have y : spTakeOff s = if sV s e.1 = some e.2.2 then (1, wV (wR s R) (fun u => if u = e.1 then e.2.1 else sV s u)) else (0, wR s R) := by
      unfold spTakeOff; rw [eR]; simp
    rw [y]
    have hl : (sR s).length = R.length + 1 := by rw [eR]; simp
    rw [if_pos (show (0 : Int32) < nI (sR s).length from nI_lt (a := 0) (by omega) (by omega))]
    have em : nI (sR s).length - 1 = nI R.length := by rw [hl, ← nI_1, Int32.sub_eq_add_neg, Int32.add_assoc, show (1 : Int32) + (-1) = 0 from by decide, Int32.add_zero]
    have s3 : cs B (jZ μ) [0] μ (jsI μ B 14 (nI R.length)) := cs.sI (i := 0) (by decide)
    have N3 : ∀ k, jI (jsI μ B 14 (nI R.length)) B k = if k = 14 then nI R.length else jI μ B k := fun k => by
      rw [jI_sI]
      by_cases c : k = 14
      · rw [if_pos ⟨rfl, c⟩, if_pos c]
      · rw [if_neg (fun t => c t.2), if_neg c]
    rw [em]
    simp only [jlt_is]
    have T3 : jT (jsI μ B 14 (nI R.length)) = jT μ := rfl
    have Z3 : jZ (jsI μ B 14 (nI R.length)) = jZ μ := rfl
    rw [← T3]
    generalize jsI μ B 14 (nI R.length) = μ3 at s3 N3 T3 Z3 ⊢
    have hC3 := s3.ct hC hB
    have e14 : jI μ3 B 14 = nI R.length := by rw [N3, if_pos rfl]
    simp only [jck_true, jde_is, jlt_is, jcl_0, beq_self_eq_true, jT_sI, jT_sJ, jP_sI, jP_sJ, jJ_sI, jI_sJ, jZ_sI, jZ_sJ, cP0_9 hC3, cT70 hC3, e14, jin_nI (show R.length < 256 by omega) (show 256 < 2 ^ 31 by decide), nI_clamp (show R.length < 2 ^ 31 by omega)]
    obtain ⟨va, h1, h2, h3⟩ : ∃ va, cTw B μ3 s va := h.2.2.2.2.1.kr s3.tocr (by decide) hB
    have ge : (sR s).getD R.length (0, none, 0) = e := by rw [eR]; simp [List.getD]
    obtain ⟨E, E2⟩ := h3 R.length (by omega)
    rw [ge] at E E2
    obtain ⟨a, a1, a2, a3, a4, a5, a6⟩ := id E
    obtain ⟨i1, i2, i3⟩ := hi e (by rw [eR]; simp)
    rw [if_neg (by rw [a1]; intro z; cases z)]
    have hC4 : CT B (jsP μ3 (B + 70) R.length none) := ct_p hC3 (by decide)
    -- the state without the last rider
    have w : ∀ (ρ : JM) (s' : SS), jI ρ = jI μ3 → jJ ρ = jJ μ3 → jT ρ = jT μ3 → CT B ρ → cTV B ρ s' → sF s' = sF s → sP s' = sP s → sA s' = sA s → sTp s' = sTp s → sO s' = sO s → sTx s' = sTx s → sR s' = R → sQd s' = sQd s → sQb s' = sQb s → sW s' = sW s → sFr s' = sFr s → cSt B ρ s' := by
      intro ρ s' f1 f2 f3 f4 f5 f6 f7 f8 f9 g1 g2 g3 g4 g5 g6 g7
      obtain ⟨b1, b2, b3, b4, b5, b6, b7, b8⟩ := h
      have r := s3.tocr
      have x2 := b2.kr r hB (by decide) (by rw [r.iI (by omega) (by decide)]; exact b2.2.2.2.2)
      have x3 := b3.kr r hB (by decide) (by decide)
      have x4 := b4.kr r hB (by decide) (by decide)
      have x7 := b7.kr r hB (by decide)
      have x8 := b8.kr r hB (by decide) (by decide)
      refine ⟨f4, ?_, ?_, ?_, f5, ?_, ?_, ?_⟩
      · unfold cWd cLang cW at *; rw [f1, f2, f6, f7, f8]; exact x2
      · unfold cTp cS at *; rw [f1, f9]; exact x3
      · unfold cOu cS at *; rw [f1, g1]; exact x4
      · unfold cNu; rw [f1, g2, g3, g4, g5, N3, N3, N3, N3, if_neg (by decide), if_pos rfl, if_neg (by decide), if_neg (by decide)]
        exact ⟨n1, rfl, by omega, n4, n5⟩
      · unfold cWo at *; rw [f2, g6]; exact x7
      · unfold cCa at *; rw [f1, f2, g7]; exact x8
    have V4 : ∀ t, t < (sTx s).length → cVr B (jZ μ3) (jsP μ3 (B + 70) R.length none) (va t) (txA s t) t := fun t ht => (h1 t ht).p (by decide)
    have V69 : ∀ v, v < 4 → jP (jsP μ3 (B + 70) R.length none) (B + 69) v = (sV s v).map va := fun v hv => by rw [jP_sP_ne (by omega)]; exact (h2 v hv).1
    have R4 : ∀ i, i < R.length → cRe B (jsP μ3 (B + 70) R.length none) va (jP (jsP μ3 (B + 70) R.length none) (B + 70) i) (R.getD i (0, none, 0)) ∧ ∀ t, (R.getD i (0, none, 0)).2.1 = some t → t < (sTx s).length := fun i hi => by
      have gi : (sR s).getD i (0, none, 0) = R.getD i (0, none, 0) := by rw [eR]; simp [List.getD, List.getElem?_append_left hi]
      have := h3 i (by omega)
      rw [gi] at this
      rw [jP_sP, if_neg (fun z => by have := z.2; omega)]
      exact ⟨this.1.p (by decide), this.2⟩
    have TV4 : cTV B (jsP μ3 (B + 70) R.length none) (wR s R) := ⟨va, V4, fun v hv => ⟨V69 v hv, (h2 v hv).2⟩, R4⟩
    have S4 : cSt B (jsP μ3 (B + 70) R.length none) (wR s R) := w _ _ rfl rfl rfl hC4 TV4 rfl rfl rfl rfl rfl rfl rfl rfl rfl rfl rfl
    have k4 : kM B μ (jsP μ3 (B + 70) R.length none) := (s3.km hB hB (by decide)).tr ⟨Nat.le_refl _, fun i _ => sameC.sP (by omega)⟩
    have j0 : jI (jsP μ3 (B + 70) R.length none) a 0 = nI e.1 := a4
    simp only [jck_true, jde_is, jlt_is, jcl_0, beq_self_eq_true, jT_sI, jT_sJ, jP_sI, jP_sJ, jJ_sI, jI_sJ, jZ_sI, jZ_sJ, a1, a3, j0]
    have vw := vat_w (s := s) hC4 V69 i1
    rw [vw, jcl_0]
    cases hv : sV s e.1 with
    | none =>
      rw [if_pos (show Option.map va none = none from rfl), if_neg (show ¬ (none : Option Nat) = some e.2.2 from fun z => by cases z)]
      exact .ret ⟨Nat.le_refl _, Nat.le_refl _, rfl, S4, k4⟩
    | some t =>
      have ht := (h2 e.1 i1).2 t hv
      obtain ⟨q, cl, ser⟩ := V4 t ht
      have p1 : jP (jsP μ3 (B + 70) R.length none) a 1 = e.2.1.map va := by rw [jP_sP_ne (by omega)]; exact a5
      have i2' : jI (jsP μ3 (B + 70) R.length none) a 2 = nI e.2.2 := a6
      have t6 : (jT (jsP μ3 (B + 70) R.length none) a).1 = 6 := a3
      rw [if_neg (show ¬ Option.map va (some t) = none from fun z => by cases z)]
      simp only [Option.map_some, jck_true, jde_is, jlt_is, jcl_0, beq_self_eq_true, jT_sI, jT_sJ, jP_sI, jP_sJ, jJ_sI, jI_sJ, jZ_sI, jZ_sJ, cl.2.2.1, t6, ser, i2', j0]
      by_cases q1 : t = e.2.2
      · rw [if_pos (show nI t = nI e.2.2 by rw [q1]), if_pos (show some t = some e.2.2 by rw [q1])]
        have kd : jkd (jsP μ3 (B + 70) R.length none) (e.2.1.map va) 9 = true := by
          cases hb : e.2.1 with
          | none => rfl
          | some b =>
            obtain ⟨q', cl', -⟩ := V4 b (i3 b hb)
            show ((jT _ (va b)).1 == 9) = true
            rw [cl'.2.2.1]; rfl
        simp only [jck_true, jde_is, jlt_is, jcl_0, beq_self_eq_true, jT_sI, jT_sJ, jP_sI, jP_sJ, jJ_sI, jI_sJ, jZ_sI, jZ_sJ, cT0 hC4, cP0_8 hC4, cT69 hC4, jin_nI i1 (show 4 < 2 ^ 31 by decide), nI_clamp (show e.1 < 2 ^ 31 by omega), kd, p1]
        refine Rq.ret ?_
        refine ⟨Nat.le_refl _, Nat.le_refl _, rfl, w _ _ rfl rfl rfl (ct_p hC4 (by decide)) ?_ rfl rfl rfl rfl rfl rfl rfl rfl rfl rfl rfl, k4.tr ⟨Nat.le_refl _, fun i _ => sameC.sP (by omega)⟩⟩
        have V5 : ∀ t, t < (sTx s).length → cVr B (jZ μ3) (jsP (jsP μ3 (B + 70) R.length none) (B + 69) e.1 (e.2.1.map va)) (va t) (txA s t) t := fun t ht => cVr.p (μ := jsP μ3 (B + 70) R.length none) (x := 69) (k := e.1) (v := e.2.1.map va) (V4 t ht) (by decide)
        refine ⟨va, V5, fun v hv => ?_, fun i hi => ?_⟩
        · show jP (jsP _ (B + 69) e.1 _) (B + 69) v = (if v = e.1 then e.2.1 else sV s v).map va ∧ ∀ t, (if v = e.1 then e.2.1 else sV s v) = some t → t < (sTx s).length
          rw [jP_sP]
          by_cases c : v = e.1
          · rw [if_pos ⟨rfl, c⟩, if_pos c]; exact ⟨rfl, i3⟩
          · rw [if_neg (fun z => c z.2), if_neg c]; exact ⟨V69 v hv, (h2 v hv).2⟩
        · have g := R4 i hi
          rw [jP_sP_ne (by omega)]
          exact ⟨cRe.p (μ := jsP μ3 (B + 70) R.length none) (x := 69) (k := e.1) (v := e.2.1.map va) g.1 (by decide), g.2⟩
      · rw [if_neg (show ¬ nI t = nI e.2.2 from fun z => q1 (by have := congrArg Int32.toInt z; rw [nI_toInt (by omega), nI_toInt (by omega)] at this; omega)), if_neg (show ¬ some t = some e.2.2 from fun z => q1 (by injection z))]
        exact .ret ⟨Nat.le_refl _, Nat.le_refl _, rfl, S4, k4⟩
