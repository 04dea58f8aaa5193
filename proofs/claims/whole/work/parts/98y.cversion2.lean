/-! the class: version -/
theorem cTV.new {B z u : Nat} {ν : JM} {s : SS} {cls : List Cl} {P A : List Int64} (h : cTV B ν s) (hB : B + 121 ≤ jZ ν) (hn : cVr B (jZ ν) ν z cls (sTx s).length) : cTV B (jsP ν (B + 69) u (some z)) (wTx s P A cls u) := by
  obtain ⟨va, h1, h2, h3⟩ := h
  have eT : sTx (wTx s P A cls u) = sTx s ++ [cls] := rfl
  have eR : sR (wTx s P A cls u) = sR s := rfl
  have eV : ∀ v, sV (wTx s P A cls u) v = if v = u then some (sTx s).length else sV s v := fun v => rfl
  have eA : ∀ t, t < (sTx s).length → txA (wTx s P A cls u) t = txA s t := fun t ht => by unfold txA; rw [eT]; simp [List.getD, List.getElem?_append_left ht]
  have mp : ∀ (o : Option Nat), (∀ t, o = some t → t < (sTx s).length) → o.map (fun t => if t = (sTx s).length then z else va t) = o.map va := by
    intro o ho
    cases o with
    | none => rfl
    | some t => have := ho t rfl; simp only [Option.map_some]; rw [if_neg (by omega)]
  have D : ∀ x, x ≠ B + 69 → sameC ν (jsP ν (B + 69) u (some z)) x := fun x hx => sameC.sP hx
  have kV : ∀ a c t, cVr B (jZ ν) ν a c t → cVr B (jZ ν) (jsP ν (B + 69) u (some z)) a c t := by
    rintro a c t ⟨q, k1, k2⟩
    exact ⟨q, k1.kp fun x q1 q2 => D x (by omega), k2⟩
  refine ⟨fun t => if t = (sTx s).length then z else va t, fun t ht => ?_, fun v hv => ?_, fun i hi => ?_⟩
  · rw [eT, List.length_append, List.length_singleton] at ht
    show cVr B (jZ ν) _ (if t = (sTx s).length then z else va t) _ t
    by_cases c : t = (sTx s).length
    · rw [if_pos c]
      have : txA (wTx s P A cls u) t = cls := by unfold txA; rw [eT, c]; simp [List.getD]
      rw [this, c]; exact kV _ _ _ hn
    · rw [if_neg c, eA t (by omega)]
      exact kV _ _ _ (h1 t (by omega))
  · rw [jP_sP, eV, eT, List.length_append, List.length_singleton]
    by_cases c : v = u
    · rw [if_pos ⟨rfl, c⟩, if_pos c]
      refine ⟨by simp, fun t ht => by injection ht; omega⟩
    · rw [if_neg (fun t => c t.2), if_neg c, mp _ (h2 v hv).2]
      exact ⟨(h2 v hv).1, fun t ht => by have := (h2 v hv).2 t ht; omega⟩
  · rw [eR] at hi ⊢
    obtain ⟨⟨a, a1, a2, a3, a4, a5, a6⟩, b⟩ := h3 i hi
    rw [jP_sP_ne (by omega), eT, List.length_append, List.length_singleton]
    obtain ⟨d1, d2, d3, d4⟩ := D a (by omega)
    exact ⟨⟨a, a1, a2, by rw [d1]; exact a3, by rw [d2]; exact a4, by rw [d4, mp _ b]; exact a5, by rw [d2]; exact a6⟩, fun t ht => by have := b t ht; omega⟩
theorem dL.vr {B z : Nat} {ν : JM} {cls : List Cl} {n : Nat} (h : dL z (nI n) ν cls) (hz : B + 121 ≤ z) (hh : z + 2 + 4 * cls.length ≤ jZ ν) : cVr B (jZ ν) ν z cls n := ⟨z + 1, h.cl hz hh, h.2.1⟩
/-- what is kept of the state while texts are read -/
theorem cSt.rd {B : Nat} {μ ν : JM} {s : SS} {P A : List Int64} (h : cSt B μ s) (r : cr B (jZ μ) RDM μ ν) (h66 : jI ν (B + 66) 0 = 0) (w1 : cW B 11 6 ν P) (w2 : cW B 13 12 ν A) : CT B ν ∧ cLang B ν ∧ cW B 9 8 ν (sF s) ∧ cTp B ν s ∧ cOu B ν s ∧ cTV B ν s ∧ cNu B ν s ∧ cWo B ν s ∧ cCa B ν s := by
  obtain ⟨h1, h2, h3, h4, h5, h6, h7, h8⟩ := h
  have hB := h1.2.2
  exact ⟨r.ct h1 hB, cW.kr h2.1 r (by omega) (by decide) (by decide), h2.2.1.kr r (by omega) (by decide) (by decide), h3.kr r hB (by decide) (by decide), h4.kr r hB (by decide) (by decide), h5.kr r rdm_lt hB, h6.kr r hB (by decide), h7.kr r hB (by decide), h8.kr r hB (by decide) (by decide)⟩
/-- an answer of the class -/
def cQ (B C N : Nat) (μ : JM) (y : Int32 × SS) (r : Int32) (ν : JM) (c m : Nat) : Prop := c ≤ C ∧ m ≤ N ∧ r = y.1 ∧ cSt B ν y.2 ∧ kM B μ ν
theorem cs.km {B z : Nat} {as : List Nat} {μ ν : JM} (r : cs B z as μ ν) (hz : B + 121 ≤ z) (hj : B + 121 ≤ jZ μ) (ha : ∀ i ∈ as, i < 76) : kM B μ ν := r.tocr.km hz hj ha
theorem c_version {B : Nat} {μ : JM} {s : SS} (v : Int32) (h : cSt B μ s) : Rq (fX10_version B v μ) (cQ B 102 1300 μ (spVersion v s)) := by
  have hB := h.1.2.2
  unfold fX10_version
  rw [jck_of (by rw [cT0 h.1]; rfl)]
  refine Rq.cl0 (c_useTape h) fun _ μ1 ⟨s1, z1, h1, n, a1⟩ => ?_
  have hC1 := h1.1
  have k1 : kM B μ μ1 := s1.km hB hB (by decide)
  have hF1 := h1.2.1.2.1
  have eF : sF (wTp s []) = sF s := rfl
  simp only [jck_true, jde_is, jlt_is, jcl_0, beq_self_eq_true, jT_sI, jT_sJ, jP_sI, jP_sJ, jJ_sI, jI_sJ, jZ_sI, jZ_sJ, cT0 hC1, cP0_3 hC1, cT9 hC1, hF1.1]
  rw [eF] at hF1 ⊢
  unfold spVersion
  by_cases q1 : sF s = []
  · rw [if_pos q1, if_pos (by rw [q1]; rfl)]
    exact .ret ⟨by omega, by omega, rfl, h1, k1⟩
  · have hl : 0 < (sF s).length := List.length_pos_iff.mpr q1
    have := hF1.2.1
    rw [if_neg q1, if_neg (nI_ne0 hl (by omega))]
    cases hv : inR v 4 with
    | none =>
      by_cases c : v < 0
      · rw [if_pos c]; exact .ret ⟨by omega, by omega, rfl, h1, k1⟩
      · rw [if_neg c]
        obtain ⟨j, hj, rfl⟩ := nI_of c
        have : ¬ j < 4 := fun t => by
          unfold inR at hv
          rw [if_pos ⟨nI_pos' hj, by rw [nI_clamp hj]; exact t⟩] at hv
          cases hv
        rw [if_neg (show ¬ nI j < 4 from nI_nlt (b := 4) (by omega) hj)]
        exact .ret ⟨by omega, by omega, rfl, h1, k1⟩
    | some u =>
      obtain ⟨rfl, hu⟩ := inR_some hv
      rw [if_neg (nI_pos (by omega)), if_pos (show nI u < 4 from nI_lt (b := 4) hu (by decide))]
      simp only [jck_true, jde_is, jlt_is, jcl_0, beq_self_eq_true, jT_sI, jT_sJ, jP_sI, jP_sJ, jJ_sI, jI_sJ, jZ_sI, jZ_sJ, cP0_7 hC1, cT18 hC1]
      have e13 : jI μ1 B 13 = nI (sTx s).length := h1.2.2.2.2.2.1.1
      rw [e13]
      have hB1 := hC1.2.2
      refine Rq.cl (c_readV (nI (sTx s).length) hC1 hF1 h1.2.1.2.2.1 h1.2.1.2.2.2.1 h1.2.1.2.2.2.2 a1) fun r μ2 c2 m2 ⟨b1, b2, b3, b4, b5⟩ => ?_
      have k2 : kM B μ1 μ2 := b3.km hB1 hB1 (by decide)
      rcases b5 with ⟨e, es, rfl, f, w1, w2⟩ | ⟨y, es, rfl, w1, w2, D, hh⟩
      · have es : sRead (Cd (sTp s)) (sF s) (sP s) (sA s) = .error e := es
        rw [if_pos rfl]
        obtain ⟨g1, g2, g3, g4, g5, g6, g7, g8, g9⟩ := h1.rd b3 b4 w1 w2
        simp only [jck_true, jde_is, jlt_is, jcl_0, beq_self_eq_true, jT_sI, jT_sJ, jP_sI, jP_sJ, jJ_sI, jI_sJ, jZ_sI, jZ_sJ, cT0 g1, cP0_6 g1, cT15 g1]
        rw [f.1, es]
        exact .ret ⟨by omega, by omega, rfl, ⟨g1, ⟨g2, g3, w1, w2, b4⟩, g4, g5, g6, g7, g8, g9⟩, k1.tr k2⟩
      · have es : sRead (Cd (sTp s)) (sF s) (sP s) (sA s) = .ok y := es
        rw [if_neg (by intro z; cases z)]
        obtain ⟨g1, g2, g3, g4, g5, g6, g7, g8, g9⟩ := h1.rd b3 b4 w1 w2
        have hB2 := g1.2.2
        have e13' : jI μ2 B 13 = nI (sTx s).length := g7.1
        rw [jck_of (by rw [cT0 g1]; rfl), es, e13', nI_1]
        simp only [jlt_is]
        have s3 : cs B (jZ μ2) [0] μ2 (jsI μ2 B 13 (nI ((sTx s).length + 1))) := cs.sI (i := 0) (by decide)
        have N3 : ∀ k, jI (jsI μ2 B 13 (nI ((sTx s).length + 1))) B k = if k = 13 then nI ((sTx s).length + 1) else jI μ2 B k := fun k => by
          rw [jI_sI]
          by_cases c : k = 13
          · rw [if_pos ⟨rfl, c⟩, if_pos c]
          · rw [if_neg (fun t => c t.2), if_neg c]
        have T3 : jT (jsI μ2 B 13 (nI ((sTx s).length + 1))) = jT μ2 := rfl
        have Z3 : jZ (jsI μ2 B 13 (nI ((sTx s).length + 1))) = jZ μ2 := rfl
        have D3 : dL (jZ μ1) (nI (sTx s).length) (jsI μ2 B 13 (nI ((sTx s).length + 1))) (stlC y.1) := D.kp fun x q1 q2 => sameC.sI (by omega)
        generalize jsI μ2 B 13 (nI ((sTx s).length + 1)) = μ3 at s3 N3 T3 Z3 D3 ⊢
        have hC3 := s3.ct g1 hB2
        rw [cP0_8 g1]
        simp only [jde_is]
        have kz : (jT μ2 (jZ μ1)).1 = 9 := D.1
        simp only [cT69 g1, beq_self_eq_true, jck_true, jin_nI hu (show 4 < 2 ^ 31 by decide), nI_clamp (show u < 2 ^ 31 by omega), jkd, kz, jde_is]
        have V3 : cVr B (jZ μ3) μ3 (jZ μ1) (stlC y.1) (sTx s).length := D3.vr (by omega) (by rw [stlC_len, Z3]; exact hh)
        have TV3 : cTV B μ3 (wTp s []) := g6.kr s3.tocr (by decide) hB2
        have TV4 := TV3.new (u := u) (P := y.2.1) (A := y.2.2.1) (by omega) V3
        have s4 : ∀ x, x ≠ B + 69 → sameC μ3 (jsP μ3 (B + 69) u (some (jZ μ1))) x := fun x hx => sameC.sP hx
        have ez : jI (jsP μ3 (B + 69) u (some (jZ μ1))) (jZ μ1) 2 = nI y.1.length := by
          rw [(s4 (jZ μ1) (by omega)).2.1, D3.2.2.1, stlC_len]
        rw [ez]
        refine .ret ⟨by omega, by omega, rfl, ?_, (k1.tr k2).tr ((s3.km (by omega) (by omega) (by decide)).tr ⟨Nat.le_refl _, fun i hi => s4 _ (by omega)⟩)⟩
        have hC4 : CT B (jsP μ3 (B + 69) u (some (jZ μ1))) := by
          refine ⟨hC3.1, fun e he => ?_, hC3.2.2⟩
          have : ∀ e ∈ cptr, e.1 ≠ 69 := by decide
          rw [jP_sP_ne (by have := this e he; omega)]; exact hC3.2.1 e he
        have c1 : cLang B μ3 := cW.ke g2 s3 (by omega) (by decide) (by decide)
        have c9 := g3.ke s3 (by omega) (by decide) (by decide)
        have c11 := w1.ke s3 (by omega) (by decide) (by decide)
        have c13 := w2.ke s3 (by omega) (by decide) (by decide)
        have t3 := g4.kr s3.tocr hB2 (by decide) (by decide)
        have o3 := g5.kr s3.tocr hB2 (by decide) (by decide)
        have v3 := g8.kr s3.tocr hB2 (by decide)
        have d3 := g9.kr s3.tocr hB2 (by decide) (by decide)
        refine ⟨hC4, ⟨c1, c9, c11, c13, ?_⟩, t3, o3, TV4, ⟨?_, ?_, g7.2.2.1, ?_, ?_⟩, v3, d3⟩
        · show jI μ3 (B + 66) 0 = 0
          rw [s3.iI (by omega) (by decide)]; exact b4
        · show jI μ3 B 13 = _
          rw [N3, if_pos rfl]
          show _ = nI (sTx s ++ [stlC y.1]).length
          rw [List.length_append, List.length_singleton]
        · show jI μ3 B 14 = _
          rw [N3, if_neg (by decide)]; exact g7.2.1
        · show jI μ3 B 15 = _
          rw [N3, if_neg (by decide)]; exact g7.2.2.2.1
        · show jI μ3 B 16 = _
          rw [N3, if_neg (by decide)]; exact g7.2.2.2.2
