/-! the class: Reader.readClause, whole -/
theorem cAt.sm2 {B n k z : Nat} {μ ν : JM} {l : List Int32} (h : cAt B μ l n k) (H : ∀ x, x < z → sameC μ ν x) (hz : B + 18 ≤ z) : cAt B ν l n k := by
  obtain ⟨⟨a1, a2, a3, a4, a5, a6, a7⟩, h4, h5, hk⟩ := h
  have e15 := (H (B + 15) (by omega)).2.1
  have e16 := (H (B + 16) (by omega)).2.2.1
  have e17 := (H (B + 17) (by omega)).2.1
  exact ⟨⟨by rw [e15]; exact a1, a2, a3, by rw [e16]; exact a4, by rw [e17]; exact a5, a6, a7⟩, by rw [e15]; exact h4, by rw [e15]; exact h5, hk⟩
theorem same_cs {B z : Nat} {as : List Nat} {μ ν : JM} (H : ∀ x, x < z → sameC μ ν x) (hz : z = jZ μ) (hj : jZ μ ≤ jZ ν) : cs B z as μ ν := ⟨hj, fun a ha => (H a (by omega)).1, fun a ha => (H a ha).2.2.2, fun a ha _ => ⟨(H a ha).2.1, (H a ha).2.2.1⟩⟩
theorem c_b83 {B n k pos a : Nat} {ν : JM} {l : List Int32} {wh : Bool} {kd : Int32} {nm : Int64} {p ac nu wk o : Int32} {w : CS} (hC : CT B ν) (h : cAt B ν l n pos) (hk : k ≤ pos) (h9 : pos < 900) (Y : cY ν a wh kd nm p ac nu wk o w) (hz : jZ ν = a + 3) (hB : B + 121 ≤ a) : ∃ ρ, fX4_readClause_b83 (B + 18) (nI k) (some a) 1 ν = some (some a, ρ, 1, pos - k) ∧ jZ ρ = a + 4 ∧ (∀ x, x < a → sameC ν ρ x) ∧ (∀ x, x < jZ ν → jT ρ x = jT ν x) ∧ cY ρ a wh kd nm p ac nu wk o w ∧ jP ρ a 7 = some (a + 3) ∧ jT ρ (a + 3) = (102, pos - k) ∧ ∀ j, j < pos - k → jJ ρ (a + 3) j = Cd l (k + j) := by
  obtain ⟨μ1, e1, z1, lo1, t1, j1⟩ := c_since hC h hk h9
  rw [hz] at e1 z1 lo1 t1 j1
  rw [fX4_readClause_b83, if_neg (by decide)]
  simp only [jck_true, jde_is, jlt_is, jcl_0, beq_self_eq_true, jT_sI, jT_sJ, jP_sI, jP_sJ, jJ_sI, jI_sJ, jZ_sI, jZ_sJ, cT18 hC, cP18_0 hC, cT15 hC]
  have ka : (jT μ1 a).1 = 3 := by rw [(lo1 a (by omega)).1]; exact Y.1.1
  refine ⟨jsP μ1 a 7 (some (a + 3)), ?_, z1, fun x hx => (lo1 x (by omega)).tr (sameC.sP (by omega)), fun x hx => (lo1 x (by omega)).1, ⟨?_, fun t i hi => ?_⟩, ?_, t1, j1⟩
  · rw [e1]
    simp only [jcl, jde_is, jlt_is]
    rw [jck_of (by rw [ka]; rfl)]
    simp
  · obtain ⟨g1, g2, ⟨g3, g4, g5⟩, g6⟩ := Y.1
    obtain ⟨a1, a2, a3, a4⟩ := lo1 a (by omega)
    obtain ⟨b1, b2, b3, b4⟩ := lo1 (a + 1) (by omega)
    obtain ⟨c1, c2, c3, c4⟩ := lo1 (a + 2) (by omega)
    refine ⟨by rw [jT_sP]; exact ka, by rw [jP_sP, if_neg (by omega), a4]; exact g2, ⟨by rw [jT_sP, b1]; exact g3, by rw [jP_sP_ne (by omega), b4]; exact g4, by rw [jT_sP, c1]; exact g5⟩, ?_⟩
    rw [jI_sP, jJ_sP, a2, a3]; exact g6
  · rw [jJ_sP, (lo1 (a + 2) (by omega)).2.2.1]; exact Y.2 t i hi
  · rw [jP_sP, if_pos ⟨rfl, rfl⟩]
theorem Rq.eq {α β : Type} {x : JO α} {r : α} {ν : JM} {c m : Nat} {f : α → JM → JO β} {Q : β → JM → Nat → Nat → Prop} (e : x = some (r, ν, c, m)) (g : Rq (f r ν) (fun r2 ν2 c2 m2 => Q r2 ν2 (c + c2) (m + m2))) : Rq (jcl x f) Q := by
  obtain ⟨r2, ν2, c2, m2, e2, hq⟩ := g
  exact ⟨r2, ν2, c + c2, m + m2, by rw [e]; simp only [jcl, e2], hq⟩
def clQ (B : Nat) (l : List Int32) (n k md : Nat) (cls : List Cl) (F P A : List Int64) (μ : JM) (r : Option Nat) (ν : JM) (c m : Nat) : Prop := c ≤ 4 ∧ cr B (jZ μ) RDM μ ν ∧ jI ν (B + 66) 0 = 0 ∧ ∃ P' A', pfx (decide (md = 0)) P P' ∧ pfx (decide (md = 0)) A A' ∧ cW B 11 6 ν P' ∧ cW B 13 12 ν A' ∧ ((r = none ∧ m ≤ 14 ∧ jZ ν = jZ μ + 3 ∧ ∃ e, ov (Cd l) k (sClause (Cd l) F md cls P A k) = .error e ∧ cF B ν l e) ∨ (∃ y, (md = 0 → cls.length < 24) ∧ r = some (jZ μ) ∧ m ≤ 14 + (y.2.2.2 - k) ∧ jZ ν = jZ μ + 4 ∧ ov (Cd l) k (sClause (Cd l) F md cls P A k) = ov (Cd l) y.2.2.2 (.ok y) ∧ cAt B ν l n y.2.2.2 ∧ k ≤ y.2.2.2 ∧ y.2.1 = P' ∧ y.2.2.1 = A' ∧ cE (jZ μ) (jZ μ + 4) (decide (md = 0)) ν (jZ μ) y.1))
theorem clE {a md k : Nat} {ρ : JM} {l : List Int32} {P' A' : List Int64} {y : Cl × List Int64 × List Int64 × Nat} {p ac o : Int32} (Y : cY ρ a (decide (md = 0)) y.1.1 y.1.2.1 p ac y.1.2.2.2.2.1 y.1.2.2.2.2.2.1 o (Cl.cas y.1)) (hp : md = 0 → p = y.1.2.2.1 ∧ ac = y.1.2.2.2.1 ∧ o = Cl.ovr y.1) (ht : Cl.tks y.1 = sl (Cd l) k y.2.2.2) (h7 : jP ρ a 7 = some (a + 3)) (hT : jT ρ (a + 3) = (102, y.2.2.2 - k)) (hJ : ∀ j, j < y.2.2.2 - k → jJ ρ (a + 3) j = Cd l (k + j)) : cE a (a + 4) (decide (md = 0)) ρ a y.1 := by
  obtain ⟨⟨g1, g2, g3, g4, g5, g6, g7, g8, g9, g10⟩, hv⟩ := Y
  refine ⟨a + 1, a + 2, a + 3, by omega, by omega, by omega, by omega, g1, g4, g5, g2, g3, h7, by rw [ht, sl_len]; exact hT, fun j hj => ?_, fun w => ?_⟩
  · rw [ht, sl_len] at hj
    rw [ht, sl_get _ hj]; exact hJ j hj
  · have m0 := of_decide_eq_true w
    obtain ⟨e1, e2, e3⟩ := hp m0
    exact ⟨g6.trans e1, g7.trans e2, g8, g9, g10.trans e3, fun i hi => hv w i hi⟩
theorem c_clause {B hi n k : Nat} {μ : JM} {md v q cap : Nat} {cls : List Cl} {F P A : List Int64} {l : List Int32} (hC : CT B μ) (hF : cW B 9 8 μ F) (hP : cW B 11 6 μ P) (hA : cW B 13 12 μ A) (h66 : jI μ (B + 66) 0 = 0) (hmd : md ≤ 2) (hL : cL (B + 121) hi (decide (md = 0)) cap μ v q cls) (hcap : cap ≤ 1000) (hhi : hi ≤ jZ μ) (h : cAt B μ l n k) : Rq (fX4_readClause (B + 18) (some v) (nI md) μ) (clQ B l n k md cls F P A μ) := by
  have hB : B + 121 ≤ jZ μ := hC.2.2
  unfold fX4_readClause
  rw [jck_of (by rw [cT18 hC]; rfl)]
  simp only [jlt_is]
  -- mode and list
  have r1 : cr B (jZ μ) RDM μ (jsI (jsP μ (B + 18) 6 (some v)) (B + 18) 5 (nI md)) := cr.lP.tr (cs.sI (by decide)).tocr
  have d1 : ∀ x, x ≠ B + 18 → sameC μ (jsI (jsP μ (B + 18) 6 (some v)) (B + 18) 5 (nI md)) x := fun x hx => (sameC.sP hx).tr (sameC.sI hx)
  have m5 : jI (jsI (jsP μ (B + 18) 6 (some v)) (B + 18) 5 (nI md)) (B + 18) 5 = nI md := by rw [jI_sI, if_pos ⟨rfl, rfl⟩]
  have m6 : jP (jsI (jsP μ (B + 18) 6 (some v)) (B + 18) 5 (nI md)) (B + 18) 6 = some v := by rw [jP_sI, jP_sP, if_pos ⟨rfl, rfl⟩]
  have z1 : jZ (jsI (jsP μ (B + 18) 6 (some v)) (B + 18) 5 (nI md)) = jZ μ := rfl
  have t1 : jT (jsI (jsP μ (B + 18) 6 (some v)) (B + 18) 5 (nI md)) = jT μ := rfl
  generalize jsI (jsP μ (B + 18) 6 (some v)) (B + 18) 5 (nI md) = μ1 at r1 d1 m5 m6 z1 t1 ⊢
  have hC1 := r1.ct hC hB
  have a1 : cAt B μ1 l n k := by
    obtain ⟨⟨b1, b2, b3, b4, b5, b6, b7⟩, h4, h5, hk⟩ := h
    have e15 := (d1 (B + 15) (by omega)).2.1
    have e16 := (d1 (B + 16) (by omega)).2.2.1
    have e17 := (d1 (B + 17) (by omega)).2.1
    exact ⟨⟨by rw [e15]; exact b1, b2, b3, by rw [e16]; exact b4, by rw [e17]; exact b5, b6, b7⟩, by rw [e15]; exact h4, by rw [e15]; exact h5, hk⟩
  have wk : ∀ (i mx : Nat) (Q : List Int64), i ≠ 18 → i + 1 ≠ 18 → cW B i mx μ Q → cW B i mx μ1 Q := fun i mx Q h1 h2 w => ⟨by rw [(d1 (B + i) (by omega)).2.1]; exact w.1, w.2.1, by rw [(d1 (B + (i + 1)) (by omega)).2.2.1]; exact w.2.2⟩
  have hL1 : cL (B + 121) hi (decide (md = 0)) cap μ1 v q cls := hL.kp fun x h1 h2 => d1 x (by omega)
  rw [cP18_0 hC1]
  simp only [jde_is]
  rw [jck_of (by rw [← t1, cT15 hC1]; rfl), a1.2.1]
  -- the new CLAUSE
  refine Rq.nwo ?_
  obtain ⟨μ2, e2, z2, d2, X2⟩ := c_newCl (μ := μ1)
  rw [z1] at e2 z2 d2 X2 ⊢
  refine Rq.eq e2 ?_
  have s2 : cs B (jZ μ) [15] μ1 μ2 := same_cs d2 z1.symm (by rw [z1, z2]; omega)
  have hC2 := s2.ct hC1 hB
  have a2 : cAt B μ2 l n k := a1.sm2 d2 (by omega)
  have lo2 : ∀ (i mx : Nat) (Q : List Int64), i ≠ 18 → i + 1 ≠ 18 → i < 100 → cW B i mx μ Q → cW B i mx μ2 Q := fun i mx Q h1 h2 h3 w => by
    have w1 := wk i mx Q h1 h2 w
    exact ⟨by rw [(d2 (B + i) (by omega)).2.1]; exact w1.1, w1.2.1, by rw [(d2 (B + (i + 1)) (by omega)).2.2.1]; exact w1.2.2⟩
  have n66 : jI μ2 (B + 66) 0 = 0 := by rw [(d2 (B + 66) (by omega)).2.1, (d1 (B + 66) (by omega)).2.1]; exact h66
  have R2 : rEn B hi (jZ μ) μ2 md v q cap cls F := ⟨hC2, lo2 9 8 F (by decide) (by decide) (by decide) hF, by rw [(d2 (B + 18) (by omega)).2.1]; exact m5, hmd, by rw [(d2 (B + 18) (by omega)).2.2.2]; exact m6, hL1.kp (fun x h1 h2 => d2 x (by omega)), hcap, hhi, by rw [z2]; omega, hB, n66⟩
  have P2 := lo2 11 6 P (by decide) (by decide) (by decide) hP
  have A2 := lo2 13 12 A (by decide) (by decide) (by decide) hA
  have r2 : cr B (jZ μ) RDM μ μ2 := r1.tr (s2.wk (by decide)).tocr
  generalize hza : jZ μ = a at *
  have hj2 : a + 3 ≤ jZ μ2 := by omega
  rw [jck_of (by rw [cT18 hC2]; rfl), cP18_0 hC2]
  simp only [jde_is]
  rw [jck_of (by rw [cT15 hC2]; rfl), c_token hC2 a2, jcl_0]
  simp only [lg_cmp_0]
  -- without it
  have none83 : ∀ (ν : JM) (P' A' : List Int64) (e : Er), cs B a RDL μ2 ν → jZ ν = jZ μ2 → jI ν (B + 66) 0 = jI μ2 (B + 66) 0 → pfx (decide (md = 0)) P P' → pfx (decide (md = 0)) A A' → cW B 11 6 ν P' → cW B 13 12 ν A' → ov (Cd l) k (sClause (Cd l) F md cls P A k) = .error e → cF B ν l e → Rq (fX4_readClause_b83 (B + 18) (nI k) (some a) 0 ν) (fun r ν c m => clQ B l n k md cls F P A μ r ν (1 + (2 + c)) (9 + (5 + m))) := by
    intro ν P' A' e s z h6 hp ha w1 w2 es f
    rw [fX4_readClause_b83, if_pos rfl]
    refine .ret ⟨by omega, by rw [hza]; exact r2.tr (s.wk rdl_rdm).tocr, h6.trans n66, P', A', hp, ha, w1, w2, Or.inl ⟨rfl, by omega, by rw [hza]; omega, e, es, f⟩⟩
  -- with it
  have some83 : ∀ (ν : JM) (y : Cl × List Int64 × List Int64 × Nat) (p ac o : Int32), (md = 0 → cls.length < 24) → cs B a RDL μ2 ν → jZ ν = jZ μ2 → jI ν (B + 66) 0 = jI μ2 (B + 66) 0 → pfx (decide (md = 0)) P y.2.1 → pfx (decide (md = 0)) A y.2.2.1 → cW B 11 6 ν y.2.1 → cW B 13 12 ν y.2.2.1 → ov (Cd l) k (sClause (Cd l) F md cls P A k) = ov (Cd l) y.2.2.2 (.ok y) → cAt B ν l n y.2.2.2 → k ≤ y.2.2.2 → y.2.2.2 < 900 → Cl.tks y.1 = sl (Cd l) k y.2.2.2 → cY ν a (decide (md = 0)) y.1.1 y.1.2.1 p ac y.1.2.2.2.2.1 y.1.2.2.2.2.2.1 o (Cl.cas y.1) → (md = 0 → p = y.1.2.2.1 ∧ ac = y.1.2.2.2.1 ∧ o = Cl.ovr y.1) → Rq (fX4_readClause_b83 (B + 18) (nI k) (some a) 1 ν) (fun r ν c m => clQ B l n k md cls F P A μ r ν (1 + (2 + c)) (9 + (5 + m))) := by
    intro ν y p ac o h24 s z h6 hp ha w1 w2 es at1 hk h9 ht Y hy
    have hCn := s.ct hC2 hB
    obtain ⟨ρ, e3, z3, d3, T3, Y3, p7, t7, j7⟩ := c_b83 hCn at1 hk h9 Y (by omega) hB
    have s3 : cs B a RDL ν ρ := ⟨by omega, T3, fun x hx => (d3 x hx).2.2.2, fun x hx _ => ⟨(d3 x hx).2.1, (d3 x hx).2.2.1⟩⟩
    refine ⟨_, _, _, _, e3, by omega, by rw [hza]; exact r2.tr ((s.tr s3).wk rdl_rdm).tocr, ?_, y.2.1, y.2.2.1, hp, ha, ?_, ?_, Or.inr ⟨y, h24, by rw [hza], by omega, by rw [hza]; omega, es, ?_, hk, rfl, rfl, by rw [hza]; exact clE (P' := []) (A' := []) Y3 hy ht p7 t7 j7⟩⟩
    · rw [(d3 (B + 66) (by omega)).2.1, h6]; exact n66
    · exact ⟨by rw [(d3 (B + 11) (by omega)).2.1]; exact w1.1, w1.2.1, by rw [(d3 (B + (11 + 1)) (by omega)).2.2.1]; exact w1.2.2⟩
    · exact ⟨by rw [(d3 (B + 13) (by omega)).2.1]; exact w2.1, w2.2.1, by rw [(d3 (B + (13 + 1)) (by omega)).2.2.1]; exact w2.2.2⟩
    · exact at1.sm2 d3 (by omega)
  by_cases q1 : Cd l k = -3000
  · have sc : ov (Cd l) k (sClause (Cd l) F md cls P A k) = sDefine (Cd l) F md cls P A k := by unfold sClause; rw [if_pos q1, ov_ne (by rw [q1]; decide)]
    rw [if_pos q1, jck_of (by rw [cT18 hC2]; rfl)]
    refine Rq.cl0 (c_define (P := P) (A := A) R2 a2 q1 (Nat.le_refl _) hj2 X2) fun x ν ⟨c3, P3⟩ => ?_
    have w1 := P2.ke c3.1 (by omega) (by decide) (by decide)
    have w2 := A2.ke c3.1 (by omega) (by decide) (by decide)
    rcases P3 with ⟨e, es, rfl, f⟩ | ⟨y, es, rfl, at3, k3, g0, g1, g2, g3, p, ac, o, Y, hy⟩
    · exact none83 ν P A e (c3.1.wk cda_rdl) c3.2.2 c3.2.1 pfx.rf pfx.rf w1 w2 (by rw [sc]; exact es) f
    · have k3 : k + 1 ≤ y.2.2.2 := k3
      exact some83 ν y p ac o g0 (c3.1.wk cda_rdl) c3.2.2 c3.2.1 (by rw [g1]; exact pfx.rf) (by rw [g2]; exact pfx.rf) (by rw [g1]; exact w1) (by rw [g2]; exact w2) (by rw [sc]; exact es) at3 (by omega) (at3.lt9 (j := k) (by rw [q1]; decide) k3) g3 Y hy
  · have sc : ov (Cd l) k (sClause (Cd l) F md cls P A k) = ov (Cd l) k (eb (sNm (Cd l) F md cls false k) fun _ => eb (tk (Cd l) k) fun k1 => sDeed (Cd l) F (decide (md = 0)) cls P A k k1) := by unfold sClause; rw [if_neg q1, sNm_lab]
    generalize ov (Cd l) k (sClause (Cd l) F md cls P A k) = S at sc none83 some83
    rw [if_neg q1, jck_of (by rw [cT18 hC2]; rfl)]
    refine Rq.cl0 (c_name (a := a) false 0 rfl R2 a2 (Nat.le_refl _) hj2 X2) fun x μ3 ⟨s3, j3, P3⟩ => ?_
    have P3w := P2.ke s3.1 (by omega) (by decide) (by decide)
    have A3w := A2.ke s3.1 (by omega) (by decide) (by decide)
    have i3 : jI μ3 (B + 66) 0 = jI μ2 (B + 66) 0 := by rw [s3.1.iI (by omega) (by decide)]
    rcases P3 with ⟨e, es, rfl, f⟩ | ⟨es, q2, rfl, a3, X3⟩
    · rw [if_pos rfl, fX4_readClause_b82]
      rw [← eb_ov, es, eb_err] at sc
      exact none83 μ3 P A e (s3.1.wk (by decide)) s3.2 i3 pfx.rf pfx.rf P3w A3w sc f
    · have nov : ¬ Cd l k = -2000 := by intro e; rw [e] at q2; exact absurd q2 (by decide)
      have h24 : md = 0 → cls.length < 24 := by
        intro m
        by_cases c : cls.length < 24
        · exact c
        · exfalso
          unfold sNm nmC at es
          rw [if_pos q2, eb_ok] at es
          obtain ⟨-, es⟩ := ite_inv es
          obtain ⟨-, es⟩ := ite_inv es
          obtain ⟨e, -⟩ := ite_inv es
          exact e ⟨m, by omega⟩
      rw [es, ov_ne nov, eb_ok, eb_tk, sDeed_is, ← eb_ov] at sc
      rw [if_neg (by decide)]
      have R3 := R2.k15 s3.1
      have hC3 := R3.1
      have hj3 : a + 3 ≤ jZ μ3 := by rw [s3.2]; exact hj2
      rw [jck_of (by rw [cT18 hC3]; rfl)]
      refine Rq.cl0 (c_deed R3 a3 (Nat.le_refl _) hj3 X3 P3w A3w) fun x μ4 ⟨s4x, P', A', hp, ha, w1, w2, P4⟩ => ?_
      have S4 : cs B a RDL μ2 μ4 := (s3.1.wk (by decide)).tr (s4x.1.wk (by decide))
      have i4 : jI μ4 (B + 66) 0 = jI μ2 (B + 66) 0 := by rw [s4x.1.iI (by omega) (by decide), i3]
      have Z4 : jZ μ4 = jZ μ2 := by rw [s4x.2, s3.2]
      rcases P4 with ⟨e, es4, rfl, f⟩ | ⟨d, es4, rfl, a4, k4, g1, g2, ⟨g3, g4⟩, pp, aa, X4, hd⟩
      · rw [if_pos rfl, fX4_readClause_b82]
        rw [es4, eb_err] at sc
        exact none83 μ4 P' A' e S4 Z4 i4 hp ha w1 w2 sc f
      · rw [es4, eb_ov, eb_ok, ← eb_ov] at sc
        rw [if_neg (by decide)]
        have R4 := R3.ke (s4x.1.wk (by decide)) (fun i hi => hi) (by rw [s4x.1.iI (by omega) (by decide)])
        have hC4 := R4.1
        rw [jck_of (by rw [cT18 hC4]; rfl)]
        refine Rq.cl0 (c_tail R4 a4 (Nat.le_refl _) (by omega) X4) fun x μ5 ⟨c5, P5⟩ => ?_
        have S5 : cs B a RDL μ2 μ5 := S4.tr (c5.1.wk cda_rdl)
        have i5 : jI μ5 (B + 66) 0 = jI μ2 (B + 66) 0 := by rw [c5.2.1, i4]
        have Z5 : jZ μ5 = jZ μ2 := by rw [c5.2.2, Z4]
        have w15 := w1.ke c5.1 (by omega) (by decide) (by decide)
        have w25 := w2.ke c5.1 (by omega) (by decide) (by decide)
        rcases P5 with ⟨e, es5, rfl, f⟩ | ⟨t, es5, rfl, a5, k5, o2, Y5, ho⟩
        · rw [if_pos rfl, fX4_readClause_b82]
          rw [es5, eb_err] at sc
          exact none83 μ5 P' A' e S5 Z5 i5 hp ha w15 w25 sc f
        · rw [if_neg (by decide)]
          rw [es5, eb_ov, eb_ok] at sc
          have k5 : d.2.2.2.2.2.2.2 ≤ t.2.2 := k5
          have k4 : k + 1 ≤ d.2.2.2.2.2.2.2 := k4
          exact some83 μ5 ((d.1, Cd l k, d.2.1, d.2.2.1, d.2.2.2.1, d.2.2.2.2.1, t.1, t.2.1, sl (Cd l) k t.2.2), d.2.2.2.2.2.1, d.2.2.2.2.2.2.1, t.2.2) pp aa o2 h24 S5 Z5 i5 (by rw [g1]; exact hp) (by rw [g2]; exact ha) (by rw [g1]; exact w15) (by rw [g2]; exact w25) sc a5 (by show k ≤ t.2.2; omega) (a5.lt9 (j := k + 1 + 1) g3 (show k + 1 + 1 + 1 ≤ t.2.2 by omega)) rfl Y5 (fun m => ⟨(hd m).1, (hd m).2, ho m⟩)
