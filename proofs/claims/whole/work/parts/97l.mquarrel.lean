/-! the reference: quarrel -/
def isBan (x : Cl) (c : Nat) (y : Cl) : Bool := decide (y.1 = 3) && (decide (y.2.2.1 = x.2.2.1) && (decide (y.2.2.2.1 = x.2.2.2.1) && hasC (Cl.cas y) c))
def qp (cls : List Cl) (c : Nat) : List Cl → Nat → Option (Nat × Nat)
  | [], _ => none
  | x :: r, d => if x.1 = 1 ∧ hasC (Cl.cas x) c = true then (match cls.findIdx? (isBan x c) with
      | some b => some (d, b)
      | none => qp cls c r (d + 1)) else qp cls c r (d + 1)
def quP (s : SS) (t c : Nat) : Bool := hasC (sW s) c && (qp (txA s t) c (txA s t) 0).isSome
def lstN (p : Nat → Bool) : Nat → Nat → Option Nat
  | 0, _ => none
  | d + 1, c => if p c then some c else lstN p d (c + 1)
def spQuarrel (v : Int32) (s : SS) : Int32 × SS := match vAt s v with
  | none => (-2, s)
  | some t => match lstN (quP s t) (nCs s) 0 with
    | none => (-1, s)
    | some c => match qp (txA s t) c (txA s t) 0 with
      | none => (nI c, s)
      | some e => (nI c, wQ s (nI e.1) (nI e.2))
theorem mSt_q {M : Nat} {μ ν : JM} {s : SS} {x y : Int32} (h : mSt M μ s) (q : sm M [67, 68] [] μ ν) (hx : jI ν M 67 = x) (hy : jI ν M 68 = y) : mSt M ν (wQ s x y) := by
  obtain ⟨h1, h2, h3, h4, h5, h6, h7, h8, h9, h10, h11, h12, h13, h14, h15⟩ := h
  exact ⟨q.mt h1, h2.sm q (by decide) (by decide), h3, h4.sm q (by decide) (by decide), h5.sm q (by decide) (by decide) (by decide) (by decide) (by decide), h6.sm q (by decide) (by decide) (by decide) (by decide) (by decide), h7.sm q (by decide) (by decide), h8.sm q (by decide) (clsLow.sm q (by decide) (by decide)), (q.fI (by decide)).trans h9, h10.sm q (by decide) (by decide), h11.sm q (by decide), h12.sm q (by decide) (by decide), h13.sm q (by decide) (by decide), hx, hy⟩
theorem qb_l {M u t n d : Nat} {s : SS} {μ : JM} {rec2 : Nat → Int32 → Int32 → Int32 → JM → JO Int32} (h : mSt M μ s) (hu : u < 4) (hV : sV s u = some t) (hF : sF s ≠ []) (hn : n < nCs s) (hd : d < (txA s t).length) : ∀ (fu b : Nat), b ≤ (txA s t).length → (txA s t).length - b < fu →
    fX11_quarrels_b47 rec2 fu M (nI u) (nI n) (nI d) (nI (24 * u + d)) (nI b) μ = match ((txA s t).drop b).findIdx? (isBan ((txA s t).getD d cl0) n) with
      | none => rec2 M (nI u) (nI n) (nI (d + 1)) μ
      | some j => some (1, jsI (jsI μ M 67 (nI d)) M 68 (nI (b + j)), 0, 0) := by
  have h1 := h.1
  obtain ⟨a1, a2, a3, a4⟩ := (h.2.2.2.2.2.2.2.1 u hu).2 t hV
  have a2 : jI μ (M + 20) u = nI (txA s t).length := a2
  have a3 : (txA s t).length ≤ 24 := a3
  have hD : mCl M μ (24 * u + d) ((txA s t).getD d cl0) := a4 d hd
  intro fu
  induction fu with
  | zero => intro b _ h; omega
  | succ fu ih =>
    intro b hb hf
    rw [fX11_quarrels_b47]
    simp only [jck_true, jde_is, jlt_is, jcl_0, beq_self_eq_true, jT_sI, jT_sJ, jP_sI, jP_sJ, jJ_sI, jI_sJ, jZ_sI, jZ_sJ, h1.1, mP_clauses h1, mT_clauses h1, mP_kind h1, mT_kind h1, mP_party h1, mT_party h1, mP_act h1, mT_act h1, jin_nI (show u < 5 by omega) (show 5 < 2 ^ 31 by decide), nI_clamp (show u < 2 ^ 31 by omega), a2, x24]
    by_cases q : b = (txA s t).length
    · rw [if_pos (nI_le (by omega) (by omega)), fX11_quarrels_b145, nI_1, q, List.drop_length]; rfl
    · have hb2 : b < (txA s t).length := by omega
      have hB : mCl M μ (24 * u + b) ((txA s t).getD b cl0) := a4 b hb2
      have so := m_isSo (n := n) h hF hB.2.2 (by omega) hn
      rw [if_neg (nI_ge hb2 (by omega)), drop_getD (d := cl0) hb2, List.findIdx?_cons]
      simp only [jin_nI (show 24 * u + b < 120 by omega) (show 120 < 2 ^ 31 by decide), jin_nI (show 24 * u + d < 120 by omega) (show 120 < 2 ^ 31 by decide), jck_true, nI_clamp (show 24 * u + b < 2 ^ 31 by omega), nI_clamp (show 24 * u + d < 2 ^ 31 by omega), hB.1.1, hB.1.2.1, hB.1.2.2.1, hD.1.2.1, hD.1.2.2.1, so, jcl_0]
      have nxt : ∀ rec47 : Nat → Int32 → Int32 → Int32 → Int32 → Int32 → JM → JO Int32, rec47 = fX11_quarrels_b47 rec2 fu → isBan ((txA s t).getD d cl0) n ((txA s t).getD b cl0) = false → fX11_quarrels_b139 rec2 rec47 M (nI u) (nI n) (nI d) (nI (24 * u + d)) (nI b) μ = match (if isBan ((txA s t).getD d cl0) n ((txA s t).getD b cl0) = true then some 0 else (List.findIdx? (isBan ((txA s t).getD d cl0) n) ((txA s t).drop (b + 1))).map (· + 1)) with
          | none => rec2 M (nI u) (nI n) (nI (d + 1)) μ
          | some j => some (1, jsI (jsI μ M 67 (nI d)) M 68 (nI (b + j)), 0, 0) := by
        intro rec47 hr hf
        rw [hf, if_neg (by decide), fX11_quarrels_b139, nI_1, hr, ih (b + 1) (by omega) (by omega)]
        cases List.findIdx? (isBan ((txA s t).getD d cl0) n) ((txA s t).drop (b + 1)) with
        | none => rfl
        | some j => simp only [Option.map_some]; congr 5; omega
      by_cases z1 : ((txA s t).getD b cl0).1 = 3
      · rw [if_pos z1]
        by_cases z2 : ((txA s t).getD b cl0).2.2.1 = ((txA s t).getD d cl0).2.2.1
        · rw [if_pos z2]
          by_cases z3 : ((txA s t).getD b cl0).2.2.2.1 = ((txA s t).getD d cl0).2.2.2.1
          · rw [if_pos z3]
            by_cases z4 : hasC (Cl.cas ((txA s t).getD b cl0)) n = true
            · have hb : isBan ((txA s t).getD d cl0) n ((txA s t).getD b cl0) = true := by unfold isBan; rw [decide_eq_true z1, decide_eq_true z2, decide_eq_true z3, z4]; rfl
              rw [if_pos z4, if_neg (by decide), hb, if_pos rfl]
              simp only [jck_true, jde_is, jlt_is, jcl_0, beq_self_eq_true, jT_sI, jT_sJ, jP_sI, jP_sJ, jJ_sI, jI_sJ, jZ_sI, jZ_sJ, h1.1, Nat.add_zero]
            · rw [if_neg z4, if_pos rfl]
              exact nxt _ rfl (by unfold isBan; rw [show hasC (Cl.cas ((txA s t).getD b cl0)) n = false from by simpa using z4, Bool.and_false, Bool.and_false, Bool.and_false])
          · rw [if_neg z3]
            exact nxt _ rfl (by unfold isBan; rw [decide_eq_false z3, Bool.false_and, Bool.and_false, Bool.and_false])
        · rw [if_neg z2]
          exact nxt _ rfl (by unfold isBan; rw [decide_eq_false z2, Bool.false_and, Bool.and_false])
      · rw [if_neg z1]
        exact nxt _ rfl (by unfold isBan; rw [decide_eq_false z1, Bool.false_and])
theorem qd_l {M u t n : Nat} {s : SS} {μ : JM} (h : mSt M μ s) (hu : u < 4) (hV : sV s u = some t) (hF : sF s ≠ []) (hn : n < nCs s) : ∀ (fu d : Nat), d ≤ (txA s t).length → (txA s t).length - d < fu →
    fX11_quarrels_b2 fu M (nI u) (nI n) (nI d) μ = match qp (txA s t) n ((txA s t).drop d) d with
      | none => some (0, μ, 0, 0)
      | some e => some (1, jsI (jsI μ M 67 (nI e.1)) M 68 (nI e.2), 0, 0) := by
  have h1 := h.1
  obtain ⟨a1, a2, a3, a4⟩ := (h.2.2.2.2.2.2.2.1 u hu).2 t hV
  have a2 : jI μ (M + 20) u = nI (txA s t).length := a2
  have a3 : (txA s t).length ≤ 24 := a3
  intro fu
  induction fu with
  | zero => intro d _ h; omega
  | succ fu ih =>
    intro d hd hf
    rw [fX11_quarrels_b2]
    simp only [jck_true, jde_is, jlt_is, jcl_0, beq_self_eq_true, jT_sI, jT_sJ, jP_sI, jP_sJ, jJ_sI, jI_sJ, jZ_sI, jZ_sJ, h1.1, mP_clauses h1, mT_clauses h1, mP_kind h1, mT_kind h1, jin_nI (show u < 5 by omega) (show 5 < 2 ^ 31 by decide), nI_clamp (show u < 2 ^ 31 by omega), a2, x24]
    by_cases q : d = (txA s t).length
    · rw [if_pos (nI_le (by omega) (by omega)), q, List.drop_length, qp]
    · have hd2 : d < (txA s t).length := by omega
      have hD : mCl M μ (24 * u + d) ((txA s t).getD d cl0) := a4 d hd2
      have so := m_isSo (n := n) h hF hD.2.2 (by omega) hn
      rw [if_neg (nI_ge hd2 (by omega)), drop_getD (d := cl0) hd2, qp]
      simp only [jin_nI (show 24 * u + d < 120 by omega) (show 120 < 2 ^ 31 by decide), jck_true, nI_clamp (show 24 * u + d < 2 ^ 31 by omega), hD.1.1, so, jcl_0]
      have nxt : fX11_quarrels_b145 (fX11_quarrels_b2 fu) M (nI u) (nI n) (nI d) μ = match qp (txA s t) n ((txA s t).drop (d + 1)) (d + 1) with
          | none => some (0, μ, 0, 0)
          | some e => some (1, jsI (jsI μ M 67 (nI e.1)) M 68 (nI e.2), 0, 0) := by
        rw [fX11_quarrels_b145, nI_1]; exact ih (d + 1) (by omega) (by omega)
      by_cases z1 : ((txA s t).getD d cl0).1 = 1
      · rw [if_pos z1]
        by_cases z2 : hasC (Cl.cas ((txA s t).getD d cl0)) n = true
        · rw [if_pos z2, if_neg (by decide), if_pos ⟨z1, z2⟩]
          have qb := qb_l (rec2 := fX11_quarrels_b2 fu) h hu hV hF hn hd2 jfuel 0 (by omega) (jfuel_gt (by omega))
          have qb' : fX11_quarrels_b47 (fX11_quarrels_b2 fu) jfuel M (nI u) (nI n) (nI d) (nI (24 * u + d)) 0 μ = _ := qb
          rw [qb', List.drop_zero]
          cases List.findIdx? (isBan ((txA s t).getD d cl0) n) (txA s t) with
          | none => exact ih (d + 1) (by omega) (by omega)
          | some j => simp only [Nat.zero_add]
        · rw [if_neg z2, if_pos rfl, if_neg (fun y => z2 y.2)]; exact nxt
      · rw [if_neg z1, if_neg (fun y => z1 y.1)]; exact nxt
theorem m_quarrel {M : Nat} {μ : JM} {s : SS} (v : Int32) (h : mSt M μ s) (hT : (sTx s).length < 600) (hG : gTx s) : Res (fX11_quarrel M v μ) (fun r ν => r = (spQuarrel v s).1 ∧ mSt M ν (spQuarrel v s).2) := by
  have h1 := h.1
  rw [fX11_quarrel, jck_of (by rw [h1.1]; rfl), m_isVersion v h hT, jcl_0]
  unfold spQuarrel
  cases hv : vAt s v with
  | none => exact .ret ⟨rfl, h⟩
  | some t =>
    obtain ⟨u, rfl, hu, hV⟩ := vAt_some hv
    have hF : sF s ≠ [] := hG.2 u hu (by rw [hV]; simp)
    obtain ⟨n1, n2⟩ := nCs_le h hF
    rw [Option.isSome_some, if_pos rfl, if_neg (by decide)]
    dsimp only
    have key : ∀ (fu d n : Nat), n + d = nCs s → d < fu → fX11_quarrel_b13 fu M (nI u) (nI n) μ = match lstN (quP s t) d n with
        | none => some (-1, μ, 0, 0)
        | some c => match qp (txA s t) c (txA s t) 0 with
          | none => some (nI c, μ, 0, 0)
          | some e => some (nI c, jsI (jsI μ M 67 (nI e.1)) M 68 (nI e.2), 0, 0) := by
      intro fu
      induction fu with
      | zero => intro d n _ h; omega
      | succ fu ih =>
        intro d n hnd hd
        rw [fX11_quarrel_b13, jck_of (by rw [h1.1]; rfl), n2]
        cases d with
        | zero => rw [if_pos (nI_le (by omega) (by omega))]; rfl
        | succ d =>
          have hn : n < nCs s := by omega
          rw [if_neg (nI_ge hn (by omega)), m_isIn h1 h.2.2.2.2.2.2.2.2.2.2.1 (by omega), jcl_0, lstN]
          have ihn := ih d (n + 1) (by omega) (by omega)
          by_cases w : hasC (sW s) n = true
          · rw [if_pos w, if_neg (by decide), jck_of (by rw [h1.1]; rfl), fX11_quarrels]
            have qd := qd_l h hu hV hF hn jfuel 0 (by omega) (jfuel_gt (by have := ((h.2.2.2.2.2.2.2.1 u hu).2 t hV).2.2.1; have : (txA s t).length ≤ 24 := this; omega))
            have qd' : fX11_quarrels_b2 jfuel M (nI u) (nI n) 0 μ = _ := qd
            rw [qd', List.drop_zero]
            have eg : quP s t n = (qp (txA s t) n (txA s t) 0).isSome := by unfold quP; rw [w, Bool.true_and]
            rw [eg]
            cases hq : qp (txA s t) n (txA s t) 0 with
            | none => simp only [jcl_0, Option.isSome_none, Bool.false_eq_true, if_false, if_true]; rw [fX11_quarrel_b42, nI_1]; exact ihn
            | some e => simp only [jcl_0, Option.isSome_some, if_true]; rw [if_neg (by decide), hq]
          · have eg : quP s t n = false := by unfold quP; simp [w]
            rw [if_neg w, if_pos rfl, fX11_quarrel_b42, nI_1, ihn, eg]
            simp only [Bool.false_eq_true, if_false]
    have k0 := key jfuel (nCs s) 0 (by omega) (jfuel_gt (by omega))
    have k0' : fX11_quarrel_b13 jfuel M (nI u) 0 μ = _ := k0
    rw [k0']
    cases lstN (quP s t) (nCs s) 0 with
    | none => exact .ret ⟨rfl, h⟩
    | some c =>
      dsimp only
      cases qp (txA s t) c (txA s t) 0 with
      | none => exact .ret ⟨rfl, h⟩
      | some e => exact .ret ⟨rfl, mSt_q h ((sm.sF (by decide)).tr (sm.sF (by decide))) (by rw [jI_sI, if_neg (by omega), jI_sI, if_pos ⟨rfl, rfl⟩]) (by rw [jI_sI, if_pos ⟨rfl, rfl⟩])⟩
