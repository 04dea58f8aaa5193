/-! the reference: due, gap, quarrel -/
def dw (fr : Nat → Bool) : Nat → Nat → Nat → Nat
  | 0, _, d => d
  | f + 1, n, d => if n = 0 ∨ 9999 < d then d else if d + 1 ≤ 9999 ∧ (d + 1) % 7 < 5 ∧ fr (d + 1) = false then dw fr f (n - 1) (d + 1) else dw fr f n (d + 1)
def dayA (d : Nat) : Int32 := if 9999 < d then -1 else nI d
def dueN (o : Int32) : Nat := (jshr (o &&& 1023) 1).toNatClampNeg
def spDue (v c i day : Int32) (s : SS) : Int32 × SS := (match inR day 10000 with
  | none => -1
  | some d => match ocAt s v c i with
    | none => -1
    | some o => if jshr o 17 = 1 then (if o &&& 1 = 0 then dayA (d + dueN o) else dayA (dw (sFr s) 20000 (dueN o) d)) else -1, s)
theorem due_n (o : Int32) : dueN o < 512 ∧ jshr (o &&& 1023) 1 = nI (dueN o) := by
  obtain ⟨m, m1, m2⟩ := (pk_andE o 10 rfl : ∃ v : Nat, v < 1024 ∧ o &&& 1023 = nI v)
  have e : ∀ m, m < 1024 → jshr (nI m) 1 = nI (m / 2) := by
    intro m hm
    refine b_ext fun i hi => ?_
    have := b_sshr 1 (by omega) (nI m) hi
    unfold jshr
    rw [show (1 : Int32) = nI 1 from rfl, this]
    have bn : ∀ (k j : Nat), j < 32 → bt (nI k) j = k.testBit j := by
      intro k j hj
      unfold bt
      show (BitVec.ofNat 32 k).getLsbD j = _
      rw [BitVec.getLsbD_ofNat]; simp [hj]
    rw [bn _ _ hi]
    by_cases q : 1 + i < 32
    · rw [if_pos q, bn _ _ q, Nat.testBit_eq_decide_div_mod_eq, Nat.testBit_eq_decide_div_mod_eq, Nat.div_div_eq_div_mul, Nat.pow_add, Nat.pow_one]
    · rw [if_neg q, bn _ _ (by omega)]
      have i31 : i = 31 := by omega
      rw [i31]
      have a1 : m < 2 ^ 31 := by omega
      have a2 : m / 2 < 2 ^ 31 := by omega
      rw [Nat.testBit_lt_two_pow a1, Nat.testBit_lt_two_pow a2]
  have m2 : o &&& 1023 = nI m := m2
  have m1 : m < 1024 := m1
  have ed : dueN o = m / 2 := by unfold dueN; rw [m2, e m m1, nI_clamp (by omega)]
  rw [m2, e m m1, ed]
  exact ⟨by omega, rfl⟩
theorem du_b {d : Nat} (hd : d < 20000) (μ : JM) : fX11_due_b110 (nI d) μ = some (dayA d, μ, 0, 0) := by
  rw [fX11_due_b110]
  unfold dayA
  by_cases q : 9999 < d
  · rw [if_pos (Int32.not_le.mp (show ¬ nI d ≤ 9999 from nI_ge (a := 9999) q (by omega))), if_pos q]
  · rw [if_neg (Int32.not_lt.mpr (show nI d ≤ 9999 from nI_le (b := 9999) (by omega) (by omega))), if_neg q]
theorem du_l {M : Nat} {μ : JM} {fr : Nat → Bool} (h : MT M μ) (hf : ∀ d, d < 10000 → jI μ (M + 44) d = if fr d then 1 else 0) : ∀ (fu f n d : Nat), n < 512 → d ≤ 10000 → 10002 - d < fu → 10002 - d < f → fX11_due_b61 fu M (nI n) (nI d) μ = some (dayA (dw fr f n d), μ, 0, 0) := by
  intro fu
  induction fu with
  | zero => intro f n d _ _ h; omega
  | succ fu ih =>
    intro f n d hn hd hfu hff
    obtain ⟨f, rfl⟩ : ∃ k, f = k + 1 := ⟨f - 1, by omega⟩
    rw [fX11_due_b61, dw]
    by_cases q : n = 0
    · rw [if_pos (show nI n ≤ 0 from nI_le (b := 0) (by omega) (by omega)), if_pos (Or.inl q), du_b (by omega)]
    · rw [if_neg (show ¬ nI n ≤ 0 from nI_ge (a := 0) (by omega) (by omega))]
      by_cases z : 9999 < d
      · rw [if_pos (Int32.not_le.mp (show ¬ nI d ≤ 9999 from nI_ge (a := 9999) z (by omega))), if_pos (Or.inr z), du_b (by omega)]
      · rw [if_neg (Int32.not_lt.mpr (show nI d ≤ 9999 from nI_le (b := 9999) (by omega) (by omega))), if_neg (show ¬ (n = 0 ∨ 9999 < d) by omega), nI_1]
        by_cases y : 9999 < d + 1
        · rw [if_pos (Int32.not_le.mp (show ¬ nI (d + 1) ≤ 9999 from nI_ge (a := 9999) y (by omega))), if_neg (show ¬ (d + 1 ≤ 9999 ∧ (d + 1) % 7 < 5 ∧ fr (d + 1) = false) by omega)]
          exact ih f n (d + 1) hn (by omega) (by omega) (by omega)
        · rw [if_neg (Int32.not_lt.mpr (show nI (d + 1) ≤ 9999 from nI_le (b := 9999) (by omega) (by omega)))]
          have er : jrem (nI (d + 1)) 7 = nI ((d + 1) % 7) := pk_rem (d := 7) (by omega) (by omega) (by omega)
          rw [er]
          by_cases w : (d + 1) % 7 < 5
          · rw [if_neg (show ¬ (5 : Int32) ≤ nI ((d + 1) % 7) from nI_ge (b := 5) w (by omega))]
            simp only [jck_true, jde_is, jlt_is, jcl_0, beq_self_eq_true, jT_sI, jT_sJ, jP_sI, jP_sJ, jJ_sI, jI_sJ, jZ_sI, jZ_sJ, h.1, mP_isFree h, mT_isFree h, jin_nI (show d + 1 < 10000 by omega) (show 10000 < 2 ^ 31 by decide), nI_clamp (show d + 1 < 2 ^ 31 by omega), hf (d + 1) (by omega)]
            cases hfr : fr (d + 1) with
            | false =>
              have sub1 : nI n + (-1) = nI (n - 1) := by
                obtain ⟨m, rfl⟩ : ∃ m, n = m + 1 := ⟨n - 1, by omega⟩
                rw [← nI_1, Int32.add_assoc, show (1 : Int32) + (-1) = 0 from by decide, Int32.add_zero]; rfl
              rw [if_pos (by decide), if_pos ⟨by omega, w, rfl⟩, sub1]
              exact ih f (n - 1) (d + 1) (by omega) (by omega) (by omega) (by omega)
            | true =>
              rw [if_neg (by decide), if_neg (by rintro ⟨-, -, t⟩; cases t)]
              exact ih f n (d + 1) hn (by omega) (by omega) (by omega)
          · rw [if_pos (show (5 : Int32) ≤ nI ((d + 1) % 7) from nI_le (a := 5) (by omega) (by omega)), if_neg (by rintro ⟨-, t, -⟩; exact w t)]
            exact ih f n (d + 1) hn (by omega) (by omega) (by omega)
theorem m_due {M : Nat} {μ : JM} {s : SS} (v c i day : Int32) (h : mSt M μ s) (hT : (sTx s).length < 600) : Res (fX11_due M v c i day μ) (fun r ν => r = (spDue v c i day s).1 ∧ mSt M ν (spDue v c i day s).2) := by
  have h1 := h.1
  rw [fX11_due, m_in (n := 10000) (by decide) (by decide), jcl_0]
  unfold spDue
  cases hd : inR day 10000 with
  | none => exact .ret ⟨rfl, h⟩
  | some d =>
    obtain ⟨rfl, hd2⟩ := inR_some hd
    rw [Option.isSome_some, if_pos rfl, if_neg (by decide), jck_of (by rw [h1.1]; rfl)]
    refine Res.cl (m_outcome v c i 0 h hT) fun r μ1 ⟨r1, st1⟩ => ?_
    unfold ocA at r1
    cases ho : ocAt s v c i with
    | none =>
      rw [ho] at r1
      have r1 : r = -1 := r1
      rw [r1, if_neg (by decide)]
      exact .ret ⟨rfl, st1⟩
    | some o =>
      rw [ho] at r1
      have r1 : r = jshr o 17 := r1
      rw [r1]
      dsimp only
      by_cases q : jshr o 17 = 1
      · have hM1 := st1.1
        rw [if_pos q, if_pos q, jck_of (by rw [hM1.1]; rfl)]
        refine Res.cl (m_outcome v c i 3 st1 hT) fun r2 μ2 ⟨e2, st2⟩ => ?_
        have e2 : r2 = jshr (o &&& 1023) 1 := by rw [e2]; unfold ocA; rw [ho]; show (if jshr o 17 = 1 then _ else _) = _; rw [if_pos q]
        have hM2 := st2.1
        rw [jck_of (by rw [hM2.1]; rfl)]
        refine Res.cl (m_outcome v c i 4 st2 hT) fun r3 μ3 ⟨e3, st3⟩ => ?_
        have e3 : r3 = o &&& 1 := by rw [e3]; unfold ocA; rw [ho]; show (if jshr o 17 = 1 then _ else _) = _; rw [if_pos q]
        obtain ⟨n1, n2⟩ := due_n o
        rw [e2, e3, n2]
        by_cases z : o &&& 1 = 0
        · rw [if_pos z, if_pos z, nI_add, du_b (by omega)]
          exact .ret ⟨rfl, st3⟩
        · rw [if_neg z, if_neg z, du_l st3.1 st3.2.2.2.2.2.2.2.2.2.2.2.2.1.2 jfuel 20000 (dueN o) d n1 (by omega) (jfuel_gt (by omega)) (by omega)]
          exact .ret ⟨rfl, st3⟩
      · rw [if_neg q, if_neg q]
        exact .ret ⟨rfl, st1⟩
/-! the least CASE -/
def lst (p : Nat → Bool) : Nat → Nat → Int32
  | 0, _ => -1
  | d + 1, c => if p c then nI c else lst p d (c + 1)
def nCs (s : SS) : Nat := 2 ^ (sF s).length
theorem nCs_le {M : Nat} {μ : JM} {s : SS} (h : mSt M μ s) (hF : sF s ≠ []) : nCs s ≤ 256 ∧ jshl 1 (jI μ M 2) = nI (nCs s) := by
  obtain ⟨a1, a2, a3, a4⟩ := mFx.ne h.2.2.2.1 hF
  have hl := a1.2.1
  have p2 : 2 ^ (sF s).length ≤ 2 ^ 8 := Nat.pow_le_pow_right (by decide) hl
  exact ⟨p2, by rw [a1.1, shl_b _ (by omega)]; rfl⟩
/-! gap -/
def gapP (s : SS) (t : Nat) (a : Int32) (c : Nat) : Bool := hasC (sW s) c && (txA s t).all (fun x => !(decide (x.1 = 1) && decide (x.2.2.2.1 = a) && hasC (Cl.cas x) c))
def spGap (v a : Int32) (s : SS) : Int32 × SS := (match vAt s v with
  | none => -2
  | some t => match inR a (sA s).length with
    | none => -2
    | some _ => lst (gapP s t a) (nCs s) 0, s)
theorem gp_in {M u t n : Nat} {a : Int32} {s : SS} {μ : JM} {rec27 : Nat → Int32 → Int32 → Int32 → JM → JO Int32} (h : mSt M μ s) (hu : u < 4) (hV : sV s u = some t) (hF : sF s ≠ []) (hn : n < nCs s) : ∀ (fu k : Nat) (b : Bool), k ≤ (txA s t).length → (txA s t).length - k < fu → (b = ((txA s t).take k).all (fun x => !(decide (x.1 = 1) && decide (x.2.2.2.1 = a) && hasC (Cl.cas x) n))) →
    fX11_gap_b54 rec27 fu M (nI u) a (nI n) (if b then 1 else 0) (nI k) μ = if (txA s t).all (fun x => !(decide (x.1 = 1) && decide (x.2.2.2.1 = a) && hasC (Cl.cas x) n)) = true then some (nI n, μ, 0, 0) else rec27 M (nI u) a (nI (n + 1)) μ := by
  have h1 := h.1
  obtain ⟨a1, a2, a3, a4⟩ := (h.2.2.2.2.2.2.2.1 u hu).2 t hV
  have a2 : jI μ (M + 20) u = nI (txA s t).length := a2
  have a3 : (txA s t).length ≤ 24 := a3
  intro fu
  induction fu with
  | zero => intro k b _ h; omega
  | succ fu ih =>
    intro k b hk hf hb
    rw [fX11_gap_b54]
    simp only [jck_true, jde_is, jlt_is, jcl_0, beq_self_eq_true, jT_sI, jT_sJ, jP_sI, jP_sJ, jJ_sI, jI_sJ, jZ_sI, jZ_sJ, h1.1, mP_clauses h1, mT_clauses h1, mP_kind h1, mT_kind h1, mP_act h1, mT_act h1, jin_nI (show u < 5 by omega) (show 5 < 2 ^ 31 by decide), nI_clamp (show u < 2 ^ 31 by omega), a2, x24]
    by_cases q : k = (txA s t).length
    · rw [if_pos (nI_le (by omega) (by omega))]
      rw [q, List.take_length] at hb
      rw [← hb]
      cases b with
      | false => rw [if_pos (by decide), if_neg (by decide), fX11_gap_b124, nI_1]
      | true => rw [if_neg (by decide), if_pos rfl]
    · have hk2 : k < (txA s t).length := by omega
      have hc := a4 k hk2
      rw [if_neg (nI_ge hk2 (by omega))]
      have et : (txA s t).take (k + 1) = (txA s t).take k ++ [(txA s t).getD k cl0] := by
        rw [List.take_succ_eq_append_getElem hk2]; congr 2; simp [List.getD, hk2]
      have hc : mCl M μ (24 * u + k) ((txA s t).getD k cl0) := hc
      have so := m_isSo (n := n) h hF hc.2.2 (by omega) hn
      simp only [jin_nI (show 24 * u + k < 120 by omega) (show 120 < 2 ^ 31 by decide), jck_true, nI_clamp (show 24 * u + k < 2 ^ 31 by omega), hc.1.1, hc.1.2.2.1, so, jcl_0]
      have nxt : ∀ b2 : Bool, b2 = ((txA s t).take (k + 1)).all (fun x => !(decide (x.1 = 1) && decide (x.2.2.2.1 = a) && hasC (Cl.cas x) n)) → fX11_gap_b111 rec27 (fX11_gap_b54 rec27 fu) M (nI u) a (nI n) (if b2 then 1 else 0) (nI k) μ = if (txA s t).all (fun x => !(decide (x.1 = 1) && decide (x.2.2.2.1 = a) && hasC (Cl.cas x) n)) = true then some (nI n, μ, 0, 0) else rec27 M (nI u) a (nI (n + 1)) μ := by
        intro b2 hb2
        rw [fX11_gap_b111, nI_1]
        exact ih (k + 1) b2 (by omega) (by omega) hb2
      rw [et, List.all_append, ← hb] at nxt
      simp only [List.all_cons, List.all_nil, Bool.and_true] at nxt
      by_cases z1 : ((txA s t).getD k cl0).1 = 1
      · rw [if_pos z1]
        by_cases z2 : ((txA s t).getD k cl0).2.2.2.1 = a
        · rw [if_pos z2]
          by_cases z3 : hasC (Cl.cas ((txA s t).getD k cl0)) n = true
          · rw [if_pos z3, if_neg (by decide)]
            exact nxt false (by rw [decide_eq_true z1, decide_eq_true z2, z3]; cases b <;> rfl)
          · rw [if_neg z3, if_pos rfl]
            exact nxt b (by rw [show hasC (Cl.cas ((txA s t).getD k cl0)) n = false from by simpa using z3, Bool.and_false]; cases b <;> rfl)
        · rw [if_neg z2]
          exact nxt b (by rw [decide_eq_false z2, Bool.and_false, Bool.false_and]; cases b <;> rfl)
      · rw [if_neg z1]
        exact nxt b (by rw [decide_eq_false z1, Bool.false_and, Bool.false_and]; cases b <;> rfl)
theorem m_gap {M : Nat} {μ : JM} {s : SS} (v a : Int32) (h : mSt M μ s) (hT : (sTx s).length < 600) (hG : gTx s) : Res (fX11_gap M v a μ) (fun r ν => r = (spGap v a s).1 ∧ mSt M ν (spGap v a s).2) := by
  have h1 := h.1
  rw [fX11_gap, jck_of (by rw [h1.1]; rfl), m_isVersion v h hT, jcl_0]
  unfold spGap
  cases hv : vAt s v with
  | none => exact .ret ⟨rfl, h⟩
  | some t =>
    obtain ⟨u, rfl, hu, hV⟩ := vAt_some hv
    have hF : sF s ≠ [] := hG.2 u hu (by rw [hV]; simp)
    obtain ⟨n1, n2⟩ := nCs_le h hF
    have hA := h.2.2.2.2.2.1
    have al := hA.2.1
    rw [Option.isSome_some, if_pos rfl, if_neg (by decide), jck_of (by rw [h1.1]; rfl), hA.1, m_in (n := (sA s).length) (by omega) rfl, jcl_0]
    dsimp only
    cases ha : inR a (sA s).length with
    | none => exact .ret ⟨rfl, h⟩
    | some j =>
      rw [Option.isSome_some, if_pos rfl, if_neg (by decide)]
      have key : ∀ (fu d n : Nat), n + d = nCs s → d < fu → fX11_gap_b27 fu M (nI u) a (nI n) μ = some (lst (gapP s t a) d n, μ, 0, 0) := by
        intro fu
        induction fu with
        | zero => intro d n _ h; omega
        | succ fu ih =>
          intro d n hnd hd
          rw [fX11_gap_b27, jck_of (by rw [h1.1]; rfl), n2]
          cases d with
          | zero => rw [if_pos (nI_le (by omega) (by omega))]; rfl
          | succ d =>
            have hn : n < nCs s := by omega
            rw [if_neg (nI_ge hn (by omega)), m_isIn h1 h.2.2.2.2.2.2.2.2.2.2.1 (by omega), jcl_0, lst]
            have ihn := ih d (n + 1) (by omega) (by omega)
            by_cases w : hasC (sW s) n = true
            · rw [if_pos w, if_neg (by decide)]
              have gi := gp_in (a := a) (rec27 := fX11_gap_b27 fu) h hu hV hF hn jfuel 0 true (by omega) (jfuel_gt (by have := ((h.2.2.2.2.2.2.2.1 u hu).2 t hV).2.2.1; have : (txA s t).length ≤ 24 := this; omega)) (by simp)
              have gi' : fX11_gap_b54 (fX11_gap_b27 fu) jfuel M (nI u) a (nI n) 1 0 μ = _ := gi
              rw [gi', ihn]
              have eg : gapP s t a n = (txA s t).all (fun x => !(decide (x.1 = 1) && decide (x.2.2.2.1 = a) && hasC (Cl.cas x) n)) := by unfold gapP; rw [w, Bool.true_and]
              rw [eg]
              split <;> rfl
            · rw [if_neg w, if_pos rfl, fX11_gap_b124, nI_1, ihn]
              have eg : gapP s t a n = false := by unfold gapP; simp [w]
              rw [eg]; rfl
      have k0 := key jfuel (nCs s) 0 (by omega) (jfuel_gt (by omega))
      have k0' : fX11_gap_b27 jfuel M (nI u) a 0 μ = _ := k0
      rw [k0']
      exact .ret ⟨rfl, h⟩
