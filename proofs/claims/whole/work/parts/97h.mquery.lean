/-! the reference: clause, letter, holds, count -/
def clAt (s : SS) (v k : Int32) : Option Cl := match vAt s v with
  | none => none
  | some t => match inR k (txA s t).length with
    | none => none
    | some i => some ((txA s t).getD i cl0)
theorem clAt_some {s : SS} {v k : Int32} {c : Cl} (h : clAt s v k = some c) : ∃ u t i, v = nI u ∧ u < 4 ∧ sV s u = some t ∧ k = nI i ∧ i < (txA s t).length ∧ c = (txA s t).getD i cl0 := by
  unfold clAt at h
  cases hv : vAt s v with
  | none => rw [hv] at h; cases h
  | some t =>
    rw [hv] at h
    dsimp only at h
    cases hi : inR k (txA s t).length with
    | none => rw [hi] at h; cases h
    | some i =>
      rw [hi] at h
      injection h with h
      obtain ⟨u, e1, e2, e3⟩ := vAt_some hv
      obtain ⟨e4, e5⟩ := inR_some hi
      exact ⟨u, t, i, e1, e2, e3, e4, e5, h.symm⟩
theorem row_of {M : Nat} {μ : JM} {s : SS} {u t i : Nat} (h : mSt M μ s) (hu : u < 4) (hV : sV s u = some t) (hi : i < (txA s t).length) : mCl M μ (24 * u + i) ((txA s t).getD i cl0) ∧ 24 * u + i < 96 ∧ i < 24 := by
  obtain ⟨a1, a2, a3, a4⟩ := (h.2.2.2.2.2.2.2.1 u hu).2 t hV
  have a3 : (txA s t).length ≤ 24 := a3
  exact ⟨a4 i hi, by omega, by omega⟩
theorem m_isClause {M : Nat} {μ : JM} {s : SS} (v k : Int32) (h : mSt M μ s) (hT : (sTx s).length < 600) : fX11_isClause M v k μ = some (if (clAt s v k).isSome then 1 else 0, μ, 0, 0) := by
  have h1 := h.1
  rw [fX11_isClause, jck_of (by rw [h1.1]; rfl), m_isVersion v h hT, jcl_0]
  cases hv : vAt s v with
  | none => unfold clAt; rw [hv]; rfl
  | some t =>
    obtain ⟨u, rfl, hu, hV⟩ := vAt_some hv
    obtain ⟨a1, a2, a3, a4⟩ := (h.2.2.2.2.2.2.2.1 u hu).2 t hV
    have a2 : jI μ (M + 20) u = nI (txA s t).length := a2
    have a3 : (txA s t).length ≤ 24 := a3
    rw [Option.isSome_some, if_pos rfl, if_neg (by decide)]
    simp only [jck_true, jde_is, jlt_is, jcl_0, beq_self_eq_true, jT_sI, jT_sJ, jP_sI, jP_sJ, jJ_sI, jI_sJ, jZ_sI, jZ_sJ, h1.1, mP_clauses h1, mT_clauses h1, jin_nI (show u < 5 by omega) (show 5 < 2 ^ 31 by decide), nI_clamp (show u < 2 ^ 31 by omega), a2]
    rw [m_in (n := (txA s t).length) (by omega) rfl, jcl_0]
    have e : clAt s (nI u) k = match inR k (txA s t).length with | none => none | some i => some ((txA s t).getD i cl0) := by unfold clAt; rw [hv]
    rw [e]
    cases hi : inR k (txA s t).length with
    | none => rfl
    | some i => rfl
theorem x24 (u i : Nat) : (24 : Int32) * nI u + nI i = nI (24 * u + i) := by rw [show (24 : Int32) = nI 24 from rfl, pk_mul, nI_add]
def nmL (c : Int64) : List Int32 := wl c.toNatClampNeg
theorem nmL_w {w : List Int32} {c : Int64} (h : wd w) (hc : wc w = c) : nmL c = w := by
  unfold nmL
  rw [← hc, clamp_toI (wc_pos h).1, wl_w h.2.1 h.2.2]
def clV (c : Cl) (w : Int32) : Int32 := if w = 0 then c.1 else if w = 1 then c.2.2.1 else if w = 2 then c.2.2.2.1 else if w = 3 then c.2.2.2.2.1 else if w = 4 then c.2.2.2.2.2.1 else if w = 5 then pcI (Cl.ovr c) else if w = 6 then nI (nmL c.2.1).length else -1
def spClause (v k w : Int32) (s : SS) : Int32 × SS := (match clAt s v k with | none => -1 | some c => clV c w, s)
theorem m_clauseQ {M : Nat} {μ : JM} {s : SS} (v k w : Int32) (h : mSt M μ s) (hT : (sTx s).length < 600) : Res (fX11_clause_ M v k w μ) (fun r ν => r = (spClause v k w s).1 ∧ mSt M ν (spClause v k w s).2) := by
  have h1 := h.1
  rw [fX11_clause_, jck_of (by rw [h1.1]; rfl), m_isClause v k h hT, jcl_0]
  unfold spClause
  cases hc : clAt s v k with
  | none => exact .ret ⟨rfl, h⟩
  | some c =>
    obtain ⟨u, t, i, rfl, hu, hV, rfl, hi, ec⟩ := clAt_some hc
    obtain ⟨⟨⟨r1, r2, r3, r4, r5, r6, r7⟩, ⟨w0, l1, l2, l3, l4⟩, -⟩, rl, r24⟩ := row_of h hu hV hi
    rw [← ec] at r1 r2 r3 r4 r5 r6 r7 l2
    rw [Option.isSome_some, if_pos rfl, if_neg (by decide), x24]
    have nm := nmL_w l1 l2
    simp only [jck_true, jde_is, jlt_is, jcl_0, beq_self_eq_true, jT_sI, jT_sJ, jP_sI, jP_sJ, jJ_sI, jI_sJ, jZ_sI, jZ_sJ, h1.1, mP_kind h1, mT_kind h1, mP_party h1, mT_party h1, mP_act h1, mT_act h1, mP_number h1, mT_number h1, mP_byWork h1, mT_byWork h1, mP_overMany h1, mT_overMany h1, mP_labelSize h1, mT_labelSize h1, jin_nI (show 24 * u + i < 120 by omega) (show 120 < 2 ^ 31 by decide), nI_clamp (show 24 * u + i < 2 ^ 31 by omega), r1, r2, r3, r4, r5, r6, l3]
    unfold clV
    by_cases q0 : w = 0
    · rw [if_pos q0]; refine .ret ⟨?_, h⟩; rw [if_pos q0]
    rw [if_neg q0]
    by_cases q1 : w = 1
    · rw [if_pos q1]; refine .ret ⟨?_, h⟩; rw [if_neg q0, if_pos q1]
    rw [if_neg q1]
    by_cases q2 : w = 2
    · rw [if_pos q2]; refine .ret ⟨?_, h⟩; rw [if_neg q0, if_neg q1, if_pos q2]
    rw [if_neg q2]
    by_cases q3 : w = 3
    · rw [if_pos q3]; refine .ret ⟨?_, h⟩; rw [if_neg q0, if_neg q1, if_neg q2, if_pos q3]
    rw [if_neg q3]
    by_cases q4 : w = 4
    · rw [if_pos q4]; refine .ret ⟨?_, h⟩; rw [if_neg q0, if_neg q1, if_neg q2, if_neg q3, if_pos q4]
    rw [if_neg q4]
    by_cases q5 : w = 5
    · rw [if_pos q5]; refine .ret ⟨?_, h⟩; rw [if_neg q0, if_neg q1, if_neg q2, if_neg q3, if_neg q4, if_pos q5]
    rw [if_neg q5]
    by_cases q6 : w = 6
    · rw [if_pos q6]; refine .ret ⟨?_, h⟩; rw [if_neg q0, if_neg q1, if_neg q2, if_neg q3, if_neg q4, if_neg q5, if_pos q6, nm]
    rw [if_neg q6]
    refine .ret ⟨?_, h⟩; rw [if_neg q0, if_neg q1, if_neg q2, if_neg q3, if_neg q4, if_neg q5, if_neg q6]
def spLetter (v k i : Int32) (s : SS) : Int32 × SS := (match clAt s v k with
  | none => -1
  | some c => match inR i (nmL c.2.1).length with
    | none => -1
    | some j => (nmL c.2.1).getD j 0, s)
theorem m_letter {M : Nat} {μ : JM} {s : SS} (v k x : Int32) (h : mSt M μ s) (hT : (sTx s).length < 600) : Res (fX11_letter M v k x μ) (fun r ν => r = (spLetter v k x s).1 ∧ mSt M ν (spLetter v k x s).2) := by
  have h1 := h.1
  rw [fX11_letter, jck_of (by rw [h1.1]; rfl), m_isClause v k h hT, jcl_0]
  unfold spLetter
  cases hc : clAt s v k with
  | none => exact .ret ⟨rfl, h⟩
  | some c =>
    obtain ⟨u, t, i, rfl, hu, hV, rfl, hi, ec⟩ := clAt_some hc
    obtain ⟨⟨-, ⟨w0, l1, l2, l3, l4⟩, -⟩, rl, r24⟩ := row_of h hu hV hi
    rw [← ec] at l2
    have w12 := l1.2.2
    rw [Option.isSome_some, if_pos rfl, if_neg (by decide), x24]
    have nm := nmL_w l1 l2
    simp only [jck_true, jde_is, jlt_is, jcl_0, beq_self_eq_true, jT_sI, jT_sJ, jP_sI, jP_sJ, jJ_sI, jI_sJ, jZ_sI, jZ_sJ, h1.1, mP_labelSize h1, mT_labelSize h1, jin_nI (show 24 * u + i < 120 by omega) (show 120 < 2 ^ 31 by decide), nI_clamp (show 24 * u + i < 2 ^ 31 by omega), l3]
    rw [m_in (n := w0.length) (by omega) rfl, jcl_0, nm]
    cases hj : inR x w0.length with
    | none => exact .ret ⟨rfl, h⟩
    | some j =>
      obtain ⟨rfl, hj2⟩ := inR_some hj
      rw [Option.isSome_some, if_pos rfl, if_neg (by decide), show (12 : Int32) * nI (24 * u + i) + nI j = nI (12 * (24 * u + i) + j) from by rw [show (12 : Int32) = nI 12 from rfl, pk_mul, nI_add]]
      simp only [jck_true, jde_is, jlt_is, jcl_0, beq_self_eq_true, jT_sI, jT_sJ, jP_sI, jP_sJ, jJ_sI, jI_sJ, jZ_sI, jZ_sJ, h1.1, mP_label h1, mT_label h1, jin_nI (show 12 * (24 * u + i) + j < 1440 by omega) (show 1440 < 2 ^ 31 by decide), nI_clamp (show 12 * (24 * u + i) + j < 2 ^ 31 by omega), l4 j hj2]
      exact .ret ⟨rfl, h⟩
def csIx (s : SS) (c : Int32) : Option Nat := if sF s = [] then none else inR c (2 ^ (sF s).length)
theorem m_isCase {M : Nat} {μ : JM} {s : SS} (c : Int32) (h : mSt M μ s) : fX11_isCase M c μ = some (if (csIx s c).isSome then 1 else 0, μ, 0, 0) := by
  have h1 := h.1
  rw [fX11_isCase, jck_of (by rw [h1.1]; rfl)]
  unfold csIx
  by_cases hF : sF s = []
  · have fx := h.2.2.2.1
    unfold mFx at fx
    rw [if_pos hF] at fx
    rw [fx.1, if_pos (by decide), if_pos hF]; rfl
  · obtain ⟨a1, a2, a3, a4⟩ := mFx.ne h.2.2.2.1 hF
    have hl := a1.2.1
    have p2 : 2 ^ (sF s).length ≤ 2 ^ 8 := Nat.pow_le_pow_right (by decide) hl
    rw [if_neg a3, if_neg hF, a1.1, shl_b _ (by omega), m_in (n := 2 ^ (sF s).length) (by omega) rfl, jcl_0]
    cases inR c (2 ^ (sF s).length) with
    | none => rfl
    | some i => rfl
theorem csIx_some {M : Nat} {μ : JM} {s : SS} {c : Int32} {n : Nat} (h : mSt M μ s) (hc : csIx s c = some n) : c = nI n ∧ n < 2 ^ (sF s).length ∧ n < 256 ∧ sF s ≠ [] := by
  unfold csIx at hc
  by_cases hF : sF s = []
  · rw [if_pos hF] at hc; cases hc
  · rw [if_neg hF] at hc
    obtain ⟨e1, e2⟩ := inR_some hc
    have hl := (mFx.ne h.2.2.2.1 hF).1.2.1
    have p2 : 2 ^ (sF s).length ≤ 2 ^ 8 := Nat.pow_le_pow_right (by decide) hl
    exact ⟨e1, e2, by omega, hF⟩
theorem m_isSo {M u i n : Nat} {μ : JM} {s : SS} {c : Cl} (h : mSt M μ s) (hF : sF s ≠ []) (hr : mHo M μ (24 * u + i) (Cl.cas c)) (hrow : 24 * u + i < 120) (hn : n < 2 ^ (sF s).length) : fX11_isSo M (nI u) (nI i) (nI n) μ = some (if hasC (Cl.cas c) n then 1 else 0, μ, 0, 0) := by
  have h1 := h.1
  obtain ⟨a1, a2, a3, a4⟩ := mFx.ne h.2.2.2.1 hF
  have hl := a1.2.1
  have p2 : 2 ^ (sF s).length ≤ 2 ^ 8 := Nat.pow_le_pow_right (by decide) hl
  obtain ⟨d1, d2⟩ := div_b n (by omega)
  have ci : n / 64 < 4 := by omega
  rw [fX11_isSo, x24, d1, d2, ix4]
  have ev := hr (n / 64) ci
  rw [a2 _ ci] at ev
  simp only [jck_true, jde_is, jlt_is, jcl_0, beq_self_eq_true, jT_sI, jT_sJ, jP_sI, jP_sJ, jJ_sI, jI_sJ, jZ_sI, jZ_sJ, h1.1, mP_holding h1, mT_holding h1, jin_nI (show 4 * (24 * u + i) + n / 64 < 480 by omega) (show 480 < 2 ^ 31 by decide), nI_clamp (show 4 * (24 * u + i) + n / 64 < 2 ^ 31 by omega), ev]
  have hb := ush_bit (Cl.cas c (n / 64) &&& allC (sF s).length (n / 64)) (show n % 64 < 64 by omega)
  have eb : lb (Cl.cas c (n / 64) &&& allC (sF s).length (n / 64)) (n % 64) = hasC (Cl.cas c) n := by
    rw [l_and, allC_b _ (by omega) _ ci _ (by omega), decide_eq_true (by omega), Bool.and_true]; rfl
  rw [eb] at hb
  by_cases q : hasC (Cl.cas c) n = true
  · rw [if_pos (hb.mpr q), if_pos q]
  · rw [if_neg (fun z => q (hb.mp z)), if_neg q]
def spHolds (v k c : Int32) (s : SS) : Int32 × SS := (match clAt s v k with
  | none => -1
  | some x => match csIx s c with
    | none => -1
    | some n => if hasC (Cl.cas x) n then 1 else 0, s)
theorem m_holds {M : Nat} {μ : JM} {s : SS} (v k c : Int32) (h : mSt M μ s) (hT : (sTx s).length < 600) : Res (fX11_holds M v k c μ) (fun r ν => r = (spHolds v k c s).1 ∧ mSt M ν (spHolds v k c s).2) := by
  have h1 := h.1
  rw [fX11_holds, jck_of (by rw [h1.1]; rfl), m_isClause v k h hT, jcl_0]
  unfold spHolds
  cases hc : clAt s v k with
  | none => exact .ret ⟨rfl, h⟩
  | some x =>
    obtain ⟨u, t, i, rfl, hu, hV, rfl, hi, ec⟩ := clAt_some hc
    obtain ⟨⟨-, -, ho⟩, rl, r24⟩ := row_of h hu hV hi
    rw [← ec] at ho
    rw [Option.isSome_some, if_pos rfl, if_neg (by decide), jck_of (by rw [h1.1]; rfl), m_isCase c h, jcl_0]
    cases hn : csIx s c with
    | none => exact .ret ⟨rfl, h⟩
    | some n =>
      obtain ⟨rfl, n1, n2, n3⟩ := csIx_some h hn
      rw [Option.isSome_some, if_pos rfl, if_neg (by decide), jck_of (by rw [h1.1]; rfl), m_isSo h n3 ho (by omega) n1, jcl_0]
      by_cases q : hasC (Cl.cas x) n = true
      · rw [if_pos q, if_neg (by decide)]; refine .ret ⟨?_, h⟩; dsimp only; rw [if_pos q]
      · rw [if_neg q, if_pos rfl]; refine .ret ⟨?_, h⟩; dsimp only; rw [if_neg q]
def spCount (w : Int32) (s : SS) : Int32 × SS := (if w = 0 then nI (sF s).length else if w = 1 then nI (sP s).length else if w = 2 then nI (sA s).length else if w = 3 then cntW s else if w = 4 then nI (sR s).length else if w = 5 then nI (sTp s).length else if w = 6 then nI (sO s).length else if w = 7 then nI (fb_ct (sFr s) 10000) else match inR (w - 10) 4 with
  | none => -1
  | some u => match sV s u with
    | none => -1
    | some t => nI (txA s t).length, s)
theorem in10 (w : Int32) (μ : JM) : fX11_in w 10 13 μ = some (if (inR (w - 10) 4).isSome then 1 else 0, μ, 0, 0) := by
  rw [fX11_in]
  have e10 : (10 : Int32).toInt = 10 := by decide
  have e13 : (13 : Int32).toInt = 13 := by decide
  have r := fb_rng w
  by_cases q : w < 10
  · have q1 : w.toInt < 10 := by have := (fa_lt w 10).mp q; rwa [e10] at this
    have e : inR (w - 10) 4 = none := by
      unfold inR
      rw [if_neg]
      rintro ⟨z1, z2⟩
      by_cases y : -2147483648 ≤ w.toInt - 10
      · have es := fb_subI (x := w) (y := 10) (by rw [e10]; exact y) (by rw [e10]; omega)
        have := (fa_le 0 (w - 10)).mp z1
        rw [es, e10] at this
        have h0 : (0 : Int32).toInt = 0 := rfl
        omega
      · -- wraps around: large
        have hz : (w - 10).toNatClampNeg = (w - 10).toInt.toNat := rfl
        rw [hz] at z2
        have h2 : (w - 10).toInt = w.toInt - 10 + 4294967296 := by
          rw [Int32.toInt_sub, e10]
          have : w.toInt - 10 = (w.toInt - 10 + 4294967296) - 4294967296 := by omega
          rw [this]
          have hb := fb_bmod (z := w.toInt - 10 + 4294967296) (by omega) (by omega)
          rw [← hb]
          simp [Int.bmod_def]; omega
        omega
    rw [if_pos q, e]; rfl
  · have q1 : 10 ≤ w.toInt := by
      have := (fa_le 10 w).mp (Int32.not_lt.mp q); rwa [e10] at this
    have es := fb_subI (x := w) (y := 10) (by rw [e10]; omega) (by rw [e10]; omega)
    rw [e10] at es
    have h0 : (0 : Int32).toInt = 0 := rfl
    have nn : 0 ≤ w - 10 := by rw [fa_le, es, h0]; omega
    have hz : (w - 10).toNatClampNeg = (w.toInt - 10).toNat := by rw [← es]; rfl
    rw [if_neg q]
    by_cases z : 13 < w
    · have z1 : 13 < w.toInt := by have := (fa_lt 13 w).mp z; rwa [e13] at this
      have e : inR (w - 10) 4 = none := by unfold inR; rw [hz, if_neg (by omega)]
      rw [if_pos z, e]; rfl
    · have z1 : w.toInt ≤ 13 := by have := (fa_le w 13).mp (Int32.not_lt.mp z); rwa [e13] at this
      have e : inR (w - 10) 4 = some (w.toInt - 10).toNat := by unfold inR; rw [hz, if_pos ⟨nn, by omega⟩]
      rw [if_neg z, e]; rfl
theorem m_count {M : Nat} {μ : JM} {s : SS} (w : Int32) (h : mSt M μ s) (hT : (sTx s).length < 600) (hg : gW s) : Res (fX11_count M w μ) (fun r ν => r = (spCount w s).1 ∧ mSt M ν (spCount w s).2) := by
  have h1 := h.1
  have fin : ∀ x : Int32, x = (spCount w s).1 → Res (some (x, μ, 0, 0)) (fun r ν => r = (spCount w s).1 ∧ mSt M ν (spCount w s).2) := fun x hx => .ret ⟨hx, h⟩
  rw [fX11_count]
  simp only [jck_of (show ((jT μ M).1 == 12) = true by rw [h1.1]; rfl), m_worldMany h hg, jcl_0, h.2.2.2.2.1.1, h.2.2.2.2.2.1.1, h.2.2.2.2.2.2.2.2.2.1.1, h.2.1.1, h.2.2.2.2.2.2.2.2.2.2.2.1.1, h.2.2.2.2.2.2.2.2.2.2.2.2.1.1]
  by_cases q0 : w = 0
  · rw [if_pos q0]
    by_cases hF : sF s = []
    · have fx := h.2.2.2.1
      unfold mFx at fx
      rw [if_pos hF] at fx
      rw [fx.1, if_neg (by decide)]
      exact fin _ (by unfold spCount; rw [if_pos q0, hF]; rfl)
    · obtain ⟨a1, a2, a3, a4⟩ := mFx.ne h.2.2.2.1 hF
      rw [if_pos a4, a1.1]
      exact fin _ (by unfold spCount; rw [if_pos q0])
  rw [if_neg q0]
  by_cases q1 : w = 1
  · rw [if_pos q1]; exact fin _ (by unfold spCount; rw [if_neg q0, if_pos q1])
  rw [if_neg q1]
  by_cases q2 : w = 2
  · rw [if_pos q2]; exact fin _ (by unfold spCount; rw [if_neg q0, if_neg q1, if_pos q2])
  rw [if_neg q2]
  by_cases q3 : w = 3
  · rw [if_pos q3]; exact fin _ (by unfold spCount; rw [if_neg q0, if_neg q1, if_neg q2, if_pos q3])
  rw [if_neg q3]
  by_cases q4 : w = 4
  · rw [if_pos q4]; exact fin _ (by unfold spCount; rw [if_neg q0, if_neg q1, if_neg q2, if_neg q3, if_pos q4])
  rw [if_neg q4]
  by_cases q5 : w = 5
  · rw [if_pos q5]; exact fin _ (by unfold spCount; rw [if_neg q0, if_neg q1, if_neg q2, if_neg q3, if_neg q4, if_pos q5])
  rw [if_neg q5]
  by_cases q6 : w = 6
  · rw [if_pos q6]; exact fin _ (by unfold spCount; rw [if_neg q0, if_neg q1, if_neg q2, if_neg q3, if_neg q4, if_neg q5, if_pos q6])
  rw [if_neg q6]
  by_cases q7 : w = 7
  · rw [if_pos q7]; exact fin _ (by unfold spCount; rw [if_neg q0, if_neg q1, if_neg q2, if_neg q3, if_neg q4, if_neg q5, if_neg q6, if_pos q7])
  rw [if_neg q7, in10, jcl_0]
  have e0 : (spCount w s).1 = match inR (w - 10) 4 with | none => -1 | some u => (match sV s u with | none => -1 | some t => nI (txA s t).length) := by
    unfold spCount; rw [if_neg q0, if_neg q1, if_neg q2, if_neg q3, if_neg q4, if_neg q5, if_neg q6, if_neg q7]
  rw [e0] at fin ⊢
  have e2 : (spCount w s).2 = s := rfl
  rw [e2] at fin ⊢
  cases hu : inR (w - 10) 4 with
  | none => rw [hu] at fin; exact fin _ rfl
  | some u =>
    obtain ⟨eu, hu4⟩ := inR_some hu
    rw [hu] at fin
    rw [Option.isSome_some, if_pos rfl, if_neg (by decide), m_isVersion _ h hT, jcl_0]
    have ev : vAt s (w - 10) = sV s u := by unfold vAt; rw [hu]
    rw [ev]
    dsimp only at fin ⊢
    cases hV : sV s u with
    | none => rw [hV] at fin; exact .ck (by rw [h1.1]; rfl) (fin (-1) rfl)
    | some t =>
      rw [hV] at fin
      obtain ⟨a1, a2, a3, a4⟩ := (h.2.2.2.2.2.2.2.1 u hu4).2 t hV
      rw [Option.isSome_some, if_pos rfl, if_neg (by decide), eu]
      simp only [jck_true, jde_is, jlt_is, jcl_0, beq_self_eq_true, jT_sI, jT_sJ, jP_sI, jP_sJ, jJ_sI, jI_sJ, jZ_sI, jZ_sJ, h1.1, mP_clauses h1, mT_clauses h1, jin_nI (show u < 5 by omega) (show 5 < 2 ^ 31 by decide), nI_clamp (show u < 2 ^ 31 by omega), a2]
      exact fin _ rfl
