/-! the class: clause, letter, holds, count, free -/
def gN (s : SS) : Prop := ∀ t, t < (sTx s).length → ∀ c ∈ txA s t, ∃ n, n < 2 ^ 60 ∧ c.2.1 = lN n
theorem c_clAt {B : Nat} {μ : JM} {s : SS} (v k : Int32) (h : cSt B μ s) : ∃ p, fX10_clauseAt B v k μ = some (p, μ, 0, 0) ∧ ((clAt s v k = none ∧ p = none) ∨ ∃ a c t, clAt s v k = some c ∧ p = some a ∧ cE (B + 121) (jZ μ) true μ a c ∧ t < (sTx s).length ∧ c ∈ txA s t) := by
  have hC := h.1
  obtain ⟨va, h1, h2, h3⟩ := c_vAt h
  unfold fX10_clauseAt clAt
  rw [jck_of (by rw [cT0 hC]; rfl), h3 v, jcl_0]
  cases hv : vAt s v with
  | none => exact ⟨none, rfl, Or.inl ⟨rfl, rfl⟩⟩
  | some t =>
    have ht := h2 v t hv
    obtain ⟨q, cl, -⟩ := h1 t ht
    simp only [Option.map_some]
    rw [if_neg (by intro e; cases e)]
    simp only [jck_true, jde_is, jlt_is, jcl_0, beq_self_eq_true, jT_sI, jT_sJ, jP_sI, jP_sJ, jJ_sI, jI_sJ, jZ_sI, jZ_sJ, cl.2.2.1, c_lat cl (by decide)]
    cases hk : inR k (txA s t).length with
    | none => exact ⟨none, rfl, Or.inl ⟨rfl, rfl⟩⟩
    | some i =>
      obtain ⟨-, hi⟩ := inR_some hk
      obtain ⟨a, e1, e2⟩ := cl.2.2.2.2.2.2.2 i hi
      refine ⟨_, rfl, Or.inr ⟨a, _, t, rfl, e1, e2, ht, ?_⟩⟩
      rw [List.getD_eq_getElem?_getD, List.getElem?_eq_getElem hi]; exact List.getElem_mem hi
theorem toN_lN {n : Nat} (h : n < 2 ^ 60) : (lN n).toNatClampNeg = n := by
  show (lN n).toInt.toNat = n
  rw [lN_toI (by omega)]; omega
theorem c_clauseQ {B : Nat} {μ : JM} {s : SS} (v k x : Int32) (h : cSt B μ s) (hg : gN s) : Rq (fX10_clause B v k x μ) (cQ B 0 0 μ (spClause v k x s)) := by
  have hC := h.1
  unfold fX10_clause spClause
  rw [jck_of (by rw [cT0 hC]; rfl)]
  obtain ⟨p, e, Q⟩ := c_clAt v k h
  rw [e, jcl_0]
  rcases Q with ⟨e1, rfl⟩ | ⟨a, c, t, e1, rfl, E, ht, hc⟩
  · rw [e1, if_pos rfl]; exact .ret ⟨Nat.le_refl _, Nat.le_refl _, rfl, h, kM.rf⟩
  · rw [e1, if_neg (by intro z; cases z)]
    obtain ⟨n, hn, en⟩ := hg t ht c hc
    obtain ⟨q, b, tt, -, -, -, -, a5, a6, a7, -, -, -, -, -, a13⟩ := E
    obtain ⟨f1, f2, f3, f4, f5, -⟩ := a13 rfl
    simp only [jck_true, jde_is, jlt_is, jcl_0, beq_self_eq_true, jT_sI, jT_sJ, jP_sI, jP_sJ, jJ_sI, jI_sJ, jZ_sI, jZ_sJ, a5, a6, f1, f2, f3, f4, f5, c_bitI, a7, en, c_letterCount hn]
    refine ⟨clV c x, μ, 0, 0, ?_, Nat.le_refl _, Nat.le_refl _, rfl, h, kM.rf⟩
    unfold clV
    have el : nmL c.2.1 = wl n := by unfold nmL; rw [en, toN_lN hn]
    rw [el]
    by_cases q0 : x = 0
    · rw [if_pos q0, if_pos q0]
    · rw [if_neg q0, if_neg q0]
      by_cases q1 : x = 1
      · rw [if_pos q1, if_pos q1]
      · rw [if_neg q1, if_neg q1]
        by_cases q2 : x = 2
        · rw [if_pos q2, if_pos q2]
        · rw [if_neg q2, if_neg q2]
          by_cases q3 : x = 3
          · rw [if_pos q3, if_pos q3]
          · rw [if_neg q3, if_neg q3]
            by_cases q4 : x = 4
            · rw [if_pos q4, if_pos q4]
            · rw [if_neg q4, if_neg q4]
              by_cases q5 : x = 5
              · rw [if_pos q5, if_pos q5]
              · rw [if_neg q5, if_neg q5]
                by_cases q6 : x = 6
                · rw [if_pos q6, if_pos q6]
                · rw [if_neg q6, if_neg q6]
theorem c_letter {B : Nat} {μ : JM} {s : SS} (v k x : Int32) (h : cSt B μ s) (hg : gN s) : Rq (fX10_letter B v k x μ) (cQ B 0 0 μ (spLetter v k x s)) := by
  have hC := h.1
  unfold fX10_letter spLetter
  rw [jck_of (by rw [cT0 hC]; rfl)]
  obtain ⟨p, e, Q⟩ := c_clAt v k h
  rw [e, jcl_0]
  rcases Q with ⟨e1, rfl⟩ | ⟨a, c, t, e1, rfl, E, ht, hc⟩
  · rw [e1, if_pos rfl]; exact .ret ⟨Nat.le_refl _, Nat.le_refl _, rfl, h, kM.rf⟩
  · rw [e1, if_neg (by intro z; cases z)]
    obtain ⟨n, hn, en⟩ := hg t ht c hc
    obtain ⟨q, b, tt, -, -, -, -, a5, a6, a7, -⟩ := E
    have el : nmL c.2.1 = wl n := by unfold nmL; rw [en, toN_lN hn]
    simp only [jck_true, jde_is, jlt_is, jcl_0, beq_self_eq_true, jT_sI, jT_sJ, jP_sI, jP_sJ, jJ_sI, jI_sJ, jZ_sI, jZ_sJ, a5, a7, en, c_letterAt2 hn]
    refine .ret ⟨Nat.le_refl _, Nat.le_refl _, ?_, h, kM.rf⟩
    dsimp only
    rw [← en, el]
    cases inR x (wl n).length <;> rfl
theorem sm1 {α : Type} {x : α} : ¬ ((if (some x).isSome = true then (1 : Int32) else 0) = 0) := by rw [Option.isSome_some, if_pos rfl]; decide
theorem c_isCase {B : Nat} {μ : JM} {s : SS} (c : Int32) (h : cSt B μ s) : fX10_isCase B c μ = some (if (csIx s c).isSome then 1 else 0, μ, 0, 0) := by
  have hC := h.1
  have w9 := h.2.1.2.1
  have hl := w9.2.1
  unfold fX10_isCase csIx
  simp only [jck_true, jde_is, jlt_is, jcl_0, beq_self_eq_true, jT_sI, jT_sJ, jP_sI, jP_sJ, jJ_sI, jI_sJ, jZ_sI, jZ_sJ, cT0 hC, cP0_3 hC, cT9 hC, w9.1]
  by_cases q1 : sF s = []
  · rw [if_pos (by rw [q1]; decide), if_pos q1]; rfl
  · have hp : 0 < (sF s).length := List.length_pos_iff.mpr q1
    rw [if_neg (nI_nle hp (by omega)), if_neg q1]
    have p2 : 2 ^ (sF s).length ≤ 2 ^ 8 := Nat.pow_le_pow_right (by decide) hl
    cases hx : inR c (2 ^ (sF s).length) with
    | none =>
      by_cases t : c < 0
      · rw [if_pos t]; rfl
      · rw [if_neg t, c_caseCount hC w9, jcl_0]
        obtain ⟨j, hj, rfl⟩ := nI_of t
        have : ¬ j < 2 ^ (sF s).length := fun u => by
          unfold inR at hx
          rw [if_pos ⟨nI_pos' hj, by rw [nI_clamp hj]; exact u⟩] at hx
          cases hx
        rw [if_pos (nI_le (by omega) hj)]; rfl
    | some j =>
      obtain ⟨rfl, hj⟩ := inR_some hx
      rw [if_neg (nI_pos (by omega)), c_caseCount hC w9, jcl_0, if_neg (nI_ge hj (by omega))]; rfl
theorem cs_lt {B : Nat} {μ : JM} {s : SS} {c : Int32} {n : Nat} (h : cSt B μ s) (hc : csIx s c = some n) : c = nI n ∧ n < 256 ∧ n < nCs s := by
  have hl := h.2.1.2.1.2.1
  have p2 : 2 ^ (sF s).length ≤ 2 ^ 8 := Nat.pow_le_pow_right (by decide) hl
  unfold csIx at hc
  by_cases q : sF s = []
  · rw [if_pos q] at hc; cases hc
  · rw [if_neg q] at hc
    obtain ⟨e, hn⟩ := inR_some hc
    exact ⟨e, by omega, hn⟩
theorem c_holds {B : Nat} {μ : JM} {s : SS} (v k x : Int32) (h : cSt B μ s) : Rq (fX10_holds B v k x μ) (cQ B 0 0 μ (spHolds v k x s)) := by
  have hC := h.1
  unfold fX10_holds spHolds
  rw [jck_of (by rw [cT0 hC]; rfl)]
  obtain ⟨p, e, Q⟩ := c_clAt v k h
  rw [e, jcl_0]
  rcases Q with ⟨e1, rfl⟩ | ⟨a, c, t, e1, rfl, E, ht, hc⟩
  · rw [e1, if_pos rfl]; exact .ret ⟨Nat.le_refl _, Nat.le_refl _, rfl, h, kM.rf⟩
  · rw [e1, if_neg (by intro z; cases z), jck_of (by rw [cT0 hC]; rfl), c_isCase x h, jcl_0]
    obtain ⟨q, b, tt, -, -, -, -, a5, -, -, a8, a9, -, -, -, a13⟩ := E
    cases hx : csIx s x with
    | none => exact .ret ⟨Nat.le_refl _, Nat.le_refl _, rfl, h, kM.rf⟩
    | some n =>
      obtain ⟨rfl, hn, -⟩ := cs_lt h hx
      rw [if_neg sm1]
      simp only [jck_true, jde_is, jlt_is, jcl_0, beq_self_eq_true, jT_sI, jT_sJ, jP_sI, jP_sJ, jJ_sI, jI_sJ, jZ_sI, jZ_sJ, a5, a8, a9.1, c_has a9 (a13 rfl).2.2.2.2.2 hn]
      refine ⟨if hasC (Cl.cas c) n then 1 else 0, μ, 0, 0, ?_, Nat.le_refl _, Nat.le_refl _, rfl, h, kM.rf⟩
      by_cases u : hasC (Cl.cas c) n = true
      · rw [if_pos u, if_neg (by decide)]
      · rw [if_neg u, if_pos rfl]
theorem c_count {B : Nat} {μ : JM} {s : SS} (x : Int32) (h : cSt B μ s) : Rq (fX10_count B x μ) (cQ B 0 0 μ (spCount x s)) := by
  have hC := h.1
  obtain ⟨-, g2, g3, g4, g5, g6, g7, g8⟩ := id h
  unfold fX10_count spCount
  have ok : ∀ r, r = (spCount x s).1 → Rq (some (r, μ, 0, 0)) (cQ B 0 0 μ (spCount x s)) := fun r hr => .ret ⟨Nat.le_refl _, Nat.le_refl _, hr, h, kM.rf⟩
  unfold spCount at ok
  dsimp only at ok
  by_cases q0 : x = 0
  · rw [if_pos q0]; simp only [jck_true, jde_is, jlt_is, jcl_0, beq_self_eq_true, jT_sI, jT_sJ, jP_sI, jP_sJ, jJ_sI, jI_sJ, jZ_sI, jZ_sJ, cT0 hC, cP0_3 hC, cT9 hC, g2.2.1.1]; exact ok _ (by rw [if_pos q0])
  · rw [if_neg q0]
    by_cases q1 : x = 1
    · rw [if_pos q1]; simp only [jck_true, jde_is, jlt_is, jcl_0, beq_self_eq_true, jT_sI, jT_sJ, jP_sI, jP_sJ, jJ_sI, jI_sJ, jZ_sI, jZ_sJ, cT0 hC, cP0_4 hC, cT11 hC, g2.2.2.1.1]; exact ok _ (by rw [if_neg q0, if_pos q1])
    · rw [if_neg q1]
      by_cases q2 : x = 2
      · rw [if_pos q2]; simp only [jck_true, jde_is, jlt_is, jcl_0, beq_self_eq_true, jT_sI, jT_sJ, jP_sI, jP_sJ, jJ_sI, jI_sJ, jZ_sI, jZ_sJ, cT0 hC, cP0_5 hC, cT13 hC, g2.2.2.2.1.1]; exact ok _ (by rw [if_neg q0, if_neg q1, if_pos q2])
      · rw [if_neg q2]
        by_cases q3 : x = 3
        · rw [if_pos q3]; simp only [jck_true, jde_is, jlt_is, jcl_0, beq_self_eq_true, jT_sI, jT_sJ, jP_sI, jP_sJ, jJ_sI, jI_sJ, jZ_sI, jZ_sJ, cT0 hC, cP0_10 hC, cT71 hC, c_total (ca_w hC) g7]; exact ok _ (by rw [if_neg q0, if_neg q1, if_neg q2, if_pos q3]; rfl)
        · rw [if_neg q3]
          by_cases q4 : x = 4
          · rw [if_pos q4]; simp only [jck_true, jde_is, jlt_is, jcl_0, beq_self_eq_true, jT_sI, jT_sJ, jP_sI, jP_sJ, jJ_sI, jI_sJ, jZ_sI, jZ_sJ, cT0 hC, g6.2.1]; exact ok _ (by rw [if_neg q0, if_neg q1, if_neg q2, if_neg q3, if_pos q4])
          · rw [if_neg q4]
            by_cases q5 : x = 5
            · rw [if_pos q5]; simp only [jck_true, jde_is, jlt_is, jcl_0, beq_self_eq_true, jT_sI, jT_sJ, jP_sI, jP_sJ, jJ_sI, jI_sJ, jZ_sI, jZ_sJ, cT0 hC, cP0_0 hC, cT3 hC, g3.1.1]; exact ok _ (by rw [if_neg q0, if_neg q1, if_neg q2, if_neg q3, if_neg q4, if_pos q5])
            · rw [if_neg q5]
              by_cases q6 : x = 6
              · rw [if_pos q6]; simp only [jck_true, jde_is, jlt_is, jcl_0, beq_self_eq_true, jT_sI, jT_sJ, jP_sI, jP_sJ, jJ_sI, jI_sJ, jZ_sI, jZ_sJ, cT0 hC, cP0_1 hC, cT5 hC, g4.1.1]; exact ok _ (by rw [if_neg q0, if_neg q1, if_neg q2, if_neg q3, if_neg q4, if_neg q5, if_pos q6])
              · rw [if_neg q6]
                by_cases q7 : x = 7
                · rw [if_pos q7]; simp only [jck_true, jde_is, jlt_is, jcl_0, beq_self_eq_true, jT_sI, jT_sJ, jP_sI, jP_sJ, jJ_sI, jI_sJ, jZ_sI, jZ_sJ, cT0 hC, cP0_11 hC, cT73 hC, g8.1]; exact ok _ (by rw [if_neg q0, if_neg q1, if_neg q2, if_neg q3, if_neg q4, if_neg q5, if_neg q6, if_pos q7])
                · rw [if_neg q7, jck_of (by rw [cT0 hC]; rfl)]
                  simp only [if_neg q0, if_neg q1, if_neg q2, if_neg q3, if_neg q4, if_neg q5, if_neg q6, if_neg q7] at ok ⊢
                  obtain ⟨va, h1, h2, h3⟩ := c_vAt h
                  unfold fX10_clauseCount
                  by_cases c10 : 10 ≤ x
                  · rw [if_pos c10, jck_of (by rw [cT0 hC]; rfl), h3, jcl_0]
                    have ev : vAt s (x - 10) = match inR (x - 10) 4 with | none => none | some u => sV s u := rfl
                    cases hx : inR (x - 10) 4 with
                    | none =>
                      rw [hx] at ev ok
                      rw [ev]
                      exact ok _ rfl
                    | some u =>
                      rw [hx] at ev ok
                      dsimp only at ev ok ⊢
                      cases hv : sV s u with
                      | none =>
                        rw [hv] at ev ok
                        rw [ev]
                        exact ok _ rfl
                      | some t =>
                        rw [hv] at ev ok
                        have ht := h2 _ t ev
                        obtain ⟨q, cl, -⟩ := h1 t ht
                        rw [ev]
                        simp only [Option.map_some]
                        rw [if_neg (by intro e; cases e)]
                        simp only [jck_true, jde_is, jlt_is, jcl_0, beq_self_eq_true, jT_sI, jT_sJ, jP_sI, jP_sJ, jJ_sI, jI_sJ, jZ_sI, jZ_sJ, cl.2.2.1, cl.2.2.2.1]
                        exact ok _ rfl
                  · rw [if_neg c10, jcl_0]
                    have hx : inR (x - 10) 4 = none := by
                      cases hy : inR (x - 10) 4 with
                      | none => rfl
                      | some u =>
                        exfalso
                        obtain ⟨e, hu⟩ := inR_some hy
                        have e2 : x = nI (10 + u) := by
                          have : x = (x - 10) + 10 := by rw [Int32.sub_add_cancel]
                          rw [this, e, show (10 : Int32) = nI 10 from rfl, nI_add]; congr 1; omega
                        exact c10 (by rw [e2]; exact nI_le (a := 10) (by omega) (by omega))
                    rw [hx] at ok ⊢
                    exact ok _ rfl
/-! the calendar -/
theorem sh_one : ∀ b, b < 64 → ∀ i, i < 64 → lb (jlshl 1 (nI b)) i = decide (i = b) := by decide +kernel
theorem c_isDay {x : Int32} {μ : JM} : fX0_isDay x μ = some (if (inR x 10000).isSome then 1 else 0, μ, 0, 0) := by
  unfold fX0_isDay
  cases hx : inR x 10000 with
  | none =>
    by_cases c : x < 0
    · rw [if_pos c]; rfl
    · rw [if_neg c]
      obtain ⟨j, hj, rfl⟩ := nI_of c
      have : ¬ j < 10000 := fun t => by
        unfold inR at hx
        rw [if_pos ⟨nI_pos' hj, by rw [nI_clamp hj]; exact t⟩] at hx
        cases hx
      rw [if_pos (show (9999 : Int32) < nI j from nI_lt (a := 9999) (by omega) hj)]; rfl
  | some j =>
    obtain ⟨rfl, hj⟩ := inR_some hx
    rw [if_neg (nI_pos (by omega)), if_neg (show ¬ (9999 : Int32) < nI j from nI_nlt (a := 9999) (by omega) (by decide))]; rfl
theorem c_isFreeD {B d : Nat} {μ : JM} {s : SS} (hC : CT B μ) (h : cCa B μ s) (hd : d < 10000) : fX0_isFree (B + 73) (nI d) μ = some (if sFr s d = true then 1 else 0, μ, 0, 0) := by
  have hi : inR (nI d) 10000 = some d := by unfold inR; rw [nI_clamp (by omega), if_pos ⟨nI_pos' (by omega), hd⟩]
  unfold fX0_isFree
  rw [c_isDay, hi, jcl_0, if_neg sm1]
  have e1 : nI d / 64 = nI (d / 64) := pk_div (d := 64) (by omega) (by decide) (by decide)
  have e2 : jrem (nI d) 64 = nI (d % 64) := pk_rem (d := 64) (by omega) (by decide) (by decide)
  simp only [jck_true, jde_is, jlt_is, jcl_0, beq_self_eq_true, jT_sI, jT_sJ, jP_sI, jP_sJ, jJ_sI, jI_sJ, jZ_sI, jZ_sJ, cT73 hC, cP73_0 hC, cT74 hC, e1, e2, jin_nI (show d / 64 < 157 by omega) (by decide), nI_clamp (show d / 64 < 2 ^ 31 by omega)]
  rw [← h.2 d hd]
  by_cases t : lb (jJ μ (B + 74) (d / 64)) (d % 64) = true
  · rw [if_pos ((ash_bit _ (by omega)).mpr t), if_pos t]
  · rw [if_neg (fun z => t ((ash_bit _ (by omega)).mp z)), if_neg t]
theorem c_free {B : Nat} {μ : JM} {s : SS} (day : Int32) (is : Bool) (h : cSt B μ s) : Rq (fX10_free B day (if is then 1 else 0) μ) (cQ B 0 0 μ (spFree day is s)) := by
  have hC := h.1
  have hB := hC.2.2
  obtain ⟨g1, g2, g3, g4, g5, g6, g7, g8⟩ := id h
  unfold fX10_free spFree fX0_mark
  simp only [jck_true, jde_is, jlt_is, jcl_0, beq_self_eq_true, jT_sI, jT_sJ, jP_sI, jP_sJ, jJ_sI, jI_sJ, jZ_sI, jZ_sJ, cT0 hC, cP0_11 hC, cT73 hC, c_isDay]
  cases hx : inR day 10000 with
  | none =>
    rw [if_pos (show (if (none : Option Nat).isSome = true then (1 : Int32) else 0) = 0 from rfl), jcl_0]
    exact .ck (by decide) (.ret ⟨Nat.le_refl _, Nat.le_refl _, rfl, h, kM.rf⟩)
  | some d =>
    obtain ⟨rfl, hd⟩ := inR_some hx
    rw [if_neg sm1]
    simp only [jck_true, jde_is, jlt_is, jcl_0, beq_self_eq_true, jT_sI, jT_sJ, jP_sI, jP_sJ, jJ_sI, jI_sJ, jZ_sI, jZ_sJ, c_isFreeD hC g8 hd]
    by_cases q : sFr s d = is
    · rw [if_pos q, if_pos (by rw [q]), jcl_0]
      exact .ck (by decide) (.ret ⟨Nat.le_refl _, Nat.le_refl _, rfl, h, kM.rf⟩)
    · have hne : ¬ ((if sFr s d = true then (1 : Int32) else 0) = if is = true then 1 else 0) := by
        revert q
        cases sFr s d <;> cases is <;> decide
      rw [if_neg q, if_neg hne]
      have e1 : nI d / 64 = nI (d / 64) := pk_div (d := 64) (by omega) (by decide) (by decide)
      have e2 : jrem (nI d) 64 = nI (d % 64) := pk_rem (d := 64) (by omega) (by decide) (by decide)
      simp only [jck_true, jde_is, jlt_is, jcl_0, beq_self_eq_true, jT_sI, jT_sJ, jP_sI, jP_sJ, jJ_sI, jI_sJ, jZ_sI, jZ_sJ, cP73_0 hC, cT74 hC, e1, e2, jin_nI (show d / 64 < 157 by omega) (by decide), nI_clamp (show d / 64 < 2 ^ 31 by omega), g8.1]
      have up := fb_ct_upd (sFr s) is (i := d) (n := 10000) hd
      have fin : ∀ x : Int32, x = nI (fb_ct (fun k => if k = d then is else sFr s k) 10000) → cQ B 0 0 μ (1, wFr s (fun k => if k = d then is else sFr s k)) 1 (jsI (jsJ μ (B + 74) (d / 64) (jJ μ (B + 74) (d / 64) ^^^ jlshl 1 (nI (d % 64)))) (B + 73) 1 x) 0 0 := by
        intro x hx
        have S : cs B (jZ μ) [73, 74] μ (jsI (jsJ μ (B + 74) (d / 64) (jJ μ (B + 74) (d / 64) ^^^ jlshl 1 (nI (d % 64)))) (B + 73) 1 x) := (cs.sJ (by decide)).tr (cs.sI (by decide))
        have r := S.tocr
        refine ⟨Nat.le_refl _, Nat.le_refl _, rfl, ⟨S.ct hC hB, g2.kr r hB (by decide) (by rw [S.iI (by omega) (by decide)]; exact g2.2.2.2.2), g3.kr r hB (by decide) (by decide), g4.kr r hB (by decide) (by decide), g5.kr r (by decide) hB, g6.kr r hB (by decide), g7.kr r hB (by decide), ?_, fun e he => ?_⟩, S.km hB hB (by decide)⟩
        · rw [jI_sI, if_pos ⟨rfl, rfl⟩]; exact hx
        · rw [jJ_sI, jJ_sJ]
          show _ = if e = d then is else sFr s e
          by_cases c : e / 64 = d / 64
          · rw [if_pos ⟨rfl, c⟩, l_xor, sh_one _ (by omega) _ (by omega), ← c, g8.2 e he]
            by_cases c2 : e = d
            · subst c2
              rw [if_pos rfl, decide_eq_true rfl]
              revert q
              cases sFr s e <;> cases is <;> decide
            · rw [if_neg c2, decide_eq_false (by omega), Bool.xor_false]
          · rw [if_neg (fun t => c t.2), g8.2 e he, if_neg (by intro t; rw [t] at c; exact c rfl)]
      cases is with
      | true =>
        have sd : sFr s d = false := by simpa using q
        rw [sd] at up
        simp only [Bool.false_eq_true, if_false, if_true] at up
        rw [if_neg (by decide), jck_of (by rw [cT73 hC]; rfl), jcl_0]
        refine .ck (by decide) (.ret (fin _ ?_))
        have hp : fb_ct (fun k => if k = d then true else sFr s k) 10000 = fb_ct (sFr s) 10000 + 1 := by omega
        rw [nI_1, hp]
      | false =>
        have sd : sFr s d = true := by simpa using q
        rw [sd] at up
        simp only [Bool.false_eq_true, if_false, if_true] at up
        rw [if_pos (by decide), jck_of (by rw [cT73 hC]; rfl), jcl_0]
        refine .ck (by decide) (.ret (fin _ ?_))
        have hp : fb_ct (sFr s) 10000 = fb_ct (fun k => if k = d then false else sFr s k) 10000 + 1 := by omega
        rw [hp, ← nI_1, Int32.add_assoc, show (1 : Int32) + (-1) = 0 from by decide, Int32.add_zero]
