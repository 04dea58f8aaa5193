/-! the class: outcomes, outcome, due -/
theorem cKy.ke {B z : Nat} {μ ν : JM} {L : List Int32} {as : List Nat} (h : cKy B μ L) (s : cs B z as μ ν) (hz : B + 75 < z) (ha : 75 ∉ as) : cKy B ν L := ⟨h.1, by rw [s.iI hz ha]; exact h.2⟩
theorem cSt.k75 {B : Nat} {μ ν : JM} {s : SS} (h : cSt B μ s) (r : cn B (jZ μ) [75] μ ν) : cSt B ν s := h.kr r.1.tocr (by decide) (by decide) (by rw [r.1.iI (by have := h.1.2.2; omega) (by decide)]; exact h.2.1.2.2.2.2)
theorem c_outc {B : Nat} {μ : JM} {s : SS} (v c : Int32) (h : cSt B μ s) (hg : gK s) : ∃ ν, fX10_outcomes B v c μ = some ((spOutcomes v c s).1, ν, 0, 0) ∧ cn B (jZ μ) [75] μ ν ∧ ∀ t n, vAt s v = some t → csIx s c = some n → cKy B ν (kys n (txA s t) []) ∧ (kys n (txA s t) []).length ≤ 24 := by
  have hC := h.1
  obtain ⟨va, h1, h2, h3⟩ := c_vAt h
  unfold fX10_outcomes spOutcomes
  rw [jck_of (by rw [cT0 hC]; rfl), h3 v, jcl_0]
  cases hv : vAt s v with
  | none => exact ⟨μ, rfl, cn.rf, fun t n e => by cases e⟩
  | some t =>
    have ht := h2 v t hv
    obtain ⟨q, cl, -⟩ := h1 t ht
    simp only [Option.map_some]
    rw [if_neg (by intro e; cases e), jck_of (by rw [cT0 hC]; rfl), c_isCase c h, jcl_0]
    cases hx : csIx s c with
    | none => exact ⟨μ, rfl, cn.rf, fun t n _ e => by cases e⟩
    | some n =>
      obtain ⟨rfl, hn, -⟩ := cs_lt h hx
      rw [if_neg sm1]
      simp only [jck_true, jde_is, jlt_is, jcl_0, beq_self_eq_true, jT_sI, jT_sJ, jP_sI, jP_sJ, jJ_sI, jI_sJ, jZ_sI, jZ_sJ, cT0 hC, cl.2.2.1, cP0_12 hC]
      unfold fX8_gatherKeys
      obtain ⟨ν, e, s1, K⟩ := gk_l (n := n) hn (hg t ht) jfuel 0 [] μ hC cl ⟨by decide, fun i hi => absurd hi (by simp)⟩ (by simp) (Nat.zero_le _) (jfuel_gt (by have := cl.2.2.2.2.1; omega))
      rw [List.drop_zero] at e K
      have e' : fX8_gatherKeys_b5 jfuel (va t) (nI n) (some (B + 75)) 0 0 μ = _ := e
      rw [e', jcl_0]
      refine ⟨ν, rfl, s1, fun t' n' ht' hn' => ?_⟩
      injection ht' with ht'
      injection hn' with hn'
      subst ht' hn'
      exact ⟨K, K.1⟩
theorem c_outcomes {B : Nat} {μ : JM} {s : SS} (v c : Int32) (h : cSt B μ s) (hg : gK s) : Rq (fX10_outcomes B v c μ) (cQ B 0 0 μ (spOutcomes v c s)) := by
  obtain ⟨ν, e, s1, -⟩ := c_outc v c h hg
  have hB := h.1.2.2
  exact ⟨_, ν, 0, 0, e, Nat.le_refl _, Nat.le_refl _, rfl, h.k75 s1, s1.1.km hB hB (by decide)⟩
theorem insK_mem {o : Int32} {P : Int32 → Prop} (ho : P o) : ∀ L : List Int32, (∀ x ∈ L, P x) → ∀ x ∈ insK o L, P x
  | [], _, x, hx => by rw [insK, List.mem_singleton] at hx; rw [hx]; exact ho
  | y :: r, h, x, hx => by
    rw [insK] at hx
    split at hx
    · rcases List.mem_cons.mp hx with e | e
      · rw [e]; exact h y List.mem_cons_self
      · exact insK_mem ho r (fun z hz => h z (List.mem_cons_of_mem _ hz)) x e
    · split at hx
      · exact h x hx
      · rcases List.mem_cons.mp hx with e | e
        · rw [e]; exact ho
        · exact h x e
theorem kys_pos (n : Nat) : ∀ (cls : List Cl) (L : List Int32), (∀ c ∈ cls, isDf c = true ∨ rngK c) → (∀ x ∈ L, ∃ m, m < 2 ^ 20 ∧ x = nI m) → ∀ x ∈ kys n cls L, ∃ m, m < 2 ^ 20 ∧ x = nI m
  | [], L, _, hL, x, hx => hL x hx
  | c :: r, L, hc, hL, x, hx => by
    rw [kys] at hx
    refine kys_pos n r _ (fun d hd => hc d (List.mem_cons_of_mem _ hd)) ?_ x hx
    by_cases q : isDf c = true ∨ hasC (Cl.cas c) n = false
    · rw [if_pos q]; exact hL
    · rw [if_neg q]
      rcases hc c List.mem_cons_self with z | z
      · exact absurd (Or.inl z) q
      · obtain ⟨m, m1, m2, -⟩ := key_ok z
        exact insK_mem ⟨m, m1, m2⟩ L hL
theorem c_keyAt {B : Nat} {μ : JM} {s : SS} (v c i : Int32) (h : cSt B μ s) (hg : gK s) : ∃ ν, fX10_keyAt B v c i μ = some ((match ocAt s v c i with | none => -1 | some o => o), ν, 0, 0) ∧ cn B (jZ μ) [75] μ ν ∧ ∀ o, ocAt s v c i = some o → ¬ o = -1 := by
  have hC := h.1
  have hB := hC.2.2
  obtain ⟨va, -, h2, -⟩ := c_vAt h
  obtain ⟨ν, e, s1, K⟩ := c_outc v c h hg
  have hCn := s1.1.ct hC hB
  unfold fX10_keyAt
  rw [jck_of (by rw [cT0 hC]; rfl), e, jcl_0]
  unfold spOutcomes ocAt
  dsimp only
  have neg : ∀ r : Int32, r = -1 → ∃ ρ, (if i < 0 then (some ((-1 : Int32), ν, 0, 0) : JO Int32) else if r ≤ i then some (-1, ν, 0, 0) else jck ((jT ν B).1 == 11) <| jde (jP ν B 12) fun q14 => jck ((jT ν q14).1 == 101) <| if i < (nI (jT ν q14).2) then (jck (jin i (jT ν q14).2) <| some ((jI ν q14 i.toNatClampNeg), ν, 0, 0)) else (some ((-1 : Int32), ν, 0, 0))) = some (-1, ρ, 0, 0) ∧ cn B (jZ μ) [75] μ ρ := by
    intro r hr
    by_cases q : i < 0
    · rw [if_pos q]; exact ⟨ν, rfl, s1⟩
    · rw [if_neg q, if_pos]
      · exact ⟨ν, rfl, s1⟩
      · obtain ⟨j, hj, rfl⟩ := nI_of q
        rw [hr, fa_le, nI_toInt hj]
        have : (-1 : Int32).toInt = -1 := by decide
        omega
  cases hv : vAt s v with
  | none =>
    obtain ⟨ρ, e1, e2⟩ := neg (-1) rfl
    exact ⟨ρ, e1, e2, fun o ho => by cases ho⟩
  | some t =>
    have ht := h2 v t hv
    dsimp only
    cases hx : csIx s c with
    | none =>
      obtain ⟨ρ, e1, e2⟩ := neg (-1) rfl
      exact ⟨ρ, e1, e2, fun o ho => by cases ho⟩
    | some n =>
      dsimp only
      obtain ⟨K1, K2⟩ := K t n hv hx
      have kp := kys_pos n (txA s t) [] (hg t ht) (fun x hx => by cases hx)
      cases hi : inR i (kys n (txA s t) []).length with
      | none =>
        refine ⟨ν, ?_, s1, fun o ho => by cases ho⟩
        by_cases q : i < 0
        · rw [if_pos q]
        · rw [if_neg q]
          obtain ⟨j, hj, rfl⟩ := nI_of q
          have : ¬ j < (kys n (txA s t) []).length := fun t => by
            unfold inR at hi
            rw [if_pos ⟨nI_pos' hj, by rw [nI_clamp hj]; exact t⟩] at hi
            cases hi
          rw [if_pos (nI_le (by omega) hj)]
      | some j =>
        obtain ⟨rfl, hj⟩ := inR_some hi
        dsimp only
        rw [if_neg (nI_pos (by omega)), if_neg (nI_ge hj (by omega))]
        simp only [jck_true, jde_is, jlt_is, jcl_0, beq_self_eq_true, jT_sI, jT_sJ, jP_sI, jP_sJ, jJ_sI, jI_sJ, jZ_sI, jZ_sJ, cT0 hCn, cP0_12 hCn, cT75 hCn]
        rw [if_pos (show nI j < nI 24 from nI_lt (by omega) (by decide))]
        simp only [jck_true, jde_is, jlt_is, jcl_0, beq_self_eq_true, jT_sI, jT_sJ, jP_sI, jP_sJ, jJ_sI, jI_sJ, jZ_sI, jZ_sJ, jin_nI (show j < 24 by omega) (show 24 < 2 ^ 31 by decide), nI_clamp (show j < 2 ^ 31 by omega), K1.2 j hj]
        refine ⟨ν, rfl, s1, fun o ho => ?_⟩
        injection ho with ho
        obtain ⟨m, m1, m2⟩ := kp ((kys n (txA s t) []).getD j 0) (by rw [List.getD_eq_getElem?_getD, List.getElem?_eq_getElem hj]; exact List.getElem_mem hj)
        rw [← ho, m2]
        intro e
        have := congrArg Int32.toInt e
        rw [nI_toInt (by omega)] at this
        have e2 : (-1 : Int32).toInt = -1 := by decide
        omega
theorem key_num (o : Int32) : jshr o 1 &&& 511 = jshr (o &&& 1023) 1 := by
  refine b_ext fun i hi => ?_
  have m511 : ∀ i, i < 32 → bt 511 i = decide (i < 9) := by decide +kernel
  have m1023 : ∀ i, i < 33 → bt 1023 i = decide (i < 10) := by decide +kernel
  have e1 : ∀ x : Int32, bt (jshr x 1) i = if 1 + i < 32 then bt x (1 + i) else bt x 31 := fun x => b_sshr 1 (by decide) x hi
  rw [b_and, e1, e1, b_and, b_and, m511 i hi, m1023 31 (by decide)]
  by_cases c : 1 + i < 32
  · rw [if_pos c, if_pos c, m1023 _ (by omega)]
    by_cases d : i < 9
    · rw [decide_eq_true d, decide_eq_true (show 1 + i < 10 by omega)]
    · rw [decide_eq_false d, decide_eq_false (show ¬ 1 + i < 10 by omega)]
  · rw [if_neg c, if_neg c, decide_eq_false (show ¬ i < 9 by omega), decide_eq_false (show ¬ 31 < 10 by decide)]
theorem c_outcome {B : Nat} {μ : JM} {s : SS} (v c i x : Int32) (h : cSt B μ s) (hg : gK s) : Rq (fX10_outcome B v c i x μ) (cQ B 0 0 μ (spOutcome v c i x s)) := by
  have hC := h.1
  have hB := hC.2.2
  obtain ⟨ν, e, s1, ne⟩ := c_keyAt v c i h hg
  have ok : ∀ r, r = ocA s v c i x → Rq (some (r, ν, 0, 0)) (cQ B 0 0 μ (spOutcome v c i x s)) := fun r hr => .ret ⟨Nat.le_refl _, Nat.le_refl _, hr, h.k75 s1, s1.1.km hB hB (by decide)⟩
  unfold fX10_outcome
  rw [jck_of (by rw [cT0 hC]; rfl), e, jcl_0]
  unfold ocA at ok
  cases ho : ocAt s v c i with
  | none =>
    rw [ho] at ok
    rw [if_pos rfl]; exact ok _ rfl
  | some o =>
    rw [ho] at ok
    dsimp only at ok ⊢
    rw [if_neg (ne o ho)]
    unfold fX2_keyKind
    rw [jcl_0]
    have b31 : ∀ s0 : Int32, (s0 = 0 ↔ ¬ jshr o 17 = 1) → Rq (fX10_outcome_b31 x o s0 ν) (cQ B 0 0 μ (spOutcome v c i x s)) := by
      intro s0 hs
      rw [fX10_outcome_b31]
      unfold ocV at ok
      simp only [fX2_keyKind, fX2_keyParty, fX2_keyAct, fX2_keyNumber, fX2_keyWorkdays, jcl_0]
      by_cases q0 : x = 0
      · rw [if_pos q0]; exact ok _ (by rw [if_pos q0])
      · rw [if_neg q0]
        by_cases q1 : x = 1
        · rw [if_pos q1]; exact ok _ (by rw [if_neg q0, if_pos q1])
        · rw [if_neg q1]
          by_cases q2 : x = 2
          · rw [if_pos q2]; exact ok _ (by rw [if_neg q0, if_neg q1, if_pos q2])
          · rw [if_neg q2]
            by_cases q3 : x = 3
            · rw [if_pos q3]
              by_cases t : s0 = 0
              · rw [if_pos t]; exact ok _ (by rw [if_neg q0, if_neg q1, if_neg q2, if_pos q3, if_neg (hs.mp t)])
              · rw [if_neg t]
                have : jshr o 17 = 1 := by
                  by_cases u : jshr o 17 = 1
                  · exact u
                  · exact absurd (hs.mpr u) t
                exact ok _ (by rw [if_neg q0, if_neg q1, if_neg q2, if_pos q3, if_pos this, key_num])
            · rw [if_neg q3]
              by_cases q4 : x = 4
              · rw [if_pos q4]
                by_cases t : s0 = 0
                · rw [if_pos t]; exact ok _ (by rw [if_neg q0, if_neg q1, if_neg q2, if_neg q3, if_pos q4, if_neg (hs.mp t)])
                · rw [if_neg t]
                  have : jshr o 17 = 1 := by
                    by_cases u : jshr o 17 = 1
                    · exact u
                    · exact absurd (hs.mpr u) t
                  exact ok _ (by rw [if_neg q0, if_neg q1, if_neg q2, if_neg q3, if_pos q4, if_pos this])
              · rw [if_neg q4]; exact ok _ (by rw [if_neg q0, if_neg q1, if_neg q2, if_neg q3, if_neg q4])
    by_cases u : jshr o 17 = 1
    · rw [if_pos u]; exact b31 1 ⟨fun z => absurd z (by decide), fun z => absurd u z⟩
    · rw [if_neg u]; exact b31 0 ⟨fun _ => u, fun _ => rfl⟩
theorem wd_l {B : Nat} {μ : JM} {s : SS} (hC : CT B μ) (g : cCa B μ s) : ∀ (fu n d f : Nat), 0 < n → n < 1000 → d ≤ 9999 → 10000 - d < fu → 10002 - d ≤ f → fX0_workdaysOn_b13 fu (B + 73) (nI n) (nI (d + 1)) μ = some (dayA (dw (sFr s) f n d), μ, 0, 0) := by
  intro fu
  induction fu with
  | zero => intro n d f _ _ _ q; omega
  | succ fu ih =>
    intro n d f hn hn2 hd hf hff
    obtain ⟨f, rfl⟩ : ∃ f', f = f' + 1 := ⟨f - 1, by omega⟩
    rw [fX0_workdaysOn_b13, if_neg (nI_nle (by omega) (by omega)), dw, if_neg (show ¬ (n = 0 ∨ 9999 < d) from by omega)]
    by_cases c : d + 1 ≤ 9999
    · rw [if_neg (show ¬ (9999 : Int32) < nI (d + 1) from nI_nlt (a := 9999) c (by decide))]
      have e7 : jrem (nI (d + 1)) 7 = nI ((d + 1) % 7) := pk_rem (d := 7) (by omega) (by decide) (by decide)
      rw [e7]
      have stay : ¬ (d + 1 ≤ 9999 ∧ (d + 1) % 7 < 5 ∧ sFr s (d + 1) = false) → fX0_workdaysOn_b47 (fX0_workdaysOn_b13 fu) (B + 73) (nI n) (nI (d + 1)) μ = some (dayA (if d + 1 ≤ 9999 ∧ (d + 1) % 7 < 5 ∧ sFr s (d + 1) = false then dw (sFr s) f (n - 1) (d + 1) else dw (sFr s) f n (d + 1)), μ, 0, 0) := by
        intro z
        rw [if_neg z, fX0_workdaysOn_b47, if_neg (nI_ne0 hn (by omega)), nI_1]
        exact ih n (d + 1) f hn hn2 c (by omega) (by omega)
      by_cases w : (d + 1) % 7 < 5
      · rw [if_neg (show ¬ (5 : Int32) ≤ nI ((d + 1) % 7) from nI_ge (b := 5) w (by decide)), jck_of (by rw [cT73 hC]; rfl), c_isFreeD hC g (show d + 1 < 10000 by omega), jcl_0]
        by_cases u : sFr s (d + 1) = true
        · rw [if_pos u, if_neg (by decide)]
          exact stay (fun z => by rw [u] at z; exact absurd z.2.2 (by decide))
        · have u2 : sFr s (d + 1) = false := by simpa using u
          rw [if_neg u, if_pos rfl, if_pos ⟨c, w, u2⟩, fX0_workdaysOn_b47]
          obtain ⟨m, rfl⟩ : ∃ m, n = m + 1 := ⟨n - 1, by omega⟩
          have em : nI (m + 1) + (-1) = nI m := by rw [← nI_1, Int32.add_assoc, show (1 : Int32) + (-1) = 0 from by decide, Int32.add_zero]
          rw [em, show m + 1 - 1 = m by omega]
          by_cases z : m = 0
          · subst z
            rw [if_pos (show nI 0 = 0 from rfl)]
            obtain ⟨f, rfl⟩ : ∃ f', f = f' + 1 := ⟨f - 1, by omega⟩
            rw [dw, if_pos (Or.inl rfl)]
            unfold dayA; rw [if_neg (by omega)]
          · rw [if_neg (nI_ne0 (by omega) (by omega)), nI_1]
            exact ih m (d + 1) f (by omega) (by omega) c (by omega) (by omega)
      · rw [if_pos (show (5 : Int32) ≤ nI ((d + 1) % 7) from nI_le (a := 5) (by omega) (by omega))]
        exact stay (fun z => w z.2.1)
    · rw [if_pos (show (9999 : Int32) < nI (d + 1) from nI_lt (a := 9999) (by omega) (by omega)), if_neg (fun z => c z.1)]
      obtain ⟨f, rfl⟩ : ∃ f', f = f' + 1 := ⟨f - 1, by omega⟩
      rw [dw, if_pos (Or.inr (by omega))]
      unfold dayA; rw [if_pos (by omega)]
theorem c_due {B : Nat} {μ : JM} {s : SS} (v c i day : Int32) (h : cSt B μ s) (hg : gK s) : Rq (fX10_due B v c i day μ) (cQ B 0 0 μ (spDue v c i day s)) := by
  have hC := h.1
  have hB := hC.2.2
  obtain ⟨ν, e, s1, ne⟩ := c_keyAt v c i h hg
  have h1 := h.k75 s1
  have hC1 := h1.1
  have ok : ∀ r, r = (spDue v c i day s).1 → Rq (some (r, ν, 0, 0)) (cQ B 0 0 μ (spDue v c i day s)) := fun r hr => .ret ⟨Nat.le_refl _, Nat.le_refl _, hr, h1, s1.1.km hB hB (by decide)⟩
  have y1 : (spDue v c i day s).1 = (match inR day 10000 with
  | none => -1
  | some d => match ocAt s v c i with
    | none => -1
    | some o => if jshr o 17 = 1 then (if o &&& 1 = 0 then dayA (d + dueN o) else dayA (dw (sFr s) 20000 (dueN o) d)) else -1) := rfl
  unfold fX10_due
  rw [jck_of (by rw [cT0 hC]; rfl), e, jcl_0]
  generalize spDue v c i day s = y at ok y1 ⊢
  cases ho : ocAt s v c i with
  | none =>
    rw [if_pos rfl]
    refine ok _ ?_
    rw [y1, ho]
    cases inR day 10000 <;> rfl
  | some o =>
    rw [ho] at y1
    dsimp only at y1 ⊢
    rw [if_neg (ne o ho)]
    unfold fX2_keyKind fX2_keyNumber fX2_keyWorkdays
    simp only [jcl_0, c_isDay, key_num, (due_n o).2]
    by_cases u : jshr o 17 = 1
    · rw [if_pos u]
      cases hd : inR day 10000 with
      | none =>
        rw [hd] at y1
        rw [if_pos (show (if (none : Option Nat).isSome = true then (1 : Int32) else 0) = 0 from rfl)]
        exact ok _ y1.symm
      | some d =>
        rw [hd] at y1
        dsimp only at y1 ⊢
        rw [if_pos u] at y1
        obtain ⟨rfl, hd2⟩ := inR_some hd
        rw [if_neg sm1]
        have dn := (due_n o).1
        rcases and1_01 o with w | w
        · rw [w, if_neg (by decide)]
          rw [if_pos w] at y1
          unfold fX0_daysOn
          rw [nI_add, c_isDay, jcl_0]
          have hi : inR (nI (d + dueN o)) 10000 = if d + dueN o < 10000 then some (d + dueN o) else none := by
            unfold inR
            rw [nI_clamp (by omega)]
            by_cases z : d + dueN o < 10000
            · rw [if_pos ⟨nI_pos' (by omega), z⟩, if_pos z]
            · rw [if_neg (fun t => z t.2), if_neg z]
          rw [hi]
          unfold dayA at y1
          by_cases z : d + dueN o < 10000
          · rw [if_pos z, if_neg sm1, jcl_0]
            exact ok _ (by rw [y1, if_neg (by omega)])
          · rw [if_neg z, if_pos (show (if (none : Option Nat).isSome = true then (1 : Int32) else 0) = 0 from rfl), jcl_0]
            exact ok _ (by rw [y1, if_pos (by omega)])
        · rw [w, if_pos rfl]
          rw [if_neg (by rw [w]; decide)] at y1
          simp only [jck_true, jde_is, jlt_is, jcl_0, beq_self_eq_true, jT_sI, jT_sJ, jP_sI, jP_sJ, jJ_sI, jI_sJ, jZ_sI, jZ_sJ, cT0 hC1, cP0_11 hC1, cT73 hC1]
          unfold fX0_workdaysOn
          by_cases z : dueN o = 0
          · rw [z, if_pos (show nI 0 = 0 from rfl), jcl_0]
            refine ok _ ?_
            rw [y1, z, show (20000 : Nat) = 19999 + 1 from rfl, dw, if_pos (Or.inl rfl)]
            unfold dayA; rw [if_neg (by omega)]
          · rw [if_neg (nI_ne0 (by omega) (by omega)), nI_1, wd_l hC1 h1.2.2.2.2.2.2.2 jfuel (dueN o) d 20000 (by omega) (by omega) (by omega) (jfuel_gt (by omega)) (by omega), jcl_0]
            exact ok _ y1.symm
    · rw [if_neg u]
      refine ok _ ?_
      rw [y1]
      cases inR day 10000
      · rfl
      · dsimp only; rw [if_neg u]
