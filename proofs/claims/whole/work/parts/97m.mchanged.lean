/-! the reference: changed -/
theorem lk_in {M a b : Nat} {x3 x5 : Int32} {μ : JM} {w1 w2 : List Int32} {rec11 : Nat → Int32 → Int32 → Int32 → JM → JO Int32} (h : MT M μ) (ha : a < 120) (hb : b < 120) (hs : jI μ (M + 29) a = nI w1.length) (h12 : w1.length ≤ 12) (s1 : Sg (jI μ (M + 28)) (12 * a) w1) (s2 : Sg (jI μ (M + 28)) (12 * b) w2) (hl : w2.length = w1.length) : ∀ (fu k : Nat), k ≤ w1.length → (∀ i, i < k → w1.getD i 0 = w2.getD i 0) → w1.length - k + 1 < fu →
    fX11_likewise_b68 rec11 fu M x3 (nI a) x5 (nI b) 1 (nI k) μ = fX11_likewise_b127 rec11 M x3 (nI a) x5 (if w1 = w2 then 1 else 0) μ := by
  intro fu
  induction fu with
  | zero => intro k _ _ q; omega
  | succ fu ih =>
    intro k hk hp hf
    rw [fX11_likewise_b68, if_neg (by decide)]
    simp only [jck_true, jde_is, jlt_is, jcl_0, beq_self_eq_true, jT_sI, jT_sJ, jP_sI, jP_sJ, jJ_sI, jI_sJ, jZ_sI, jZ_sJ, h.1, mP_labelSize h, mT_labelSize h, jin_nI ha (show 120 < 2 ^ 31 by decide), nI_clamp (show a < 2 ^ 31 by omega), hs]
    by_cases q : k = w1.length
    · rw [if_pos (nI_le (by omega) (by omega)), if_pos (list_ext hl.symm (fun i hi => hp i (by omega)))]
    · have hk2 : k < w1.length := by omega
      rw [if_neg (nI_ge hk2 (by omega))]
      have ix : ∀ d : Nat, (12 : Int32) * nI d + nI k = nI (12 * d + k) := fun d => by rw [show (12 : Int32) = nI 12 from rfl, pk_mul, nI_add]
      simp only [jck_true, jde_is, jlt_is, jcl_0, beq_self_eq_true, jT_sI, jT_sJ, jP_sI, jP_sJ, jJ_sI, jI_sJ, jZ_sI, jZ_sJ, mP_label h, mT_label h, ix, jin_nI (show 12 * a + k < 1440 by omega) (show 1440 < 2 ^ 31 by decide), jin_nI (show 12 * b + k < 1440 by omega) (show 1440 < 2 ^ 31 by decide), nI_clamp (show 12 * a + k < 2 ^ 31 by omega), nI_clamp (show 12 * b + k < 2 ^ 31 by omega), s1 k hk2, s2 k (by omega)]
      by_cases c : w1.getD k 0 = w2.getD k 0
      · rw [if_pos c, fX11_likewise_b119, nI_1]
        exact ih (k + 1) (by omega) (fun i hi => by
          by_cases e : i = k
          · rw [e]; exact c
          · exact hp i (by omega)) (by omega)
      · rw [if_neg c, fX11_likewise_b119, nI_1]
        obtain ⟨f2, rfl⟩ : ∃ f2, fu = f2 + 1 := ⟨fu - 1, by omega⟩
        rw [fX11_likewise_b68, if_pos rfl, if_neg (fun e => c (by rw [e]))]
theorem lk_l {M u a : Nat} {μ : JM} {cls : List Cl} {c : Int64} (hu : u < 4) (h : MT M μ) (ha : a < 120) (hL : mLab M μ a c) (h20 : jI μ (M + 20) u = nI cls.length) (hn : cls.length ≤ 24) (hK : mCls M μ (24 * u) cls) : ∀ (fu j : Nat), j ≤ cls.length → cls.length - j < fu → fX11_likewise_b11 fu M (nI u) (nI a) (nI j) μ = some (oI j (lfnd (cls.drop j) c false), μ, 0, 0) := by
  obtain ⟨w1, p1, p2, p3, p4⟩ := hL
  have p12 := p1.2.2
  intro fu
  induction fu with
  | zero => intro j _ q; omega
  | succ fu ih =>
    intro j hj hf
    rw [fX11_likewise_b11]
    simp only [jck_true, jde_is, jlt_is, jcl_0, beq_self_eq_true, jT_sI, jT_sJ, jP_sI, jP_sJ, jJ_sI, jI_sJ, jZ_sI, jZ_sJ, h.1, mP_clauses h, mT_clauses h, mP_kind h, mT_kind h, mP_labelSize h, mT_labelSize h, jin_nI (show u < 5 by omega) (show 5 < 2 ^ 31 by decide), nI_clamp (show u < 2 ^ 31 by omega), h20, x24]
    by_cases q : j = cls.length
    · rw [if_pos (nI_le (by omega) (by omega)), q, List.drop_length]; rfl
    · have hj2 : j < cls.length := by omega
      rw [if_neg (nI_ge hj2 (by omega))]
      obtain ⟨hc1, ⟨w2, r1, r2, r3, r4⟩, -⟩ := hK j hj2
      have r12 := r1.2.2
      simp only [jin_nI (show 24 * u + j < 120 by omega) (show 120 < 2 ^ 31 by decide), jin_nI ha (show 120 < 2 ^ 31 by decide), jck_true, nI_clamp (show 24 * u + j < 2 ^ 31 by omega), nI_clamp (show a < 2 ^ 31 by omega), hc1.1, r3, p3]
      have nxt : fX11_likewise_b11 fu M (nI u) (nI a) (nI j + 1) μ = some (oI (j + 1) (lfnd (cls.drop (j + 1)) c false), μ, 0, 0) := by
        rw [nI_1]; exact ih (j + 1) (by omega) (by omega)
      have hd : cls.drop j = cls.getD j cl0 :: cls.drop (j + 1) := drop_getD hj2
      have hin := wc_inj r1 p1
      rw [r2, p2] at hin
      have hne : (¬ (cls.getD j cl0).1 = 0 ∧ (cls.getD j cl0).2.1 = c) ∨ oI j (lfnd (cls.drop j) c false) = oI (j + 1) (lfnd (cls.drop (j + 1)) c false) := by
        by_cases y : ¬ (cls.getD j cl0).1 = 0 ∧ (cls.getD j cl0).2.1 = c
        · exact Or.inl y
        · right
          unfold lfnd
          rw [hd, List.findIdx?_cons, if_neg]
          · cases (cls.drop (j + 1)).findIdx? _ with
            | none => rfl
            | some i => simp only [Option.map_some, oI]; congr 1; omega
          · simp only [isDf, beq_iff_eq, Bool.and_eq_true, decide_eq_true_eq, decide_eq_false_iff_not]
            exact fun z => y ⟨z.2, z.1⟩
      have b62 : fX11_likewise_b62 (fX11_likewise_b11 fu) M (nI u) (nI a) (nI j) (nI (24 * u + j)) μ = some (oI (j + 1) (lfnd (cls.drop (j + 1)) c false), μ, 0, 0) := by
        rw [fX11_likewise_b62, fX11_likewise_b63, jfuel_5, fX11_likewise_b68, if_pos rfl, fX11_likewise_b127, if_pos rfl, nxt]
      by_cases y1 : (cls.getD j cl0).1 = 0
      · rw [if_pos y1, b62]
        rcases hne with z | z
        · exact absurd y1 z.1
        · rw [z]
      · rw [if_neg y1]
        by_cases y2 : w2.length = w1.length
        · rw [if_pos (by rw [y2]), fX11_likewise_b63]
          have := lk_in (x3 := nI u) (x5 := nI j) (rec11 := fX11_likewise_b11 fu) h ha (show 24 * u + j < 120 by omega) p3 p12 p4 r4 y2 jfuel 0 (by omega) (fun i hi => by omega) (jfuel_gt (by omega))
          have this' : fX11_likewise_b68 (fX11_likewise_b11 fu) jfuel M (nI u) (nI a) (nI j) (nI (24 * u + j)) 1 0 μ = _ := this
          rw [this', fX11_likewise_b127]
          by_cases e : w1 = w2
          · rw [if_pos e, if_neg (by decide)]
            unfold lfnd
            rw [hd, List.findIdx?_cons, if_pos]
            · rfl
            · simp only [isDf, beq_iff_eq, Bool.and_eq_true, decide_eq_true_eq, decide_eq_false_iff_not]
              exact ⟨hin.mpr e.symm, y1⟩
          · rw [if_neg e, if_pos rfl, nxt]
            rcases hne with z | z
            · exact absurd (hin.mp z.2).symm e
            · rw [z]
        · rw [if_neg (fun z => y2 ((nI_eq (by omega) (by omega)).mp z)), b62]
          rcases hne with z | z
          · exact absurd (by rw [hin.mp z.2]) y2
          · rw [z]
def chP (s : SS) (t2 : Nat) (x : Cl) (c : Nat) : Bool := hasC (sW s) c && (hasC (Cl.cas x) c != match lfnd (txA s t2) x.2.1 false with
  | none => false
  | some j => hasC (Cl.cas ((txA s t2).getD j cl0)) c)
def oN : Option Nat → Int32
  | none => -1
  | some c => nI c
theorem m_least {M u u2 t t2 i : Nat} {μ : JM} {s : SS} (h : mSt M μ s) (hu : u < 4) (hV : sV s u = some t) (hu2 : u2 < 4) (hV2 : sV s u2 = some t2) (hF : sF s ≠ []) (hi : i < (txA s t).length) : fX11_leastChange M (nI u) (nI i) (nI u2) μ = some (oN (lstN (chP s t2 ((txA s t).getD i cl0)) (nCs s) 0), μ, 0, 0) := by
  have h1 := h.1
  obtain ⟨n1, n2⟩ := nCs_le h hF
  obtain ⟨hx, rl, r24⟩ := row_of h hu hV hi
  obtain ⟨a1, a2, a3, a4⟩ := (h.2.2.2.2.2.2.2.1 u2 hu2).2 t2 hV2
  have a2 : jI μ (M + 20) u2 = nI (txA s t2).length := a2
  have a3 : (txA s t2).length ≤ 24 := a3
  have lk := lk_l hu2 h1 (show 24 * u + i < 120 by omega) hx.2.1 a2 a3 a4 jfuel 0 (by omega) (jfuel_gt (by omega))
  rw [List.drop_zero] at lk
  have lk' : fX11_likewise M (nI u) (nI i) (nI u2) μ = some (oI 0 (lfnd (txA s t2) ((txA s t).getD i cl0).2.1 false), μ, 0, 0) := by rw [fX11_likewise, x24]; exact lk
  rw [fX11_leastChange, jck_of (by rw [h1.1]; rfl), lk', jcl_0]
  generalize hx0 : (txA s t).getD i cl0 = x at *
  have key : ∀ (fu d n : Nat), n + d = nCs s → d < fu → fX11_leastChange_b12 fu M (nI u) (nI i) (nI u2) (oI 0 (lfnd (txA s t2) x.2.1 false)) (nI n) μ = some (oN (lstN (chP s t2 x) d n), μ, 0, 0) := by
    intro fu
    induction fu with
    | zero => intro d n _ h; omega
    | succ fu ih =>
      intro d n hnd hd
      rw [fX11_leastChange_b12, jck_of (by rw [h1.1]; rfl), n2]
      cases d with
      | zero => rw [if_pos (nI_le (by omega) (by omega))]; rfl
      | succ d =>
        have hn : n < nCs s := by omega
        rw [if_neg (nI_ge hn (by omega)), m_isIn h1 h.2.2.2.2.2.2.2.2.2.2.1 (by omega), jcl_0, lstN]
        have b68 : fX11_leastChange_b68 (fX11_leastChange_b12 fu) M (nI u) (nI i) (nI u2) (oI 0 (lfnd (txA s t2) x.2.1 false)) (nI n) μ = some (oN (lstN (chP s t2 x) d (n + 1)), μ, 0, 0) := by
          rw [fX11_leastChange_b68, nI_1]; exact ih d (n + 1) (by omega) (by omega)
        by_cases w : hasC (sW s) n = true
        · rw [if_pos w, if_neg (by decide), jck_of (by rw [h1.1]; rfl), m_isSo h hF hx.2.2 (by omega) hn, jcl_0]
          have fin : ∀ b : Bool, chP s t2 x n = (hasC (Cl.cas x) n != b) → fX11_leastChange_b62 (fX11_leastChange_b12 fu) M (nI u) (nI i) (nI u2) (oI 0 (lfnd (txA s t2) x.2.1 false)) (nI n) (if b then 1 else 0) (if hasC (Cl.cas x) n = true then 1 else 0) μ = some (oN (if chP s t2 x n = true then some n else lstN (chP s t2 x) d (n + 1)), μ, 0, 0) := by
            intro b hb
            rw [fX11_leastChange_b62, b68, hb]
            cases hasC (Cl.cas x) n <;> cases b <;> rfl
          cases hl : lfnd (txA s t2) x.2.1 false with
          | none =>
            rw [hl] at fin
            rw [if_pos (by decide), fX11_leastChange_b61]
            exact fin false (by unfold chP; rw [w, hl, Bool.true_and])
          | some j =>
            rw [hl] at fin
            have hj := lfnd_lt hl
            have ej : oI 0 (some j) = nI j := by simp only [oI, Nat.zero_add]
            rw [ej] at fin ⊢
            have hy : mCl M μ (24 * u2 + j) ((txA s t2).getD j cl0) := a4 j hj
            rw [if_neg (nI_pos (by omega)), jck_of (by rw [h1.1]; rfl), m_isSo h hF hy.2.2 (by omega) hn, jcl_0]
            have eb : chP s t2 x n = (hasC (Cl.cas x) n != hasC (Cl.cas ((txA s t2).getD j cl0)) n) := by unfold chP; rw [w, hl, Bool.true_and]
            cases hb : hasC (Cl.cas ((txA s t2).getD j cl0)) n with
            | false =>
              rw [hb] at eb
              simp only [Bool.false_eq_true, if_false, if_true]
              rw [fX11_leastChange_b61]
              exact fin false eb
            | true =>
              rw [hb] at eb
              simp only [if_true]
              rw [if_neg (by decide)]
              exact fin true eb
        · have eg : chP s t2 x n = false := by unfold chP; simp [w]
          rw [if_neg w, if_pos rfl, b68, eg]
          simp only [Bool.false_eq_true, if_false]
  have k0 := key jfuel (nCs s) 0 (by omega) (jfuel_gt (by omega))
  exact k0
def chg (s : SS) (t2 : Nat) (k w : Int32) : List Cl → Nat → Nat → Int32
  | [], _, _ => -1
  | x :: r, i, n => if isDf x = true then chg s t2 k w r (i + 1) n else match lstN (chP s t2 x) (nCs s) 0 with
    | none => chg s t2 k w r (i + 1) n
    | some c => if nI n = k then (if w = 0 then nI i else nI c) else chg s t2 k w r (i + 1) (n + 1)
def spChanged (v w k what : Int32) (s : SS) : Int32 × SS := (match vAt s v with
  | none => -1
  | some t => match vAt s w with
    | none => -1
    | some t2 => match inR what 2 with
      | none => -1
      | some _ => chg s t2 k what (txA s t) 0 0, s)
theorem lstN_lt {p : Nat → Bool} : ∀ (d c n : Nat), lstN p d c = some n → n < c + d
  | 0, c, n, h => by rw [lstN] at h; cases h
  | d + 1, c, n, h => by
    rw [lstN] at h
    split at h
    · injection h with h; omega
    · have := lstN_lt d (c + 1) n h; omega
theorem m_changed {M : Nat} {μ : JM} {s : SS} (v w k what : Int32) (h : mSt M μ s) (hT : (sTx s).length < 600) (hG : gTx s) : Res (fX11_changed M v w k what μ) (fun r ν => r = (spChanged v w k what s).1 ∧ mSt M ν (spChanged v w k what s).2) := by
  have h1 := h.1
  rw [fX11_changed, jck_of (by rw [h1.1]; rfl), m_isVersion v h hT, jcl_0]
  unfold spChanged
  cases hv : vAt s v with
  | none => exact .ret ⟨rfl, h⟩
  | some t =>
    obtain ⟨u, rfl, hu, hV⟩ := vAt_some hv
    have hF : sF s ≠ [] := hG.2 u hu (by rw [hV]; simp)
    rw [Option.isSome_some, if_pos rfl, if_neg (by decide), jck_of (by rw [h1.1]; rfl), m_isVersion w h hT, jcl_0]
    dsimp only
    cases hw : vAt s w with
    | none => exact .ret ⟨rfl, h⟩
    | some t2 =>
      obtain ⟨u2, rfl, hu2, hV2⟩ := vAt_some hw
      rw [Option.isSome_some, if_pos rfl, if_neg (by decide), m_in (n := 2) (by decide) (by decide), jcl_0]
      dsimp only
      cases hwh : inR what 2 with
      | none => exact .ret ⟨rfl, h⟩
      | some j =>
        rw [Option.isSome_some, if_pos rfl, if_neg (by decide)]
        obtain ⟨a1, a2, a3, a4⟩ := (h.2.2.2.2.2.2.2.1 u hu).2 t hV
        have a2 : jI μ (M + 20) u = nI (txA s t).length := a2
        have a3 : (txA s t).length ≤ 24 := a3
        have n1 := (nCs_le h hF).1
        have key : ∀ (fu i n : Nat), i ≤ (txA s t).length → (txA s t).length - i < fu → fX11_changed_b34 fu M (nI u) (nI u2) k what (nI n) (nI i) μ = some (chg s t2 k what ((txA s t).drop i) i n, μ, 0, 0) := by
          intro fu
          induction fu with
          | zero => intro i n _ h; omega
          | succ fu ih =>
            intro i n hi hf
            rw [fX11_changed_b34]
            simp only [jck_true, jde_is, jlt_is, jcl_0, beq_self_eq_true, jT_sI, jT_sJ, jP_sI, jP_sJ, jJ_sI, jI_sJ, jZ_sI, jZ_sJ, h1.1, mP_clauses h1, mT_clauses h1, mP_kind h1, mT_kind h1, jin_nI (show u < 5 by omega) (show 5 < 2 ^ 31 by decide), nI_clamp (show u < 2 ^ 31 by omega), a2, x24]
            by_cases q : i = (txA s t).length
            · rw [if_pos (nI_le (by omega) (by omega)), q, List.drop_length, chg]
            · have hi2 : i < (txA s t).length := by omega
              have hx : mCl M μ (24 * u + i) ((txA s t).getD i cl0) := a4 i hi2
              rw [if_neg (nI_ge hi2 (by omega)), drop_getD (d := cl0) hi2, chg]
              simp only [jin_nI (show 24 * u + i < 120 by omega) (show 120 < 2 ^ 31 by decide), jck_true, nI_clamp (show 24 * u + i < 2 ^ 31 by omega), hx.1.1, m_least h hu hV hu2 hV2 hF hi2, jcl_0, fX11_changed_b103, nI_1]
              by_cases z : ((txA s t).getD i cl0).1 = 0
              · rw [if_pos z, if_pos (isDf_t.mpr z)]
                exact ih (i + 1) n (by omega) (by omega)
              · rw [if_neg z, if_neg (fun y => z (isDf_t.mp y))]
                by_cases hl : lstN (chP s t2 ((txA s t).getD i cl0)) (nCs s) 0 = none
                · rw [if_neg (by rw [hl]; decide), hl]
                  exact ih (i + 1) n (by omega) (by omega)
                · obtain ⟨c, hc0⟩ := Option.ne_none_iff_exists'.mp hl
                  have hc := lstN_lt _ _ _ hc0
                  rw [if_pos (by rw [hc0]; show (0 : Int32) ≤ nI c; exact nI_le (a := 0) (by omega) (by omega)), hc0]
                  simp only [oN]
                  by_cases y : nI n = k
                  · rw [if_pos y, if_pos y]
                    split <;> rfl
                  · rw [if_neg y, if_neg y]
                    exact ih (i + 1) (n + 1) (by omega) (by omega)
        have k0 := key jfuel 0 0 (by omega) (jfuel_gt (by omega))
        have k0' : fX11_changed_b34 jfuel M (nI u) (nI u2) k what 0 0 μ = _ := k0
        rw [k0', List.drop_zero]
        exact .ret ⟨rfl, h⟩
