/-! the reference: OUTCOMES -/
def okey (c : Cl) : Int32 := ((c.1 * 8 + c.2.2.1) * 16 + c.2.2.2.1) * 1024 + (if c.1 = 1 then 2 * c.2.2.2.2.1 + c.2.2.2.2.2.1 else 0)
def insK (o : Int32) : List Int32 → List Int32
  | [] => [o]
  | x :: r => if x < o then x :: insK o r else if x = o then x :: r else o :: x :: r
def kys (n : Nat) : List Cl → List Int32 → List Int32
  | [], L => L
  | c :: r, L => kys n r (if isDf c = true ∨ hasC (Cl.cas c) n = false then L else insK (okey c) L)
theorem insK_app {o : Int32} : ∀ (A B : List Int32), (∀ x ∈ A, x < o) → insK o (A ++ B) = A ++ insK o B
  | [], B, _ => rfl
  | a :: A, B, h => by
    rw [List.cons_append, insK, if_pos (h a List.mem_cons_self), insK_app A B (fun x hx => h x (List.mem_cons_of_mem _ hx))]; rfl
theorem insK_len (o : Int32) : ∀ L : List Int32, (insK o L).length ≤ L.length + 1
  | [] => Nat.le_refl _
  | x :: r => by
    rw [insK]
    split
    · have := insK_len o r; simp; omega
    · split <;> simp
def mFd (M : Nat) (μ : JM) (L : List Int32) : Prop := jI μ M 65 = nI L.length ∧ L.length ≤ 24 ∧ ∀ i, i < L.length → jI μ (M + 42) i = L.getD i 0
theorem m_outcomeOf {M u i : Nat} {μ : JM} {c : Cl} (h : MT M μ) (hc : mCl M μ (24 * u + i) c) (hr : 24 * u + i < 120) : fX11_outcomeOf M (nI u) (nI i) μ = some (okey c, μ, 0, 0) := by
  obtain ⟨⟨r1, r2, r3, r4, r5, -⟩, -⟩ := hc
  rw [fX11_outcomeOf, x24]
  have b36 : ∀ x, fX11_outcomeOf_b36 M (nI (24 * u + i)) x μ = some (((c.1 * 8 + c.2.2.1) * 16 + c.2.2.2.1) * 1024 + x, μ, 0, 0) := by
    intro x
    rw [fX11_outcomeOf_b36]
    simp only [jck_true, jde_is, jlt_is, jcl_0, beq_self_eq_true, jT_sI, jT_sJ, jP_sI, jP_sJ, jJ_sI, jI_sJ, jZ_sI, jZ_sJ, h.1, mP_kind h, mT_kind h, mP_party h, mT_party h, mP_act h, mT_act h, jin_nI hr (show 120 < 2 ^ 31 by decide), nI_clamp (show 24 * u + i < 2 ^ 31 by omega), r1, r2, r3]
  simp only [jck_true, jde_is, jlt_is, jcl_0, beq_self_eq_true, jT_sI, jT_sJ, jP_sI, jP_sJ, jJ_sI, jI_sJ, jZ_sI, jZ_sJ, h.1, mP_kind h, mT_kind h, mP_number h, mT_number h, mP_byWork h, mT_byWork h, jin_nI hr (show 120 < 2 ^ 31 by decide), nI_clamp (show 24 * u + i < 2 ^ 31 by omega), r1, r4, r5, b36]
  unfold okey
  split <;> rfl
theorem sh_l {M n p : Nat} {x1 x2 x3 o : Int32} {L : List Int32} {rec7 : Nat → Int32 → Int32 → Int32 → JM → JO Unit} (hn : L.length = n) (hn24 : n < 24) (hp : p ≤ n) : ∀ (fu i : Nat) (μ : JM), MT M μ → p ≤ i → i ≤ n → i - p < fu → jI μ M 65 = nI n → (∀ j, j < i → jI μ (M + 42) j = L.getD j 0) → (∀ j, i < j → j ≤ n → jI μ (M + 42) j = L.getD (j - 1) 0) →
    ∃ ν, fX11_finds_b112 rec7 fu M x1 x2 x3 o (nI p) (nI i) μ = rec7 M x1 x2 (x3 + 1) ν ∧ sm M [65] [42] μ ν ∧ mFd M ν (L.take p ++ o :: L.drop p) := by
  intro fu
  induction fu with
  | zero => intro i μ _ _ _ h; omega
  | succ fu ih =>
    intro i μ h h1 h2 hf h65 hA hB
    rw [fX11_finds_b112]
    by_cases q : i = p
    · subst q
      have r65 : jI (jsI μ (M + 42) i o) M 65 = nI n := by rw [jI_sI, if_neg (by omega)]; exact h65
      rw [if_pos (nI_le (Nat.le_refl _) (by omega))]
      simp only [jck_true, jde_is, jlt_is, jcl_0, beq_self_eq_true, jT_sI, jT_sJ, jP_sI, jP_sJ, jJ_sI, jI_sJ, jZ_sI, jZ_sJ, h.1, mP_found h, mT_found h, jin_nI (show i < 24 by omega) (show 24 < 2 ^ 31 by decide), nI_clamp (show i < 2 ^ 31 by omega), r65, nI_1, fX11_finds_b160]
      refine ⟨_, rfl, (sm.sA (by decide) (by decide)).tr (sm.sF (by decide)), ?_, ?_, fun j hj => ?_⟩
      · rw [jI_sI, if_pos ⟨rfl, rfl⟩]; simp; congr 1; omega
      · simp; omega
      · have hj : j < n + 1 := by simp at hj; omega
        rw [jI_sI, if_neg (by omega), jI_sI]
        have tl : (L.take i).length = i := by rw [List.length_take]; omega
        by_cases y : j = i
        · rw [if_pos ⟨rfl, y⟩, y, List.getD_eq_getElem?_getD, List.getElem?_append_right (by omega), tl, Nat.sub_self]; rfl
        · rw [if_neg (fun t => y t.2)]
          by_cases w : j < i
          · rw [hA j w, List.getD_eq_getElem?_getD, List.getD_eq_getElem?_getD, List.getElem?_append_left (by omega), List.getElem?_take_of_lt w]
          · rw [hB j (by omega) (by omega), List.getD_eq_getElem?_getD, List.getD_eq_getElem?_getD, List.getElem?_append_right (by omega), tl, show j - i = (j - i - 1) + 1 by omega, List.getElem?_cons_succ, List.getElem?_drop]
            congr 2; omega
    · obtain ⟨i, rfl⟩ : ∃ k, i = k + 1 := ⟨i - 1, by omega⟩
      rw [if_neg (nI_ge (by omega) (by omega))]
      have sub1 : nI (i + 1) - 1 = nI i := by rw [Int32.sub_eq_add_neg, ← nI_1, Int32.add_assoc, show (1 : Int32) + (-1) = 0 from by decide, Int32.add_zero]
      have sub2 : nI (i + 1) + (-1) = nI i := by rw [← nI_1, Int32.add_assoc, show (1 : Int32) + (-1) = 0 from by decide, Int32.add_zero]
      simp only [jck_true, jde_is, jlt_is, jcl_0, beq_self_eq_true, jT_sI, jT_sJ, jP_sI, jP_sJ, jJ_sI, jI_sJ, jZ_sI, jZ_sJ, h.1, mP_found h, mT_found h, sub1, sub2, jin_nI (show i < 24 by omega) (show 24 < 2 ^ 31 by decide), jin_nI (show i + 1 < 24 by omega) (show 24 < 2 ^ 31 by decide), nI_clamp (show i < 2 ^ 31 by omega), nI_clamp (show i + 1 < 2 ^ 31 by omega), hA i (by omega)]
      have s1 : sm M [] [42] μ (jsI μ (M + 42) (i + 1) (L.getD i 0)) := sm.sA (by decide) (by decide)
      obtain ⟨ν, g1, g2, g3⟩ := ih i _ (s1.mt h) (by omega) (by omega) (by omega) ((s1.fI (by decide)).trans h65) (fun j hj => by rw [jI_sI, if_neg (by omega)]; exact hA j (by omega)) (fun j h3 h4 => by
        rw [jI_sI]
        by_cases y : j = i + 1
        · rw [if_pos ⟨rfl, y⟩, y]; rfl
        · rw [if_neg (fun t => y t.2)]; exact hB j (by omega) h4)
      exact ⟨ν, g1, (s1.wk (by decide) (by decide)).tr g2, g3⟩
theorem se_l {M : Nat} {x1 x2 x3 o : Int32} {rec7 : Nat → Int32 → Int32 → Int32 → JM → JO Unit} {μ : JM} {L : List Int32} (h : MT M μ) (hL : mFd M μ L) (h24 : L.length < 24) : ∀ (B A : List Int32) (fu : Nat), L = A ++ B → (∀ x ∈ A, x < o) → B.length < fu →
    ∃ ν, fX11_finds_b55 rec7 fu M x1 x2 x3 o (nI A.length) μ = rec7 M x1 x2 (x3 + 1) ν ∧ sm M [65] [42] μ ν ∧ mFd M ν (insK o L) := by
  obtain ⟨l1, l2, l3⟩ := id hL
  have b106 : ∀ A B, L = A ++ B → (∀ x ∈ A, x < o) → (∀ x r, B = x :: r → ¬ x < o ∧ ¬ x = o) → ∃ ν, fX11_finds_b106 rec7 M x1 x2 x3 o (nI A.length) μ = rec7 M x1 x2 (x3 + 1) ν ∧ sm M [65] [42] μ ν ∧ mFd M ν (insK o L) := by
    intro A B e hA hB
    have al : A.length ≤ L.length := by rw [e]; simp
    rw [fX11_finds_b106, jck_of (by rw [h.1]; rfl), l1]
    obtain ⟨ν, g1, g2, g3⟩ := sh_l (x1 := x1) (x2 := x2) (x3 := x3) (o := o) (rec7 := rec7) (L := L) rfl h24 al jfuel L.length μ h al (Nat.le_refl _) (jfuel_gt (by omega)) l1 l3 (fun j h1 h2 => by omega)
    refine ⟨ν, g1, g2, ?_⟩
    have e2 : insK o L = L.take A.length ++ o :: L.drop A.length := by
      rw [e, insK_app A B hA, List.take_left, List.drop_left]
      cases B with
      | nil => rfl
      | cons x r => rw [insK, if_neg (hB x r rfl).1, if_neg (hB x r rfl).2]
    rw [e2]; exact g3
  intro B
  induction B with
  | nil =>
    intro A fu e hA hf
    obtain ⟨fu, rfl⟩ : ∃ k, fu = k + 1 := ⟨fu - 1, by omega⟩
    rw [List.append_nil] at e
    rw [fX11_finds_b55, jck_of (by rw [h.1]; rfl), l1, e, if_pos (nI_le (Nat.le_refl _) (by rw [← e]; omega)), fX11_finds_b82, jck_of (by rw [h.1]; rfl), l1, e, if_pos (nI_le (Nat.le_refl _) (by rw [← e]; omega)), ← e]
    have := b106 L [] (by simp) (by rw [e]; exact hA) (fun x r t => by cases t)
    exact this
  | cons x r ih =>
    intro A fu e hA hf
    obtain ⟨fu, rfl⟩ : ∃ k, fu = k + 1 := ⟨fu - 1, by omega⟩
    have al : A.length < L.length := by rw [e]; simp
    have ex : jI μ (M + 42) A.length = x := by rw [l3 _ al, e]; exact get_app_m
    rw [fX11_finds_b55]
    simp only [jck_true, jde_is, jlt_is, jcl_0, beq_self_eq_true, jT_sI, jT_sJ, jP_sI, jP_sJ, jJ_sI, jI_sJ, jZ_sI, jZ_sJ, h.1, l1, mP_found h, mT_found h, jin_nI (show A.length < 24 by omega) (show 24 < 2 ^ 31 by decide), nI_clamp (show A.length < 2 ^ 31 by omega), ex]
    rw [if_neg (nI_ge al (by omega))]
    by_cases q : o ≤ x
    · rw [if_pos q, fX11_finds_b82]
      simp only [jck_true, jde_is, jlt_is, jcl_0, beq_self_eq_true, jT_sI, jT_sJ, jP_sI, jP_sJ, jJ_sI, jI_sJ, jZ_sI, jZ_sJ, h.1, l1, mP_found h, mT_found h, jin_nI (show A.length < 24 by omega) (show 24 < 2 ^ 31 by decide), nI_clamp (show A.length < 2 ^ 31 by omega), ex]
      rw [if_neg (nI_ge al (by omega))]
      by_cases z : x = o
      · rw [if_pos z, fX11_finds_b160]
        refine ⟨μ, rfl, sm.rf, ?_⟩
        have e2 : insK o L = L := by
          rw [e, insK_app A _ hA, insK, if_neg (by rw [z]; exact Int32.lt_irrefl), if_pos z]
        rw [e2]; exact hL
      · rw [if_neg z]
        exact b106 A (x :: r) e hA (fun y t et => by
          injection et with et1 et2
          rw [← et1]; exact ⟨Int32.not_lt.mpr q, z⟩)
    · rw [if_neg q, nI_1]
      have := ih (A ++ [x]) fu (by rw [e]; simp) (fun y hy => by
        rcases List.mem_append.mp hy with t | t
        · exact hA y t
        · rw [List.mem_singleton] at t; rw [t]; exact Int32.not_le.mp q) (by simp at hf; omega)
      rw [List.length_append, List.length_singleton] at this
      exact this
theorem fd_l {M u n : Nat} {s : SS} {cls : List Cl} (hu : u < 4) (hF : sF s ≠ []) (hn : n < 2 ^ (sF s).length) (hcl : cls.length ≤ 24) : ∀ (fu k : Nat) (L : List Int32) (μ : JM), mSt M μ s → jI μ (M + 20) u = nI cls.length → mCls M μ (24 * u) cls → mFd M μ L → L.length ≤ k → k ≤ cls.length → cls.length - k < fu →
    Res (fX11_finds_b7 fu M (nI u) (nI n) (nI k) μ) (fun _ ν => sm M [65] [42] μ ν ∧ mFd M ν (kys n (cls.drop k) L)) := by
  intro fu
  induction fu with
  | zero => intro k L μ _ _ _ _ _ _ h; omega
  | succ fu ih =>
    intro k L μ h h20 hK hL hlk hk hf
    have h1 := h.1
    rw [fX11_finds_b7]
    simp only [jck_true, jde_is, jlt_is, jcl_0, beq_self_eq_true, jT_sI, jT_sJ, jP_sI, jP_sJ, jJ_sI, jI_sJ, jZ_sI, jZ_sJ, h1.1, mP_clauses h1, mT_clauses h1, jin_nI (show u < 5 by omega) (show 5 < 2 ^ 31 by decide), nI_clamp (show u < 2 ^ 31 by omega), h20]
    by_cases q : k = cls.length
    · rw [if_pos (nI_le (by omega) (by omega)), q, List.drop_length]
      exact .ret ⟨sm.rf, hL⟩
    · have hk2 : k < cls.length := by omega
      rw [if_neg (nI_ge hk2 (by omega)), x24, drop_getD (d := cl0) hk2, kys]
      have hc := hK k hk2
      simp only [jck_true, jde_is, jlt_is, jcl_0, beq_self_eq_true, jT_sI, jT_sJ, jP_sI, jP_sJ, jJ_sI, jI_sJ, jZ_sI, jZ_sJ, mP_kind h1, mT_kind h1, jin_nI (show 24 * u + k < 120 by omega) (show 120 < 2 ^ 31 by decide), nI_clamp (show 24 * u + k < 2 ^ 31 by omega), hc.1.1]
      have nxt : ∀ (μ1 : JM) (L1 : List Int32), sm M [65] [42] μ μ1 → mFd M μ1 L1 → L1.length ≤ k + 1 → Res (fX11_finds_b7 fu M (nI u) (nI n) (nI (k + 1)) μ1) (fun _ ν => sm M [65] [42] μ ν ∧ mFd M ν (kys n (cls.drop (k + 1)) L1)) := by
        intro μ1 L1 s1 hL1 hl1
        refine (ih (k + 1) L1 μ1 (h.sm s1 (by decide) (by decide)) (by rw [s1.aI (by decide) (by decide)]; exact h20) (fun i hi => (hK i hi).sm s1 (by decide)) hL1 hl1 (by omega) (by omega)).mono ?_
        rintro _ ν ⟨q1, q2⟩
        exact ⟨s1.tr q1, q2⟩
      by_cases z : (cls.getD k cl0).1 = 0
      · rw [if_pos z, fX11_finds_b160, nI_1, if_pos (Or.inl (isDf_t.mpr z))]
        exact nxt μ L sm.rf hL (by omega)
      · rw [if_neg z, m_isSo h hF hc.2.2 (by omega) hn, jcl_0]
        by_cases y : hasC (Cl.cas (cls.getD k cl0)) n = true
        · rw [if_pos y, if_neg (by decide), jck_of (by rw [h1.1]; rfl), m_outcomeOf h1 hc (by omega), jcl_0]
          have ny : ¬ (isDf (cls.getD k cl0) = true ∨ hasC (Cl.cas (cls.getD k cl0)) n = false) := by
            rintro (t | t)
            · exact z (isDf_t.mp t)
            · rw [y] at t; cases t
          rw [if_neg ny]
          obtain ⟨ν, g1, g2, g3⟩ := se_l (x1 := nI u) (x2 := nI n) (x3 := nI k) (o := okey (cls.getD k cl0)) (rec7 := fX11_finds_b7 fu) h1 hL (by omega) L [] jfuel rfl (fun x hx => by cases hx) (jfuel_gt (by omega))
          have g1' : fX11_finds_b55 (fX11_finds_b7 fu) jfuel M (nI u) (nI n) (nI k) (okey (cls.getD k cl0)) 0 μ = _ := g1
          rw [g1', nI_1]
          exact nxt ν _ g2 g3 (by have := insK_len (okey (cls.getD k cl0)) L; omega)
        · have y' : hasC (Cl.cas (cls.getD k cl0)) n = false := by simpa using y
          rw [if_neg y, if_pos rfl, fX11_finds_b160, nI_1, if_pos (Or.inr y')]
          exact nxt μ L sm.rf hL (by omega)
theorem m_finds {M u n t : Nat} {μ : JM} {s : SS} (h : mSt M μ s) (hu : u < 4) (hV : sV s u = some t) (hF : sF s ≠ []) (hn : n < 2 ^ (sF s).length) : Res (fX11_finds M (nI u) (nI n) μ) (fun _ ν => sm M [65] [42] μ ν ∧ mFd M ν (kys n (txA s t) [])) := by
  obtain ⟨a1, a2, a3, a4⟩ := (h.2.2.2.2.2.2.2.1 u hu).2 t hV
  rw [fX11_finds, jck_of (by rw [h.1.1]; rfl), jlt_is]
  have s1 : sm M [65] [] μ (jsI μ M 65 0) := sm.sF (by decide)
  have v1 : jI (jsI μ M 65 0) M 65 = 0 := by rw [jI_sI, if_pos ⟨rfl, rfl⟩]
  generalize jsI μ M 65 0 = μ1 at s1 v1 ⊢
  refine (fd_l (cls := txA s t) hu hF hn a3 jfuel 0 [] μ1 (h.sm s1 (by decide) (by decide)) (by rw [s1.aI (by decide) (by decide)]; exact a2) (fun i hi => (a4 i hi).sm s1 (by decide)) ⟨v1, by simp, fun i hi => by simp at hi⟩ (by simp) (by omega) (jfuel_gt (by have : (txA s t).length ≤ 24 := a3; omega))).mono ?_
  rintro _ ν ⟨q1, q2⟩
  exact ⟨(s1.wk (by decide) (by decide)).tr q1, q2⟩
def spOutcomes (v c : Int32) (s : SS) : Int32 × SS := (match vAt s v with
  | none => -1
  | some t => match csIx s c with
    | none => -1
    | some n => nI (kys n (txA s t) []).length, s)
theorem m_outcomes {M : Nat} {μ : JM} {s : SS} (v c : Int32) (h : mSt M μ s) (hT : (sTx s).length < 600) : Res (fX11_outcomes M v c μ) (fun r ν => r = (spOutcomes v c s).1 ∧ mSt M ν (spOutcomes v c s).2) := by
  have h1 := h.1
  rw [fX11_outcomes, jck_of (by rw [h1.1]; rfl), m_isVersion v h hT, jcl_0]
  unfold spOutcomes
  cases hv : vAt s v with
  | none => exact .ret ⟨rfl, h⟩
  | some t =>
    obtain ⟨u, rfl, hu, hV⟩ := vAt_some hv
    rw [Option.isSome_some, if_pos rfl, if_neg (by decide), jck_of (by rw [h1.1]; rfl), m_isCase c h, jcl_0]
    cases hn : csIx s c with
    | none => exact .ret ⟨rfl, h⟩
    | some n =>
      obtain ⟨rfl, n1, n2, n3⟩ := csIx_some h hn
      rw [Option.isSome_some, if_pos rfl, if_neg (by decide), jck_of (by rw [h1.1]; rfl)]
      refine Res.cl (m_finds h hu hV n3 n1) fun _ ν ⟨q1, q2⟩ => ?_
      rw [jck_of (by rw [(q1.mt h1).1]; rfl), q2.1]
      exact .ret ⟨rfl, h.sm q1 (by decide) (by decide)⟩
def ocV (o w : Int32) : Int32 := if w = 0 then jshr o 17 else if w = 1 then jshr o 14 &&& 7 else if w = 2 then jshr o 10 &&& 15 else if w = 3 then (if jshr o 17 = 1 then jshr (o &&& 1023) 1 else -1) else if w = 4 then (if jshr o 17 = 1 then o &&& 1 else -1) else -1
def ocAt (s : SS) (v c i : Int32) : Option Int32 := match vAt s v with
  | none => none
  | some t => match csIx s c with
    | none => none
    | some n => match inR i (kys n (txA s t) []).length with
      | none => none
      | some j => some ((kys n (txA s t) []).getD j 0)
def ocA (s : SS) (v c i w : Int32) : Int32 := match ocAt s v c i with
  | none => -1
  | some o => ocV o w
def spOutcome (v c i w : Int32) (s : SS) : Int32 × SS := (ocA s v c i w, s)
theorem m_outcome {M : Nat} {μ : JM} {s : SS} (v c i w : Int32) (h : mSt M μ s) (hT : (sTx s).length < 600) : Res (fX11_outcome M v c i w μ) (fun r ν => r = ocA s v c i w ∧ mSt M ν s) := by
  have h1 := h.1
  rw [fX11_outcome, jck_of (by rw [h1.1]; rfl), m_isVersion v h hT, jcl_0]
  unfold ocA ocAt
  cases hv : vAt s v with
  | none => exact .ret ⟨rfl, h⟩
  | some t =>
    obtain ⟨u, rfl, hu, hV⟩ := vAt_some hv
    rw [Option.isSome_some, if_pos rfl, if_neg (by decide), jck_of (by rw [h1.1]; rfl), m_isCase c h, jcl_0]
    dsimp only
    cases hn : csIx s c with
    | none => exact .ret ⟨rfl, h⟩
    | some n =>
      obtain ⟨rfl, n1, n2, n3⟩ := csIx_some h hn
      rw [Option.isSome_some, if_pos rfl, if_neg (by decide), jck_of (by rw [h1.1]; rfl)]
      refine Res.cl (m_finds h hu hV n3 n1) fun _ ν ⟨q1, q2⟩ => ?_
      have hMν := q1.mt h1
      have st := h.sm q1 (by decide) (by decide)
      obtain ⟨f1, f2, f3⟩ := q2
      rw [jck_of (by rw [hMν.1]; rfl), f1, m_in (n := (kys n (txA s t) []).length) (by omega) rfl, jcl_0]
      dsimp only
      cases hj : inR i (kys n (txA s t) []).length with
      | none => exact .ret ⟨rfl, st⟩
      | some j =>
        obtain ⟨rfl, j1⟩ := inR_some hj
        rw [Option.isSome_some, if_pos rfl, if_neg (by decide)]
        simp only [jck_true, jde_is, jlt_is, jcl_0, beq_self_eq_true, jT_sI, jT_sJ, jP_sI, jP_sJ, jJ_sI, jI_sJ, jZ_sI, jZ_sJ, hMν.1, mP_found hMν, mT_found hMν, jin_nI (show j < 24 by omega) (show 24 < 2 ^ 31 by decide), nI_clamp (show j < 2 ^ 31 by omega), f3 j j1]
        generalize (kys n (txA s t) []).getD j 0 = o
        unfold ocV
        by_cases q0 : w = 0
        · rw [if_pos q0]; refine .ret ⟨?_, st⟩; rw [if_pos q0]
        rw [if_neg q0]
        by_cases q1 : w = 1
        · rw [if_pos q1]; refine .ret ⟨?_, st⟩; rw [if_neg q0, if_pos q1]
        rw [if_neg q1]
        by_cases q2 : w = 2
        · rw [if_pos q2]; refine .ret ⟨?_, st⟩; rw [if_neg q0, if_neg q1, if_pos q2]
        rw [if_neg q2]
        by_cases q3 : w = 3
        · rw [if_pos q3]
          by_cases z : jshr o 17 = 1
          · rw [if_pos z]; refine .ret ⟨?_, st⟩; rw [if_neg q0, if_neg q1, if_neg q2, if_pos q3, if_pos z]
          · rw [if_neg z]; refine .ret ⟨?_, st⟩; rw [if_neg q0, if_neg q1, if_neg q2, if_pos q3, if_neg z]
        rw [if_neg q3]
        by_cases q4 : w = 4
        · rw [if_pos q4]
          by_cases z : jshr o 17 = 1
          · rw [if_pos z]; refine .ret ⟨?_, st⟩; rw [if_neg q0, if_neg q1, if_neg q2, if_neg q3, if_pos q4, if_pos z]
          · rw [if_neg z]; refine .ret ⟨?_, st⟩; rw [if_neg q0, if_neg q1, if_neg q2, if_neg q3, if_pos q4, if_neg z]
        rw [if_neg q4]
        refine .ret ⟨?_, st⟩; rw [if_neg q0, if_neg q1, if_neg q2, if_neg q3, if_neg q4]
