/-! the class: OUTCOMES as numbers -/
def rngK (c : Cl) : Prop := ∃ kd p a, c.1 = nI kd ∧ 1 ≤ kd ∧ kd ≤ 3 ∧ c.2.2.1 = nI p ∧ p < 8 ∧ c.2.2.2.1 = nI a ∧ a < 16 ∧ (kd = 1 → ∃ x w, c.2.2.2.2.1 = nI x ∧ x < 512 ∧ c.2.2.2.2.2.1 = nI w ∧ w < 2)
def gK (s : SS) : Prop := ∀ t, t < (sTx s).length → ∀ c ∈ txA s t, isDf c = true ∨ rngK c
theorem kshl {n k : Nat} (hk : k < 32) (h : n * 2 ^ k < 2 ^ 32) : jshl (nI n) (nI k) = nI (n * 2 ^ k) := pk_shlN _ k (s_l k hk) h
def okN (kd p a e : Nat) : Nat := 2 ^ 17 * kd + (2 ^ 14 * p + (2 ^ 10 * a + e))
theorem key_or {kd p a e : Nat} (h1 : kd ≤ 3) (h2 : p < 8) (h3 : a < 16) (h4 : e < 1024) : ((jshl (nI kd) 17 ||| jshl (nI p) 14) ||| jshl (nI a) 10) ||| nI e = nI (okN kd p a e) := by
  have e17 : jshl (nI kd) 17 = nI (2 ^ 17 * kd) := by rw [Nat.mul_comm]; exact kshl (k := 17) (by decide) (by omega)
  have e14 : jshl (nI p) 14 = nI (2 ^ 14 * p) := by rw [Nat.mul_comm]; exact kshl (k := 14) (by decide) (by omega)
  have e10 : jshl (nI a) 10 = nI (2 ^ 10 * a) := by rw [Nat.mul_comm]; exact kshl (k := 10) (by decide) (by omega)
  rw [e17, e14, e10, fa_or, fa_or, fa_or]
  unfold okN
  congr 1
  rw [Nat.or_assoc, Nat.or_assoc, Nat.two_pow_add_eq_or_of_lt (i := 10) h4, Nat.two_pow_add_eq_or_of_lt (i := 14) (b := 2 ^ 10 * a ||| e) (by rw [← Nat.two_pow_add_eq_or_of_lt (i := 10) h4]; omega), Nat.two_pow_add_eq_or_of_lt (i := 17)]
  rw [← Nat.two_pow_add_eq_or_of_lt (i := 14) (b := 2 ^ 10 * a ||| e) (by rw [← Nat.two_pow_add_eq_or_of_lt (i := 10) h4]; omega), ← Nat.two_pow_add_eq_or_of_lt (i := 10) h4]
  omega
theorem okey_is {kd p a e : Nat} : ((nI kd * 8 + nI p) * 16 + nI a) * 1024 + nI e = nI (okN kd p a e) := by
  have m8 : nI kd * 8 = nI (8 * kd) := by rw [Int32.mul_comm]; exact pk_mul 8 kd
  have m16 : nI (8 * kd + p) * 16 = nI (16 * (8 * kd + p)) := by rw [Int32.mul_comm]; exact pk_mul 16 _
  have mk : nI (16 * (8 * kd + p) + a) * 1024 = nI (1024 * (16 * (8 * kd + p) + a)) := by rw [Int32.mul_comm]; exact pk_mul 1024 _
  rw [m8, nI_add, m16, nI_add, mk, nI_add]
  unfold okN
  congr 1; omega
theorem key_ok {c : Cl} (h : rngK c) : ∃ m, m < 2 ^ 20 ∧ okey c = nI m ∧ ((jshl c.1 17 ||| jshl c.2.2.1 14) ||| jshl c.2.2.2.1 10) ||| (if c.1 = 1 then (jshl c.2.2.2.2.1 1 ||| c.2.2.2.2.2.1) else 0) = nI m := by
  obtain ⟨kd, p, a, e1, e2, e3, e4, e5, e6, e7, e8⟩ := h
  unfold okey
  rw [e1, e4, e6]
  by_cases q : kd = 1
  · obtain ⟨x, w, x1, x2, x3, x4⟩ := e8 q
    have q1 : nI kd = 1 := by rw [q]; rfl
    rw [if_pos q1, if_pos q1, x1, x3]
    have ex : jshl (nI x) 1 ||| nI w = nI (2 * x + w) := by
      have : jshl (nI x) 1 = nI (2 ^ 1 * x) := by rw [Nat.mul_comm]; exact kshl (k := 1) (by decide) (by omega)
      rw [this, fa_or_sum x (by omega : w < 2 ^ 1)]
    have ey : 2 * nI x + nI w = nI (2 * x + w) := by rw [show (2 : Int32) = nI 2 from rfl, pk_mul, nI_add]
    rw [ex, ey, okey_is, key_or e3 e5 e7 (by omega)]
    exact ⟨_, by unfold okN; omega, rfl, rfl⟩
  · have q1 : ¬ nI kd = 1 := fun z => q ((nI_eq (b := 1) (by omega) (by decide)).mp z)
    rw [if_neg q1, if_neg q1, show (0 : Int32) = nI 0 from rfl, okey_is, key_or e3 e5 e7 (by omega)]
    exact ⟨_, by unfold okN; omega, rfl, rfl⟩
theorem c_key {lo hi : Nat} {μ : JM} {a : Nat} {c : Cl} (E : cE lo hi true μ a c) (h : rngK c) : fX2_key a μ = some (okey c, μ, 0, 0) := by
  obtain ⟨q, b, t, -, -, -, -, a5, a6, -, -, -, -, -, -, a13⟩ := E
  obtain ⟨f1, f2, f3, f4, -, -⟩ := a13 rfl
  obtain ⟨m, m1, m2, m3⟩ := key_ok h
  unfold fX2_key
  rw [jck_of (by rw [a5]; rfl), a6, f3, f4, m2]
  by_cases q : c.1 = 1
  · rw [if_pos q] at m3
    rw [if_pos q, fX2_key_b23, jck_of (by rw [a5]; rfl), a6, f1, f2, m3]
  · rw [if_neg q] at m3
    rw [if_neg q, fX2_key_b23, jck_of (by rw [a5]; rfl), a6, f1, f2, m3]
/-! keys in order -/
def cKy (B : Nat) (μ : JM) (L : List Int32) : Prop := L.length ≤ 24 ∧ ∀ i, i < L.length → jI μ (B + 75) i = L.getD i 0
theorem in37 {B : Nat} {A R : List Int32} {o : Int32} (hC : ∀ μ : JM, True) : ∀ (fu d : Nat) (μ : JM), jT μ (B + 75) = (101, 24) → (A ++ R).length < 24 → d ≤ R.length → d < fu → (∀ i, i < A.length + d → jI μ (B + 75) i = (A ++ R).getD i 0) → (∀ i, d < i → i ≤ R.length → jI μ (B + 75) (A.length + i) = R.getD (i - 1) 0) →
    ∃ ν, fX8_insert_b37 fu (some (B + 75)) (nI (A ++ R).length) o (nI A.length) (nI (A.length + d)) μ = some (nI ((A ++ R).length + 1), ν, 0, 0) ∧ (∀ z, cn B z [75] μ ν) ∧ ∀ i, i < (A ++ R).length + 1 → jI ν (B + 75) i = (A ++ o :: R).getD i 0 := by
  intro fu
  induction fu with
  | zero => intro d μ _ _ _ q; omega
  | succ fu ih =>
    intro d μ hT hl hd hf h1 h2
    rw [List.length_append] at hl
    rw [fX8_insert_b37]
    cases d with
    | zero =>
      rw [if_pos (by rw [Nat.add_zero]; exact nI_le (Nat.le_refl _) (by omega))]
      simp only [jck_true, jde_is, jlt_is, jcl_0, beq_self_eq_true, jT_sI, jT_sJ, jP_sI, jP_sJ, jJ_sI, jI_sJ, jZ_sI, jZ_sJ, hT, jin_nI (show A.length < 24 by omega) (by decide), nI_clamp (show A.length < 2 ^ 31 by omega), nI_1]
      refine ⟨_, rfl, fun z => ⟨cs.sI (by decide), rfl⟩, fun i hi => ?_⟩
      rw [List.length_append] at hi
      rw [jI_sI]
      by_cases c : i = A.length
      · rw [if_pos ⟨rfl, c⟩, c]; simp [List.getD]
      · rw [if_neg (fun t => c t.2)]
        by_cases e : i < A.length
        · rw [h1 i (by omega)]; simp [List.getD, List.getElem?_append_left e]
        · have := h2 (i - A.length) (by omega) (by omega)
          rw [show A.length + (i - A.length) = i by omega] at this
          rw [this]
          obtain ⟨j, rfl⟩ : ∃ j, i = A.length + (j + 1) := ⟨i - A.length - 1, by omega⟩
          rw [show A.length + (j + 1) - A.length - 1 = j by omega]
          simp [List.getD, List.getElem?_append_right (show A.length ≤ A.length + (j + 1) by omega)]
    | succ d =>
      rw [if_neg (nI_ge (by omega) (by omega))]
      have e1 : nI (A.length + (d + 1)) - 1 = nI (A.length + d) := nI_pred _
      have e2 : nI (A.length + (d + 1)) + (-1) = nI (A.length + d) := by rw [← e1, Int32.sub_eq_add_neg]
      simp only [jck_true, jde_is, jlt_is, jcl_0, beq_self_eq_true, jT_sI, jT_sJ, jP_sI, jP_sJ, jJ_sI, jI_sJ, jZ_sI, jZ_sJ, hT, e1, e2, jin_nI (show A.length + d < 24 by omega) (by decide), jin_nI (show A.length + (d + 1) < 24 by omega) (by decide), nI_clamp (show A.length + d < 2 ^ 31 by omega), nI_clamp (show A.length + (d + 1) < 2 ^ 31 by omega)]
      have hv : jI μ (B + 75) (A.length + d) = R.getD d 0 := by
        rw [h1 _ (by omega)]; simp [List.getD, List.getElem?_append_right (show A.length ≤ A.length + d by omega)]
      rw [hv]
      have s1 : ∀ z, cn B z [75] μ (jsI μ (B + 75) (A.length + (d + 1)) (R.getD d 0)) := fun z => ⟨cs.sI (by decide), rfl⟩
      have g : ∀ i, jI (jsI μ (B + 75) (A.length + (d + 1)) (R.getD d 0)) (B + 75) i = if i = A.length + (d + 1) then R.getD d 0 else jI μ (B + 75) i := fun i => by
        rw [jI_sI]
        by_cases c : i = A.length + (d + 1)
        · rw [if_pos ⟨rfl, c⟩, if_pos c]
        · rw [if_neg (fun t => c t.2), if_neg c]
      obtain ⟨ν, e3, s3, h3⟩ := ih d (jsI μ (B + 75) (A.length + (d + 1)) (R.getD d 0)) hT (by rw [List.length_append]; omega) (by omega) (by omega) (fun i hi => by rw [g, if_neg (by omega)]; exact h1 i (by omega)) (fun i hi hi2 => by
        rw [g]
        by_cases c : i = d + 1
        · rw [if_pos (by omega), c]; rfl
        · rw [if_neg (by omega)]; exact h2 i (by omega) hi2)
      exact ⟨ν, e3, fun z => (s1 z).tr (s3 z), h3⟩
theorem ins_l {B : Nat} {L : List Int32} {o : Int32} : ∀ (fu : Nat) (A R : List Int32) (μ : JM), A ++ R = L → jT μ (B + 75) = (101, 24) → cKy B μ L → L.length < 24 → (∀ x ∈ A, x < o) → R.length < fu → ∃ ν, fX8_insert_b2 fu (some (B + 75)) (nI L.length) o (nI A.length) μ = some (nI (insK o L).length, ν, 0, 0) ∧ (∀ z, cn B z [75] μ ν) ∧ cKy B ν (insK o L) := by
  intro fu
  induction fu with
  | zero => intro A R μ _ _ _ _ _ q; omega
  | succ fu ih =>
    intro A R μ hL hT K hl hA hf
    subst hL
    have hl2 := hl
    rw [List.length_append] at hl2
    rw [fX8_insert_b2, insK_app A R hA]
    have b34 : insK o R = o :: R → ∃ ν, fX8_insert_b34 (some (B + 75)) (nI (A ++ R).length) o (nI A.length) μ = some (nI (A ++ insK o R).length, ν, 0, 0) ∧ (∀ z, cn B z [75] μ ν) ∧ cKy B ν (A ++ insK o R) := by
      intro e
      rw [fX8_insert_b34, e]
      obtain ⟨ν, e3, s3, h3⟩ := in37 (B := B) (A := A) (R := R) (o := o) (fun _ => trivial) jfuel R.length μ hT hl (Nat.le_refl _) (jfuel_gt (by omega)) (fun i hi => K.2 i (by rw [List.length_append]; exact hi)) (fun i h1 h2 => by omega)
      rw [← List.length_append] at e3
      have le : (A ++ o :: R).length = (A ++ R).length + 1 := by simp; omega
      refine ⟨ν, by rw [le]; exact e3, s3, by rw [le]; omega, fun i hi => h3 i (by rw [le] at hi; exact hi)⟩
    cases R with
    | nil =>
      rw [if_pos (by rw [List.append_nil]; exact nI_le (Nat.le_refl _) (by omega)), fX8_insert_b20, if_pos (by rw [List.append_nil]; exact nI_le (Nat.le_refl _) (by omega))]
      exact b34 rfl
    | cons x r =>
      have hlt : A.length < (A ++ x :: r).length := by simp
      have hx : jI μ (B + 75) A.length = x := by rw [K.2 _ hlt]; simp [List.getD]
      have b20 : ¬ x < o → ∃ ν, fX8_insert_b20 (some (B + 75)) (nI (A ++ x :: r).length) o (nI A.length) μ = some (nI (A ++ insK o (x :: r)).length, ν, 0, 0) ∧ (∀ z, cn B z [75] μ ν) ∧ cKy B ν (A ++ insK o (x :: r)) := by
        intro c
        rw [fX8_insert_b20, if_neg (nI_ge hlt (by omega))]
        simp only [jck_true, jde_is, jlt_is, jcl_0, beq_self_eq_true, jT_sI, jT_sJ, jP_sI, jP_sJ, jJ_sI, jI_sJ, jZ_sI, jZ_sJ, hT, jin_nI (show A.length < 24 by omega) (by decide), nI_clamp (show A.length < 2 ^ 31 by omega), hx]
        by_cases e : x = o
        · rw [if_pos e]
          have : insK o (x :: r) = x :: r := by rw [insK, if_neg c, if_pos e]
          rw [this]
          exact ⟨μ, rfl, fun z => cn.rf, K⟩
        · rw [if_neg e]
          exact b34 (by rw [insK, if_neg c, if_neg e])
      rw [if_neg (nI_ge hlt (by omega))]
      simp only [jck_true, jde_is, jlt_is, jcl_0, beq_self_eq_true, jT_sI, jT_sJ, jP_sI, jP_sJ, jJ_sI, jI_sJ, jZ_sI, jZ_sJ, hT, jin_nI (show A.length < 24 by omega) (by decide), nI_clamp (show A.length < 2 ^ 31 by omega), hx]
      by_cases c : x < o
      · rw [if_neg (Int32.not_le.mpr c), nI_1]
        have := ih (A ++ [x]) r μ (by simp) hT K hl (fun y hy => by
          rcases List.mem_append.mp hy with z | z
          · exact hA y z
          · rw [List.mem_singleton.mp z]; exact c) (by simp at hf; omega)
        have eA : (A ++ [x]).length = A.length + 1 := by simp
        rw [eA] at this
        obtain ⟨ν, e3, s3, h3⟩ := this
        have e4 : insK o (A ++ x :: r) = A ++ insK o (x :: r) := insK_app A _ hA
        rw [e4] at e3 h3
        exact ⟨ν, e3, s3, h3⟩
      · rw [if_pos (Int32.not_lt.mp c)]
        exact b20 c
theorem c_insert {B : Nat} {L : List Int32} {o : Int32} {μ : JM} (hT : jT μ (B + 75) = (101, 24)) (K : cKy B μ L) (hl : L.length < 24) : ∃ ν, fX8_insert (some (B + 75)) (nI L.length) o μ = some (nI (insK o L).length, ν, 0, 0) ∧ (∀ z, cn B z [75] μ ν) ∧ cKy B ν (insK o L) := ins_l jfuel [] L μ rfl hT K hl (fun x hx => by cases hx) (jfuel_gt (by omega))
theorem kys_len (n : Nat) : ∀ (cls : List Cl) (L : List Int32), (kys n cls L).length ≤ L.length + cls.length
  | [], L => by simp [kys]
  | c :: r, L => by
    rw [kys]
    have h1 := kys_len n r (if isDf c = true ∨ hasC (Cl.cas c) n = false then L else insK (okey c) L)
    have h2 : (if isDf c = true ∨ hasC (Cl.cas c) n = false then L else insK (okey c) L).length ≤ L.length + 1 := by
      split
      · omega
      · exact insK_len _ _
    rw [List.length_cons]; omega
theorem gk_l {B n v q : Nat} {cls : List Cl} (hn : n < 256) (hr : ∀ c ∈ cls, isDf c = true ∨ rngK c) : ∀ (fu k : Nat) (L : List Int32) (μ : JM), CT B μ → cL (B + 121) (jZ μ) true 24 μ v q cls → cKy B μ L → L.length ≤ k → k ≤ cls.length → cls.length - k < fu → ∃ ν, fX8_gatherKeys_b5 fu v (nI n) (some (B + 75)) (nI L.length) (nI k) μ = some (nI (kys n (cls.drop k) L).length, ν, 0, 0) ∧ cn B (jZ μ) [75] μ ν ∧ cKy B ν (kys n (cls.drop k) L) := by
  intro fu
  induction fu with
  | zero => intro k L μ _ _ _ _ _ q; omega
  | succ fu ih =>
    intro k L μ hC cl K hLk hk hf
    have h24 := cl.2.2.2.2.1
    rw [fX8_gatherKeys_b5]
    simp only [jck_true, jde_is, jlt_is, jcl_0, beq_self_eq_true, jT_sI, jT_sJ, jP_sI, jP_sJ, jJ_sI, jI_sJ, jZ_sI, jZ_sJ, cl.2.2.1, cl.2.2.2.1]
    by_cases c : k = cls.length
    · rw [if_pos (nI_le (by omega) (by omega)), c, List.drop_length]
      exact ⟨μ, rfl, cn.rf, K⟩
    · have hk2 : k < cls.length := by omega
      rw [if_neg (nI_ge hk2 (by omega)), drop_getD (d := cl0) hk2, kys]
      obtain ⟨a, e1, E⟩ := cl.2.2.2.2.2.2.2 k hk2
      obtain ⟨qq, b, tt, -, -, -, -, a5, a6, -, a8, a9, -, -, -, a13⟩ := id E
      have hm : cls.getD k cl0 ∈ cls := by rw [List.getD_eq_getElem?_getD, List.getElem?_eq_getElem hk2]; exact List.getElem_mem hk2
      simp only [jck_true, jde_is, jlt_is, jcl_0, beq_self_eq_true, jT_sI, jT_sJ, jP_sI, jP_sJ, jJ_sI, jI_sJ, jZ_sI, jZ_sJ, cl.2.2.2.2.2.1, cl.2.2.2.2.2.2.1, jin_nI (show k < 24 by omega) (by decide), nI_clamp (show k < 2 ^ 31 by omega), e1, a5, fX2_isDefine, a6]
      have nx : ∀ (L2 : List Int32) (μ2 : JM), cn B (jZ μ) [75] μ μ2 → cKy B μ2 L2 → L2.length ≤ k + 1 → ∃ ν, fX8_gatherKeys_b60 (fX8_gatherKeys_b5 fu) v (nI n) (some (B + 75)) (nI L2.length) (nI k) μ2 = some (nI (kys n (cls.drop (k + 1)) L2).length, ν, 0, 0) ∧ cn B (jZ μ) [75] μ ν ∧ cKy B ν (kys n (cls.drop (k + 1)) L2) := by
        intro L2 μ2 s2 K2 hl2
        rw [fX8_gatherKeys_b60, nI_1]
        have cl2 : cL (B + 121) (jZ μ2) true 24 μ2 v q cls := by rw [s2.2]; exact cl.ke s2.1 (by decide) (Nat.le_refl _) (Nat.le_refl _)
        obtain ⟨ν, e3, s3, h3⟩ := ih (k + 1) L2 μ2 (s2.1.ct hC hC.2.2) cl2 K2 hl2 (by omega) (by omega)
        exact ⟨ν, e3, s2.tr (by rw [s2.2] at s3; exact s3), h3⟩
      by_cases d : (cls.getD k cl0).1 = 0
      · rw [if_pos d, jcl_0, if_neg (by decide), if_pos (Or.inl (isDf_t.mpr d))]
        exact nx L μ cn.rf K (by omega)
      · rw [if_neg d, jcl_0, if_pos rfl]
        simp only [jck_true, jde_is, jlt_is, jcl_0, beq_self_eq_true, jT_sI, jT_sJ, jP_sI, jP_sJ, jJ_sI, jI_sJ, jZ_sI, jZ_sJ, a5, a8, a9.1, c_has a9 (a13 rfl).2.2.2.2.2 hn]
        by_cases hh : hasC (Cl.cas (cls.getD k cl0)) n = true
        · have nk : ¬ (isDf (cls.getD k cl0) = true ∨ hasC (Cl.cas (cls.getD k cl0)) n = false) := by
            intro z
            rcases z with z | z
            · exact d (isDf_t.mp z)
            · rw [hh] at z; cases z
          rw [if_pos hh, if_neg (by decide), if_neg nk]
          simp only [jck_true, jde_is, jlt_is, jcl_0, beq_self_eq_true, jT_sI, jT_sJ, jP_sI, jP_sJ, jJ_sI, jI_sJ, jZ_sI, jZ_sJ, cT75 hC]
          rw [if_neg (show ¬ nI 24 ≤ nI L.length from nI_ge (by omega) (by decide))]
          have rk : rngK (cls.getD k cl0) := by
            rcases hr _ hm with z | z
            · exact absurd (isDf_t.mp z) d
            · exact z
          rw [c_key E rk, jcl_0]
          obtain ⟨μ2, e2, s2, K2⟩ := c_insert (B := B) (o := okey (cls.getD k cl0)) (cT75 hC) K (by omega)
          rw [e2, jcl_0]
          exact nx _ μ2 (s2 _) K2 (by have := insK_len (okey (cls.getD k cl0)) L; omega)
        · have hh2 : hasC (Cl.cas (cls.getD k cl0)) n = false := by simpa using hh
          rw [if_neg hh, if_pos rfl, if_pos (Or.inr hh2)]
          exact nx L μ cn.rf K (by omega)
