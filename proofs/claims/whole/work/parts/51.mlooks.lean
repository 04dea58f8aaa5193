/-! the reference: looks() -/
theorem jsI_same {μ : JM} {a k : Nat} {v : Int32} (h : jI μ a k = v) : jsI μ a k v = μ := by
  obtain ⟨z, t, i, j, p⟩ := μ
  simp only [jsI, jI] at h ⊢
  have e : upd (i a) k v = i a := fa_upd_same h
  have e2 : va_up i a (upd (i a) k v) = i := by
    rw [e]; funext b; by_cases q : b = a
    · subst q; simp [va_up]
    · simp [va_up, q]
  rw [e2]
theorem jsI_twice {μ : JM} {a k : Nat} {v w : Int32} : jsI (jsI μ a k v) a k w = jsI μ a k w := by
  obtain ⟨z, t, i, j, p⟩ := μ
  simp only [jsI]
  congr 1; congr 1; congr 1
  funext b; by_cases q : b = a
  · subst q; simp [va_up, fa_upd_twice]
  · simp [va_up, q]
theorem m_isLetter (c : Int32) (μ : JM) : fX11_isLetter c μ = some (if isL c then 1 else 0, μ, 0, 0) := by
  unfold fX11_isLetter isL
  by_cases h1 : c < 97
  · have : ¬ 97 ≤ c := Int32.not_le.mpr h1
    simp [h1, this]
  · have h2 : 97 ≤ c := Int32.not_lt.mp h1
    by_cases h3 : c ≤ 122
    · have : ¬ 122 < c := Int32.not_lt.mpr h3
      simp [h1, h2, h3, this]
    · have : 122 < c := Int32.not_le.mp h3
      simp [h1, h2, h3, this]
theorem m_isDigit (c : Int32) (μ : JM) : fX11_isDigit c μ = some (if isD c then 1 else 0, μ, 0, 0) := by
  unfold fX11_isDigit isD
  by_cases h1 : c < 48
  · have : ¬ 48 ≤ c := Int32.not_le.mpr h1
    simp [h1, this]
  · have h2 : 48 ≤ c := Int32.not_lt.mp h1
    by_cases h3 : c ≤ 57
    · have : ¬ 57 < c := Int32.not_lt.mpr h3
      simp [h1, h2, h3, this]
    · have : 57 < c := Int32.not_le.mp h3
      simp [h1, h2, h3, this]
def mFail (M : Nat) (μ : JM) (k p : Int32) : JM := if jI μ M 18 = 0 then jsI μ M 18 (1 + 8 * p + k) else μ
theorem m_fails {M : Nat} {μ : JM} (h : MT M μ) (k p : Int32) : fX11_fails M k p μ = some (0, mFail M μ k p, 0, 0) := by
  unfold fX11_fails mFail
  simp only [jck_true, jde_is, jlt_is, jcl_0, beq_self_eq_true, jT_sI, jT_sJ, jP_sI, jP_sJ, jJ_sI, jI_sJ, jZ_sI, jZ_sJ, h.1]
  by_cases q : jI μ M 18 = 0
  · simp [q]
  · simp [q]
/-- the text that is read -/
def mTx (M : Nat) (μ : JM) (l : List Int32) : Prop := jI μ M 12 = nI l.length ∧ Sg (jI μ (M + 8)) 0 l ∧ l.length ≤ 2400
theorem mTx.set {M : Nat} {μ : JM} {l : List Int32} {k : Nat} {v : Int32} (h : mTx M μ l) (hk : k ≠ 12) : mTx M (jsI μ M k v) l := by
  refine ⟨?_, ?_, h.2.2⟩
  · rw [jI_sI, if_neg (by omega)]; exact h.1
  · refine h.2.1.eq fun i _ => ?_
    rw [jI_sI, if_neg (by omega)]
theorem mTx.at {M : Nat} {μ : JM} {l : List Int32} {i : Nat} (h : mTx M μ l) (hi : i < l.length) : jI μ (M + 8) i = l.getD i 0 := by
  have := h.2.1 i hi
  simpa using this
theorem drop_at {l : List Int32} {i : Nat} (h : i < l.length) : l.drop i = l.getD i 0 :: l.drop (i + 1) := by
  rw [List.drop_eq_getElem_cons h]
  congr 1
  simp [List.getD, h]
theorem lk_letters {M : Nat} {l : List Int32} : ∀ (fu i : Nat) (μ : JM), MT M μ → mTx M μ l → jI μ M 13 = nI i → i ≤ l.length → l.length - i < fu → fX11_looks_b110 fu M μ = fX11_looks_b149 M (jsI μ M 13 (nI (i + ((l.drop i).takeWhile isL).length))) := by
  intro fu
  induction fu with
  | zero => intro i μ _ _ _ _ h; omega
  | succ fu ih =>
    intro i μ h ht hn hi hf
    have hl := ht.2.2
    rw [fX11_looks_b110]
    simp only [jck_true, jde_is, jlt_is, jcl_0, beq_self_eq_true, jT_sI, jT_sJ, jP_sI, jP_sJ, jJ_sI, jI_sJ, jZ_sI, jZ_sJ, h.1, ht.1, hn]
    by_cases q : i = l.length
    · subst q
      rw [if_pos (nI_le (Nat.le_refl _) (by omega)), jsI_same (by simp [hn])]
    · have hi2 : i < l.length := by omega
      rw [if_neg (nI_ge hi2 (by omega))]
      simp only [mP_text h, mT_text h, jck_true, jde_is, jlt_is, jcl_0, beq_self_eq_true, jT_sI, jT_sJ, jP_sI, jP_sJ, jJ_sI, jI_sJ, jZ_sI, jZ_sJ, jin_nI (show i < 2400 by omega) (by decide), nI_clamp (show i < 2 ^ 31 by omega), m_isLetter, ht.at hi2, hn, h.1]
      rw [drop_at hi2]
      by_cases c : isL (l.getD i 0) = true
      · simp only [c, if_true, List.takeWhile_cons, List.length_cons]
        rw [if_neg (by decide)]
        rw [nI_1, ih (i + 1) (jsI μ M 13 (nI (i + 1))) h (ht.set (by decide)) (by rw [jI_sI, if_pos ⟨rfl, rfl⟩]) (by omega) (by omega), jsI_twice]
        congr 3; omega
      · simp only [c, List.takeWhile_cons]
        simp only [if_true, Bool.false_eq_true, if_false, List.length_nil, Nat.add_zero]
        rw [jsI_same hn]
def wLk (M : Nat) (a k : Nat) : Prop := a = M ∧ 13 ≤ k ∧ k ≤ 18
theorem smI.tx {M : Nat} {μ ν : JM} {l : List Int32} (h : smI (wLk M) μ ν) (ht : mTx M μ l) : mTx M ν l := by
  refine ⟨?_, ?_, ht.2.2⟩
  · rw [h.2.2.2.2 M 12 (by unfold wLk; omega)]; exact ht.1
  · exact ht.2.1.eq fun i _ => h.2.2.2.2 _ _ (by unfold wLk; omega)
theorem lk_digits {M j : Nat} {l : List Int32} : ∀ (fu i : Nat) (μ : JM) (v : Int32), MT M μ → mTx M μ l → jI μ M 13 = nI i → jI μ M 15 = nI j → jI μ M 17 = v → j ≤ i → i ≤ l.length → l.length - i < fu →
    ∃ ν, fX11_looks_b201 fu M μ = fX11_looks_b277 M ν ∧ smI (wLk M) μ ν ∧ jI ν M 13 = nI (i + ((l.drop i).takeWhile isD).length) ∧ jI ν M 17 = (((l.drop i).takeWhile isD).take (4 - (i - j))).foldl dstep v ∧ (∀ k, k ≠ 13 → k ≠ 17 → jI ν M k = jI μ M k) := by
  intro fu
  induction fu with
  | zero => intro i μ v _ _ _ _ _ _ _ h; omega
  | succ fu ih =>
    intro i μ v h ht hn hfr hv hji hi hf
    have hl := ht.2.2
    rw [fX11_looks_b201]
    simp only [jck_true, jde_is, jlt_is, jcl_0, beq_self_eq_true, jT_sI, jT_sJ, jP_sI, jP_sJ, jJ_sI, jI_sJ, jZ_sI, jZ_sJ, h.1, ht.1, hn]
    by_cases q : i = l.length
    · subst q
      rw [if_pos (nI_le (Nat.le_refl _) (by omega))]
      exact ⟨μ, rfl, smI.rf, by simp [hn], by simp [hv], fun _ _ _ => rfl⟩
    · have hi2 : i < l.length := by omega
      rw [if_neg (nI_ge hi2 (by omega))]
      simp only [mP_text h, mT_text h, jck_true, jde_is, jlt_is, jcl_0, beq_self_eq_true, jT_sI, jT_sJ, jP_sI, jP_sJ, jJ_sI, jI_sJ, jZ_sI, jZ_sJ, jin_nI (show i < 2400 by omega) (by decide), nI_clamp (show i < 2 ^ 31 by omega), m_isDigit, ht.at hi2, hn, h.1, hfr, hv]
      rw [drop_at hi2]
      by_cases c : isD (l.getD i 0) = true
      · simp only [c, if_true, List.takeWhile_cons, List.length_cons]
        rw [if_neg (by decide), pk_sub hji]
        have step : ∀ (μ1 : JM) (v1 : Int32), MT M μ1 → mTx M μ1 l → jI μ1 M 13 = nI i → jI μ1 M 15 = nI j → jI μ1 M 17 = v1 → (((l.drop (i + 1)).takeWhile isD).take (4 - (i + 1 - j))).foldl dstep v1 = ((l.getD i 0 :: (l.drop (i + 1)).takeWhile isD).take (4 - (i - j))).foldl dstep v → smI (wLk M) μ μ1 → (∀ k, k ≠ 13 → k ≠ 17 → jI μ1 M k = jI μ M k) →
            ∃ ν, fX11_looks_b264 (fX11_looks_b201 fu) M μ1 = fX11_looks_b277 M ν ∧ smI (wLk M) μ ν ∧ jI ν M 13 = nI (i + (((l.drop (i + 1)).takeWhile isD).length + 1)) ∧ jI ν M 17 = ((l.getD i 0 :: (l.drop (i + 1)).takeWhile isD).take (4 - (i - j))).foldl dstep v ∧ (∀ k, k ≠ 13 → k ≠ 17 → jI ν M k = jI μ M k) := by
          intro μ1 v1 g1 g2 g3 g4 g5 g6 g7 g8
          rw [fX11_looks_b264]
          simp only [jck_true, jde_is, jlt_is, jcl_0, beq_self_eq_true, jT_sI, jT_sJ, jP_sI, jP_sJ, jJ_sI, jI_sJ, jZ_sI, jZ_sJ, g1.1, g3, nI_1]
          obtain ⟨ν, e1, e2, e3, e4, e5⟩ := ih (i + 1) (jsI μ1 M 13 (nI (i + 1))) v1 g1 (g2.set (by decide)) (by rw [jI_sI, if_pos ⟨rfl, rfl⟩]) (by rw [jI_sI, if_neg (by omega)]; exact g4) (by rw [jI_sI, if_neg (by omega)]; exact g5) (by omega) (by omega) (by omega)
          refine ⟨ν, e1, g7.tr ((smI.set ⟨rfl, by omega, by omega⟩).tr e2), by rw [e3]; congr 1; omega, by rw [e4, g6], fun k k1 k2 => ?_⟩
          rw [e5 k k1 k2, jI_sI, if_neg (by omega), g8 k k1 k2]
        by_cases z : 4 ≤ i - j
        · rw [if_pos (show (4 : Int32) ≤ nI (i - j) from nI_le (a := 4) z (by omega))]
          exact step μ v h ht hn hfr hv (by rw [show 4 - (i + 1 - j) = 0 by omega, show 4 - (i - j) = 0 by omega]; rfl) smI.rf (fun _ _ _ => rfl)
        · rw [if_neg (show ¬ (4 : Int32) ≤ nI (i - j) from nI_ge (b := 4) (by omega) (by decide))]
          refine step (jsI μ M 17 (10 * v + l.getD i 0 - 48)) (dstep v (l.getD i 0)) h (ht.set (by decide)) (by rw [jI_sI, if_neg (by omega)]; exact hn) (by rw [jI_sI, if_neg (by omega)]; exact hfr) (by rw [jI_sI, if_pos ⟨rfl, rfl⟩]; rfl) ?_ (smI.set ⟨rfl, by omega, by omega⟩) (fun k k1 k2 => by rw [jI_sI, if_neg (by omega)])
          rw [show 4 - (i - j) = (4 - (i + 1 - j)) + 1 by omega, List.take_succ_cons, List.foldl_cons]
      · simp only [c, List.takeWhile_cons]
        simp only [if_true, Bool.false_eq_true, if_false, List.length_nil, Nat.add_zero]
        exact ⟨μ, rfl, smI.rf, by simp [hn], by simp [hv], fun _ _ _ => rfl⟩
theorem lk_skip {M : Nat} {l : List Int32} : ∀ (fu i : Nat) (μ : JM), MT M μ → mTx M μ l → jI μ M 13 = nI i → i ≤ l.length → l.length - i < fu → fX11_looks_b0 fu M μ = fX11_looks_b52 M (jsI μ M 13 (nI (i + skp (l.drop i)))) := by
  intro fu
  induction fu with
  | zero => intro i μ _ _ _ _ h; omega
  | succ fu ih =>
    intro i μ h ht hn hi hf
    have hl := ht.2.2
    rw [fX11_looks_b0]
    simp only [jck_true, jde_is, jlt_is, jcl_0, beq_self_eq_true, jT_sI, jT_sJ, jP_sI, jP_sJ, jJ_sI, jI_sJ, jZ_sI, jZ_sJ, h.1, ht.1, hn]
    by_cases q : i = l.length
    · subst q
      rw [if_pos (nI_le (Nat.le_refl _) (by omega)), jsI_same (by simp [hn, skp])]
    · have hi2 : i < l.length := by omega
      rw [if_neg (nI_ge hi2 (by omega))]
      simp only [mP_text h, mT_text h, jck_true, jde_is, jlt_is, jcl_0, beq_self_eq_true, jT_sI, jT_sJ, jP_sI, jP_sJ, jJ_sI, jI_sJ, jZ_sI, jZ_sJ, jin_nI (show i < 2400 by omega) (by decide), nI_clamp (show i < 2 ^ 31 by omega), ht.at hi2]
      rw [drop_at hi2]
      have key : isB (l.getD i 0) = true → fX11_looks_b39 (fX11_looks_b0 fu) M μ = fX11_looks_b52 M (jsI μ M 13 (nI (i + skp (l.getD i 0 :: l.drop (i + 1))))) := by
        intro c
        rw [fX11_looks_b39]
        simp only [jck_true, jde_is, jlt_is, jcl_0, beq_self_eq_true, jT_sI, jT_sJ, jP_sI, jP_sJ, jJ_sI, jI_sJ, jZ_sI, jZ_sJ, h.1, hn, nI_1]
        rw [ih (i + 1) (jsI μ M 13 (nI (i + 1))) h (ht.set (by decide)) (by rw [jI_sI, if_pos ⟨rfl, rfl⟩]) (by omega) (by omega), jsI_twice]
        simp only [skp, c, if_true]
        congr 3; omega
      by_cases c1 : l.getD i 0 = 32
      · rw [if_pos c1]; exact key (by unfold isB; rw [c1]; decide)
      · rw [if_neg c1]
        by_cases c2 : l.getD i 0 = 10
        · rw [if_pos c2]; exact key (by unfold isB; rw [c2]; decide)
        · rw [if_neg c2]
          have c : isB (l.getD i 0) = false := by unfold isB; rw [decide_eq_false c1, decide_eq_false c2]; rfl
          rw [jsI_same]
          simp only [skp, c]
          simpa using hn
/-- the token at the head of what is left -/
def tokc (l : List Int32) : Int32 := match l with
  | [] => 0
  | c :: _ => if isL c then 1 else if isD c then 2 else if c = 58 ∨ c = 59 ∨ c = 40 ∨ c = 41 then 3 else 4
def tokv (l : List Int32) : Int32 := match l with
  | [] => 0
  | c :: r => if isL c then 0 else if isD c then dval ((c :: r.takeWhile isD).take 4) else c
def ovr (l : List Int32) : Bool := match l with
  | [] => false
  | c :: r => if isL c then decide (12 < hdLen (c :: r)) else if isD c then decide (3 < hdLen (c :: r)) else false
/-- the reference looks at the token at place j -/
def mLk (M : Nat) (μ : JM) (l : List Int32) (j : Nat) : Prop := j ≤ l.length ∧ (∀ c r, l.drop j = c :: r → isB c = false) ∧ jI μ M 15 = nI j ∧ jI μ M 13 = nI (j + hdLen (l.drop j)) ∧ jI μ M 16 = nI (hdLen (l.drop j)) ∧ jI μ M 14 = tokc (l.drop j) ∧ jI μ M 17 = tokv (l.drop j)
theorem m_b149 {M j h : Nat} {μ : JM} (hm : MT M μ) (h1 : jI μ M 13 = nI (j + h)) (h2 : jI μ M 15 = nI j) (hb : j + h < 2 ^ 31) : ∃ ν, fX11_looks_b149 M μ = some (if 12 < h then 0 else 1, ν, 0, 0) ∧ smI (wLk M) μ ν ∧ jI ν M 16 = nI h ∧ jI ν M 18 = (if 12 < h ∧ jI μ M 18 = 0 then nI (1 + 8 * j + 1) else jI μ M 18) ∧ (∀ k, k ≠ 16 → k ≠ 18 → jI ν M k = jI μ M k) := by
  rw [fX11_looks_b149]
  have e : nI (j + h) - nI j = nI h := by rw [pk_sub (by omega)]; congr 1; omega
  have e16 : jI (jsI μ M 16 (nI h)) M 16 = nI h := by rw [jI_sI, if_pos ⟨rfl, rfl⟩]
  have e15 : jI (jsI μ M 16 (nI h)) M 15 = nI j := by rw [jI_sI, if_neg (by omega)]; exact h2
  have e18 : jI (jsI μ M 16 (nI h)) M 18 = jI μ M 18 := by rw [jI_sI, if_neg (by omega)]
  simp only [jck_true, jde_is, jlt_is, jcl_0, beq_self_eq_true, jT_sI, jT_sJ, jP_sI, jP_sJ, jJ_sI, jI_sJ, jZ_sI, jZ_sJ, hm.1, h1, h2, e, e16, e15]
  by_cases q : h ≤ 12
  · rw [if_pos (show nI h ≤ (12 : Int32) from nI_le (b := 12) q (by decide))]
    refine ⟨jsI μ M 16 (nI h), by rw [if_neg (by omega)], smI.set ⟨rfl, by omega, by omega⟩, e16, by rw [if_neg (by omega), e18], fun k k1 k2 => by rw [jI_sI, if_neg (by omega)]⟩
  · rw [if_neg (show ¬ nI h ≤ (12 : Int32) from nI_ge (a := 12) (by omega) (by omega)), m_fails (show MT M (jsI μ M 16 (nI h)) from hm)]
    simp only [jck_true, jde_is, jlt_is, jcl_0, beq_self_eq_true, jT_sI, jT_sJ, jP_sI, jP_sJ, jJ_sI, jI_sJ, jZ_sI, jZ_sJ, if_true]
    have ef : (1 : Int32) + 8 * nI j + 1 = nI (1 + 8 * j + 1) := by
      have a1 : (8 : Int32) * nI j = nI (8 * j) := pk_mul 8 j
      have a2 : (1 : Int32) + nI (8 * j) = nI (1 + 8 * j) := nI_add 1 (8 * j)
      rw [a1, a2, nI_1]
    refine ⟨mFail M (jsI μ M 16 (nI h)) 1 (nI j), by rw [if_pos (show 12 < h by omega)], ?_, ?_, ?_, ?_⟩
    · unfold mFail; split
      · exact (smI.set ⟨rfl, by omega, by omega⟩).tr (smI.set ⟨rfl, by omega, by omega⟩)
      · exact smI.set ⟨rfl, by omega, by omega⟩
    · unfold mFail; split
      · rw [jI_sI, if_neg (by omega)]; exact e16
      · exact e16
    · unfold mFail; rw [e18]
      by_cases z : jI μ M 18 = 0
      · rw [if_pos z, if_pos ⟨by omega, z⟩, jI_sI, if_pos ⟨rfl, rfl⟩, ef]
      · rw [if_neg z, if_neg (fun q => z q.2), e18]
    · intro k k1 k2
      unfold mFail; split
      · rw [jI_sI, if_neg (by omega), jI_sI, if_neg (by omega)]
      · rw [jI_sI, if_neg (by omega)]
theorem m_b277 {M j h : Nat} {μ : JM} (hm : MT M μ) (h1 : jI μ M 13 = nI (j + h)) (h2 : jI μ M 15 = nI j) (hb : j + h < 2 ^ 31) : ∃ ν, fX11_looks_b277 M μ = some (if 3 < h then 0 else 1, ν, 0, 0) ∧ smI (wLk M) μ ν ∧ jI ν M 16 = nI h ∧ jI ν M 18 = (if 3 < h ∧ jI μ M 18 = 0 then nI (1 + 8 * j + 1) else jI μ M 18) ∧ (∀ k, k ≠ 16 → k ≠ 18 → jI ν M k = jI μ M k) := by
  rw [fX11_looks_b277]
  have e : nI (j + h) - nI j = nI h := by rw [pk_sub (by omega)]; congr 1; omega
  have e16 : jI (jsI μ M 16 (nI h)) M 16 = nI h := by rw [jI_sI, if_pos ⟨rfl, rfl⟩]
  have e15 : jI (jsI μ M 16 (nI h)) M 15 = nI j := by rw [jI_sI, if_neg (by omega)]; exact h2
  have e18 : jI (jsI μ M 16 (nI h)) M 18 = jI μ M 18 := by rw [jI_sI, if_neg (by omega)]
  simp only [jck_true, jde_is, jlt_is, jcl_0, beq_self_eq_true, jT_sI, jT_sJ, jP_sI, jP_sJ, jJ_sI, jI_sJ, jZ_sI, jZ_sJ, hm.1, h1, h2, e, e16, e15]
  by_cases q : h ≤ 3
  · rw [if_pos (show nI h ≤ (3 : Int32) from nI_le (b := 3) q (by decide))]
    refine ⟨jsI μ M 16 (nI h), by rw [if_neg (by omega)], smI.set ⟨rfl, by omega, by omega⟩, e16, by rw [if_neg (by omega), e18], fun k k1 k2 => by rw [jI_sI, if_neg (by omega)]⟩
  · rw [if_neg (show ¬ nI h ≤ (3 : Int32) from nI_ge (a := 3) (by omega) (by omega)), m_fails (show MT M (jsI μ M 16 (nI h)) from hm)]
    simp only [jck_true, jde_is, jlt_is, jcl_0, beq_self_eq_true, jT_sI, jT_sJ, jP_sI, jP_sJ, jJ_sI, jI_sJ, jZ_sI, jZ_sJ, if_true]
    have ef : (1 : Int32) + 8 * nI j + 1 = nI (1 + 8 * j + 1) := by
      have a1 : (8 : Int32) * nI j = nI (8 * j) := pk_mul 8 j
      have a2 : (1 : Int32) + nI (8 * j) = nI (1 + 8 * j) := nI_add 1 (8 * j)
      rw [a1, a2, nI_1]
    refine ⟨mFail M (jsI μ M 16 (nI h)) 1 (nI j), by rw [if_pos (show 3 < h by omega)], ?_, ?_, ?_, ?_⟩
    · unfold mFail; split
      · exact (smI.set ⟨rfl, by omega, by omega⟩).tr (smI.set ⟨rfl, by omega, by omega⟩)
      · exact smI.set ⟨rfl, by omega, by omega⟩
    · unfold mFail; split
      · rw [jI_sI, if_neg (by omega)]; exact e16
      · exact e16
    · unfold mFail; rw [e18]
      by_cases z : jI μ M 18 = 0
      · rw [if_pos z, if_pos ⟨by omega, z⟩, jI_sI, if_pos ⟨rfl, rfl⟩, ef]
      · rw [if_neg z, if_neg (fun q => z q.2), e18]
    · intro k k1 k2
      unfold mFail; split
      · rw [jI_sI, if_neg (by omega), jI_sI, if_neg (by omega)]
      · rw [jI_sI, if_neg (by omega)]
theorem m_b346 {M j : Nat} {μ : JM} {x s0 : Int32} (hm : MT M μ) (h1 : jI μ M 13 = nI j) : ∃ ν, fX11_looks_b346 M x s0 (some M) μ = some (1, ν, 0, 0) ∧ smI (wLk M) μ ν ∧ jI ν M 13 = nI (j + 1) ∧ jI ν M 14 = s0 ∧ jI ν M 15 = jI μ M 15 ∧ jI ν M 16 = 1 ∧ jI ν M 17 = x ∧ jI ν M 18 = jI μ M 18 := by
  rw [fX11_looks_b346]
  simp only [jck_true, jde_is, jlt_is, jcl_0, beq_self_eq_true, jT_sI, jT_sJ, jP_sI, jP_sJ, jJ_sI, jI_sJ, jZ_sI, jZ_sJ, hm.1]
  have e : jI (jsI (jsI (jsI μ M 14 s0) M 17 x) M 16 1) M 13 = nI j := by simp only [jI_sI]; simp [h1]
  rw [e, nI_1]
  refine ⟨_, rfl, (((smI.set ⟨rfl, by omega, by omega⟩).tr (smI.set ⟨rfl, by omega, by omega⟩)).tr (smI.set ⟨rfl, by omega, by omega⟩)).tr (smI.set ⟨rfl, by omega, by omega⟩), ?_, ?_, ?_, ?_, ?_, ?_⟩ <;> simp only [jI_sI] <;> simp
