/-! the reference: name(): a word is kept -/
def wNm (A S n : Nat) (a k : Nat) : Prop := (a = S ∧ k = n) ∨ (a = A ∧ 12 * n ≤ k ∧ k < 12 * n + 12)
theorem mLk.keep {M : Nat} {μ ν : JM} {l : List Int32} {j : Nat} {W : Nat → Nat → Prop} (hs : smI W μ ν) (hW : ∀ k, 13 ≤ k → k ≤ 17 → ¬ W M k) (h : mLk M μ l j) : mLk M ν l j := lk_keep (fun k q1 q2 => hs.2.2.2.2 M k (hW k q1 q2)) h
theorem mTx.keep {M : Nat} {μ ν : JM} {l : List Int32} {W : Nat → Nat → Prop} (hs : smI W μ ν) (h12 : ¬ W M 12) (h8 : ∀ i, ¬ W (M + 8) i) (h : mTx M μ l) : mTx M ν l := by
  refine ⟨?_, ?_, h.2.2⟩
  · rw [hs.2.2.2.2 M 12 h12]; exact h.1
  · exact h.2.1.eq fun i _ => hs.2.2.2.2 _ _ (h8 _)
theorem mWd.keep {M : Nat} {μ ν : JM} {l : List Int32} {j : Nat} {W : Nat → Nat → Prop} (hs : smI W μ ν) (hW : ∀ k, 12 ≤ k → k ≤ 17 → ¬ W M k) (h8 : ∀ i, ¬ W (M + 8) i) (h : mWd M μ l j) : mWd M ν l j := ⟨hs.mt h.1, h.2.1.keep hs (hW 12 (by omega) (by omega)) h8, h.2.2.1.keep hs (fun k q1 q2 => hW k (by omega) q2), h.2.2.2⟩
theorem name_l {M A S n : Nat} {l : List Int32} {j : Nat} (hA1 : A ≠ M) (hA2 : A ≠ M + 8) (hS1 : S ≠ M) (hS2 : S ≠ M + 8) : ∀ (fu k : Nat) (μ : JM), mWd M μ l j → (jT μ A).1 = 100 → 12 * n + 12 ≤ (jT μ A).2 → (jT μ A).2 < 2 ^ 31 → k ≤ (hw (l.drop j)).length → Sg (jI μ A) (12 * n) ((hw (l.drop j)).take k) → (hw (l.drop j)).length - k < fu →
    ∃ ν, fX11_name_b10 fu M (some A) (nI n) (nI k) μ = some ((), ν, 0, 0) ∧ smI (wNm A S n) μ ν ∧ Sg (jI ν A) (12 * n) (hw (l.drop j)) ∧ (A ≠ S → ∀ i, jI ν S i = jI μ S i) := by
  intro fu
  induction fu with
  | zero => intro k μ _ _ _ _ _ _ q; omega
  | succ fu ih =>
    intro k μ h hT hT2 hT3 hk hs hf
    obtain ⟨g1, g2, g3⟩ := h.len
    obtain ⟨h1, h2, h3, h4, h5⟩ := id h
    have k5 := h3.2.2.2.2.1
    have k3 := h3.2.2.1
    have hl := h2.2.2
    have hle := hdLen_le (l.drop j)
    rw [List.length_drop] at hle
    have hjl := h3.1
    rw [fX11_name_b10]
    simp only [jck_true, beq_self_eq_true, h1.1, k5, g1]
    by_cases q : k = (hw (l.drop j)).length
    · rw [if_pos (nI_le (by omega) (by omega))]
      rw [q, List.take_length] at hs
      exact ⟨μ, rfl, smI.rf, hs, fun _ _ => rfl⟩
    · have hk2 : k < (hw (l.drop j)).length := by omega
      rw [if_neg (nI_ge (by omega) (by omega))]
      have e12 : (12 : Int32) * nI n + nI k = nI (12 * n + k) := by rw [show (12 : Int32) = nI 12 from rfl, pk_mul, nI_add]
      have hjk : j + k < l.length := by omega
      simp only [jde_is, jlt_is, hT, beq_self_eq_true, jck_true, e12, jin_nI (show 12 * n + k < (jT μ A).2 by omega) hT3, mP_text h1, mT_text h1, k3, nI_add, jin_nI (show j + k < 2400 by omega) (by decide), nI_clamp (show 12 * n + k < 2 ^ 31 by omega), nI_clamp (show j + k < 2 ^ 31 by omega), h2.at hjk, vp_byte, nI_1]
      have hm : (hw (l.drop j)).getD k 0 ∈ hw (l.drop j) := by
        rw [List.getD_eq_getElem?_getD, List.getElem?_eq_getElem hk2]; exact List.getElem_mem hk2
      obtain ⟨m, m1, m2, m3⟩ := isL_nat (tw_all (p := isL) (l := l.drop j) _ hm)
      rw [hw_get hk2, m3, nb_small (by omega)]
      have s1 : smI (wNm A S n) μ (jsI μ A (12 * n + k) (nI m)) := smI.set (Or.inr ⟨rfl, by omega, by omega⟩)
      have hseg : Sg (jI (jsI μ A (12 * n + k) (nI m)) A) (12 * n) ((hw (l.drop j)).take (k + 1)) := by
        have := hs.snoc (v := nI m)
        rw [List.length_take, Nat.min_eq_left (by omega)] at this
        rw [jI_at]
        have e : (hw (l.drop j)).take (k + 1) = (hw (l.drop j)).take k ++ [nI m] := by
          rw [List.take_succ_eq_append_getElem hk2]
          congr 2
          rw [← m3]; simp [List.getD, hk2]
        rw [e]; exact this
      obtain ⟨ν, e1, e2, e3, e4⟩ := ih (k + 1) (jsI μ A (12 * n + k) (nI m)) (h.keep s1 (fun k q1 q2 => by unfold wNm; omega) (fun i => by unfold wNm; omega)) hT hT2 hT3 (by omega) hseg (by omega)
      refine ⟨ν, e1, s1.tr e2, e3, fun ne i => ?_⟩
      rw [e4 ne i, jI_sI, if_neg (by omega)]
theorem m_name {M A S : Nat} {μ : JM} {l : List Int32} {j : Nat} {ws : List (List Int32)} (h : mWd M μ l j) (hA1 : A ≠ M) (hA2 : A ≠ M + 8) (hS1 : S ≠ M) (hS2 : S ≠ M + 8) (hAS : A ≠ S) (hT : (jT μ A).1 = 100) (hT2 : 12 * ws.length + 12 ≤ (jT μ A).2) (hT3 : (jT μ A).2 < 2 ^ 31) (hU : (jT μ S).1 = 101) (hU2 : ws.length < (jT μ S).2) (hU3 : (jT μ S).2 < 2 ^ 31) (hw1 : mTb μ A S ws) :
    ∃ ν, fX11_name M (some A) (some S) (nI ws.length) μ = some ((), ν, 0, 0) ∧ smI (wNm A S ws.length) μ ν ∧ mTb ν A S (ws ++ [hw (l.drop j)]) := by
  obtain ⟨g1, g2, g3⟩ := h.len
  have k5 := h.2.2.1.2.2.2.2.1
  rw [fX11_name]
  simp only [jck_true, beq_self_eq_true, h.1.1, jde_is, jlt_is, hU, jin_nI hU2 hU3, nI_clamp (show ws.length < 2 ^ 31 by omega), k5, g1]
  have s1 : smI (wNm A S ws.length) μ (jsI μ S ws.length (nI (hw (l.drop j)).length)) := smI.set (Or.inl ⟨rfl, rfl⟩)
  obtain ⟨ν, e1, e2, e3, e4⟩ := name_l (S := S) (n := ws.length) hA1 hA2 hS1 hS2 jfuel 0 (jsI μ S ws.length (nI (hw (l.drop j)).length)) (h.keep s1 (fun k q1 q2 => by unfold wNm; omega) (fun i => by unfold wNm; omega)) hT hT2 hT3 (by omega) (by intro i hi; simp at hi) (jfuel_gt (by omega))
  refine ⟨ν, e1, s1.tr e2, fun n hn => ?_⟩
  simp only [List.length_append, List.length_cons, List.length_nil] at hn
  have s := s1.tr e2
  by_cases q : n = ws.length
  · subst q
    have eg : (ws ++ [hw (l.drop j)]).getD ws.length [] = hw (l.drop j) := by simp [List.getD]
    rw [eg]
    refine ⟨?_, e3, g2⟩
    rw [e4 hAS, jI_sI, if_pos ⟨rfl, rfl⟩]
  · have hn2 : n < ws.length := by omega
    have eg : (ws ++ [hw (l.drop j)]).getD n [] = ws.getD n [] := by simp [List.getD, List.getElem?_append_left hn2]
    rw [eg]
    obtain ⟨t1, t2, t3⟩ := hw1 n hn2
    refine ⟨?_, ?_, t3⟩
    · rw [s.2.2.2.2 S n (by unfold wNm; omega)]; exact t1
    · exact t2.eq fun i hi => s.2.2.2.2 A _ (by unfold wNm; omega)
