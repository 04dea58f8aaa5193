/-! the reference: looks(), whole -/
theorem jfuel_gt {n : Nat} (h : n ≤ 100000) : n < jfuel := by unfold jfuel; omega
theorem wLk_ne {M a k : Nat} (h : a ≠ M ∨ k < 13 ∨ 18 < k) : ¬ wLk M a k := by unfold wLk; omega
theorem m_looks {M i : Nat} {μ : JM} {l : List Int32} (h : MT M μ) (ht : mTx M μ l) (hn : jI μ M 13 = nI i) (hi : i ≤ l.length) :
    ∃ ν, fX11_looks M μ = some (if ovr (l.drop (i + skp (l.drop i))) then 0 else 1, ν, 0, 0) ∧ smI (wLk M) μ ν ∧ mLk M ν l (i + skp (l.drop i)) ∧ jI ν M 18 = (if ovr (l.drop (i + skp (l.drop i))) = true ∧ jI μ M 18 = 0 then nI (1 + 8 * (i + skp (l.drop i)) + 1) else jI μ M 18) := by
  have hl := ht.2.2
  have hs := skp_le (l.drop i)
  rw [List.length_drop] at hs
  rw [fX11_looks, lk_skip jfuel i μ h ht hn hi (jfuel_gt (by omega))]
  have hhd : ∀ c r, l.drop (i + skp (l.drop i)) = c :: r → isB c = false := by
    intro c r e
    rw [← List.drop_drop] at e
    exact skp_head (l.drop i) c r e
  generalize hj : i + skp (l.drop i) = j at hhd ⊢
  have hjl : j ≤ l.length := by omega
  rw [fX11_looks_b52]
  have e13 : jI (jsI μ M 13 (nI j)) M 13 = nI j := by rw [jI_sI, if_pos ⟨rfl, rfl⟩]
  generalize hμ0 : jsI (jsI (jsI (jsI μ M 13 (nI j)) M 15 (nI j)) M 16 0) M 17 0 = μ0
  have s0 : smI (wLk M) μ μ0 := by
    rw [← hμ0]
    exact (((smI.set ⟨rfl, by omega, by omega⟩).tr (smI.set ⟨rfl, by omega, by omega⟩)).tr (smI.set ⟨rfl, by omega, by omega⟩)).tr (smI.set ⟨rfl, by omega, by omega⟩)
  have h0 := s0.mt h
  have t0 := s0.tx ht
  have a13 : jI μ0 M 13 = nI j := by rw [← hμ0]; simp only [jI_sI]; simp
  have a15 : jI μ0 M 15 = nI j := by rw [← hμ0]; simp only [jI_sI]; simp
  have a16 : jI μ0 M 16 = 0 := by rw [← hμ0]; simp only [jI_sI]; simp
  have a17 : jI μ0 M 17 = 0 := by rw [← hμ0]; simp only [jI_sI]; simp
  have a18 : jI μ0 M 18 = jI μ M 18 := by rw [← hμ0]; simp only [jI_sI]; simp
  have b13 : jT (jsI μ M 13 (nI j)) = jT μ := rfl
  simp only [jck_true, jde_is, jlt_is, jcl_0, beq_self_eq_true, b13, h.1, e13, hμ0, a13, t0.1]
  have c12 : jI (jsI (jsI (jsI μ M 13 (nI j)) M 15 (nI j)) M 16 0) M 13 = nI j := by simp only [jI_sI]; simp
  by_cases q : j = l.length
  · rw [if_pos (by rw [q])]
    have hd : l.drop j = [] := by rw [q]; simp
    rw [hd]
    refine ⟨jsI μ0 M 14 0, rfl, s0.tr (smI.set ⟨rfl, by omega, by omega⟩), ⟨hjl, hhd, ?_, ?_, ?_, ?_, ?_⟩, ?_⟩
    · rw [jI_sI, if_neg (by omega), a15]
    · rw [hd, jI_sI, if_neg (by omega), a13]; simp [hdLen]
    · rw [hd, jI_sI, if_neg (by omega), a16]; rfl
    · rw [hd, jI_sI, if_pos ⟨rfl, rfl⟩]; rfl
    · rw [hd, jI_sI, if_neg (by omega), a17]; rfl
    · rw [jI_sI, if_neg (by omega), a18]; simp [ovr]
  · have hj2 : j < l.length := by omega
    rw [if_neg (show ¬ nI j = nI l.length from fun e => q ((nI_eq (by omega) (by omega)).mp e))]
    have hT0 : jT μ = jT μ0 := s0.2.1.symm
    simp only [mP_text h0, mT_text h0, hT0, jck_true, jde_is, jlt_is, jcl_0, beq_self_eq_true, jT_sI, jT_sJ, jP_sI, jP_sJ, jJ_sI, jI_sJ, jZ_sI, jZ_sJ, jin_nI (show j < 2400 by omega) (by decide), nI_clamp (show j < 2 ^ 31 by omega), m_isLetter, m_isDigit, t0.at hj2, h0.1]
    have hd := drop_at hj2
    generalize hc : l.getD j 0 = c at hd ⊢
    by_cases cL : isL c = true
    · simp only [cL, if_true]
      rw [if_neg (by decide)]
      have e1 := lk_letters jfuel j (jsI μ0 M 14 1) h0 (t0.set (by decide)) (by rw [jI_sI, if_neg (by omega)]; exact a13) hjl (jfuel_gt (by omega))
      have hlen : hdLen (l.drop j) = ((l.drop j).takeWhile isL).length := by
        rw [hd]; simp only [hdLen, cL, if_true, List.takeWhile_cons, List.length_cons]; omega
      have hle := hdLen_le (l.drop j)
      rw [List.length_drop] at hle
      rw [← hlen] at e1
      rw [e1]
      generalize hμ1 : jsI (jsI μ0 M 14 1) M 13 (nI (j + hdLen (l.drop j))) = μ1
      have s1 : smI (wLk M) μ μ1 := by
        rw [← hμ1]
        exact (s0.tr (smI.set ⟨rfl, by omega, by omega⟩)).tr (smI.set ⟨rfl, by omega, by omega⟩)
      obtain ⟨ν, f1, f2, f3, f4, f5⟩ := m_b149 (j := j) (h := hdLen (l.drop j)) (s1.mt h) (by rw [← hμ1]; simp only [jI_sI]; simp) (by rw [← hμ1]; simp only [jI_sI]; simp [a15]) (by omega)
      have d18 : jI μ1 M 18 = jI μ M 18 := by rw [← hμ1]; simp only [jI_sI]; simp [a18]
      have ho : ovr (l.drop j) = decide (12 < hdLen (l.drop j)) := by rw [hd]; simp only [ovr, cL, if_true]
      refine ⟨ν, ?_, s1.tr f2, ⟨hjl, hhd, ?_, ?_, f3, ?_, ?_⟩, ?_⟩
      · rw [f1, ho]; simp only [decide_eq_true_eq]
      · rw [f5 15 (by omega) (by omega), ← hμ1]; simp only [jI_sI]; simp [a15]
      · rw [f5 13 (by omega) (by omega), ← hμ1]; simp only [jI_sI]; simp
      · rw [f5 14 (by omega) (by omega), ← hμ1, hd]; simp only [jI_sI]; simp [tokc, cL]
      · rw [f5 17 (by omega) (by omega), ← hμ1, hd]; simp only [jI_sI]; simp [tokv, cL, a17]
      · rw [f4, d18, ho]; simp only [decide_eq_true_eq]
    · have cL2 : isL c = false := by simpa using cL
      simp only [cL2, Bool.false_eq_true, if_false, if_true]
      by_cases cD : isD c = true
      · simp only [cD, if_true]
        rw [if_neg (by decide)]
        obtain ⟨μ1, e1, s1, e2, e3, e4⟩ := lk_digits (j := j) jfuel j (jsI μ0 M 14 2) 0 h0 (t0.set (by decide)) (by rw [jI_sI, if_neg (by omega)]; exact a13) (by rw [jI_sI, if_neg (by omega)]; exact a15) (by rw [jI_sI, if_neg (by omega)]; exact a17) (Nat.le_refl _) hjl (jfuel_gt (by omega))
        have hlen : hdLen (l.drop j) = ((l.drop j).takeWhile isD).length := by
          rw [hd]; simp only [hdLen, cL2, cD, if_true, Bool.false_eq_true, if_false, List.takeWhile_cons, List.length_cons]; omega
        have hle := hdLen_le (l.drop j)
        rw [List.length_drop] at hle
        rw [← hlen] at e2
        rw [e1]
        have s2 : smI (wLk M) μ μ1 := (s0.tr (smI.set ⟨rfl, by omega, by omega⟩)).tr s1
        obtain ⟨ν, f1, f2, f3, f4, f5⟩ := m_b277 (j := j) (h := hdLen (l.drop j)) (s2.mt h) e2 (by rw [e4 15 (by omega) (by omega), jI_sI, if_neg (by omega), a15]) (by omega)
        have d18 : jI μ1 M 18 = jI μ M 18 := by rw [e4 18 (by omega) (by omega), jI_sI, if_neg (by omega), a18]
        have ho : ovr (l.drop j) = decide (3 < hdLen (l.drop j)) := by rw [hd]; simp only [ovr, cL2, cD, if_true, Bool.false_eq_true, if_false]
        refine ⟨ν, ?_, s2.tr f2, ⟨hjl, hhd, ?_, ?_, f3, ?_, ?_⟩, ?_⟩
        · rw [f1, ho]; simp only [decide_eq_true_eq]
        · rw [f5 15 (by omega) (by omega), e4 15 (by omega) (by omega), jI_sI, if_neg (by omega), a15]
        · rw [f5 13 (by omega) (by omega), e2]
        · rw [f5 14 (by omega) (by omega), e4 14 (by omega) (by omega), hd, jI_sI, if_pos ⟨rfl, rfl⟩]; simp [tokc, cL2, cD]
        · rw [f5 17 (by omega) (by omega), e3, hd]; simp [tokv, cL2, cD, List.takeWhile_cons, dval]
        · rw [f4, d18, ho]; simp only [decide_eq_true_eq]
      · have cD2 : isD c = false := by simpa using cD
        simp only [cD2, Bool.false_eq_true, if_false, if_true]
        have ho : ovr (l.drop j) = false := by rw [hd]; simp only [ovr, cL2, cD2, Bool.false_eq_true, if_false]
        have hlen : hdLen (l.drop j) = 1 := by rw [hd]; simp only [hdLen, cL2, cD2, Bool.false_eq_true, if_false]
        have fin : ∀ s : Int32, tokc (l.drop j) = s → ∃ ν, fX11_looks_b346 M c s (some M) μ0 = some (if ovr (l.drop j) = true then 0 else 1, ν, 0, 0) ∧ smI (wLk M) μ ν ∧ mLk M ν l j ∧ jI ν M 18 = (if ovr (l.drop j) = true ∧ jI μ M 18 = 0 then nI (1 + 8 * j + 1) else jI μ M 18) := by
          intro s hs
          obtain ⟨ν, f1, f2, f3, f4, f5, f6, f7, f8⟩ := m_b346 (x := c) (s0 := s) h0 a13
          refine ⟨ν, by rw [f1, ho]; rfl, s0.tr f2, ⟨hjl, hhd, by rw [f5, a15], by rw [f3, hlen], by rw [f6, hlen]; rfl, by rw [f4, hs], ?_⟩, by rw [f8, a18, ho]; simp⟩
          rw [f7, hd]; simp [tokv, cL2, cD2]
        have hk : tokc (l.drop j) = if c = 58 ∨ c = 59 ∨ c = 40 ∨ c = 41 then 3 else 4 := by rw [hd]; simp only [tokc, cL2, cD2, Bool.false_eq_true, if_false]
        by_cases k1 : c = 58
        · rw [if_pos k1, fX11_looks_b341]; exact fin 3 (by rw [hk, if_pos (Or.inl k1)])
        rw [if_neg k1]
        by_cases k2 : c = 59
        · rw [if_pos k2, fX11_looks_b341]; exact fin 3 (by rw [hk, if_pos (Or.inr (Or.inl k2))])
        rw [if_neg k2]
        by_cases k3 : c = 40
        · rw [if_pos k3, fX11_looks_b341]; exact fin 3 (by rw [hk, if_pos (Or.inr (Or.inr (Or.inl k3)))])
        rw [if_neg k3]
        by_cases k4 : c = 41
        · rw [if_pos k4, fX11_looks_b341]; exact fin 3 (by rw [hk, if_pos (Or.inr (Or.inr (Or.inr k4)))])
        rw [if_neg k4]
        exact fin 4 (by rw [hk, if_neg]; rintro (z | z | z | z) <;> contradiction)
