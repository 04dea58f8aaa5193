/-! the reference: letters, isWord, isOwn, isSign at a place -/
theorem or_step {n m : Nat} (hn : n < 2 ^ 55) (h1 : 97 ≤ m) (h2 : m ≤ 122) : jlshl (lN n) 5 ||| (nI m - 96).toInt64 = lN (n * 32 + (m - 96)) := by
  unfold jlshl
  have e1 := wb_shl n (k := 5) (by omega)
  rw [show (5 : Int32) = nI 5 from rfl, e1, show (96 : Int32) = nI 96 from rfl, pk_sub (by omega), nI_l (by omega)]
  have := fb_or_sumL (a := m - 96) (k := 5) n (by omega)
  rw [show n * 2 ^ 5 = 2 ^ 5 * n by omega, this, show 2 ^ 5 * n + (m - 96) = n * 32 + (m - 96) by omega]
theorem foldl_take {w : List Int32} {k : Nat} (hk : k < w.length) : (w.take (k + 1)).foldl wstep 0 = wstep ((w.take k).foldl wstep 0) (w.getD k 0) := by
  rw [List.take_succ_eq_append_getElem hk, List.foldl_append]
  simp [List.getD, hk]
theorem m_lettersL {M j : Nat} {μ : JM} {l : List Int32} (h : MT M μ) (ht : mTx M μ l) (hk : mLk M μ l j) (hw1 : (hw (l.drop j)).length = hdLen (l.drop j)) (h12 : (hw (l.drop j)).length ≤ 12) : ∀ (fu k : Nat), k ≤ (hw (l.drop j)).length → (hw (l.drop j)).length - k < fu → fX11_letters_b4 fu M (lN (((hw (l.drop j)).take k).foldl wstep 0)) (nI k) μ = some (lN (wnat (hw (l.drop j))), μ, 0, 0) := by
  obtain ⟨k1, k2, k3, k4, k5, k6, k7⟩ := hk
  have hl := ht.2.2
  have hle := hdLen_le (l.drop j)
  rw [List.length_drop] at hle
  intro fu
  induction fu with
  | zero => intro k _ q; omega
  | succ fu ih =>
    intro k hk hf
    rw [fX11_letters_b4]
    simp only [jck_true, jde_is, jlt_is, jcl_0, beq_self_eq_true, jT_sI, jT_sJ, jP_sI, jP_sJ, jJ_sI, jI_sJ, jZ_sI, jZ_sJ, h.1, k5]
    by_cases q : k = (hw (l.drop j)).length
    · rw [if_pos (nI_le (by omega) (by omega)), q, List.take_length]; rfl
    · have hk2 : k < (hw (l.drop j)).length := by omega
      rw [if_neg (nI_ge (by omega) (by omega))]
      have hjk : j + k < l.length := by omega
      simp only [mP_text h, mT_text h, jck_true, jde_is, jlt_is, jcl_0, beq_self_eq_true, jT_sI, jT_sJ, jP_sI, jP_sJ, jJ_sI, jI_sJ, jZ_sI, jZ_sJ, k3, nI_add, jin_nI (show j + k < 2400 by omega) (by decide), nI_clamp (show j + k < 2 ^ 31 by omega), ht.at hjk, nI_1]
      have hg : l.getD (j + k) 0 = (hw (l.drop j)).getD k 0 := by
        have hp : (l.drop j)[k]? = (hw (l.drop j))[k]? := by
          obtain ⟨t, et⟩ : (hw (l.drop j)) <+: l.drop j := List.takeWhile_prefix isL
          conv => lhs; rw [← et]
          exact List.getElem?_append_left hk2
        rw [List.getD_eq_getElem?_getD, List.getD_eq_getElem?_getD, ← hp, List.getElem?_drop]
      have hm : (hw (l.drop j)).getD k 0 ∈ hw (l.drop j) := by
        rw [List.getD_eq_getElem?_getD, List.getElem?_eq_getElem hk2]; exact List.getElem_mem hk2
      obtain ⟨m, m1, m2, m3⟩ := isL_nat (tw_all (p := isL) (l := l.drop j) _ hm)
      have hb : ((hw (l.drop j)).take k).foldl wstep 0 < 2 ^ 55 := by
        have q1 := foldl_lt (w := (hw (l.drop j)).take k) (fun c hc => tw_all (p := isL) (l := l.drop j) c (List.mem_of_mem_take hc)) 0 1 (by omega)
        have q2 : 32 ^ ((hw (l.drop j)).take k).length ≤ 32 ^ 11 := Nat.pow_le_pow_right (by omega) (by rw [List.length_take]; omega)
        have q3 : (32 : Nat) ^ 11 = 2 ^ 55 := by decide
        omega
      rw [hg, m3, or_step hb m1 m2]
      have := ih (k + 1) (by omega) (by omega)
      rw [foldl_take hk2, m3, wstep, nI_clamp (by omega)] at this
      exact this
theorem m_letters {M j : Nat} {μ : JM} {l : List Int32} (h : MT M μ) (ht : mTx M μ l) (hk : mLk M μ l j) (hw1 : (hw (l.drop j)).length = hdLen (l.drop j)) (h12 : (hw (l.drop j)).length ≤ 12) : fX11_letters M μ = some (lN (wnat (hw (l.drop j))), μ, 0, 0) := by
  have := m_lettersL h ht hk hw1 h12 jfuel 0 (by omega) (jfuel_gt (by omega))
  rw [fX11_letters]
  exact this
theorem lg_cmp_0 {x y : Int64} : lg_cmp x y = 0 ↔ x = y := by
  unfold lg_cmp
  constructor
  · intro h
    split at h
    · cases h
    · split at h
      · assumption
      · cases h
  · intro h
    subst h
    simp
theorem m_isWord {M j : Nat} {μ : JM} {l : List Int32} (h : MT M μ) (ht : mTx M μ l) (hk : mLk M μ l j) (i : Nat) (hi : i < 18) : fX11_isWord M (lN (oursN.getD i 0)) μ = some (if tcode (l.drop j) = -3000 - lN i then 1 else 0, μ, 0, 0) := by
  obtain ⟨k1, k2, k3, k4, k5, k6, k7⟩ := id hk
  have hle := hdLen_le (l.drop j)
  rw [List.length_drop] at hle
  have hl := ht.2.2
  rw [fX11_isWord]
  simp only [jck_true, jde_is, jlt_is, jcl_0, beq_self_eq_true, jT_sI, jT_sJ, jP_sI, jP_sJ, jJ_sI, jI_sJ, jZ_sI, jZ_sJ, h.1, k6, k5]
  have hit : (-3000 - lN i).toInt = -3000 - (i : Int) := sub_toI (-3000) (by decide) (by omega) (by omega) (by omega)
  have ours_inj : ∀ a : Nat, a < 18 → ∀ b : Nat, b < 18 → oursN.getD a 0 = oursN.getD b 0 → a = b := by decide
  have ours_b : ∀ a : Nat, a < 18 → oursN.getD a 0 ∈ oursN ∧ oursN.getD a 0 < 2 ^ 60 := by decide
  rcases tcode_cases (l.drop j) with ⟨e1, e2⟩ | ⟨c, r, e1, e2, e3, i2, e4, e5, e6, e7⟩ | ⟨c, r, e1, e2, e3, e4, e5, e6, e7, e8⟩ | ⟨c, r, e1, e2, e3, e4, v, e5, e6, e7, e8⟩ | ⟨c, r, e1, e2, e3, v, e4, e5, e6, e7⟩ | ⟨c, r, e1, e2, e3⟩
  · rw [e2, if_neg (by rw [e1]; simp [tokc])]
    have hne : ¬ (0 : Int64) = -3000 - lN i := by
      intro q; have := congrArg Int64.toInt q; rw [hit] at this; simp at this; omega
    rw [if_neg hne]
  · have hT : tokc (l.drop j) = 1 := by rw [e1]; simp [tokc, e2]
    have hlen : (hw (l.drop j)).length = hdLen (l.drop j) := by rw [e1, hdLen_w e2]
    rw [if_pos hT, if_neg (show ¬ (12 : Int32) < nI (hdLen (l.drop j)) from nI_nlt (a := 12) (by omega) (by decide)), m_letters h ht hk hlen e3]
    simp only [jcl_0, lg_cmp_0]
    by_cases q : i2 = i
    · subst q
      rw [if_pos (by rw [e5]), if_pos e6]
    · rw [if_neg, if_neg]
      · rw [e6]; intro z; have := congrArg Int64.toInt z; rw [hit, ← e6, e7] at this; omega
      · rw [← e5]; intro z
        exact q (ours_inj _ e4 _ hi ((fb_lN_inj (by have := (ours_b i2 e4).2; omega) (by have := (ours_b i hi).2; omega)).mp z))
  · have hT : tokc (l.drop j) = 1 := by rw [e1]; simp [tokc, e2]
    have hlen : (hw (l.drop j)).length = hdLen (l.drop j) := by rw [e1, hdLen_w e2]
    rw [if_pos hT, if_neg (show ¬ (12 : Int32) < nI (hdLen (l.drop j)) from nI_nlt (a := 12) (by omega) (by decide)), m_letters h ht hk hlen e3]
    simp only [jcl_0, lg_cmp_0]
    rw [if_neg, if_neg]
    · intro z; have := congrArg Int64.toInt z; rw [hit, e6] at this; omega
    · intro z
      have := (fb_lN_inj (by omega) (by have := (ours_b i hi).2; omega)).mp z
      exact e4 (by rw [this]; exact (ours_b i hi).1)
  · rw [if_neg (by rw [e1]; simp [tokc, e2, e3]), if_neg]
    intro z; have := congrArg Int64.toInt z; rw [hit, e8] at this; omega
  · rw [if_neg (by rw [e1]; simp only [tokc, e2, e3]; simp only [Bool.false_eq_true, if_false]; split <;> decide), if_neg]
    intro z; have := congrArg Int64.toInt z; rw [hit, e7] at this; omega
  · rw [e3]
    have hne : ¬ (-2000 : Int64) = -3000 - lN i := by
      intro q; have := congrArg Int64.toInt q; rw [hit] at this
      have e : (-2000 : Int64).toInt = -2000 := by decide
      rw [e] at this; omega
    rw [if_neg hne]
    rcases e2 with ⟨g1, g2⟩ | ⟨g1, g2, g3⟩
    · rw [if_pos (by rw [e1]; simp [tokc, g1]), if_pos (show (12 : Int32) < nI (hdLen (l.drop j)) from nI_lt (a := 12) g2 (by omega))]
    · rw [if_neg (by rw [e1]; simp [tokc, g1, g2])]
