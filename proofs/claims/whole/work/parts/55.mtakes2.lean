/-! the reference: takes() -/
def numB (v : Nat) : List Int32 := (if 100 ≤ v then [nI (48 + v / 100 % 10)] else []) ++ (if 10 ≤ v then [nI (48 + v / 10 % 10)] else []) ++ [nI (48 + v % 10)]
def tokB (l : List Int32) : List Int32 := if tokc l = 2 then numB (tokval l).toNatClampNeg else l.take (hdLen l)
/-- the place of the token behind the one at j -/
def nxj (l : List Int32) (j : Nat) : Nat := j + hdLen (l.drop j) + skp (l.drop (j + hdLen (l.drop j)))
def wTk (M : Nat) (a k : Nat) : Prop := (a = M ∧ ((13 ≤ k ∧ k ≤ 18) ∨ k = 20 ∨ k = 21)) ∨ a = M + 9
theorem lk_keep {M : Nat} {μ ν : JM} {l : List Int32} {j : Nat} (h : ∀ k, 13 ≤ k → k ≤ 17 → jI ν M k = jI μ M k) (hk : mLk M μ l j) : mLk M ν l j := by
  obtain ⟨k1, k2, k3, k4, k5, k6, k7⟩ := hk
  exact ⟨k1, k2, (h 15 (by omega) (by omega)).trans k3, (h 13 (by omega) (by omega)).trans k4, (h 16 (by omega) (by omega)).trans k5, (h 14 (by omega) (by omega)).trans k6, (h 17 (by omega) (by omega)).trans k7⟩
theorem smI.lkC {M : Nat} {μ ν : JM} {l : List Int32} {j : Nat} (h : smI (wCn M) μ ν) (hk : mLk M μ l j) : mLk M ν l j := lk_keep (fun k _ _ => h.2.2.2.2 M k (by unfold wCn; omega)) hk
theorem smI.txC {M : Nat} {μ ν : JM} {l : List Int32} (h : smI (wCn M) μ ν) (ht : mTx M μ l) : mTx M ν l := by
  refine ⟨?_, ?_, ht.2.2⟩
  · rw [h.2.2.2.2 M 12 (by unfold wCn; omega)]; exact ht.1
  · exact ht.2.1.eq fun i _ => h.2.2.2.2 _ _ (by unfold wCn; omega)
theorem smI.txT {M : Nat} {μ ν : JM} {l : List Int32} (h : smI (wTk M) μ ν) (ht : mTx M μ l) : mTx M ν l := by
  refine ⟨?_, ?_, ht.2.2⟩
  · rw [h.2.2.2.2 M 12 (by unfold wTk; omega)]; exact ht.1
  · exact ht.2.1.eq fun i _ => h.2.2.2.2 _ _ (by unfold wTk; omega)
theorem smI.cT {M : Nat} {μ ν : JM} (h : smI (wCn M) μ ν) : smI (wTk M) μ ν := h.wk (fun a k q => by unfold wCn at q; unfold wTk; omega)
theorem smI.lT {M : Nat} {μ ν : JM} (h : smI (wLk M) μ ν) : smI (wTk M) μ ν := h.wk (fun a k q => by unfold wLk at q; unfold wTk; omega)
theorem tk_bytes {M j : Nat} {l : List Int32} (hb : ∀ i, i < hdLen (l.drop j) → ∃ m, m < 128 ∧ l.getD (j + i) 0 = nI m) : ∀ (fu k : Nat) (μ : JM) (cb : List Int32), MT M μ → mTx M μ l → mLk M μ l j → mCn M μ cb → k ≤ hdLen (l.drop j) → cb.length + (hdLen (l.drop j) - k) ≤ 4000 → hdLen (l.drop j) - k < fu →
    ∃ ν, fX11_takes_b106 fu M (nI k) μ = fX11_takes_b135 M ν ∧ smI (wCn M) μ ν ∧ mCn M ν (cb ++ ((l.drop j).take (hdLen (l.drop j))).drop k) := by
  have hle := hdLen_le (l.drop j)
  rw [List.length_drop] at hle
  intro fu
  induction fu with
  | zero => intro k μ cb _ _ _ _ _ _ q; omega
  | succ fu ih =>
    intro k μ cb h ht hk hc h1 h2 h3
    obtain ⟨k1, k2, k3, k4, k5, k6, k7⟩ := id hk
    have hl := ht.2.2
    rw [fX11_takes_b106]
    simp only [jck_true, jde_is, jlt_is, jcl_0, beq_self_eq_true, jT_sI, jT_sJ, jP_sI, jP_sJ, jJ_sI, jI_sJ, jZ_sI, jZ_sJ, h.1, k5]
    by_cases q : k = hdLen (l.drop j)
    · rw [if_pos (nI_le (by omega) (by omega))]
      refine ⟨μ, rfl, smI.rf, ?_⟩
      rw [List.drop_of_length_le (by rw [List.length_take]; omega), List.append_nil]; exact hc
    · have hk2 : k < hdLen (l.drop j) := by omega
      rw [if_neg (nI_ge hk2 (by omega))]
      have hjk : j + k < l.length := by omega
      simp only [mP_text h, mT_text h, jck_true, jde_is, jlt_is, jcl_0, beq_self_eq_true, jT_sI, jT_sJ, jP_sI, jP_sJ, jJ_sI, jI_sJ, jZ_sI, jZ_sJ, k3, nI_add, jin_nI (show j + k < 2400 by omega) (by decide), nI_clamp (show j + k < 2 ^ 31 by omega), ht.at hjk, nI_1]
      obtain ⟨m, m1, m2⟩ := hb k hk2
      obtain ⟨μ1, p1, p2, p3⟩ := m_puts (l.getD (j + k) 0) h hc (by omega)
      rw [p1]
      simp only [jcl_0]
      obtain ⟨ν, e1, e2, e3⟩ := ih (k + 1) μ1 (cb ++ [nb (l.getD (j + k) 0)]) (p2.mt h) (p2.txC ht) (p2.lkC hk) p3 (by omega) (by simp; omega) (by omega)
      refine ⟨ν, e1, p2.tr e2, ?_⟩
      have hd : ((l.drop j).take (hdLen (l.drop j))).drop k = l.getD (j + k) 0 :: ((l.drop j).take (hdLen (l.drop j))).drop (k + 1) := by
        rw [drop_at (show k < ((l.drop j).take (hdLen (l.drop j))).length by rw [List.length_take, List.length_drop]; omega)]
        congr 1
        rw [List.getD_eq_getElem?_getD, List.getD_eq_getElem?_getD, List.getElem?_take_of_lt hk2, List.getElem?_drop]
      rw [hd]
      rw [m2, nb_small m1, ← m2] at e3
      simpa using e3
theorem m_b135 {M j : Nat} {μ : JM} {l : List Int32} (h : MT M μ) (ht : mTx M μ l) (hk : mLk M μ l j) :
    ∃ ν, fX11_takes_b135 M μ = some (if ovr (l.drop (nxj l j)) then 0 else 1, ν, 0, 0) ∧ smI (wTk M) μ ν ∧ mLk M ν l (nxj l j) ∧ (∀ k, k ≠ 21 → (k < 13 ∨ 18 < k) → jI ν M k = jI μ M k) ∧ (∀ i, jI ν (M + 9) i = jI μ (M + 9) i) ∧ jI ν M 21 = (if tokc (l.drop j) = 3 then tokv (l.drop j) else 1) ∧ jI ν M 18 = (if ovr (l.drop (nxj l j)) = true ∧ jI μ M 18 = 0 then nI (1 + 8 * nxj l j + 1) else jI μ M 18) := by
  obtain ⟨k1, k2, k3, k4, k5, k6, k7⟩ := id hk
  have hle := hdLen_le (l.drop j)
  rw [List.length_drop] at hle
  have hl := ht.2.2
  have key : ∀ s : Int32, ∃ ν, fX11_takes_b152 M s (some M) μ = some (if ovr (l.drop (nxj l j)) then 0 else 1, ν, 0, 0) ∧ smI (wTk M) μ ν ∧ mLk M ν l (nxj l j) ∧ (∀ k, k ≠ 21 → (k < 13 ∨ 18 < k) → jI ν M k = jI μ M k) ∧ (∀ i, jI ν (M + 9) i = jI μ (M + 9) i) ∧ jI ν M 21 = s ∧ jI ν M 18 = (if ovr (l.drop (nxj l j)) = true ∧ jI μ M 18 = 0 then nI (1 + 8 * nxj l j + 1) else jI μ M 18) := by
    intro s
    rw [fX11_takes_b152]
    simp only [jck_true, jde_is, jlt_is, jcl_0, beq_self_eq_true, jT_sI, jT_sJ, jP_sI, jP_sJ, jJ_sI, jI_sJ, jZ_sI, jZ_sJ, h.1]
    obtain ⟨ν, e1, e2, e3, e4⟩ := m_looks (M := M) (i := j + hdLen (l.drop j)) (μ := jsI μ M 21 s) (l := l) h (ht.set (by decide)) (by rw [jI_sI, if_neg (by omega)]; exact k4) (by omega)
    have e18 : jI (jsI μ M 21 s) M 18 = jI μ M 18 := by rw [jI_sI, if_neg (by omega)]
    rw [e18] at e4
    refine ⟨ν, ?_, (smI.set (Or.inl ⟨rfl, Or.inr (Or.inr rfl)⟩)).tr e2.lT, e3, ?_, ?_, ?_, e4⟩
    · rw [e1]; simp only [jcl_0]
      rw [jck_of]
      · rfl
      · split <;> rfl
    · intro k q1 q2
      rw [e2.2.2.2.2 M k (wLk_ne (Or.inr q2)), jI_sI, if_neg (by omega)]
    · intro i
      rw [e2.2.2.2.2 (M + 9) i (wLk_ne (Or.inl (by omega))), jI_sI, if_neg (by omega)]
    · rw [e2.2.2.2.2 M 21 (wLk_ne (Or.inr (by omega))), jI_sI, if_pos ⟨rfl, rfl⟩]
  rw [fX11_takes_b135]
  simp only [jck_true, jde_is, jlt_is, jcl_0, beq_self_eq_true, jT_sI, jT_sJ, jP_sI, jP_sJ, jJ_sI, jI_sJ, jZ_sI, jZ_sJ, h.1, k6, k7]
  by_cases q : tokc (l.drop j) = 3
  · simp only [if_pos q]; exact key _
  · simp only [if_neg q]; exact key _
theorem jrem10 {v p : Nat} (hv : v < 2 ^ 31) (hp : 0 < p) (hp2 : p < 2 ^ 31) : (48 : Int32) + jrem (nI v / nI p) 10 = nI (48 + v / p % 10) := by
  have a1 : nI v / nI p = nI (v / p) := pk_div hv hp hp2
  have a2 : jrem (nI (v / p)) 10 = nI (v / p % 10) := pk_rem (d := 10) (Nat.lt_of_le_of_lt (Nat.div_le_self v p) hv) (by omega) (by omega)
  rw [a1, a2]; exact nI_add 48 _
theorem tk_num {M j v : Nat} {μ : JM} {l cb : List Int32} (h : MT M μ) (ht : mTx M μ l) (hk : mLk M μ l j) (hc : mCn M μ cb) (hv : jI μ M 17 = nI v) (hv2 : v < 1000) (hl : cb.length + 3 ≤ 4000) :
    ∃ ν, fX11_takes_b60 jfuel M 100 μ = fX11_takes_b135 M ν ∧ smI (wCn M) μ ν ∧ mCn M ν (cb ++ numB v) := by
  have put : ∀ (fu p : Nat) (μ1 : JM) (c1 : List Int32), 0 < p → p < 2 ^ 31 → smI (wCn M) μ μ1 → mCn M μ1 c1 → c1.length < 4000 → ∃ ν, fX11_takes_b77 (fX11_takes_b60 fu) M (nI p) μ1 = fX11_takes_b60 fu M (nI p / 10) ν ∧ smI (wCn M) μ ν ∧ mCn M ν (c1 ++ [nI (48 + v / p % 10)]) := by
    intro fu p μ1 c1 hp hp2 s1 hc1 hl1
    have e17 : jI μ1 M 17 = nI v := by rw [s1.2.2.2.2 M 17 (by unfold wCn; omega)]; exact hv
    rw [fX11_takes_b77]
    have hne : ¬ nI p = 0 := nI_ne0 hp hp2
    simp only [jck_true, beq_self_eq_true, (s1.mt h).1, e17, decide_eq_true hne, jrem10 (show v < 2 ^ 31 by omega) hp hp2]
    obtain ⟨ν, p1, p2, p3⟩ := m_puts (nI (48 + v / p % 10)) (s1.mt h) hc1 hl1
    rw [p1]; simp only [jcl_0, fX11_takes_b93]
    rw [nb_small (by omega)] at p3
    exact ⟨ν, rfl, s1.tr p2, p3⟩
  have e17 : ∀ μ1, smI (wCn M) μ μ1 → jI μ1 M 17 = nI v := fun μ1 s1 => by rw [s1.2.2.2.2 M 17 (by unfold wCn; omega)]; exact hv
  have fin : ∀ (fu : Nat) (μ1 : JM), fX11_takes_b60 (fu + 1) M 0 μ1 = fX11_takes_b135 M μ1 := by
    intro fu μ1; rw [fX11_takes_b60, if_pos (by decide)]
  have one : ∀ (fu : Nat) (μ1 : JM) (c1 : List Int32), smI (wCn M) μ μ1 → mCn M μ1 c1 → c1.length < 4000 → ∃ ν, fX11_takes_b60 (fu + 1 + 1) M 1 μ1 = fX11_takes_b135 M ν ∧ smI (wCn M) μ ν ∧ mCn M ν (c1 ++ [nI (48 + v % 10)]) := by
    intro fu μ1 c1 s1 hc1 hl1
    obtain ⟨ν, q1, q2, q3⟩ := put (fu + 1) 1 μ1 c1 (by omega) (by omega) s1 hc1 hl1
    have q1' : fX11_takes_b77 (fX11_takes_b60 (fu + 1)) M 1 μ1 = fX11_takes_b135 M ν := by
      rw [← fin fu ν]; exact q1
    rw [fX11_takes_b60, if_neg (by decide)]
    simp only [jck_true, beq_self_eq_true, (s1.mt h).1]
    rw [Nat.div_one] at q3
    refine ⟨ν, ?_, q2, q3⟩
    split
    · exact q1'
    · rw [if_pos trivial]; exact q1'
  have ten : ∀ (fu : Nat) (μ1 : JM) (c1 : List Int32), smI (wCn M) μ μ1 → mCn M μ1 c1 → c1.length + 2 ≤ 4000 → ∃ ν, fX11_takes_b60 (fu + 1 + 1 + 1) M 10 μ1 = fX11_takes_b135 M ν ∧ smI (wCn M) μ ν ∧ mCn M ν (c1 ++ ((if 10 ≤ v then [nI (48 + v / 10 % 10)] else []) ++ [nI (48 + v % 10)])) := by
    intro fu μ1 c1 s1 hc1 hl1
    rw [fX11_takes_b60, if_neg (by decide)]
    simp only [jck_true, beq_self_eq_true, (s1.mt h).1, e17 μ1 s1]
    by_cases z : 10 ≤ v
    · rw [if_pos (show (10 : Int32) ≤ nI v from nI_le (a := 10) z (by omega)), if_pos z]
      obtain ⟨ν, q1, q2, q3⟩ := put (fu + 1 + 1) 10 μ1 c1 (by omega) (by omega) s1 hc1 (by omega)
      obtain ⟨ν2, r1, r2, r3⟩ := one fu ν (c1 ++ [nI (48 + v / 10 % 10)]) q2 q3 (by simp; omega)
      refine ⟨ν2, ?_, r2, by simpa using r3⟩
      rw [← r1]; exact q1
    · rw [if_neg (show ¬ (10 : Int32) ≤ nI v from nI_ge (b := 10) (by omega) (by decide)), if_neg z, if_neg (by decide), fX11_takes_b93]
      obtain ⟨ν2, r1, r2, r3⟩ := one fu μ1 c1 s1 hc1 (by omega)
      exact ⟨ν2, by rw [← r1]; rfl, r2, by simpa using r3⟩
  rw [jfuel_5, fX11_takes_b60, if_neg (by decide)]
  simp only [jck_true, beq_self_eq_true, h.1, hv]
  unfold numB
  by_cases z : 100 ≤ v
  · rw [if_pos (show (100 : Int32) ≤ nI v from nI_le (a := 100) z (by omega)), if_pos z]
    obtain ⟨ν, q1, q2, q3⟩ := put (999994 + 1 + 1 + 1 + 1 + 1) 100 μ cb (by omega) (by omega) smI.rf hc (by omega)
    obtain ⟨ν2, r1, r2, r3⟩ := ten (999994 + 1 + 1) ν (cb ++ [nI (48 + v / 100 % 10)]) q2 q3 (by simp; omega)
    refine ⟨ν2, ?_, r2, by simpa using r3⟩
    rw [← r1]; exact q1
  · rw [if_neg (show ¬ (100 : Int32) ≤ nI v from nI_ge (b := 100) (by omega) (by decide)), if_neg z, if_neg (by decide), fX11_takes_b93]
    obtain ⟨ν2, r1, r2, r3⟩ := ten (999994 + 1 + 1) μ cb smI.rf hc (by omega)
    exact ⟨ν2, by rw [← r1]; rfl, r2, by simpa using r3⟩

/-- takes(): the token at j is written, the next one is looked at -/
theorem m_takes {M j : Nat} {μ : JM} {l cb : List Int32} {ah : Int32} (h : MT M μ) (ht : mTx M μ l) (hk : mLk M μ l j) (hc : mCn M μ cb) (ha : jI μ M 21 = ah) (hov : ovr (l.drop j) = false) (hcl : tokc (l.drop j) = 1 ∨ tokc (l.drop j) = 2 ∨ tokc (l.drop j) = 3) (hl : cb.length + hdLen (l.drop j) + 4 ≤ 4000) :
    ∃ ν, fX11_takes M μ = some (if ovr (l.drop (nxj l j)) then 0 else 1, ν, 0, 0) ∧ smI (wTk M) μ ν ∧ mLk M ν l (nxj l j) ∧ mCn M ν (cb ++ (if ah = 0 ∨ ah = 40 ∨ (tokc (l.drop j) = 3 ∧ tokv (l.drop j) ≠ 40) then [] else [32]) ++ tokB (l.drop j)) ∧ jI ν M 21 = (if tokc (l.drop j) = 3 then tokv (l.drop j) else 1) ∧ jI ν M 18 = (if ovr (l.drop (nxj l j)) = true ∧ jI μ M 18 = 0 then nI (1 + 8 * nxj l j + 1) else jI μ M 18) := by
  obtain ⟨k1, k2, k3, k4, k5, k6, k7⟩ := id hk
  have hle := hdLen_le (l.drop j)
  rw [List.length_drop] at hle
  have hll := ht.2.2
  -- from where the token's bytes are put
  have body : ∀ (μ1 : JM) (c1 : List Int32), smI (wCn M) μ μ1 → mCn M μ1 c1 → c1.length + hdLen (l.drop j) + 3 ≤ 4000 → ∃ ν, fX11_takes_b49 M μ1 = some (if ovr (l.drop (nxj l j)) then 0 else 1, ν, 0, 0) ∧ smI (wTk M) μ ν ∧ mLk M ν l (nxj l j) ∧ mCn M ν (c1 ++ tokB (l.drop j)) ∧ jI ν M 21 = (if tokc (l.drop j) = 3 then tokv (l.drop j) else 1) ∧ jI ν M 18 = (if ovr (l.drop (nxj l j)) = true ∧ jI μ M 18 = 0 then nI (1 + 8 * nxj l j + 1) else jI μ M 18) := by
    intro μ1 c1 s1 hc1 hl1
    have tl : ∀ ν1, smI (wCn M) μ ν1 → mCn M ν1 (c1 ++ tokB (l.drop j)) → ∃ ν, fX11_takes_b135 M ν1 = some (if ovr (l.drop (nxj l j)) then 0 else 1, ν, 0, 0) ∧ smI (wTk M) μ ν ∧ mLk M ν l (nxj l j) ∧ mCn M ν (c1 ++ tokB (l.drop j)) ∧ jI ν M 21 = (if tokc (l.drop j) = 3 then tokv (l.drop j) else 1) ∧ jI ν M 18 = (if ovr (l.drop (nxj l j)) = true ∧ jI μ M 18 = 0 then nI (1 + 8 * nxj l j + 1) else jI μ M 18) := by
      intro ν1 s2 hc2
      obtain ⟨ν, e1, e2, e3, e4, e5, e6, e7⟩ := m_b135 (s2.mt h) (s2.txC ht) (s2.lkC hk)
      have e18 : jI ν1 M 18 = jI μ M 18 := s2.2.2.2.2 M 18 (by unfold wCn; omega)
      rw [e18] at e7
      refine ⟨ν, e1, s2.cT.tr e2, e3, ⟨?_, ?_, hc2.2.2⟩, e6, e7⟩
      · rw [e4 20 (by omega) (by omega)]; exact hc2.1
      · exact hc2.2.1.eq fun i _ => e5 _
    have k6' : jI μ1 M 14 = tokc (l.drop j) := (s1.2.2.2.2 M 14 (by unfold wCn; omega)).trans k6
    rw [fX11_takes_b49]
    simp only [jck_true, beq_self_eq_true, (s1.mt h).1, k6']
    by_cases q2 : tokc (l.drop j) = 2
    · rw [if_pos q2]
      rcases tcode_cases (l.drop j) with ⟨e1, e2⟩ | ⟨c, r, e1, e2, e3⟩ | ⟨c, r, e1, e2, e3⟩ | ⟨c, r, e1, e2, e3, e4, v, e5, e6, e7, e8⟩ | ⟨c, r, e1, e2, e3, v, e4⟩ | ⟨c, r, e1, e2, e3⟩
      · rw [e1] at q2; simp [tokc] at q2
      · rw [e1] at q2; simp [tokc, e2] at q2
      · rw [e1] at q2; simp [tokc, e2] at q2
      · have hv : tokv (l.drop j) = nI v := by
          rw [← e6, e1]
          simp only [tokv, tokval, e2, e3, Bool.false_eq_true, if_false, if_true]
          rw [List.take_of_length_le]
          rw [e1] at e4
          simp only [hdLen, e2, e3, Bool.false_eq_true, if_false, if_true] at e4
          simp only [List.length_cons]; omega
        have hB : tokB (l.drop j) = numB v := by
          unfold tokB; rw [if_pos q2, e6, nI_clamp (by omega)]
        obtain ⟨ν1, f1, f2, f3⟩ := tk_num (v := v) (s1.mt h) (s1.txC ht) (s1.lkC hk) hc1 (by rw [s1.2.2.2.2 M 17 (by unfold wCn; omega), k7, hv]) e5 (by omega)
        rw [f1]
        exact tl ν1 (s1.tr f2) (by rw [hB]; exact f3)
      · rw [e1] at q2; simp only [tokc, e2, e3, Bool.false_eq_true, if_false] at q2; split at q2 <;> simp at q2
      · rcases e2 with ⟨g1, g2⟩ | ⟨g1, g2, g3⟩
        · rw [e1] at q2; simp [tokc, g1] at q2
        · rw [e1] at hov g3; simp only [ovr, g1, g2, Bool.false_eq_true, if_false, if_true, decide_eq_false_iff_not] at hov; exact absurd g3 hov
    · rw [if_neg q2]
      have hB : tokB (l.drop j) = (l.drop j).take (hdLen (l.drop j)) := by unfold tokB; rw [if_neg q2]
      have hb : ∀ i, i < hdLen (l.drop j) → ∃ m, m < 128 ∧ l.getD (j + i) 0 = nI m := by
        intro i hi
        rcases hcl with z | z | z
        · -- a word
          cases hd : l.drop j with
          | nil => rw [hd] at z; simp [tokc] at z
          | cons c r =>
            have cL : isL c = true := by
              by_cases y : isL c = true
              · exact y
              · rw [hd] at z; simp only [tokc, y, Bool.false_eq_true, if_false] at z; split at z
                · simp at z
                · split at z <;> simp at z
            rw [hd, hdLen_w cL] at hi
            have hp : (l.drop j)[i]? = (hw (l.drop j))[i]? := by
              obtain ⟨t, et⟩ : (hw (l.drop j)) <+: l.drop j := List.takeWhile_prefix isL
              conv => lhs; rw [← et]
              exact List.getElem?_append_left (by rw [hd]; exact hi)
            have hm : (hw (c :: r))[i] ∈ hw (c :: r) := List.getElem_mem hi
            obtain ⟨m, m1, m2, m3⟩ := isL_nat (tw_all (p := isL) (l := c :: r) _ hm)
            refine ⟨m, by omega, ?_⟩
            rw [List.getD_eq_getElem?_getD, ← List.getElem?_drop, hp, hd, List.getElem?_eq_getElem hi, Option.getD_some, m3]
        · exact absurd z q2
        · cases hd : l.drop j with
          | nil => rw [hd] at z; simp [tokc] at z
          | cons c r =>
            rw [hd] at z
            have n1 : ¬ isL c = true := fun y => by simp [tokc, y] at z
            have n2 : ¬ isD c = true := fun y => by simp [tokc, n1, y] at z
            have n3 : c = 58 ∨ c = 59 ∨ c = 40 ∨ c = 41 := by
              simp only [tokc, n1, n2, Bool.false_eq_true, if_false] at z
              split at z
              · assumption
              · simp at z
            have hi1 : i = 0 := by rw [hd] at hi; simp only [hdLen, n1, n2, Bool.false_eq_true, if_false] at hi; omega
            subst hi1
            have hg : l.getD (j + 0) 0 = c := by
              rw [List.getD_eq_getElem?_getD, ← List.getElem?_drop, hd]; rfl
            rw [hg]
            rcases n3 with rfl | rfl | rfl | rfl
            · exact ⟨58, by omega, rfl⟩
            · exact ⟨59, by omega, rfl⟩
            · exact ⟨40, by omega, rfl⟩
            · exact ⟨41, by omega, rfl⟩
      obtain ⟨ν1, f1, f2, f3⟩ := tk_bytes hb jfuel 0 μ1 c1 (s1.mt h) (s1.txC ht) (s1.lkC hk) hc1 (by omega) (by omega) (jfuel_gt (by omega))
      rw [show (0 : Int32) = nI 0 from rfl, f1]
      exact tl ν1 (s1.tr f2) (by rw [hB]; exact f3)
  have tight : ∃ ν, fX11_takes_b33 M μ = some (if ovr (l.drop (nxj l j)) then 0 else 1, ν, 0, 0) ∧ smI (wTk M) μ ν ∧ mLk M ν l (nxj l j) ∧ mCn M ν (cb ++ [] ++ tokB (l.drop j)) ∧ jI ν M 21 = (if tokc (l.drop j) = 3 then tokv (l.drop j) else 1) ∧ jI ν M 18 = (if ovr (l.drop (nxj l j)) = true ∧ jI μ M 18 = 0 then nI (1 + 8 * nxj l j + 1) else jI μ M 18) := by
    rw [fX11_takes_b33, fX11_takes_b38, if_neg (by decide), List.append_nil]
    exact body μ cb smI.rf hc (by omega)
  have loose : ∃ ν, fX11_takes_b37 M μ = some (if ovr (l.drop (nxj l j)) then 0 else 1, ν, 0, 0) ∧ smI (wTk M) μ ν ∧ mLk M ν l (nxj l j) ∧ mCn M ν (cb ++ [32] ++ tokB (l.drop j)) ∧ jI ν M 21 = (if tokc (l.drop j) = 3 then tokv (l.drop j) else 1) ∧ jI ν M 18 = (if ovr (l.drop (nxj l j)) = true ∧ jI μ M 18 = 0 then nI (1 + 8 * nxj l j + 1) else jI μ M 18) := by
    rw [fX11_takes_b37, fX11_takes_b38, if_pos rfl]
    simp only [jck_true, beq_self_eq_true, h.1]
    obtain ⟨μ1, p1, p2, p3⟩ := m_puts 32 h hc (by omega)
    rw [p1]; simp only [jcl_0]
    exact body μ1 (cb ++ [32]) p2 p3 (by simp; omega)
  rw [fX11_takes]
  simp only [jck_true, beq_self_eq_true, h.1, ha, k6, k7]
  by_cases q1 : ah = 0
  · rw [if_pos q1, if_pos (Or.inl q1)]; exact tight
  rw [if_neg q1]
  by_cases q2 : ah = 40
  · rw [if_pos q2, if_pos (Or.inr (Or.inl q2))]; exact tight
  rw [if_neg q2]
  by_cases q3 : tokc (l.drop j) = 3
  · rw [if_pos q3]
    by_cases q4 : tokv (l.drop j) = 40
    · rw [if_pos q4, if_neg (show ¬ (ah = 0 ∨ ah = 40 ∨ (tokc (l.drop j) = 3 ∧ tokv (l.drop j) ≠ 40)) from fun z => z.elim q1 (fun z => z.elim q2 (fun z => z.2 q4)))]; exact loose
    · rw [if_neg q4, if_pos (Or.inr (Or.inr ⟨q3, q4⟩))]; exact tight
  · rw [if_neg q3, if_neg (show ¬ (ah = 0 ∨ ah = 40 ∨ (tokc (l.drop j) = 3 ∧ tokv (l.drop j) ≠ 40)) from fun z => z.elim q1 (fun z => z.elim q2 (fun z => q3 z.1)))]; exact loose
