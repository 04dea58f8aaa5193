/-! the class: tokens are put on a Sheet -/
def isV (c : Int64) : Prop := (∃ n, 0 < n ∧ n < 2 ^ 60 ∧ c = lN n) ∨ (∃ i, i < 18 ∧ c = -3000 - lN i) ∨ isNm c = true ∨ isSg c = true
def cSp (B i room : Nat) (μ : JM) (ts : List Int64) : Prop := cS B i room μ (cB ts).1 ∧ (∀ t c, ts = t ++ [c] → jJ μ (B + i) 3 = c)
/-- bytes behind a sheet -/
def adQ (B i room z : Nat) (μ : JM) (l x : List Int32) (ν : JM) : Prop := cs B z [i, i + 1] μ ν ∧ cS B i room ν (l ++ x) ∧ SH B i room ν ∧ jJ ν = jJ μ ∧ jZ ν = jZ μ ∧ jT ν = jT μ ∧ jP ν = jP μ
theorem pw_l {B i room z n : Nat} (hn : n < 2 ^ 60) (hr : room < 2 ^ 30) {l : List Int32} (hl : l.length + 12 < 2 ^ 30) : ∀ (fu j : Nat) (μ : JM), SH B i room μ → cS B i room μ (l ++ (wl n).take j) → j ≤ (wl n).length → (wl n).length - j < fu → Res (fX6_putWord_b8 fu (B + i) (lN n) (nI (wl n).length) (nI j) μ) (fun _ ν => cs B z [i, i + 1] μ ν ∧ cS B i room ν (l ++ wl n) ∧ SH B i room ν ∧ jJ ν = jJ μ ∧ jZ ν = jZ μ ∧ jT ν = jT μ ∧ jP ν = jP μ) := by
  have hl12 : (wl n).length ≤ 12 := wlf_len 12 n
  intro fu
  induction fu with
  | zero => intro j μ _ _ _ q; omega
  | succ fu ih =>
    intro j μ h w hj hf
    rw [fX6_putWord_b8]
    by_cases q : j = (wl n).length
    · rw [if_pos (nI_le (by omega) (by omega))]
      rw [q, List.take_length] at w
      exact .ret ⟨cs.rf, w, h, rfl, rfl, rfl, rfl⟩
    · have hj2 : j < (wl n).length := by omega
      rw [if_neg (nI_ge hj2 (by omega)), c_letterAt hn hj2, jcl_0, jck_of (by rw [h.1]; rfl)]
      refine Res.cl (c_addByte (z := z) _ h w hr (by simp; omega)) fun _ μ1 ⟨s1, w1, h1, j1, z1, t1, p1⟩ => ?_
      have eb : nb ((wl n).getD j 0) = (wl n).getD j 0 := by
        have := wlf_get 12 n j hj2
        have : (wl n).getD j 0 = nI (96 + n / 32 ^ ((wl n).length - 1 - j) % 32) := this
        rw [this]
        refine nb_small ?_
        have := Nat.mod_lt (n / 32 ^ ((wl n).length - 1 - j)) (show 0 < 32 by decide)
        omega
      rw [eb, List.append_assoc] at w1
      have et : (wl n).take j ++ [(wl n).getD j 0] = (wl n).take (j + 1) := by
        rw [List.take_succ_eq_append_getElem hj2]; congr 2; simp [List.getD, hj2]
      rw [et] at w1
      rw [nI_1]
      refine (ih (j + 1) μ1 h1 w1 (by omega) (by omega)).mono ?_
      rintro x ν ⟨a1, a2, a3, a4, a5, a6, a7⟩
      exact ⟨s1.tr a1, a2, a3, a4.trans j1, a5.trans z1, a6.trans t1, a7.trans p1⟩
theorem c_putWord {B i room z n : Nat} {μ : JM} {l : List Int32} (hn : n < 2 ^ 60) (hr : room < 2 ^ 30) (hl : l.length + 12 < 2 ^ 30) (h : SH B i room μ) (w : cS B i room μ l) : Res (fX6_putWord (B + i) (lN n) μ) (fun _ ν => adQ B i room z μ l (wl n) ν) := by
  unfold fX6_putWord
  rw [c_letterCount hn, jcl_0]
  exact pw_l hn hr hl jfuel 0 μ h (by rw [List.take_zero, List.append_nil]; exact w) (by omega) (jfuel_gt (by have := wlf_len 12 n; have : (wl n).length ≤ 12 := this; omega))
theorem c_putNumber {B i room z v : Nat} {μ : JM} {l : List Int32} (hv : v < 1000) (hr : room < 2 ^ 30) (hl : l.length + 12 < 2 ^ 30) (h : SH B i room μ) (w : cS B i room μ l) : Res (fX6_putNumber (B + i) (nI v) μ) (fun _ ν => adQ B i room z μ l (numB v) ν) := by
  have e10 : nI v / 10 = nI (v / 10) := pk_div (d := 10) (by omega) (by decide) (by decide)
  have e100 : nI v / 100 = nI (v / 100) := pk_div (d := 100) (by omega) (by decide) (by decide)
  have r10 : ∀ a, a < 1000 → jrem (nI a) 10 = nI (a % 10) := fun a ha => pk_rem (d := 10) (by omega) (by decide) (by decide)
  have last : ∀ (μ1 : JM) (l1 : List Int32), l1.length + 1 < 2 ^ 30 → SH B i room μ1 → cS B i room μ1 l1 → Res (fX6_putNumber_b37 (B + i) (nI v) μ1) (fun _ ν => adQ B i room z μ1 l1 [nI (48 + v % 10)] ν) := by
    intro μ1 l1 hl1 h1 w1
    rw [fX6_putNumber_b37, jck_of (by rw [h1.1]; rfl), r10 v hv, show (48 : Int32) = nI 48 from rfl, nI_add]
    refine Res.cl (c_addByte (z := z) _ h1 w1 hr hl1) fun _ ν Q => ?_
    rw [nb_small (by omega)] at Q
    exact .ret Q
  have mid : ∀ (μ1 : JM) (l1 : List Int32), l1.length + 2 < 2 ^ 30 → SH B i room μ1 → cS B i room μ1 l1 → Res (fX6_putNumber_b17 (B + i) (nI v) μ1) (fun _ ν => adQ B i room z μ1 l1 ((if 10 ≤ v then [nI (48 + v / 10 % 10)] else []) ++ [nI (48 + v % 10)]) ν) := by
    intro μ1 l1 hl1 h1 w1
    rw [fX6_putNumber_b17]
    by_cases q : 10 ≤ v
    · rw [if_neg (show ¬ nI v < 10 from nI_nlt (b := 10) q (by omega)), if_pos q, jck_of (by rw [h1.1]; rfl), e10, r10 (v / 10) (by omega), show (48 : Int32) = nI 48 from rfl, nI_add]
      refine Res.cl (c_addByte (z := z) _ h1 w1 hr (by omega)) fun _ μ2 ⟨s2, w2, h2, j2, z2, t2, p2⟩ => ?_
      rw [nb_small (by omega)] at w2
      refine (last μ2 _ (by simp; omega) h2 w2).mono ?_
      rintro x ν ⟨a1, a2, a3, a4, a5, a6, a7⟩
      rw [List.append_assoc] at a2
      exact ⟨s2.tr a1, a2, a3, a4.trans j2, a5.trans z2, a6.trans t2, a7.trans p2⟩
    · rw [if_pos (show nI v < 10 from nI_lt (b := 10) (by omega) (by omega)), if_neg q, List.nil_append]
      exact last μ1 l1 (by omega) h1 w1
  unfold fX6_putNumber numB
  by_cases q : 100 ≤ v
  · rw [if_neg (show ¬ nI v < 100 from nI_nlt (b := 100) q (by omega)), if_pos q, jck_of (by rw [h.1]; rfl), e100, show (48 : Int32) = nI 48 from rfl, nI_add]
    refine Res.cl (c_addByte (z := z) _ h w hr (by omega)) fun _ μ2 ⟨s2, w2, h2, j2, z2, t2, p2⟩ => ?_
    rw [nb_small (by omega)] at w2
    refine (mid μ2 _ (by simp; omega) h2 w2).mono ?_
    rintro x ν ⟨a1, a2, a3, a4, a5, a6, a7⟩
    rw [List.append_assoc] at a2
    refine ⟨s2.tr a1, ?_, a3, a4.trans j2, a5.trans z2, a6.trans t2, a7.trans p2⟩
    have : v / 100 % 10 = v / 100 := Nat.mod_eq_of_lt (by omega)
    rw [this, List.append_assoc]; exact a2
  · rw [if_pos (show nI v < 100 from nI_lt (b := 100) (by omega) (by omega)), if_neg q, List.nil_append]
    exact mid μ l (by omega) h w
theorem cput_ne (s : List Int32 × Int32) (c : Int64) (h : cbytes c ≠ []) : (cput s c).1 ≠ [] := by
  unfold cput
  intro e
  exact h (List.append_eq_nil_iff.mp e).2
theorem ah_is {c : Int64} (h : isV c) : (if isSg c = true then nI (-1 - c).toNatClampNeg else (1 : Int32)) = 40 ↔ c = -41 := by
  unfold isSg
  by_cases q : c = -41
  · rw [q]; decide
  · constructor
    · intro e
      by_cases q1 : c = -59
      · rw [q1] at e; exact absurd e (by decide)
      · by_cases q2 : c = -60
        · rw [q2] at e; exact absurd e (by decide)
        · by_cases q3 : c = -42
          · rw [q3] at e; exact absurd e (by decide)
          · rw [decide_eq_false q, decide_eq_false q1, decide_eq_false q2, decide_eq_false q3, if_neg (by decide)] at e
            exact absurd e (by decide)
    · intro e; exact absurd e q
theorem isSg_c {c : Int64} (h : isSg c = true) : c = -59 ∨ c = -60 ∨ c = -41 ∨ c = -42 := by
  unfold isSg at h
  simp only [Bool.or_eq_true, decide_eq_true_eq] at h
  rcases h with ((h | h) | h) | h
  · exact Or.inl h
  · exact Or.inr (Or.inl h)
  · exact Or.inr (Or.inr (Or.inl h))
  · exact Or.inr (Or.inr (Or.inr h))
theorem wl_ne {n : Nat} (h : 0 < n) : wl n ≠ [] := by
  show wlf 12 n ≠ []
  rw [wlf, if_neg (by omega)]; simp
theorem isV_T {c : Int64} (h : isV c) : isT c := by
  rcases h with ⟨n, h1, h2, rfl⟩ | ⟨i, h1, h2⟩ | h | h
  · exact Or.inl (by rw [lN_toI (by omega)]; omega)
  · exact isT_own h1 h2
  · exact isNm_T h
  · exact isT_sg h
theorem cb_wd {n : Nat} (h0 : 0 < n) (hn : n < 2 ^ 60) : cbytes (lN n) = wl n := by
  unfold cbytes
  have h1 : (0 : Int64) < lN n := by rw [fa_lt64, lN_toI (by omega)]; show (0 : Int) < _; omega
  rw [if_pos h1]
  congr 1
  show (lN n).toInt.toNat = n
  rw [lN_toI (by omega)]; omega
theorem ou_i : ∀ i, i < 18 → ¬ (0 : Int64) < -3000 - lN i ∧ -3000 - lN i ≤ (-3000 : Int64) ∧ (-3000 - (-3000 - lN i)).toNatClampNeg = i ∧ (-3000 - (-3000 - lN i)).toInt32 = nI i ∧ (isNm (-3000 - lN i)) = false := by decide +kernel
theorem cb_o {i : Nat} (hi : i < 18) : cbytes (-3000 - lN i) = wl (oursN.getD i 0) := by
  obtain ⟨h1, h2, h3, -, -⟩ := ou_i i hi
  unfold cbytes
  rw [if_neg h1, if_pos h2, h3]
theorem nmr_c {c : Int64} (h : isNm c = true) : ¬ 0 < c ∧ ¬ c ≤ -3000 ∧ c ≤ -1000 := by
  unfold isNm at h
  simp only [Bool.and_eq_true, decide_eq_true_eq] at h
  refine ⟨fun z => ?_, fun z => ?_, h.2⟩
  · exact absurd (Int64.lt_of_lt_of_le z h.2) (by decide)
  · exact absurd (Int64.lt_of_lt_of_le h.1 z) (by decide)
theorem cb_n {c : Int64} (h : isNm c = true) : cbytes c = numB (-1000 - c).toNatClampNeg := by
  obtain ⟨h1, h2, h3⟩ := nmr_c h
  unfold cbytes
  rw [if_neg h1, if_neg h2, if_pos h3]
theorem cb_ne {c : Int64} (h : isV c) : cbytes c ≠ [] := by
  rcases h with ⟨n, h1, h2, rfl⟩ | ⟨i, h1, rfl⟩ | h | h
  · rw [cb_wd h1 h2]; exact wl_ne h1
  · rw [cb_o h1]
    refine wl_ne ?_
    have : ∀ i, i < 18 → 0 < oursN.getD i 0 := by decide
    exact this i h1
  · rw [cb_n h]; unfold numB; simp
  · rcases isSg_c h with rfl | rfl | rfl | rfl <;> decide
theorem cb_len {c : Int64} (h : isV c) : (cbytes c).length ≤ 12 := by
  rcases h with ⟨n, h1, h2, rfl⟩ | ⟨i, h1, rfl⟩ | h | h
  · rw [cb_wd h1 h2]; exact wlf_len 12 n
  · rw [cb_o h1]; exact wlf_len 12 _
  · rw [cb_n h]; unfold numB; split <;> split <;> simp
  · rcases isSg_c h with rfl | rfl | rfl | rfl <;> decide
theorem cbs_ne {ts : List Int64} {c : Int64} (h : isV c) : (cB (ts ++ [c])).1 ≠ [] := by rw [cB_snoc]; exact cput_ne _ _ (cb_ne h)
theorem c_put {B i room z : Nat} {μ : JM} {ts : List Int64} {c : Int64} (hC : CT B μ) (hL : cLang B μ) (hi : 3 ≤ i ∧ i < 20) (hz : B + 121 ≤ z) (hr : room < 2 ^ 30) (hl : (cB ts).1.length + 13 < 2 ^ 30) (h : SH B i room μ) (w : cSp B i room μ ts) (hv : ∀ t ∈ ts, isV t) (hc : isV c) : Res (fX6_put (B + i) c μ) (fun _ ν => cs B z [i, i + 1] μ ν ∧ cSp B i room ν (ts ++ [c]) ∧ SH B i room ν ∧ jZ ν = jZ μ) := by
  obtain ⟨w, wl0⟩ := w
  -- behind the blank
  have b58 : ∀ (μ1 : JM) (l1 : List Int32), cs B z [i, i + 1] μ μ1 → jZ μ1 = jZ μ → SH B i room μ1 → cS B i room μ1 l1 → l1.length + 12 < 2 ^ 30 → (l1 ++ cbytes c = (cB (ts ++ [c])).1) → Res (fX6_put_b58 (B + i) c μ1) (fun _ ν => cs B z [i, i + 1] μ ν ∧ cSp B i room ν (ts ++ [c]) ∧ SH B i room ν ∧ jZ ν = jZ μ) := by
    intro μ1 l1 s1 z1 h1 w1 hl1 el
    rw [fX6_put_b58, jck_of (by rw [h1.1]; rfl)]
    simp only [jlt_is]
    have s2 : cs B z [i, i + 1] μ (jsJ μ1 (B + i) 3 c) := s1.tr (cs.sJ (by simp))
    have h2 : SH B i room (jsJ μ1 (B + i) 3 c) := h1
    have w2 : cS B i room (jsJ μ1 (B + i) 3 c) l1 := w1
    have l2 : jJ (jsJ μ1 (B + i) 3 c) (B + i) 3 = c := by rw [jJ_sJ, if_pos ⟨rfl, rfl⟩]
    have z2 : jZ (jsJ μ1 (B + i) 3 c) = jZ μ := z1
    generalize jsJ μ1 (B + i) 3 c = μ2 at s2 h2 w2 l2 z2 ⊢
    have hC2 := s2.ct hC hz
    have hL2 : cLang B μ2 := cW.ke hL s2 (by omega) (by simp; omega) (by simp; omega)
    have fin : ∀ ν, adQ B i room z μ2 l1 (cbytes c) ν → cs B z [i, i + 1] μ ν ∧ cSp B i room ν (ts ++ [c]) ∧ SH B i room ν ∧ jZ ν = jZ μ := by
      rintro ν ⟨a1, a2, a3, a4, a5, a6, a7⟩
      rw [el] at a2
      refine ⟨s2.tr a1, ⟨a2, fun t d e => ?_⟩, a3, by rw [a5, z2]⟩
      have : c = d := by
        have := congrArg List.getLast? e
        simpa using this
      rw [a4, ← this]; exact l2
    simp only [c_isFree, c_isOurs, c_isNum, jcl_0]
    rcases hc with ⟨n, n1, n2, rfl⟩ | ⟨j, j1, rfl⟩ | q | q
    · have p1 : (0 : Int64) < lN n := by rw [fa_lt64, lN_toI (by omega)]; show (0 : Int) < _; omega
      rw [if_pos p1, if_neg (by decide), jck_of (by rw [h2.1]; rfl)]
      refine Res.cl (c_putWord (z := z) n2 hr hl1 h2 w2) fun _ ν Q => .ret (fin ν (by rw [cb_wd n1 n2]; exact Q))
    · obtain ⟨o1, o2, o3, o4, o5⟩ := ou_i j j1
      rw [if_neg o1, if_pos rfl, if_pos o2, if_neg (by decide), jck_of (by rw [h2.1]; rfl), h2.2.2.2]
      simp only [jde_is]
      rw [jck_of (by rw [cT1 hC2]; rfl), o4]
      have ea : fX9_at (B + 1) (nI j) μ2 = some (lN (oursN.getD j 0), μ2, 0, 0) := by
        unfold fX9_at
        rw [if_neg (nI_pos (by omega))]
        have l18 : langC.length = 18 := by decide
        simp only [jck_true, jde_is, jlt_is, jcl_0, beq_self_eq_true, jT_sI, jT_sJ, jP_sI, jP_sJ, jJ_sI, jI_sJ, jZ_sI, jZ_sJ, cT1 hC2, hL2.1, l18]
        rw [if_pos (nI_lt j1 (by decide))]
        simp only [jck_true, jde_is, jlt_is, jcl_0, beq_self_eq_true, jT_sI, jT_sJ, jP_sI, jP_sJ, jJ_sI, jI_sJ, jZ_sI, jZ_sJ, cP1_0 hC2, cT2 hC2, jin_nI j1 (by decide), nI_clamp (show j < 2 ^ 31 by omega)]
        have := hL2.2.2 j (by rw [l18]; exact j1)
        rw [show B + (1 + 1) = B + 2 from rfl] at this
        have e5 : langC.getD j 0 = lN (oursN.getD j 0) := by
          have : ∀ j, j < 18 → langC.getD j 0 = lN (oursN.getD j 0) := by decide +kernel
          exact this j j1
        rw [this, e5]
      have olt : oursN.getD j 0 < 2 ^ 60 := by
        have : oursN.getD j 0 ∈ oursN := by rw [List.getD_eq_getElem?_getD, List.getElem?_eq_getElem (show j < oursN.length from j1)]; exact List.getElem_mem _
        exact oursN_lt _ this
      rw [ea, jcl_0, jck_of (by rw [h2.1]; rfl)]
      refine Res.cl (c_putWord (z := z) olt hr hl1 h2 w2) fun _ ν Q => .ret (fin ν (by rw [cb_o j1]; exact Q))
    · obtain ⟨o1, o2, o3⟩ := nmr_c q
      obtain ⟨v1, v2⟩ := isNm_v q
      rw [if_neg o1, if_pos rfl, if_neg o2, if_pos rfl, if_pos q, if_neg (by decide), jck_of (by rw [h2.1]; rfl), v2]
      refine Res.cl (c_putNumber (z := z) v1 hr hl1 h2 w2) fun _ ν Q => .ret (fin ν (by rw [cb_n q]; exact Q))
    · have key : ¬ (0 : Int64) < c ∧ ¬ c ≤ -3000 ∧ ¬ isNm c = true ∧ cbytes c = [(-1 - c).toInt32] ∧ nb (-1 - c).toInt32 = (-1 - c).toInt32 := by
        rcases isSg_c q with e | e | e | e <;> rw [e] <;> decide +kernel
      obtain ⟨o1, o2, o3, o4, o5⟩ := key
      rw [if_neg o1, if_pos rfl, if_neg o2, if_pos rfl, if_neg o3, if_pos rfl, jck_of (by rw [h2.1]; rfl)]
      refine Res.cl (c_addByte (z := z) _ h2 w2 hr (by omega)) fun _ ν Q => .ret (fin ν (by rw [o4, ← o5]; exact Q))
  have tight : ((cB ts).2 = 0 ∨ (cB ts).2 = 40 ∨ (isSg c = true ∧ c ≠ -41)) → Res (fX6_put_b42 (B + i) c μ) (fun _ ν => cs B z [i, i + 1] μ ν ∧ cSp B i room ν (ts ++ [c]) ∧ SH B i room ν ∧ jZ ν = jZ μ) := by
    intro q
    rw [fX6_put_b42, fX6_put_b47, if_neg (by decide)]
    refine b58 μ _ cs.rf rfl h w (by omega) ?_
    rw [cB_snoc]; unfold cput; rw [if_pos q, List.append_nil]
  have loose : ¬ ((cB ts).2 = 0 ∨ (cB ts).2 = 40 ∨ (isSg c = true ∧ c ≠ -41)) → Res (fX6_put_b47 (B + i) c 0 μ) (fun _ ν => cs B z [i, i + 1] μ ν ∧ cSp B i room ν (ts ++ [c]) ∧ SH B i room ν ∧ jZ ν = jZ μ) := by
    intro q
    rw [fX6_put_b47, if_pos rfl, jck_of (by rw [h.1]; rfl)]
    refine Res.cl (c_addByte (z := z) _ h w hr (by omega)) fun _ μ1 ⟨s1, w1, h1, j1, z1, t1, p1⟩ => ?_
    refine b58 μ1 _ s1 z1 h1 w1 (by simp; omega) ?_
    rw [cB_snoc]; unfold cput; rw [if_neg q]; rfl
  unfold fX6_put
  rw [jck_of (by rw [h.1]; rfl), w.1]
  simp only [lg_cmp_0]
  rcases List.eq_nil_or_concat ts with e | ⟨t, d, e⟩
  · rw [e] at tight ⊢
    rw [if_pos (show nI (cB []).1.length = 0 from rfl)]
    exact tight (Or.inl rfl)
  · rw [List.concat_eq_append] at e
    have dv : isV d := hv d (by rw [e]; simp)
    have ne : (cB ts).1 ≠ [] := by rw [e]; exact cbs_ne dv
    have lp : 0 < (cB ts).1.length := List.length_pos_iff.mpr ne
    rw [if_neg (nI_ne0 lp (by omega)), wl0 t d e]
    have a2 : (cB ts).2 = if isSg d = true then nI (-1 - d).toNatClampNeg else 1 := by rw [e, cB_snoc]; rfl
    have n0 : ¬ (cB ts).2 = 0 := by
      rw [a2]
      by_cases q : isSg d = true
      · rw [if_pos q]; rcases isSg_c q with w | w | w | w <;> rw [w] <;> decide
      · rw [if_neg q]; decide
    by_cases q1 : d = -41
    · rw [if_pos q1]
      exact tight (Or.inr (Or.inl (by rw [a2]; exact (ah_is dv).mpr q1)))
    · have n40 : ¬ (cB ts).2 = 40 := by rw [a2]; exact fun z => q1 ((ah_is dv).mp z)
      rw [if_neg q1]
      by_cases q2 : c = -42
      · rw [if_pos q2]; exact tight (Or.inr (Or.inr (by rw [q2]; decide)))
      · rw [if_neg q2]
        by_cases q3 : c = -59
        · rw [if_pos q3]; exact tight (Or.inr (Or.inr (by rw [q3]; decide)))
        · rw [if_neg q3]
          by_cases q4 : c = -60
          · rw [if_pos q4]; exact tight (Or.inr (Or.inr (by rw [q4]; decide)))
          · rw [if_neg q4]
            refine loose (fun z => ?_)
            rcases z with z | z | z
            · exact n0 z
            · exact n40 z
            · rcases isSg_c z.1 with y | y | y | y
              · exact q3 y
              · exact q4 y
              · exact z.2 y
              · exact q2 y
