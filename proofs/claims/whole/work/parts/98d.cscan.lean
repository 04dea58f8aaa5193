/-! the class: Text.scan -/
theorem byt_all {P : Int32 → Prop} (h : ∀ n, n < 256 → P (Int8.ofNat n).toInt32) {c : Int32} (hc : nb c = c) : P c := by
  have e : c.toInt8 = Int8.ofNat c.toInt8.toBitVec.toNat := Int8.toBitVec_inj.mp (by simp)
  rw [← hc]; unfold nb; rw [e]
  exact h _ c.toInt8.toBitVec.isLt
theorem b255 {c : Int32} (hc : nb c = c) : isL (c &&& 255) = isL c ∧ isD (c &&& 255) = isD c ∧ (c &&& 255 = 32 ↔ c = 32) ∧ (c &&& 255 = 10 ↔ c = 10) ∧ (isL c = true → c &&& 255 = c) ∧ (isD c = true → c &&& 255 = c) := byt_all (P := fun c => isL (c &&& 255) = isL c ∧ isD (c &&& 255) = isD c ∧ (c &&& 255 = 32 ↔ c = 32) ∧ (c &&& 255 = 10 ↔ c = 10) ∧ (isL c = true → c &&& 255 = c) ∧ (isD c = true → c &&& 255 = c)) (by decide +kernel) hc
theorem c_isLetter {x : Int32} {μ : JM} : fX7_isLetter x μ = some (if isL x = true then 1 else 0, μ, 0, 0) := by
  unfold fX7_isLetter isL
  by_cases q : x < 97
  · rw [if_pos q, if_neg]; simp only [Bool.and_eq_true, decide_eq_true_eq]; exact fun z => absurd q (Int32.not_lt.mpr z.1)
  · rw [if_neg q]
    by_cases t : 122 < x
    · rw [if_pos t, if_neg]; simp only [Bool.and_eq_true, decide_eq_true_eq]; exact fun z => absurd t (Int32.not_lt.mpr z.2)
    · rw [if_neg t, if_pos]; simp only [Bool.and_eq_true, decide_eq_true_eq]; exact ⟨Int32.not_lt.mp q, Int32.not_lt.mp t⟩
theorem c_isDigit {x : Int32} {μ : JM} : fX7_isDigit x μ = some (if isD x = true then 1 else 0, μ, 0, 0) := by
  unfold fX7_isDigit isD
  by_cases q : x < 48
  · rw [if_pos q, if_neg]; simp only [Bool.and_eq_true, decide_eq_true_eq]; exact fun z => absurd q (Int32.not_lt.mpr z.1)
  · rw [if_neg q]
    by_cases t : 57 < x
    · rw [if_pos t, if_neg]; simp only [Bool.and_eq_true, decide_eq_true_eq]; exact fun z => absurd t (Int32.not_lt.mpr z.2)
    · rw [if_neg t, if_pos]; simp only [Bool.and_eq_true, decide_eq_true_eq]; exact ⟨Int32.not_lt.mp q, Int32.not_lt.mp t⟩
theorem byt_at {l : List Int32} (h : byt l) {j : Nat} (hj : j < l.length) : nb (l.getD j 0) = l.getD j 0 := h _ (by rw [List.getD_eq_getElem?_getD, List.getElem?_eq_getElem hj]; exact List.getElem_mem hj)
/-- a sheet to be scanned -/
def SC (B i : Nat) (μ : JM) (l : List Int32) : Prop := SH B i 900 μ ∧ cS B i 900 μ l ∧ l.length ≤ 900 ∧ byt l
theorem SC.at {B i j : Nat} {μ : JM} {l : List Int32} (h : SC B i μ l) (hj : j < l.length) : fX6_byteAt (B + i) (nI j) μ = some (l.getD j 0 &&& 255, μ, 0, 0) := c_byteAt h.1 h.2.1 (by decide) h.2.2.1 hj
theorem run_l {B i : Nat} {μ : JM} {l : List Int32} (b : Bool) (h : SC B i μ l) : ∀ (fu p : Nat), p ≤ l.length → l.length - p < fu → fX7_runEnd_b33 fu (some (B + i)) (nI l.length) (if b then 1 else 0) (nI p) μ = some (nI (p + ((l.drop p).takeWhile (if b then isL else isD)).length), μ, 0, 0) := by
  have hl := h.2.2.1
  intro fu
  induction fu with
  | zero => intro p _ q; omega
  | succ fu ih =>
    intro p hp hf
    rw [fX7_runEnd_b33]
    by_cases q : p = l.length
    · rw [if_pos (nI_le (by omega) (by omega)), q, List.drop_length]; rfl
    · have hp2 : p < l.length := by omega
      rw [if_neg (nI_ge hp2 (by omega))]
      simp only [jck_true, jde_is, jlt_is, jcl_0, beq_self_eq_true, jT_sI, jT_sJ, jP_sI, jP_sJ, jJ_sI, jI_sJ, jZ_sI, jZ_sJ, h.1.1, h.at hp2, c_isDigit, c_isLetter]
      obtain ⟨b1, b2, -⟩ := b255 (byt_at h.2.2.2 hp2)
      rw [b1, b2, drop_getD (d := 0) hp2]
      have nx := ih (p + 1) (by omega) (by omega)
      cases b with
      | true =>
        simp only [if_true, Bool.false_eq_true, if_false, show ¬ (1 : Int32) = 0 from by decide] at nx ⊢
        by_cases t : isL (l.getD p 0) = true
        · rw [List.takeWhile_cons, if_pos t, if_pos t, if_neg (by decide), fX7_runEnd_b74, nI_1, nx, List.length_cons, show p + 1 + (List.takeWhile isL (l.drop (p + 1))).length = p + ((List.takeWhile isL (l.drop (p + 1))).length + 1) by omega]
        · rw [List.takeWhile_cons, if_neg t, if_neg t, if_pos rfl]; rfl
      | false =>
        simp only [if_true, Bool.false_eq_true, if_false] at nx ⊢
        by_cases t : isD (l.getD p 0) = true
        · rw [List.takeWhile_cons, if_pos t, if_pos t, if_neg (by decide), fX7_runEnd_b74, nI_1, nx, List.length_cons, show p + 1 + (List.takeWhile isD (l.drop (p + 1))).length = p + ((List.takeWhile isD (l.drop (p + 1))).length + 1) by omega]
        · rw [List.takeWhile_cons, if_neg t, if_neg t, if_pos rfl]; rfl
theorem c_runEnd {B i p : Nat} {μ : JM} {l : List Int32} (h : SC B i μ l) (hp : p < l.length) : fX7_runEnd (some (B + i)) (nI p) (nI l.length) μ = some (nI (p + hdLen (l.drop p)), μ, 0, 0) := by
  have hl := h.2.2.1
  unfold fX7_runEnd
  simp only [jck_true, jde_is, jlt_is, jcl_0, beq_self_eq_true, jT_sI, jT_sJ, jP_sI, jP_sJ, jJ_sI, jI_sJ, jZ_sI, jZ_sJ, h.1.1, h.at hp, c_isDigit, c_isLetter]
  obtain ⟨b1, b2, -⟩ := b255 (byt_at h.2.2.2 hp)
  rw [b1, b2, drop_getD (d := 0) hp]
  have r1 := run_l true h jfuel (p + 1) (by omega) (jfuel_gt (by omega))
  have r2 := run_l false h jfuel (p + 1) (by omega) (jfuel_gt (by omega))
  simp only [if_true, Bool.false_eq_true, if_false] at r1 r2
  simp only [hdLen]
  by_cases t : isL (l.getD p 0) = true
  · rw [if_pos t, if_pos t, if_neg (by decide), fX7_runEnd_b28, nI_1, r1, show p + 1 + (List.takeWhile isL (l.drop (p + 1))).length = p + (1 + (List.takeWhile isL (l.drop (p + 1))).length) by omega]
  · rw [if_neg t, if_neg t, if_pos rfl]
    by_cases u : isD (l.getD p 0) = true
    · rw [if_pos u, if_pos u, if_neg (by decide), fX7_runEnd_b28, nI_1, r2, show p + 1 + (List.takeWhile isD (l.drop (p + 1))).length = p + (1 + (List.takeWhile isD (l.drop (p + 1))).length) by omega]
    · rw [if_neg u, if_neg u, if_pos rfl, nI_1]
/-! words and numbers -/
theorem grown_is {n m : Nat} {μ : JM} (hn : n < 2 ^ 55) (h1 : 97 ≤ m) (h2 : m ≤ 122) : fX9_grown (lN n) (nI m) μ = some (lN (n * 32 + (m - 96)), μ, 0, 0) := by
  unfold fX9_grown jlshl
  have e1 : lN n <<< ((5 : Int32).toInt64 &&& 63) = lN (n * 2 ^ 5) := wb_shl n (k := 5) (by decide)
  have e2 : nI m - 97 + 1 = nI (m - 96) := by
    rw [show (97 : Int32) = nI 97 from rfl, pk_sub h1, nI_1]; congr 1; omega
  rw [e1, e2, nI_l (by omega)]
  have : lN (n * 2 ^ 5) + lN (m - 96) = lN (n * 32 + (m - 96)) := by
    refine Int64.toBitVec_inj.mp ?_
    show BitVec.ofNat 64 _ + BitVec.ofNat 64 _ = BitVec.ofNat 64 _
    rw [← BitVec.ofNat_add]
  rw [this]
def langC : List Int64 := oursN.map lN
theorem lang_ix {n : Nat} (hn : n < 2 ^ 60) : langC.idxOf? (lN n) = oursN.idxOf? n := by
  unfold langC
  have key : ∀ L : List Nat, (∀ x ∈ L, x < 2 ^ 60) → (L.map lN).idxOf? (lN n) = L.idxOf? n := by
    intro L
    induction L with
    | nil => intro _; rfl
    | cons x r ih =>
      intro hL
      rw [List.map_cons, List.idxOf?_cons, List.idxOf?_cons, ih (fun y hy => hL y (List.mem_cons_of_mem _ hy))]
      have hx := hL x List.mem_cons_self
      by_cases e : x = n
      · rw [e]; simp
      · have : ¬ lN x = lN n := fun q => e ((fb_lN_inj (by omega) (by omega)).mp q)
        rw [if_neg (by simpa using this), if_neg (by simpa using e)]
  exact key oursN oursN_lt
def cLang (B : Nat) (μ : JM) : Prop := cW B 1 18 μ langC
theorem foldl_lt2 {w : List Int32} (h : ∀ c ∈ w, isL c = true) (hl : w.length ≤ 11) : wnat w < 2 ^ 55 := by
  have h1 := foldl_lt h 0 1 (by omega)
  have h2 : 32 ^ w.length ≤ 32 ^ 11 := Nat.pow_le_pow_right (by omega) hl
  have h3 : (32 : Nat) ^ 11 = 2 ^ 55 := by decide
  unfold wnat
  omega
theorem hw_all {l : List Int32} : ∀ c ∈ hw l, isL c = true := tw_all
theorem tw_at {f : Int32 → Bool} {l : List Int32} {p j : Nat} (h : j < ((l.drop p).takeWhile f).length) : ((l.drop p).takeWhile f).getD j 0 = l.getD (p + j) 0 ∧ p + j < l.length := by
  have h1 := takeWhile_le f (l.drop p)
  have h2 : j < (l.drop p).length := Nat.lt_of_lt_of_le h h1
  rw [List.length_drop] at h2
  refine ⟨?_, by omega⟩
  have hpre : (l.drop p).takeWhile f <+: l.drop p := List.takeWhile_prefix f
  obtain ⟨t, ht⟩ := hpre
  have : (l.drop p)[j]? = ((l.drop p).takeWhile f)[j]? := by
    conv => lhs; rw [← ht]
    rw [List.getElem?_append_left h]
  rw [List.getElem?_drop] at this
  simp only [List.getD_eq_getElem?_getD, this]
theorem hw_at {l : List Int32} {p j : Nat} (h : j < (hw (l.drop p)).length) : (hw (l.drop p)).getD j 0 = l.getD (p + j) 0 ∧ p + j < l.length := tw_at (f := isL) h
theorem word_l {B i p : Nat} {μ : JM} {l : List Int32} (h : SC B i μ l) (hC : CT B μ) (hL : cLang B μ) (hp : p < l.length) (h12 : (hw (l.drop p)).length ≤ 12) : ∀ (fu j : Nat), j ≤ (hw (l.drop p)).length → (hw (l.drop p)).length - j < fu → fX7_wordOf_b6 fu (B + 15) (some (B + i)) (nI (p + (hw (l.drop p)).length)) (lN (wnat ((hw (l.drop p)).take j))) (nI (p + j)) μ = some (wcode (hw (l.drop p)), μ, 0, 0) := by
  have hl := h.2.2.1
  have hle := takeWhile_le isL (l.drop p)
  intro fu
  induction fu with
  | zero => intro j _ q; omega
  | succ fu ih =>
    intro j hj hf
    rw [fX7_wordOf_b6]
    rw [List.length_drop] at hle
    have hle : (hw (l.drop p)).length ≤ l.length - p := hle
    by_cases q : j = (hw (l.drop p)).length
    · rw [if_pos (by rw [q]; exact nI_le (by omega) (by omega)), q, List.take_length]
      have hlt := wnat_lt (hw_all (l := l.drop p)) h12
      simp only [jck_true, jde_is, jlt_is, jcl_0, beq_self_eq_true, jT_sI, jT_sJ, jP_sI, jP_sJ, jJ_sI, jI_sJ, jZ_sI, jZ_sJ, cT15 hC, cP15_0 hC, cT1 hC, c_find (wh1 hC) hL (by decide), lang_ix hlt]
      unfold wcode
      rw [if_pos h12]
      cases hx : oursN.idxOf? (wnat (hw (l.drop p))) with
      | none => rfl
      | some t =>
        have ht : t < 18 := (List.idxOf?_eq_some_iff.mp hx).1
        simp only [oI, Nat.zero_add]
        rw [if_neg, nI_l (by omega)]
        intro e
        have := congrArg Int32.toInt e
        rw [nI_toInt (by omega)] at this
        have e2 : (-1 : Int32).toInt = -1 := by decide
        omega
    · have hj2 : j < (hw (l.drop p)).length := by omega
      rw [if_neg (nI_ge (by omega) (by omega))]
      obtain ⟨a1, a2⟩ := hw_at hj2
      simp only [jck_true, jde_is, jlt_is, jcl_0, beq_self_eq_true, jT_sI, jT_sJ, jP_sI, jP_sJ, jJ_sI, jI_sJ, jZ_sI, jZ_sJ, h.1.1, h.at a2]
      have hm : (hw (l.drop p)).getD j 0 ∈ hw (l.drop p) := by
        rw [List.getD_eq_getElem?_getD, List.getElem?_eq_getElem hj2]; exact List.getElem_mem hj2
      have hL2 := hw_all _ hm
      rw [a1] at hL2
      obtain ⟨-, -, -, -, b5, -⟩ := b255 (byt_at h.2.2.2 a2)
      rw [b5 hL2]
      obtain ⟨m, m1, m2, m3⟩ := isL_nat hL2
      have hta : ∀ c ∈ (hw (l.drop p)).take j, isL c = true := fun c hc => hw_all c (List.mem_of_mem_take hc)
      rw [m3, grown_is (foldl_lt2 hta (by rw [List.length_take]; omega)) m1 m2, jcl_0, nI_1]
      have e : wnat ((hw (l.drop p)).take (j + 1)) = wnat ((hw (l.drop p)).take j) * 32 + (m - 96) := by
        rw [List.take_succ_eq_append_getElem hj2]
        have : (hw (l.drop p))[j] = nI m := by
          rw [← m3, ← a1, List.getD_eq_getElem?_getD, List.getElem?_eq_getElem hj2]; rfl
        rw [this]
        simp only [wnat, List.foldl_append, List.foldl_cons, List.foldl_nil, wstep, nI_clamp (show m < 2 ^ 31 by omega)]
      rw [← e]
      have := ih (j + 1) (by omega) (by omega)
      rw [show p + (j + 1) = p + j + 1 by omega] at this
      exact this
theorem num_l {B i p : Nat} {μ : JM} {l : List Int32} (h : SC B i μ l) (hp : p < l.length) : ∀ (fu j : Nat), j ≤ ((l.drop p).takeWhile isD).length → ((l.drop p).takeWhile isD).length - j < fu → fX7_numberOf_b5 fu (some (B + i)) (nI (p + ((l.drop p).takeWhile isD).length)) (dval (((l.drop p).takeWhile isD).take j)) (nI (p + j)) μ = some (-1000 - (dval ((l.drop p).takeWhile isD)).toInt64, μ, 0, 0) := by
  have hl := h.2.2.1
  have hle := takeWhile_le isD (l.drop p)
  rw [List.length_drop] at hle
  intro fu
  induction fu with
  | zero => intro j _ q; omega
  | succ fu ih =>
    intro j hj hf
    rw [fX7_numberOf_b5]
    by_cases q : j = ((l.drop p).takeWhile isD).length
    · rw [if_pos (by rw [q]; exact nI_le (by omega) (by omega)), q, List.take_length]
    · have hj2 : j < ((l.drop p).takeWhile isD).length := by omega
      rw [if_neg (nI_ge (by omega) (by omega))]
      obtain ⟨a1, a2⟩ := tw_at hj2
      simp only [jck_true, jde_is, jlt_is, jcl_0, beq_self_eq_true, jT_sI, jT_sJ, jP_sI, jP_sJ, jJ_sI, jI_sJ, jZ_sI, jZ_sJ, h.1.1, h.at a2]
      have hm : ((l.drop p).takeWhile isD).getD j 0 ∈ (l.drop p).takeWhile isD := by
        rw [List.getD_eq_getElem?_getD, List.getElem?_eq_getElem hj2]; exact List.getElem_mem hj2
      have hL2 := tw_all _ hm
      rw [a1] at hL2
      obtain ⟨-, -, -, -, -, b6⟩ := b255 (byt_at h.2.2.2 a2)
      rw [b6 hL2, nI_1]
      have e : dval (((l.drop p).takeWhile isD).take (j + 1)) = dval (((l.drop p).takeWhile isD).take j) * 10 + l.getD (p + j) 0 - 48 := by
        rw [List.take_succ_eq_append_getElem hj2]
        have : ((l.drop p).takeWhile isD)[j] = l.getD (p + j) 0 := by
          rw [← a1, List.getD_eq_getElem?_getD, List.getElem?_eq_getElem hj2]; rfl
        rw [this]
        simp only [dval, List.foldl_append, List.foldl_cons, List.foldl_nil, dstep]
        rw [Int32.mul_comm]
      rw [← e]
      have := ih (j + 1) (by omega) (by omega)
      rw [show p + (j + 1) = p + j + 1 by omega] at this
      exact this
theorem sg_l : ∀ v, v < 256 → ((-1 : Int32) - nI v).toInt64 = -1 - (nI v).toInt64 := by decide +kernel
theorem c_tokenOf {B i p : Nat} {μ : JM} {l : List Int32} (h : SC B i μ l) (hC : CT B μ) (hL : cLang B μ) (hp : p < l.length) : fX7_tokenOf (B + 15) (some (B + i)) (nI p) (nI (p + hdLen (l.drop p))) μ = some (tcode (l.drop p), μ, 0, 0) := by
  have hl := h.2.2.1
  have hle := hdLen_le (l.drop p)
  rw [List.length_drop] at hle
  unfold fX7_tokenOf
  simp only [jck_true, jde_is, jlt_is, jcl_0, beq_self_eq_true, jT_sI, jT_sJ, jP_sI, jP_sJ, jJ_sI, jI_sJ, jZ_sI, jZ_sJ, h.1.1, h.at hp, c_isDigit, c_isLetter]
  obtain ⟨b1, b2, -⟩ := b255 (byt_at h.2.2.2 hp)
  rw [b1, b2]
  have e1 : nI (p + hdLen (l.drop p)) - nI p = nI (hdLen (l.drop p)) := by rw [pk_sub (by omega)]; congr 1; omega
  rw [e1]
  have hd : l.drop p = l.getD p 0 :: l.drop (p + 1) := drop_getD hp
  by_cases t : isL (l.getD p 0) = true
  · rw [if_pos t, if_neg (by decide)]
    have hh : hdLen (l.drop p) = (hw (l.drop p)).length := by rw [hd]; exact hdLen_w t
    have et : tcode (l.drop p) = wcode (hw (l.drop p)) := by rw [hd, hw_cons t]; simp only [tcode, t, if_true]
    by_cases u : hdLen (l.drop p) ≤ 12
    · rw [if_pos (show nI (hdLen (l.drop p)) ≤ 12 from nI_le (b := 12) u (by decide))]
      simp only [jck_true, jde_is, jlt_is, jcl_0, beq_self_eq_true, jT_sI, jT_sJ, jP_sI, jP_sJ, jJ_sI, jI_sJ, jZ_sI, jZ_sJ, cT15 hC]
      unfold fX7_wordOf
      have this : fX7_wordOf_b6 jfuel (B + 15) (some (B + i)) (nI (p + hdLen (l.drop p))) 0 (nI p) μ = some (wcode (hw (l.drop p)), μ, 0, 0) := by
        rw [hh]; exact word_l h hC hL hp (by omega) jfuel 0 (by omega) (jfuel_gt (by omega))
      rw [this, jcl_0, et]
    · rw [if_neg (show ¬ nI (hdLen (l.drop p)) ≤ 12 from nI_ge (a := 12) (by omega) (by omega)), et]
      unfold wcode
      rw [if_neg (by omega)]
  · rw [if_neg t, if_pos rfl]
    have t2 : isL (l.getD p 0) = false := by simpa using t
    by_cases u : isD (l.getD p 0) = true
    · rw [if_pos u, if_neg (by decide)]
      have htw : (l.drop p).takeWhile isD = l.getD p 0 :: (l.drop (p + 1)).takeWhile isD := by rw [hd, List.takeWhile_cons, if_pos u]
      have hh : hdLen (l.drop p) = ((l.drop p).takeWhile isD).length := by rw [htw, hd]; simp only [hdLen, t2, u, Bool.false_eq_true, if_false, if_true, List.length_cons]; omega
      have et : tcode (l.drop p) = dcode ((l.drop p).takeWhile isD) := by rw [htw, hd]; simp only [tcode, t2, u, Bool.false_eq_true, if_false, if_true]
      by_cases v : hdLen (l.drop p) ≤ 3
      · rw [if_pos (show nI (hdLen (l.drop p)) ≤ 3 from nI_le (b := 3) v (by decide))]
        unfold fX7_numberOf
        have this : fX7_numberOf_b5 jfuel (some (B + i)) (nI (p + hdLen (l.drop p))) 0 (nI p) μ = some (-1000 - (dval ((l.drop p).takeWhile isD)).toInt64, μ, 0, 0) := by
          rw [hh]; exact num_l h hp jfuel 0 (by omega) (jfuel_gt (by omega))
        rw [this, jcl_0, et]
        unfold dcode
        rw [if_pos (by omega)]
      · rw [if_neg (show ¬ nI (hdLen (l.drop p)) ≤ 3 from nI_ge (a := 3) (by omega) (by omega)), et]
        unfold dcode
        rw [if_neg (by omega)]
    · rw [if_neg u, if_pos rfl]
      have u2 : isD (l.getD p 0) = false := by simpa using u
      rw [hd]
      simp only [tcode, t2, u2, Bool.false_eq_true, if_false]
      obtain ⟨v, v1, v2⟩ := and255 (l.getD p 0)
      rw [v2, sg_l v v1]
/-! the scan -/
def cTx (B : Nat) (μ : JM) (l : List Int32) (n : Nat) : Prop := jI μ (B + 15) 3 = nI n ∧ n ≤ 900 ∧ pl l n = l.length ∧ (∀ k, k < n → pl l k < l.length ∧ jJ μ (B + 16) k = Cd l k) ∧ (∀ k, k ≤ n → jI μ (B + 17) k = nI (pl l k)) ∧ l.length ≤ 900 ∧ byt l
theorem cTx.ke {B z n : Nat} {μ ν : JM} {l : List Int32} {as : List Nat} (h : cTx B μ l n) (s : cs B z as μ ν) (hz : B + 18 ≤ z) (h15 : jI ν (B + 15) 3 = jI μ (B + 15) 3) (h1 : 16 ∉ as) (h2 : 17 ∉ as) : cTx B ν l n := ⟨h15.trans h.1, h.2.1, h.2.2.1, fun k hk => by rw [s.iJ (by omega) h1]; exact h.2.2.2.1 k hk, fun k hk => by rw [s.iI (by omega) h2]; exact h.2.2.2.2.1 k hk, h.2.2.2.2.2⟩
theorem c_blank1 {x : Int32} {μ : JM} (h : x = 32 ∨ x = 10) : fX7_isBlank x μ = some (1, μ, 0, 0) := by
  unfold fX7_isBlank
  by_cases q : x = 32
  · rw [if_pos q]
  · rw [if_neg q, if_pos (h.resolve_left q)]
theorem c_blank0 {x : Int32} {μ : JM} (h1 : ¬ x = 32) (h2 : ¬ x = 10) : fX7_isBlank x μ = some (0, μ, 0, 0) := by
  unfold fX7_isBlank
  rw [if_neg h1, if_neg h2]
theorem c_addT {B n : Nat} {y : Int64} {x : Int32} {μ : JM} (hC : CT B μ) (h3 : jI μ (B + 15) 3 = nI n) (hn : n < 900) : fX7_add (B + 15) y x μ = some ((), jsI (jsI (jsJ μ (B + 16) n y) (B + 17) n x) (B + 15) 3 (nI (n + 1)), 0, 0) := by
  unfold fX7_add
  simp only [jck_true, jde_is, jlt_is, jcl_0, beq_self_eq_true, jT_sI, jT_sJ, jP_sI, jP_sJ, jJ_sI, jI_sJ, jZ_sI, jZ_sJ, cT15 hC, cP15_1 hC, cT16 hC, h3, jin_nI hn (by decide), nI_clamp (show n < 2 ^ 31 by omega), cP15_2 hC, cT17 hC, jin_nI (show n < 901 by omega) (by decide)]
  have e3 : jI (jsI (jsJ μ (B + 16) n y) (B + 17) n x) (B + 15) 3 = nI n := by rw [jI_sI_ne (by omega)]; exact h3
  rw [if_neg (nI_ge (b := 900) hn (by decide)), e3, nI_1]
theorem scan_l {B i z : Nat} {l : List Int32} (hi : i = 3 ∨ i = 7) (hz : B + 121 ≤ z) : ∀ (fu p bh e n : Nat) (μ : JM), CT B μ → SC B i μ l → cLang B μ → p ≤ l.length → l.length - p < fu → p ≤ e → bh ≤ e → (e = p ∨ e = bh) → bh ≤ l.length → n ≤ e → pl l n = e + skp (l.drop e) → jI μ (B + 15) 3 = nI n → (∀ k, k < n → pl l k < l.length ∧ jJ μ (B + 16) k = Cd l k) → (∀ k, k < n → jI μ (B + 17) k = nI (pl l k)) →
    Res (fX7_scan_b31 fu (B + 15) (some (B + i)) (nI l.length) (nI bh) (nI p) μ) (fun _ ν => cs B z [15, 16, 17] μ ν ∧ jZ ν = jZ μ ∧ (∀ k, k ≠ 3 → jI ν (B + 15) k = jI μ (B + 15) k) ∧ ∃ m, cTx B ν l m) := by
  intro fu
  induction fu with
  | zero => intro p bh e n μ _ _ _ _ q; omega
  | succ fu ih =>
    intro p bh e n μ hC h hL hp hf he1 he2 he3 hbh hn hpl h3 ht hq
    have hl := h.2.2.1
    rw [fX7_scan_b31]
    by_cases q : p = l.length
    · rw [if_pos (nI_le (by omega) (by omega))]
      simp only [jck_true, jde_is, jlt_is, jcl_0, beq_self_eq_true, jT_sI, jT_sJ, jP_sI, jP_sJ, jJ_sI, jI_sJ, jZ_sI, jZ_sJ, cT15 hC, cP15_2 hC, cT17 hC, h3, jin_nI (show n < 901 by omega) (by decide), nI_clamp (show n < 2 ^ 31 by omega)]
      have q2 : e = l.length := by omega
      rw [q2, List.drop_length] at hpl
      have hpl : pl l n = l.length := by rw [hpl]; rfl
      refine .ret ⟨cs.sI (by decide), rfl, fun k hk => by rw [jI_sI_ne (by omega)], n, ?_, by omega, hpl, ht, fun k hk => ?_, hl, h.2.2.2⟩
      · rw [jI_sI_ne (by omega)]; exact h3
      · rw [jI_sI]
        by_cases e : k = n
        · rw [if_pos ⟨rfl, e⟩, e, hpl]
        · rw [if_neg (fun t => e t.2)]; exact hq k (by omega)
    · have hp2 : p < l.length := by omega
      rw [if_neg (nI_ge hp2 (by omega))]
      by_cases qb : p < bh
      · rw [if_pos (nI_lt qb (by omega)), fX7_scan_b77, nI_1]
        exact ih (p + 1) bh e n μ hC h hL (by omega) (by omega) (by omega) he2 (by omega) hbh hn hpl h3 ht hq
      have hep : e = p := by omega
      subst hep
      rw [if_neg (nI_nlt (by omega) (by omega))]
      simp only [jck_true, jde_is, jlt_is, jcl_0, beq_self_eq_true, jT_sI, jT_sJ, jP_sI, jP_sJ, jJ_sI, jI_sJ, jZ_sI, jZ_sJ, h.1.1, h.at hp2]
      obtain ⟨-, -, b3, b4, -, -⟩ := b255 (byt_at h.2.2.2 hp2)
      have hd : l.drop e = l.getD e 0 :: l.drop (e + 1) := drop_getD hp2
      by_cases t : l.getD e 0 = 32 ∨ l.getD e 0 = 10
      · rw [c_blank1 (t.imp b3.mpr b4.mpr), jcl_0, if_neg (by decide), fX7_scan_b77, nI_1]
        refine ih (e + 1) bh (e + 1) n μ hC h hL (by omega) (by omega) (by omega) (by omega) (by omega) hbh (by omega) ?_ h3 ht hq
        have tb : isB (l.getD e 0) = true := by unfold isB; rcases t with t | t <;> (rw [t]; rfl)
        rw [hpl, hd, skp, if_pos tb]; omega
      · have t1 : ¬ l.getD e 0 = 32 := fun x => t (Or.inl x)
        have t2 : ¬ l.getD e 0 = 10 := fun x => t (Or.inr x)
        rw [c_blank0 (fun x => t1 (b3.mp x)) (fun x => t2 (b4.mp x)), jcl_0, if_pos rfl]
        have nbl : isB (l.getD e 0) = false := by unfold isB; rw [decide_eq_false t1, decide_eq_false t2]; rfl
        have hpl : pl l n = e := by rw [hpl, hd, skp, nbl]; rfl
        have hle := hdLen_le (l.drop e)
        have hpos : 1 ≤ hdLen (l.drop e) := by rw [hd]; exact hdLen_pos _ _
        rw [List.length_drop] at hle
        rw [c_runEnd h hp2, jcl_0]
        simp only [jck_true, jde_is, jlt_is, jcl_0, beq_self_eq_true, jT_sI, jT_sJ, jP_sI, jP_sJ, jJ_sI, jI_sJ, jZ_sI, jZ_sJ, cT15 hC, c_tokenOf h hC hL hp2, c_addT hC h3 (show n < 900 by omega)]
        rw [fX7_scan_b77, nI_1]
        have s1 : cs B z [15, 16, 17] μ (jsI (jsI (jsJ μ (B + 16) n (tcode (l.drop e))) (B + 17) n (nI e)) (B + 15) 3 (nI (n + 1))) := ((cs.sJ (by decide)).tr (cs.sI (by decide))).tr (cs.sI (by decide))
        have k1 : ∀ k, k ≠ 3 → jI (jsI (jsI (jsJ μ (B + 16) n (tcode (l.drop e))) (B + 17) n (nI e)) (B + 15) 3 (nI (n + 1))) (B + 15) k = jI μ (B + 15) k := fun k hk => by rw [jI_sI, if_neg (fun t => hk t.2), jI_sI_ne (by omega)]; rfl
        have k3 : jI (jsI (jsI (jsJ μ (B + 16) n (tcode (l.drop e))) (B + 17) n (nI e)) (B + 15) 3 (nI (n + 1))) (B + 15) 3 = nI (n + 1) := by rw [jI_sI, if_pos ⟨rfl, rfl⟩]
        have k16 : ∀ k, jJ (jsI (jsI (jsJ μ (B + 16) n (tcode (l.drop e))) (B + 17) n (nI e)) (B + 15) 3 (nI (n + 1))) (B + 16) k = if k = n then tcode (l.drop e) else jJ μ (B + 16) k := fun k => by
          rw [jJ_sI, jJ_sI, jJ_sJ]
          by_cases e : k = n
          · rw [if_pos ⟨rfl, e⟩, if_pos e]
          · rw [if_neg (fun t => e t.2), if_neg e]
        have k17 : ∀ k, jI (jsI (jsI (jsJ μ (B + 16) n (tcode (l.drop e))) (B + 17) n (nI e)) (B + 15) 3 (nI (n + 1))) (B + 17) k = if k = n then nI e else jI μ (B + 17) k := fun k => by
          rw [jI_sI_ne (by omega), jI_sI]
          by_cases e : k = n
          · rw [if_pos ⟨rfl, e⟩, if_pos e]
          · rw [if_neg (fun t => e t.2), if_neg e]; rfl
        have kZ : jZ (jsI (jsI (jsJ μ (B + 16) n (tcode (l.drop e))) (B + 17) n (nI e)) (B + 15) 3 (nI (n + 1))) = jZ μ := rfl
        generalize jsI (jsI (jsJ μ (B + 16) n (tcode (l.drop e))) (B + 17) n (nI e)) (B + 15) 3 (nI (n + 1)) = μ1 at s1 k1 k3 k16 k17 kZ ⊢
        have hC1 := s1.ct hC hz
        have h1 : SC B i μ1 l := by
          refine ⟨?_, ?_, h.2.2⟩
          · rcases hi with rfl | rfl
            · exact sh3 hC1
            · exact sh7 hC1
          · rcases hi with rfl | rfl
            · exact h.2.1.ke s1 (by omega) (by decide) (by decide)
            · exact h.2.1.ke s1 (by omega) (by decide) (by decide)
        have hL1 : cLang B μ1 := cW.ke hL s1 (by omega) (by decide) (by decide)
        refine (ih (e + 1) (e + hdLen (l.drop e)) (e + hdLen (l.drop e)) (n + 1) μ1 hC1 h1 hL1 (by omega) (by omega) (by omega) (by omega) (by omega) (by omega) (by omega) ?_ k3 (fun k hk => ?_) (fun k hk => ?_)).mono ?_
        · show nxj l (pl l n) = _
          rw [hpl]; rfl
        · rw [k16]
          by_cases e : k = n
          · rw [if_pos e, e, hpl]; exact ⟨hp2, by unfold Cd; rw [hpl]⟩
          · rw [if_neg e]; exact ht k (by omega)
        · rw [k17]
          by_cases e : k = n
          · rw [if_pos e, e, hpl]
          · rw [if_neg e]; exact hq k (by omega)
        · rintro r ν ⟨a1, az, a2, a3⟩
          exact ⟨s1.tr a1, by rw [az, kZ], fun k hk => (a2 k hk).trans (k1 k hk), a3⟩
/-- where the reading stands; a fault; an overlong token ahead -/
def cAt (B : Nat) (μ : JM) (l : List Int32) (n k : Nat) : Prop := cTx B μ l n ∧ jI μ (B + 15) 4 = nI k ∧ jI μ (B + 15) 5 = 0 ∧ k ≤ n
def cF (B : Nat) (μ : JM) (l : List Int32) (e : Er) : Prop := jI μ (B + 15) 5 = flt (pl l e.1) e.2 ∧ ¬ jI μ (B + 15) 5 = 0
theorem c_scan {B i z : Nat} {μ : JM} {l : List Int32} (hi : i = 3 ∨ i = 7) (hz : B + 121 ≤ z) (hC : CT B μ) (h : SC B i μ l) (hL : cLang B μ) : Res (fX7_scan (B + 15) (some (B + i)) μ) (fun _ ν => cs B z [15, 16, 17] μ ν ∧ jZ ν = jZ μ ∧ ∃ n, cAt B ν l n 0) := by
  have hl := h.2.2.1
  unfold fX7_scan
  simp only [jck_true, jde_is, jlt_is, jcl_0, beq_self_eq_true, jT_sI, jT_sJ, jP_sI, jP_sJ, jJ_sI, jI_sJ, jZ_sI, jZ_sJ, cT15 hC, h.1.1]
  have s1 : cs B z [15, 16, 17] μ (jsI (jsI (jsI μ (B + 15) 3 0) (B + 15) 4 0) (B + 15) 5 0) := ((cs.sI (by decide)).tr (cs.sI (by decide))).tr (cs.sI (by decide))
  have k3 : jI (jsI (jsI (jsI μ (B + 15) 3 0) (B + 15) 4 0) (B + 15) 5 0) (B + 15) 3 = 0 := by simp [jI_sI]
  have k4 : jI (jsI (jsI (jsI μ (B + 15) 3 0) (B + 15) 4 0) (B + 15) 5 0) (B + 15) 4 = 0 := by simp [jI_sI]
  have k5 : jI (jsI (jsI (jsI μ (B + 15) 3 0) (B + 15) 4 0) (B + 15) 5 0) (B + 15) 5 = 0 := by simp [jI_sI]
  have kZ : jZ (jsI (jsI (jsI μ (B + 15) 3 0) (B + 15) 4 0) (B + 15) 5 0) = jZ μ := rfl
  generalize jsI (jsI (jsI μ (B + 15) 3 0) (B + 15) 4 0) (B + 15) 5 0 = μ1 at s1 k3 k4 k5 kZ ⊢
  have hC1 := s1.ct hC hz
  have h1 : SC B i μ1 l := by
    refine ⟨?_, ?_, h.2.2⟩
    · rcases hi with rfl | rfl
      · exact sh3 hC1
      · exact sh7 hC1
    · rcases hi with rfl | rfl
      · exact h.2.1.ke s1 (by omega) (by decide) (by decide)
      · exact h.2.1.ke s1 (by omega) (by decide) (by decide)
  have hL1 : cLang B μ1 := cW.ke hL s1 (by omega) (by decide) (by decide)
  rw [h1.2.1.1]
  have em : jmin (nI l.length) 900 = nI l.length := by
    unfold jmin; rw [if_neg (show ¬ (900 : Int32) < nI l.length from nI_nlt (a := 900) hl (by decide))]
  rw [em]
  refine (scan_l hi hz jfuel 0 0 0 0 μ1 hC1 h1 hL1 (by omega) (jfuel_gt (by omega)) (by omega) (by omega) (by omega) (by omega) (by omega) (by rw [List.drop_zero, Nat.zero_add]; rfl) k3 (fun k hk => by omega) (fun k hk => by omega)).mono ?_
  rintro r ν ⟨a1, az, a2, n, a3⟩
  exact ⟨s1.tr a1, by rw [az, kZ], n, a3, (a2 4 (by decide)).trans k4, (a2 5 (by decide)).trans k5, by omega⟩
