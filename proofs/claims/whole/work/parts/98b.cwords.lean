/-! the class: Words -/
def WH (B i mx : Nat) (μ : JM) : Prop := (jT μ (B + i)).1 = 10 ∧ jP μ (B + i) 0 = some (B + (i + 1)) ∧ jT μ (B + (i + 1)) = (102, mx)
def cW (B i mx : Nat) (μ : JM) (P : List Int64) : Prop := jI μ (B + i) 1 = nI P.length ∧ P.length ≤ mx ∧ ∀ j, j < P.length → jJ μ (B + (i + 1)) j = P.getD j 0
theorem cW.ke {B i mx z : Nat} {μ ν : JM} {P : List Int64} {as : List Nat} (h : cW B i mx μ P) (s : cs B z as μ ν) (hz : B + (i + 1) < z) (h1 : i ∉ as) (h2 : i + 1 ∉ as) : cW B i mx ν P := ⟨by rw [s.iI (by omega) h1]; exact h.1, h.2.1, fun j hj => by rw [s.iJ hz h2]; exact h.2.2 j hj⟩
theorem wh1 {B : Nat} {μ : JM} (h : CT B μ) : WH B 1 18 μ := ⟨by rw [cT1 h], cP1_0 h, cT2 h⟩
theorem wh9 {B : Nat} {μ : JM} (h : CT B μ) : WH B 9 8 μ := ⟨by rw [cT9 h], cP9_0 h, cT10 h⟩
theorem wh11 {B : Nat} {μ : JM} (h : CT B μ) : WH B 11 6 μ := ⟨by rw [cT11 h], cP11_0 h, cT12 h⟩
theorem wh13 {B : Nat} {μ : JM} (h : CT B μ) : WH B 13 12 μ := ⟨by rw [cT13 h], cP13_0 h, cT14 h⟩
theorem oI_map {n : Nat} (x : Option Nat) : oI n (x.map (· + 1)) = oI (n + 1) x := by
  cases x with
  | none => rfl
  | some i => simp only [Option.map_some, oI]; congr 1; omega
theorem cfind_l {B i mx : Nat} {μ : JM} {P : List Int64} {y : Int64} (h : WH B i mx μ) (w : cW B i mx μ P) (hm : mx ≤ 1000) : ∀ (fu n : Nat), n ≤ P.length → P.length - n < fu → fX9_find_b2 fu (B + i) y (nI n) μ = some (oI n ((P.drop n).idxOf? y), μ, 0, 0) := by
  obtain ⟨w1, w2, w3⟩ := w
  intro fu
  induction fu with
  | zero => intro n _ q; omega
  | succ fu ih =>
    intro n hn hf
    rw [fX9_find_b2]
    simp only [jck_true, jde_is, jlt_is, jcl_0, beq_self_eq_true, jT_sI, jT_sJ, jP_sI, jP_sJ, jJ_sI, jI_sJ, jZ_sI, jZ_sJ, h.1, w1]
    by_cases q : n = P.length
    · rw [if_pos (nI_le (by omega) (by omega)), q, List.drop_length]; rfl
    · have hn2 : n < P.length := by omega
      rw [if_neg (nI_ge hn2 (by omega))]
      simp only [jck_true, jde_is, jlt_is, jcl_0, beq_self_eq_true, jT_sI, jT_sJ, jP_sI, jP_sJ, jJ_sI, jI_sJ, jZ_sI, jZ_sJ, h.2.1, h.2.2, jin_nI (show n < mx by omega) (by omega), nI_clamp (show n < 2 ^ 31 by omega), w3 n hn2, lg_cmp_0, nI_1]
      rw [drop_getD (d := 0) hn2, List.idxOf?_cons]
      by_cases e : P.getD n 0 = y
      · rw [if_pos e, if_pos (by rw [e]; exact beq_self_eq_true y)]; rfl
      · rw [if_neg e, if_neg (by simpa using e), ih (n + 1) (by omega) (by omega), oI_map]
theorem c_find {B i mx : Nat} {μ : JM} {P : List Int64} {y : Int64} (h : WH B i mx μ) (w : cW B i mx μ P) (hm : mx ≤ 1000) : fX9_find (B + i) y μ = some (oI 0 (P.idxOf? y), μ, 0, 0) := by
  unfold fX9_find
  have := cfind_l (y := y) h w hm jfuel 0 (by omega) (jfuel_gt (by have := w.2.1; omega))
  rw [List.drop_zero] at this
  exact this
theorem c_add {B i mx z : Nat} {μ : JM} {P : List Int64} {y : Int64} (h : WH B i mx μ) (w : cW B i mx μ P) (hm : mx ≤ 1000) (hp : P.length < mx) : Res (fX9_add (B + i) y μ) (fun r ν => r = nI P.length ∧ cs B z [i, i + 1] μ ν ∧ cW B i mx ν (P ++ [y]) ∧ jZ ν = jZ μ) := by
  obtain ⟨w1, w2, w3⟩ := w
  unfold fX9_add
  simp only [jck_true, jde_is, jlt_is, jcl_0, beq_self_eq_true, jT_sI, jT_sJ, jP_sI, jP_sJ, jJ_sI, jI_sJ, jZ_sI, jZ_sJ, h.1, h.2.1, h.2.2, w1]
  rw [if_pos (nI_lt hp (by omega))]
  simp only [jck_true, jde_is, jlt_is, jcl_0, beq_self_eq_true, jT_sI, jT_sJ, jP_sI, jP_sJ, jJ_sI, jI_sJ, jZ_sI, jZ_sJ, jin_nI (show P.length < mx by omega) (by omega), nI_clamp (show P.length < 2 ^ 31 by omega), w1, nI_1]
  have e1 : ∀ v, jI (jsI (jsJ μ (B + (i + 1)) P.length y) (B + i) 1 v) (B + i) 1 = v := fun v => by rw [jI_sI, if_pos ⟨rfl, rfl⟩]
  rw [e1, nI_pred]
  refine .ret ⟨rfl, (cs.sJ (by simp)).tr (cs.sI (by simp)), ⟨?_, by simp; omega, fun j hj => ?_⟩, rfl⟩
  · rw [e1]; simp
  · rw [jJ_sI, jJ_sJ]
    by_cases q : j = P.length
    · rw [if_pos ⟨rfl, q⟩, q]; simp [List.getD]
    · have : j < P.length := by simp at hj; omega
      rw [if_neg (fun t => q t.2), w3 j this]; simp [List.getD, List.getElem?_append_left this]
theorem c_addno {B i mx : Nat} {μ : JM} {P : List Int64} {y : Int64} (h : WH B i mx μ) (w : cW B i mx μ P) (hm : mx ≤ 1000) (hp : P.length = mx) : fX9_add (B + i) y μ = some (-1, μ, 0, 0) := by
  unfold fX9_add
  simp only [jck_true, jde_is, jlt_is, jcl_0, beq_self_eq_true, jT_sI, jT_sJ, jP_sI, jP_sJ, jJ_sI, jI_sJ, jZ_sI, jZ_sJ, h.1, h.2.1, h.2.2, w.1]
  rw [if_neg (nI_nlt (by omega) (by omega))]
theorem c_cut {B i mx z n : Nat} {μ : JM} {P : List Int64} (h : WH B i mx μ) (w : cW B i mx μ P) (hm : mx ≤ 1000) (hn : n ≤ P.length) : Res (fX9_cut (B + i) (nI n) μ) (fun _ ν => cs B z [i] μ ν ∧ cW B i mx ν (P.take n) ∧ jZ ν = jZ μ) := by
  obtain ⟨w1, w2, w3⟩ := w
  unfold fX9_cut
  simp only [jck_true, jde_is, jlt_is, jcl_0, beq_self_eq_true, jT_sI, jT_sJ, jP_sI, jP_sJ, jJ_sI, jI_sJ, jZ_sI, jZ_sJ, h.1, w1]
  have e1 : jmax (nI n) 0 = nI n := by unfold jmax; rw [if_neg (nI_pos (by omega))]
  have e2 : jmin (nI P.length) (nI n) = nI n := by
    unfold jmin
    by_cases q : n = P.length
    · rw [q, if_neg (nI_nlt (by omega) (by omega))]
    · rw [if_pos (nI_lt (by omega) (by omega))]
  rw [e1, e2]
  refine .ret ⟨cs.sI (by simp), ⟨?_, by simp; omega, fun j hj => ?_⟩, rfl⟩
  · rw [jI_sI, if_pos ⟨rfl, rfl⟩, List.length_take, Nat.min_eq_left hn]
  · have : j < n := by simp at hj; omega
    rw [jJ_sI, w3 j (by omega)]; simp [List.getD, List.getElem?_take, this]
/-! the class: letters of a code -/
theorem c_isFree {y : Int64} {μ : JM} : fX10_isFreeWord y μ = some (if 0 < y then 1 else 0, μ, 0, 0) := by
  unfold fX10_isFreeWord
  simp only [lg_cmp_le]
  by_cases q : 0 < y
  · rw [if_neg (Int64.not_le.mpr q), if_pos q]
  · rw [if_pos (Int64.not_lt.mp q), if_neg q]
theorem c_isOurs {y : Int64} {μ : JM} : fX10_isOurs y μ = some (if y ≤ -3000 then 1 else 0, μ, 0, 0) := by
  unfold fX10_isOurs
  simp only [lg_cmp_gt]
  by_cases q : y ≤ -3000
  · rw [if_neg (Int64.not_lt.mpr q), if_pos q]
  · rw [if_pos (Int64.not_le.mp q), if_neg q]
theorem c_isNum {y : Int64} {μ : JM} : fX10_isNumber y μ = some (if isNm y = true then 1 else 0, μ, 0, 0) := by
  unfold fX10_isNumber isNm
  simp only [lg_cmp_gt, lg_cmp_le]
  by_cases q : y ≤ -1000
  · rw [if_neg (Int64.not_lt.mpr q)]
    by_cases t : y ≤ -2000
    · rw [if_pos t, if_neg]; simp only [Bool.and_eq_true, decide_eq_true_eq]; exact fun z => absurd t (Int64.not_le.mpr z.1)
    · rw [if_neg t, if_pos]; simp only [Bool.and_eq_true, decide_eq_true_eq]; exact ⟨Int64.not_le.mp t, q⟩
  · rw [if_pos (Int64.not_le.mp q), if_neg]; simp only [Bool.and_eq_true, decide_eq_true_eq]; exact fun z => q z.2
