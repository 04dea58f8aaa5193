/-! the class: Sheets -/
def SH (B i room : Nat) (μ : JM) : Prop := (jT μ (B + i)).1 = 7 ∧ jP μ (B + i) 0 = some (B + (i + 1)) ∧ jT μ (B + (i + 1)) = (100, room) ∧ jP μ (B + i) 1 = some (B + 1)
def cS (B i room : Nat) (μ : JM) (l : List Int32) : Prop := jI μ (B + i) 2 = nI l.length ∧ l.length < 2 ^ 30 ∧ ∀ j, j < l.length → j < room → jI μ (B + (i + 1)) j = l.getD j 0
theorem cS.ke {B i room z : Nat} {μ ν : JM} {l : List Int32} {as : List Nat} (h : cS B i room μ l) (s : cs B z as μ ν) (hz : B + (i + 1) < z) (h1 : i ∉ as) (h2 : i + 1 ∉ as) : cS B i room ν l := ⟨by rw [s.iI (by omega) h1]; exact h.1, h.2.1, fun j hj hr => by rw [s.iI hz h2]; exact h.2.2 j hj hr⟩
theorem sh3 {B : Nat} {μ : JM} (h : CT B μ) : SH B 3 900 μ := ⟨by rw [cT3 h], cP3_0 h, cT4 h, cP3_1 h⟩
theorem sh5 {B : Nat} {μ : JM} (h : CT B μ) : SH B 5 1800 μ := ⟨by rw [cT5 h], cP5_0 h, cT6 h, cP5_1 h⟩
theorem sh7 {B : Nat} {μ : JM} (h : CT B μ) : SH B 7 900 μ := ⟨by rw [cT7 h], cP7_0 h, cT8 h, cP7_1 h⟩
theorem SH.ke {B i room z : Nat} {μ ν : JM} {as : List Nat} (h : SH B i room μ) (s : cs B z as μ ν) (hz : B + (i + 1) < z) (hj : B + (i + 1) < jZ μ) : SH B i room ν := ⟨by rw [s.2.1 _ (by omega)]; exact h.1, by rw [s.iP (by omega)]; exact h.2.1, by rw [s.2.1 _ hj]; exact h.2.2.1, by rw [s.iP (by omega)]; exact h.2.2.2⟩
theorem c_clr {B i room z : Nat} {μ : JM} (h : SH B i room μ) : Res (fX6_clear (B + i) μ) (fun _ ν => cs B z [i] μ ν ∧ cS B i room ν [] ∧ jZ ν = jZ μ) := by
  unfold fX6_clear
  simp only [jck_true, jde_is, jlt_is, jcl_0, beq_self_eq_true, jT_sI, jT_sJ, jP_sI, jP_sJ, jJ_sI, jI_sJ, jZ_sI, jZ_sJ, h.1]
  refine .ret ⟨cs.sI (by simp), ⟨?_, by decide, fun j hj => absurd hj (by simp)⟩, rfl⟩
  rw [jI_sI, if_pos ⟨rfl, rfl⟩]; rfl
theorem c_addByte {B i room z : Nat} {μ : JM} {l : List Int32} (x : Int32) (h : SH B i room μ) (w : cS B i room μ l) (hr : room < 2 ^ 30) (hl : l.length + 1 < 2 ^ 30) : Res (fX6_addByte (B + i) x μ) (fun _ ν => cs B z [i, i + 1] μ ν ∧ cS B i room ν (l ++ [nb x]) ∧ SH B i room ν ∧ jJ ν = jJ μ ∧ jZ ν = jZ μ ∧ jT ν = jT μ ∧ jP ν = jP μ) := by
  obtain ⟨w1, w2, w3⟩ := w
  unfold fX6_addByte
  simp only [jck_true, jde_is, jlt_is, jcl_0, beq_self_eq_true, jT_sI, jT_sJ, jP_sI, jP_sJ, jJ_sI, jI_sJ, jZ_sI, jZ_sJ, h.1, h.2.1, h.2.2.1, w1]
  by_cases q : room ≤ l.length
  · rw [if_pos (nI_le q (by omega)), fX6_addByte_b23]
    simp only [jck_true, jde_is, jlt_is, jcl_0, beq_self_eq_true, jT_sI, jT_sJ, jP_sI, jP_sJ, jJ_sI, jI_sJ, jZ_sI, jZ_sJ, h.1, w1, nI_1]
    refine .ret ⟨cs.sI (by simp), ⟨?_, by simp; omega, fun j hj hr => ?_⟩, h, rfl, rfl, rfl, rfl⟩
    · rw [jI_sI, if_pos ⟨rfl, rfl⟩]; simp
    · rw [jI_sI_ne (by omega), w3 j (by omega) hr]; simp [List.getD, List.getElem?_append_left (show j < l.length by omega)]
  · rw [if_neg (nI_ge (by omega) (by omega))]
    simp only [jck_true, jde_is, jlt_is, jcl_0, beq_self_eq_true, jT_sI, jT_sJ, jP_sI, jP_sJ, jJ_sI, jI_sJ, jZ_sI, jZ_sJ, jin_nI (show l.length < room by omega) (by omega), nI_clamp (show l.length < 2 ^ 31 by omega), vp_byte, nb_b8]
    rw [fX6_addByte_b23]
    have e1 : jI (jsI μ (B + (i + 1)) l.length (nb x)) (B + i) 2 = nI l.length := by rw [jI_sI_ne (by omega), w1]
    simp only [jck_true, jde_is, jlt_is, jcl_0, beq_self_eq_true, jT_sI, jT_sJ, jP_sI, jP_sJ, jJ_sI, jI_sJ, jZ_sI, jZ_sJ, h.1, e1, nI_1]
    refine .ret ⟨(cs.sI (by simp)).tr (cs.sI (by simp)), ⟨?_, by simp; omega, fun j hj hr => ?_⟩, h, rfl, rfl, rfl, rfl⟩
    · rw [jI_sI, if_pos ⟨rfl, rfl⟩]; simp
    · rw [jI_sI_ne (by omega), jI_sI]
      by_cases t : j = l.length
      · rw [if_pos ⟨rfl, t⟩, t]; simp [List.getD]
      · have : j < l.length := by simp at hj; omega
        rw [if_neg (fun y => t y.2), w3 j this hr]; simp [List.getD, List.getElem?_append_left this]
theorem c_addFour {B i room z : Nat} {μ : JM} {l : List Int32} (x : Int32) (h : SH B i room μ) (w : cS B i room μ l) (hr : room < 2 ^ 30) (hl : l.length + 4 < 2 ^ 30) : Res (fX6_addFour (B + i) x μ) (fun _ ν => cs B z [i, i + 1] μ ν ∧ cS B i room ν (l ++ four x) ∧ SH B i room ν) := by
  unfold fX6_addFour
  rw [jck_of (by rw [h.1]; rfl)]
  refine Res.cl (c_addByte (z := z) _ h w hr (by omega)) fun _ μ1 ⟨s1, w1, h1, _⟩ => ?_
  rw [jck_of (by rw [h1.1]; rfl)]
  refine Res.cl (c_addByte (z := z) _ h1 w1 hr (by simp; omega)) fun _ μ2 ⟨s2, w2, h2, _⟩ => ?_
  rw [jck_of (by rw [h2.1]; rfl)]
  refine Res.cl (c_addByte (z := z) _ h2 w2 hr (by simp; omega)) fun _ μ3 ⟨s3, w3, h3, _⟩ => ?_
  rw [jck_of (by rw [h3.1]; rfl)]
  refine Res.cl (c_addByte (z := z) _ h3 w3 hr (by simp; omega)) fun _ μ4 ⟨s4, w4, h4, _⟩ => ?_
  refine .ret ⟨((s1.tr s2).tr s3).tr s4, ?_, h4⟩
  have e : l ++ [nb (jushr x 24)] ++ [nb (jushr x 16)] ++ [nb (jushr x 8)] ++ [nb x] = l ++ four x := by simp [four]
  rw [← e]; exact w4
theorem c_byteAt {B i room j : Nat} {μ : JM} {l : List Int32} (h : SH B i room μ) (w : cS B i room μ l) (hr : room < 2 ^ 30) (hl : l.length ≤ room) (hj : j < l.length) : fX6_byteAt (B + i) (nI j) μ = some (l.getD j 0 &&& 255, μ, 0, 0) := by
  unfold fX6_byteAt
  rw [if_neg (nI_pos (by omega))]
  simp only [jck_true, jde_is, jlt_is, jcl_0, beq_self_eq_true, jT_sI, jT_sJ, jP_sI, jP_sJ, jJ_sI, jI_sJ, jZ_sI, jZ_sJ, h.1, w.1]
  rw [if_neg (nI_ge hj (by omega))]
  simp only [jck_true, jde_is, jlt_is, jcl_0, beq_self_eq_true, jT_sI, jT_sJ, jP_sI, jP_sJ, jJ_sI, jI_sJ, jZ_sI, jZ_sJ, h.2.1, h.2.2.1]
  rw [if_pos (nI_lt (by omega) (by omega))]
  simp only [jck_true, jde_is, jlt_is, jcl_0, beq_self_eq_true, jT_sI, jT_sJ, jP_sI, jP_sJ, jJ_sI, jI_sJ, jZ_sI, jZ_sJ, jin_nI (show j < room by omega) (by omega), nI_clamp (show j < 2 ^ 31 by omega), w.2.2 j hj (by omega)]
theorem c_byteAt2 {B i room : Nat} {μ : JM} {l : List Int32} {x : Int32} (h : SH B i room μ) (w : cS B i room μ l) (hr : room < 2 ^ 30) (hl : l.length ≤ room) : fX6_byteAt (B + i) x μ = some (match inR x l.length with | none => -1 | some k => l.getD k 0 &&& 255, μ, 0, 0) := by
  cases hx : inR x l.length with
  | some k =>
    obtain ⟨rfl, hk⟩ := inR_some hx
    exact c_byteAt h w hr hl hk
  | none =>
    unfold fX6_byteAt
    by_cases q : x < 0
    · rw [if_pos q]
    · rw [if_neg q]
      obtain ⟨j, hj, rfl⟩ := nI_of q
      have : ¬ j < l.length := by
        intro t
        unfold inR at hx
        rw [if_pos ⟨nI_pos' hj, by rw [nI_clamp hj]; exact t⟩] at hx
        cases hx
      simp only [jck_true, jde_is, jlt_is, jcl_0, beq_self_eq_true, jT_sI, jT_sJ, jP_sI, jP_sJ, jJ_sI, jI_sJ, jZ_sI, jZ_sJ, h.1, w.1]
      rw [if_pos (nI_le (by omega) hj)]
