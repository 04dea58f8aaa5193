/-! the spec's steps along a text, and the reference's expects, isName -/
abbrev Pos : Type := Nat × List Int32 × Int32
def flt (j k : Nat) : Int32 := nI (1 + 8 * j + k)
def cnx (l : List Int32) (p : Pos) : List Int32 := p.2.1 ++ (if p.2.2 = 0 ∨ p.2.2 = 40 ∨ (tokc (l.drop p.1) = 3 ∧ tokv (l.drop p.1) ≠ 40) then [] else [32]) ++ tokB (l.drop p.1)
def ahx (l : List Int32) (p : Pos) : Int32 := if tokc (l.drop p.1) = 3 then tokv (l.drop p.1) else 1
def sTake (l : List Int32) (p : Pos) : Except Int32 Pos := if ovr (l.drop (nxj l p.1)) then .error (flt (nxj l p.1) 1) else .ok (nxj l p.1, cnx l p, ahx l p)
def sWord (l : List Int32) (p : Pos) (i : Nat) : Except Int32 Pos := if tcode (l.drop p.1) = -3000 - lN i then sTake l p else .error (flt p.1 0)
def sSign (l : List Int32) (p : Pos) (c : Int32) : Except Int32 Pos := if tokc (l.drop p.1) = 3 ∧ tokv (l.drop p.1) = c then sTake l p else .error (flt p.1 0)
def sName (l : List Int32) (p : Pos) : Except Int32 Unit := if tokc (l.drop p.1) = 1 then (if own (l.drop p.1) then .error (flt p.1 2) else .ok ()) else .error (flt p.1 0)
def mOK (M : Nat) (μ : JM) (l : List Int32) (p : Pos) : Prop := MT M μ ∧ mTx M μ l ∧ mLk M μ l p.1 ∧ mCn M μ p.2.1 ∧ jI μ M 21 = p.2.2 ∧ jI μ M 18 = 0 ∧ ovr (l.drop p.1) = false ∧ p.2.1.length ≤ 2 * p.1 ∧ l.length ≤ 1900
/-- what a boolean answer of a reading method says -/
def mRes (M : Nat) (ν : JM) (l : List Int32) (r : Int32) (e : Except Int32 Pos) : Prop := match e with
  | .error f => r = 0 ∧ jI ν M 18 = f ∧ MT M ν
  | .ok p => r = 1 ∧ mOK M ν l p
theorem flt_ne {j k : Nat} (hj : j ≤ 100000) (hk : k ≤ 7) : ¬ flt j k = 0 := nI_ne0 (by omega) (by omega)
theorem flt_pos {j k : Nat} (hj : j ≤ 100000) (hk : k ≤ 7) : ¬ flt j k ≤ 0 := nI_nle (by omega) (by omega)
theorem numB_len {v n : Nat} (h1 : 1 ≤ n) (h : v < 10 ^ n) (hn : n ≤ 3) : (numB v).length ≤ n := by
  unfold numB
  have : n = 1 ∨ n = 2 ∨ n = 3 := by omega
  rcases this with rfl | rfl | rfl
  · rw [if_neg (by omega), if_neg (by omega)]; simp
  · rw [if_neg (by omega)]; split <;> simp
  · split <;> split <;> simp
theorem dval_lt : ∀ (d : List Int32), (∀ c ∈ d, isD c = true) → d.length ≤ 3 → (dval d).toNatClampNeg < 10 ^ d.length := by
  intro d
  have st : ∀ (v m : Nat), 48 ≤ m → dstep (nI v) (nI m) = nI (10 * v + m - 48) := by
    intro v m hm
    unfold dstep
    have a1 : (10 : Int32) * nI v = nI (10 * v) := pk_mul 10 v
    rw [a1, nI_add, show (48 : Int32) = nI 48 from rfl, pk_sub (by omega)]
  match d with
  | [] => intro _ _; decide
  | [a] =>
    intro h _
    obtain ⟨m, m1, m2, rfl⟩ := isD_nat (h a (by simp))
    show (dstep (nI 0) (nI m)).toNatClampNeg < _
    rw [st 0 m m1, nI_clamp (by omega)]; simp; omega
  | [a, e] =>
    intro h _
    obtain ⟨m, m1, m2, rfl⟩ := isD_nat (h a (by simp))
    obtain ⟨n, n1, n2, rfl⟩ := isD_nat (h e (by simp))
    show (dstep (dstep (nI 0) (nI m)) (nI n)).toNatClampNeg < _
    rw [st 0 m m1, st _ n n1, nI_clamp (by omega)]; simp; omega
  | [a, e, f] =>
    intro h _
    obtain ⟨m, m1, m2, rfl⟩ := isD_nat (h a (by simp))
    obtain ⟨n, n1, n2, rfl⟩ := isD_nat (h e (by simp))
    obtain ⟨k, k1, k2, rfl⟩ := isD_nat (h f (by simp))
    show (dstep (dstep (dstep (nI 0) (nI m)) (nI n)) (nI k)).toNatClampNeg < _
    rw [st 0 m m1, st _ n n1, st _ k k1, nI_clamp (by omega)]; simp; omega
  | _ :: _ :: _ :: _ :: _ => intro _ h; simp at h
theorem tokB_le {l : List Int32} (ho : ovr l = false) (hn : l ≠ []) : (tokB l).length ≤ hdLen l := by
  unfold tokB
  split
  next h =>
    cases l with
    | nil => exact absurd rfl hn
    | cons c r =>
      have n1 : ¬ isL c = true := fun y => by simp [tokc, y] at h
      have n2 : isD c = true := by
        by_cases y : isD c = true
        · exact y
        · simp only [tokc, n1, y, Bool.false_eq_true, if_false] at h; split at h <;> simp at h
      have hlen : hdLen (c :: r) = (c :: r.takeWhile isD).length := by simp only [hdLen, n1, n2, if_true, Bool.false_eq_true, if_false, List.length_cons]; omega
      simp only [ovr, n1, n2, Bool.false_eq_true, if_false, if_true, decide_eq_false_iff_not] at ho
      have ha : ∀ d ∈ c :: r.takeWhile isD, isD d = true := by
        intro d hd
        rcases List.mem_cons.mp hd with rfl | hd
        · exact n2
        · exact tw_all d hd
      have hv := dval_lt _ ha (by omega)
      simp only [tokval]
      rw [hlen]
      exact numB_len (by simp) hv (by omega)
  next h => rw [List.length_take]; omega
theorem cnx_le {l : List Int32} {p : Pos} (ho : ovr (l.drop p.1) = false) (hn : l.drop p.1 ≠ []) (h : p.2.1.length ≤ 2 * p.1) : (cnx l p).length ≤ 2 * nxj l p.1 := by
  have h1 := tokB_le ho hn
  have h2 : 1 ≤ hdLen (l.drop p.1) := by
    cases hd : l.drop p.1 with
    | nil => exact absurd hd hn
    | cons c r => exact hdLen_pos c r
  unfold cnx nxj
  simp only [List.length_append]
  split
  · simp; omega
  · simp; omega
theorem tokc_ne {l : List Int32} (h : tokc l = 1 ∨ tokc l = 2 ∨ tokc l = 3) : l ≠ [] := by
  rintro rfl
  rcases h with h | h | h <;> simp [tokc] at h
theorem m_take {M : Nat} {μ : JM} {l : List Int32} {p : Pos} (h : mOK M μ l p) (hcl : tokc (l.drop p.1) = 1 ∨ tokc (l.drop p.1) = 2 ∨ tokc (l.drop p.1) = 3) : ∃ r ν, fX11_takes M μ = some (r, ν, 0, 0) ∧ smI (wTk M) μ ν ∧ mRes M ν l r (sTake l p) := by
  obtain ⟨h1, h2, h3, h4, h5, h6, h7, h8, h9⟩ := h
  have hle := hdLen_le (l.drop p.1)
  rw [List.length_drop] at hle
  have hj := h3.1
  obtain ⟨ν, e1, e2, e3, e4, e5, e6⟩ := m_takes h1 h2 h3 h4 h5 h7 hcl (by omega)
  refine ⟨_, ν, e1, e2, ?_⟩
  by_cases q : ovr (l.drop (nxj l p.1)) = true
  · have hs : sTake l p = .error (flt (nxj l p.1) 1) := by unfold sTake; rw [if_pos q]
    rw [hs]
    refine ⟨if_pos q, ?_, e2.mt h1⟩
    rw [e6, if_pos ⟨q, h6⟩]; rfl
  · have hs : sTake l p = .ok (nxj l p.1, cnx l p, ahx l p) := by unfold sTake; rw [if_neg q]
    rw [hs]
    refine ⟨if_neg q, e2.mt h1, e2.txT h2, e3, e4, e5, ?_, by simpa using q, cnx_le h7 (tokc_ne hcl) h8, h9⟩
    rw [e6, if_neg (fun z => q z.1), h6]
theorem tokc_w {l : List Int32} {i : Nat} (hi : i < 18) (h : tcode l = -3000 - lN i) : tokc l = 1 := by
  have hit : (-3000 - lN i).toInt = -3000 - (i : Int) := sub_toI (-3000) (by decide) (by omega) (by omega) (by omega)
  rcases tcode_cases l with ⟨e1, e2⟩ | ⟨c, r, e1, e2, e3, i2, e4, e5, e6, e7⟩ | ⟨c, r, e1, e2, e3, e4, e5, e6, e7, e8⟩ | ⟨c, r, e1, e2, e3, e4, v, e5, e6, e7, e8⟩ | ⟨c, r, e1, e2, e3, v, e4, e5, e6, e7⟩ | ⟨c, r, e1, e2, e3⟩
  · rw [e2] at h; have := congrArg Int64.toInt h; rw [hit] at this; simp at this; omega
  · rw [e1]; simp [tokc, e2]
  · rw [e1]; simp [tokc, e2]
  · rw [h, hit] at e8; omega
  · rw [h, hit] at e7; omega
  · rw [e3] at h; have := congrArg Int64.toInt h; rw [hit] at this
    have e : (-2000 : Int64).toInt = -2000 := by decide
    rw [e] at this; omega
theorem mFail_0 {M : Nat} {μ : JM} {j k : Nat} (h : jI μ M 18 = 0) : mFail M μ (nI k) (nI j) = jsI μ M 18 (flt j k) := by
  unfold mFail; rw [if_pos h]
  have a1 : (8 : Int32) * nI j = nI (8 * j) := pk_mul 8 j
  have a2 : (1 : Int32) + nI (8 * j) = nI (1 + 8 * j) := nI_add 1 (8 * j)
  rw [a1, a2, nI_add]; rfl
theorem m_fail {M : Nat} {μ : JM} {l : List Int32} {p : Pos} (h : mOK M μ l p) (k : Nat) : ∃ ν, fX11_fails M (nI k) (jI μ M 15) μ = some (0, ν, 0, 0) ∧ smI (wTk M) μ ν ∧ mRes M ν l 0 (.error (flt p.1 k)) := by
  obtain ⟨h1, h2, h3, h4, h5, h6, h7, h8, h9⟩ := h
  refine ⟨jsI μ M 18 (flt p.1 k), ?_, smI.set (Or.inl ⟨rfl, by omega⟩), rfl, by rw [jI_sI, if_pos ⟨rfl, rfl⟩], h1⟩
  rw [m_fails h1, h3.2.2.1, mFail_0 h6]
theorem m_expects {M : Nat} {μ : JM} {l : List Int32} {p : Pos} (h : mOK M μ l p) (i : Nat) (hi : i < 18) : ∃ r ν, fX11_expects M (lN (oursN.getD i 0)) μ = some (r, ν, 0, 0) ∧ smI (wTk M) μ ν ∧ mRes M ν l r (sWord l p i) := by
  obtain ⟨h1, h2, h3, h4, h5, h6, h7, h8, h9⟩ := id h
  rw [fX11_expects]
  simp only [jck_true, beq_self_eq_true, h1.1, h6, if_true, m_isWord h1 h2 h3 i hi, jcl_0]
  unfold sWord
  by_cases q : tcode (l.drop p.1) = -3000 - lN i
  · simp only [if_pos q]
    rw [if_neg (by decide), fX11_expects_b27]
    simp only [jck_true, beq_self_eq_true, h1.1]
    obtain ⟨r, ν, e1, e2, e3⟩ := m_take h (Or.inl (tokc_w hi q))
    rw [e1]; simp only [jcl_0]
    cases hs : sTake l p with
    | error f =>
      rw [hs] at e3
      obtain ⟨e4, e5⟩ := e3
      subst e4
      exact ⟨0, ν, by rw [if_pos rfl], e2, rfl, e5⟩
    | ok p2 =>
      rw [hs] at e3
      obtain ⟨e4, e5⟩ := e3
      subst e4
      exact ⟨1, ν, by rw [if_neg (by decide)], e2, rfl, e5⟩
  · simp only [if_neg q]
    obtain ⟨ν, e1, e2, e3⟩ := m_fail h 0
    rw [if_pos trivial, show fX11_fails M 0 (jI μ M 15) μ = some (0, ν, 0, 0) from e1]; simp only [jcl_0]
    exact ⟨0, ν, by rw [if_pos trivial], e2, e3⟩
theorem m_expectsSign {M : Nat} {μ : JM} {l : List Int32} {p : Pos} (h : mOK M μ l p) (c : Int32) : ∃ r ν, fX11_expectsSign M c μ = some (r, ν, 0, 0) ∧ smI (wTk M) μ ν ∧ mRes M ν l r (sSign l p c) := by
  obtain ⟨h1, h2, h3, h4, h5, h6, h7, h8, h9⟩ := id h
  rw [fX11_expectsSign]
  simp only [jck_true, beq_self_eq_true, h1.1, h6, if_true, m_isSign h1 h3, jcl_0]
  unfold sSign
  by_cases q : tokc (l.drop p.1) = 3 ∧ tokv (l.drop p.1) = c
  · simp only [if_pos q]
    rw [if_neg (by decide), fX11_expectsSign_b27]
    simp only [jck_true, beq_self_eq_true, h1.1]
    obtain ⟨r, ν, e1, e2, e3⟩ := m_take h (Or.inr (Or.inr q.1))
    rw [e1]; simp only [jcl_0]
    cases hs : sTake l p with
    | error f =>
      rw [hs] at e3
      obtain ⟨e4, e5⟩ := e3
      subst e4
      exact ⟨0, ν, by rw [if_pos rfl], e2, rfl, e5⟩
    | ok p2 =>
      rw [hs] at e3
      obtain ⟨e4, e5⟩ := e3
      subst e4
      exact ⟨1, ν, by rw [if_neg (by decide)], e2, rfl, e5⟩
  · simp only [if_neg q]
    obtain ⟨ν, e1, e2, e3⟩ := m_fail h 0
    rw [if_pos trivial, show fX11_fails M 0 (jI μ M 15) μ = some (0, ν, 0, 0) from e1]; simp only [jcl_0]
    exact ⟨0, ν, by rw [if_pos trivial], e2, e3⟩
theorem m_isName {M : Nat} {μ : JM} {l : List Int32} {p : Pos} (h : mOK M μ l p) : ∃ r ν, fX11_isName M μ = some (r, ν, 0, 0) ∧ smI (wTk M) μ ν ∧ (match sName l p with | .error f => r = 0 ∧ jI ν M 18 = f ∧ MT M ν | .ok _ => r = 1 ∧ ν = μ) := by
  obtain ⟨h1, h2, h3, h4, h5, h6, h7, h8, h9⟩ := id h
  have k6 := h3.2.2.2.2.2.1
  rw [fX11_isName]
  simp only [jck_true, beq_self_eq_true, h1.1, h6, k6, m_isOwn h1 h2 h3, jcl_0]
  rw [if_pos (by decide)]
  unfold sName
  by_cases q1 : tokc (l.drop p.1) = 1
  · simp only [if_pos q1]
    by_cases q2 : own (l.drop p.1) = true
    · simp only [if_pos q2]
      rw [if_neg (by decide)]
      obtain ⟨ν, e1, e2, e3⟩ := m_fail h 2
      rw [show (2 : Int32) = nI 2 from rfl, e1]; simp only [jcl_0]
      exact ⟨0, ν, by rw [if_pos trivial], e2, e3⟩
    · simp only [if_neg q2]
      exact ⟨1, μ, by rw [if_pos trivial], smI.rf, rfl, rfl⟩
  · simp only [if_neg q1]
    obtain ⟨ν, e1, e2, e3⟩ := m_fail h 0
    rw [show fX11_fails M 0 (jI μ M 15) μ = some (0, ν, 0, 0) from e1]; simp only [jcl_0]
    exact ⟨0, ν, by rw [jck_of (by decide)], e2, e3⟩
