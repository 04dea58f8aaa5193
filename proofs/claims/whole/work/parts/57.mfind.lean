/-! the reference: find and name: words kept by their bytes -/
def mTb (μ : JM) (A S : Nat) (ws : List (List Int32)) : Prop := ∀ n, n < ws.length → jI μ S n = nI (ws.getD n []).length ∧ Sg (jI μ A) (12 * n) (ws.getD n []) ∧ (ws.getD n []).length ≤ 12
/-- the word that is looked at -/
def mWd (M : Nat) (μ : JM) (l : List Int32) (j : Nat) : Prop := MT M μ ∧ mTx M μ l ∧ mLk M μ l j ∧ tokc (l.drop j) = 1 ∧ ovr (l.drop j) = false
theorem mWd.len {M : Nat} {μ : JM} {l : List Int32} {j : Nat} (h : mWd M μ l j) : hdLen (l.drop j) = (hw (l.drop j)).length ∧ (hw (l.drop j)).length ≤ 12 ∧ 1 ≤ (hw (l.drop j)).length := by
  obtain ⟨-, -, -, h4, h5⟩ := h
  cases hd : l.drop j with
  | nil => rw [hd] at h4; simp [tokc] at h4
  | cons c r =>
    rw [hd] at h4 h5
    have cL : isL c = true := by
      by_cases y : isL c = true
      · exact y
      · simp only [tokc, y, Bool.false_eq_true, if_false] at h4; split at h4
        · simp at h4
        · split at h4 <;> simp at h4
    simp only [ovr, cL, if_true, decide_eq_false_iff_not] at h5
    have := hdLen_w (r := r) cL
    have := hdLen_pos c r
    omega
theorem hw_get {l : List Int32} {j k : Nat} (h : k < (hw (l.drop j)).length) : l.getD (j + k) 0 = (hw (l.drop j)).getD k 0 := by
  have hp : (l.drop j)[k]? = (hw (l.drop j))[k]? := by
    obtain ⟨t, et⟩ : (hw (l.drop j)) <+: l.drop j := List.takeWhile_prefix isL
    conv => lhs; rw [← et]
    exact List.getElem?_append_left h
  rw [List.getD_eq_getElem?_getD, List.getD_eq_getElem?_getD, ← hp, List.getElem?_drop]
theorem list_ext {u w : List Int32} (h : u.length = w.length) (e : ∀ i, i < u.length → u.getD i 0 = w.getD i 0) : u = w := by
  refine List.ext_getElem h fun i h1 h2 => ?_
  have := e i h1
  simpa [List.getD, h1, h2] using this
theorem find_in {M A S n : Nat} {x3 : Int32} {μ : JM} {l : List Int32} {j : Nat} {u : List Int32} {rec3 : Nat → Option Nat → Option Nat → Int32 → Int32 → JM → JO Int32} (h : mWd M μ l j) (hA : (jT μ A).1 = 100) (hA2 : 12 * n + 12 ≤ (jT μ A).2) (hA3 : (jT μ A).2 < 2 ^ 31) (hu : Sg (jI μ A) (12 * n) u) (hul : u.length = (hw (l.drop j)).length) : ∀ (fu k : Nat), k ≤ u.length → (∀ i, i < k → u.getD i 0 = (hw (l.drop j)).getD i 0) → u.length - k + 1 < fu →
    fX11_find_b30 rec3 fu M (some A) (some S) x3 (nI n) 1 (nI k) μ = fX11_find_b82 rec3 M (some A) (some S) x3 (nI n) (if u = hw (l.drop j) then 1 else 0) μ := by
  obtain ⟨g1, g2, g3⟩ := h.len
  obtain ⟨h1, h2, h3, h4, h5⟩ := h
  have k5 := h3.2.2.2.2.1
  have k3 := h3.2.2.1
  have hl := h2.2.2
  have hle := hdLen_le (l.drop j)
  rw [List.length_drop] at hle
  have hjl := h3.1
  intro fu
  induction fu with
  | zero => intro k _ _ q; omega
  | succ fu ih =>
    intro k hk hp hf
    rw [fX11_find_b30, if_neg (by decide)]
    simp only [jck_true, beq_self_eq_true, h1.1, k5]
    by_cases q : k = u.length
    · rw [if_pos (nI_le (by omega) (by omega))]
      have : u = hw (l.drop j) := list_ext hul (fun i hi => hp i (by omega))
      rw [if_pos this]
    · have hk2 : k < u.length := by omega
      rw [if_neg (nI_ge (by omega) (by omega))]
      have e12 : (12 : Int32) * nI n + nI k = nI (12 * n + k) := by rw [show (12 : Int32) = nI 12 from rfl, pk_mul, nI_add]
      have hjk : j + k < l.length := by omega
      simp only [jde_is, hA, beq_self_eq_true, jck_true, e12, jin_nI (show 12 * n + k < (jT μ A).2 by omega) hA3, mP_text h1, mT_text h1, k3, nI_add, jin_nI (show j + k < 2400 by omega) (by decide), nI_clamp (show 12 * n + k < 2 ^ 31 by omega), nI_clamp (show j + k < 2 ^ 31 by omega), h2.at hjk, hu k hk2]
      rw [hw_get (by omega)]
      by_cases c : u.getD k 0 = (hw (l.drop j)).getD k 0
      · rw [if_pos c, fX11_find_b74, nI_1]
        exact ih (k + 1) (by omega) (fun i hi => by
          by_cases e : i = k
          · subst e; exact c
          · exact hp i (by omega)) (by omega)
      · rw [if_neg c, fX11_find_b74, nI_1]
        obtain ⟨f2, rfl⟩ : ∃ f2, fu = f2 + 1 := ⟨fu - 1, by omega⟩
        rw [fX11_find_b30, if_pos rfl, if_neg]
        intro e; exact c (by rw [e])
def ixI (ws : List (List Int32)) (w : List Int32) (n : Nat) : Int32 := match (ws.drop n).idxOf? w with
  | some i => nI (n + i)
  | none => -1
theorem find_l {M A S : Nat} {μ : JM} {l : List Int32} {j : Nat} {ws : List (List Int32)} (h : mWd M μ l j) (hA : (jT μ A).1 = 100) (hA2 : 12 * ws.length ≤ (jT μ A).2) (hA3 : (jT μ A).2 < 2 ^ 31) (hS : (jT μ S).1 = 101) (hS2 : ws.length ≤ (jT μ S).2) (hS3 : (jT μ S).2 < 2 ^ 31) (hw1 : mTb μ A S ws) : ∀ (fu n : Nat), n ≤ ws.length → ws.length - n < fu → fX11_find_b3 fu M (some A) (some S) (nI ws.length) (nI n) μ = some (ixI ws (hw (l.drop j)) n, μ, 0, 0) := by
  obtain ⟨g1, g2, g3⟩ := h.len
  have h1 := h.1
  have k5 := h.2.2.1.2.2.2.2.1
  intro fu
  induction fu with
  | zero => intro n _ q; omega
  | succ fu ih =>
    intro n hn hf
    rw [fX11_find_b3]
    by_cases q : n = ws.length
    · rw [if_pos (nI_le (by omega) (by omega))]
      unfold ixI
      rw [q, List.drop_length]; rfl
    · have hn2 : n < ws.length := by omega
      obtain ⟨t1, t2, t3⟩ := hw1 n hn2
      have hd : ws.drop n = ws.getD n [] :: ws.drop (n + 1) := by
        rw [List.drop_eq_getElem_cons hn2]; congr 1; simp [List.getD, hn2]
      rw [if_neg (nI_ge hn2 (by omega))]
      simp only [jde_is, hS, beq_self_eq_true, jck_true, jin_nI (show n < (jT μ S).2 by omega) hS3, h1.1, nI_clamp (show n < 2 ^ 31 by omega), t1, k5, g1]
      have nxt : fX11_find_b3 fu M (some A) (some S) (nI ws.length) (nI n + 1) μ = some (ixI ws (hw (l.drop j)) (n + 1), μ, 0, 0) := by
        rw [nI_1]; exact ih (n + 1) (by omega) (by omega)
      have hne : ¬ ws.getD n [] = hw (l.drop j) → ixI ws (hw (l.drop j)) n = ixI ws (hw (l.drop j)) (n + 1) := by
        intro c
        unfold ixI
        rw [hd, List.idxOf?_cons, if_neg (by simpa using c)]
        cases (ws.drop (n + 1)).idxOf? (hw (l.drop j)) with
        | none => rfl
        | some i => simp only [Option.map_some]; congr 1; omega
      by_cases c : (ws.getD n []).length = (hw (l.drop j)).length
      · rw [if_pos (by rw [c]), fX11_find_b25]
        have := find_in (S := S) (x3 := nI ws.length) (rec3 := fX11_find_b3 fu) h hA (show 12 * n + 12 ≤ (jT μ A).2 by omega) hA3 t2 c jfuel 0 (by omega) (fun i hi => by omega) (jfuel_gt (by omega))
        rw [show (0 : Int32) = nI 0 from rfl, this, fX11_find_b82]
        by_cases e : ws.getD n [] = hw (l.drop j)
        · rw [if_pos e, if_neg (by decide)]
          unfold ixI
          rw [hd, List.idxOf?_cons, if_pos (by simpa using e)]
          rfl
        · rw [if_neg e, if_pos rfl, nxt, hne e]
      · rw [if_neg (fun e => c ((nI_eq (by omega) (by omega)).mp e)), fX11_find_b25, jfuel_5, fX11_find_b30, if_pos rfl, fX11_find_b82, if_pos rfl, nxt, hne (fun e => c (by rw [e]))]
theorem m_find {M A S : Nat} {μ : JM} {l : List Int32} {j : Nat} {ws : List (List Int32)} (h : mWd M μ l j) (hA : (jT μ A).1 = 100) (hA2 : 12 * ws.length ≤ (jT μ A).2) (hA3 : (jT μ A).2 < 2 ^ 31) (hS : (jT μ S).1 = 101) (hS2 : ws.length ≤ (jT μ S).2) (hS3 : (jT μ S).2 < 2 ^ 31) (hw1 : mTb μ A S ws) (hws : ws.length ≤ 10000) : fX11_find M (some A) (some S) (nI ws.length) μ = some (ixI ws (hw (l.drop j)) 0, μ, 0, 0) := by
  rw [fX11_find]
  exact find_l h hA hA2 hA3 hS hS2 hS3 hw1 jfuel 0 (by omega) (jfuel_gt (by omega))
