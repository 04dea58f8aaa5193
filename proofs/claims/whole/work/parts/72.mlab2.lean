/-! the reference: labelled -/
def mKL (M : Nat) (μ : JM) (e : Nat) (c : Cl) : Prop := jI μ (M + 21) e = c.1 ∧ mLab M μ e c.2.1
def cl0 : Cl := (0, 0, 0, 0, 0, 0, 0, fun _ => 0, [])
def mCls (M : Nat) (μ : JM) (e : Nat) (cls : List Cl) : Prop := ∀ i, i < cls.length → mCl M μ (e + i) (cls.getD i cl0)
theorem mCl.kl {M e : Nat} {μ : JM} {c : Cl} (h : mCl M μ e c) : mKL M μ e c := ⟨h.1.1, h.2.1⟩
theorem lab_in {M e : Nat} {x1 x2 x3 : Int32} {μ : JM} {l : List Int32} {j : Nat} {u : List Int32} {rec2 : Nat → Int32 → Int32 → Int32 → JM → JO Int32} (h : mWd M μ l j) (he : e < 120) (hu : Sg (jI μ (M + 28)) (12 * e) u) (hul : u.length = (hw (l.drop j)).length) : ∀ (fu k : Nat), k ≤ u.length → (∀ i, i < k → u.getD i 0 = (hw (l.drop j)).getD i 0) → u.length - k + 1 < fu →
    fX11_labelled_b49 rec2 fu M x1 x2 x3 (nI e) 1 (nI k) μ = fX11_labelled_b104 rec2 M x1 x2 x3 (if u = hw (l.drop j) then 1 else 0) μ := by
  obtain ⟨g1, g2, g3⟩ := h.len
  obtain ⟨h1, h2, h3, h4, h5⟩ := h
  have k5 := h3.2.2.2.2.1
  have k3 := h3.2.2.1
  have hl := h2.2.2
  have hle := hdLen_le (l.drop j)
  rw [List.length_drop] at hle
  have hjl := h3.1
  intro fu
  induction fu with
  | zero => intro k _ _ q; omega
  | succ fu ih =>
    intro k hk hp hf
    rw [fX11_labelled_b49, if_neg (by decide)]
    simp only [jck_true, beq_self_eq_true, h1.1, k5]
    by_cases q : k = u.length
    · rw [if_pos (nI_le (by omega) (by omega))]
      have : u = hw (l.drop j) := list_ext hul (fun i hi => hp i (by omega))
      rw [if_pos this]
    · have hk2 : k < u.length := by omega
      rw [if_neg (nI_ge (by omega) (by omega))]
      have e12 : (12 : Int32) * nI e + nI k = nI (12 * e + k) := by rw [show (12 : Int32) = nI 12 from rfl, pk_mul, nI_add]
      have hjk : j + k < l.length := by omega
      simp only [jde_is, beq_self_eq_true, jck_true, e12, mP_text h1, mT_text h1, mP_label h1, mT_label h1, jin_nI (show 12 * e + k < 1440 by omega) (by decide), k3, nI_add, jin_nI (show j + k < 2400 by omega) (by decide), nI_clamp (show 12 * e + k < 2 ^ 31 by omega), nI_clamp (show j + k < 2 ^ 31 by omega), h2.at hjk, hu k hk2]
      rw [hw_get (by omega)]
      by_cases c : u.getD k 0 = (hw (l.drop j)).getD k 0
      · rw [if_pos c, fX11_labelled_b96, nI_1]
        exact ih (k + 1) (by omega) (fun i hi => by
          by_cases e : i = k
          · subst e; exact c
          · exact hp i (by omega)) (by omega)
      · rw [if_neg c, fX11_labelled_b96, nI_1]
        obtain ⟨f2, rfl⟩ : ∃ f2, fu = f2 + 1 := ⟨fu - 1, by omega⟩
        rw [fX11_labelled_b49, if_pos rfl, if_neg]
        intro e; exact c (by rw [e])
def oI (n : Nat) : Option Nat → Int32
  | some i => nI (n + i)
  | none => -1
theorem lab_l {M : Nat} {μ : JM} {l : List Int32} {ts : List Int64} {k : Nat} {cls : List Cl} (h : mAt M μ l ts k) (hc : 0 < Cd l k) (hn : cls.length ≤ 24) (hK : ∀ i, i < cls.length → mKL M μ (96 + i) (cls.getD i cl0)) : ∀ (fu n : Nat), n ≤ cls.length → cls.length - n < fu → fX11_labelled_b2 fu M 4 (nI cls.length) (nI n) μ = some (oI n (lfnd (cls.drop n) (Cd l k) false), μ, 0, 0) := by
  obtain ⟨a1, a2, a3⟩ := h.wd hc
  obtain ⟨g1, g2, g3⟩ := a1.len
  have h1 := a1.1
  have k5 := a1.2.2.1.2.2.2.2.1
  intro fu
  induction fu with
  | zero => intro n _ q; omega
  | succ fu ih =>
    intro n hn1 hf
    rw [fX11_labelled_b2]
    by_cases q : n = cls.length
    · rw [if_pos (nI_le (by omega) (by omega)), q, List.drop_length]; rfl
    · have hn2 : n < cls.length := by omega
      obtain ⟨t1, w, t2, t3, t4, t5⟩ := hK n hn2
      have hd : cls.drop n = cls.getD n cl0 :: cls.drop (n + 1) := by
        rw [List.drop_eq_getElem_cons hn2]; congr 1; simp [List.getD, hn2]
      rw [if_neg (nI_ge hn2 (by omega))]
      have e24 : (24 : Int32) * 4 + nI n = nI (96 + n) := by rw [show (24 : Int32) * 4 = nI 96 from by decide, nI_add]
      have n120 : 96 + n < 120 := by omega
      simp only [jck_true, jde_is, jlt_is, jcl_0, beq_self_eq_true, jT_sI, jT_sJ, jP_sI, jP_sJ, jJ_sI, jI_sJ, jZ_sI, jZ_sJ, h1.1, mP_kind h1, mT_kind h1, mP_labelSize h1, mT_labelSize h1, e24, jin_nI n120 (by decide), nI_clamp (show 96 + n < 2 ^ 31 by omega), t1, t4, k5, g1]
      have nxt : fX11_labelled_b2 fu M 4 (nI cls.length) (nI n + 1) μ = some (oI (n + 1) (lfnd (cls.drop (n + 1)) (Cd l k) false), μ, 0, 0) := by
        rw [nI_1]; exact ih (n + 1) (by omega) (by omega)
      have hne : ¬ (cls.getD n cl0).1 = 0 ∧ (cls.getD n cl0).2.1 = Cd l k ∨ oI n (lfnd (cls.drop n) (Cd l k) false) = oI (n + 1) (lfnd (cls.drop (n + 1)) (Cd l k) false) := by
        by_cases y : ¬ (cls.getD n cl0).1 = 0 ∧ (cls.getD n cl0).2.1 = Cd l k
        · exact Or.inl y
        · right
          unfold lfnd
          rw [hd, List.findIdx?_cons, if_neg]
          · cases (cls.drop (n + 1)).findIdx? _ with
            | none => rfl
            | some i => simp only [Option.map_some, oI]; congr 1; omega
          · simp only [isDf, beq_iff_eq, Bool.and_eq_true, decide_eq_true_eq, decide_eq_false_iff_not]
            exact fun z => y ⟨z.2, z.1⟩
      have b43 : fX11_labelled_b43 (fX11_labelled_b2 fu) M 4 (nI cls.length) (nI n) (nI (96 + n)) μ = some (oI (n + 1) (lfnd (cls.drop (n + 1)) (Cd l k) false), μ, 0, 0) := by
        rw [fX11_labelled_b43, fX11_labelled_b44, jfuel_5, fX11_labelled_b49, if_pos rfl, fX11_labelled_b104, if_pos rfl, nxt]
      by_cases y1 : (cls.getD n cl0).1 = 0
      · rw [if_pos y1, b43]
        rcases hne with z | z
        · exact absurd y1 z.1
        · rw [z]
      · rw [if_neg y1]
        by_cases y2 : w.length = (hw (l.drop (pl l k))).length
        · rw [if_pos (by rw [y2]), fX11_labelled_b44]
          have := lab_in (x1 := 4) (x2 := nI cls.length) (x3 := nI n) (rec2 := fX11_labelled_b2 fu) a1 n120 t5 y2 jfuel 0 (by omega) (fun i hi => by omega) (jfuel_gt (by have := t2.2.2; omega))
          rw [show (0 : Int32) = nI 0 from rfl, this, fX11_labelled_b104]
          have hin := wc_inj t2 a2
          rw [a3, t3] at hin
          by_cases e : w = hw (l.drop (pl l k))
          · rw [if_pos e, if_neg (by decide)]
            unfold lfnd
            rw [hd, List.findIdx?_cons, if_pos]
            · rfl
            · simp only [isDf, beq_iff_eq, Bool.and_eq_true, decide_eq_true_eq, decide_eq_false_iff_not]
              exact ⟨hin.mpr e, y1⟩
          · rw [if_neg e, if_pos rfl, nxt]
            rcases hne with z | z
            · exact absurd (hin.mp z.2) e
            · rw [z]
        · rw [if_neg (fun z => y2 ((nI_eq (by have := t2.2.2; omega) (by omega)).mp z)), b43]
          rcases hne with z | z
          · have hin := wc_inj t2 a2
            rw [a3, t3] at hin
            exact absurd (by rw [hin.mp z.2]) y2
          · rw [z]
theorem m_labelled {M : Nat} {μ : JM} {l : List Int32} {ts : List Int64} {k : Nat} {cls : List Cl} (h : mAt M μ l ts k) (hc : 0 < Cd l k) (hn : cls.length ≤ 24) (hK : mCls M μ 96 cls) : fX11_labelled M 4 (nI cls.length) μ = some (oI 0 (lfnd cls (Cd l k) false), μ, 0, 0) := by
  rw [fX11_labelled]
  have := lab_l h hc hn (fun i hi => (hK i hi).kl) jfuel 0 (by omega) (jfuel_gt (by omega))
  rw [List.drop_zero] at this
  exact this
theorem lfnd_lt {cls : List Cl} {c : Int64} {b : Bool} {i : Nat} (h : lfnd cls c b = some i) : i < cls.length := by
  unfold lfnd at h
  exact (List.findIdx?_eq_some_iff_getElem.mp h).1
