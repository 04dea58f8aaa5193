/-! the reference: the parts of a rider; placed, isThere -/
theorem cf_pre (r : List Int64) : ∀ s : List Int32 × Int32, ∃ x, (r.foldl cput s).1 = s.1 ++ x := by
  induction r with
  | nil => intro s; exact ⟨[], by simp⟩
  | cons c r ih =>
    intro s
    obtain ⟨x, hx⟩ := ih (cput s c)
    refine ⟨(if s.2 = 0 ∨ s.2 = 40 ∨ (isSg c = true ∧ c ≠ -41) then [] else [32]) ++ cbytes c ++ x, ?_⟩
    rw [List.foldl_cons, hx]; simp [cput, List.append_assoc]
theorem cB_pre (ts r : List Int64) : ∃ x, (cB (ts ++ r)).1 = (cB ts).1 ++ x := by
  unfold cB
  rw [List.foldl_append]; exact cf_pre r _
theorem wc_pos {w : List Int32} (h : wd w) : (wc w).toInt = wnat w ∧ 0 < wnat w ∧ wnat w < 2 ^ 60 := by
  have h2 := wnat_lt h.2.1 h.2.2
  refine ⟨pf_lI (by omega), ?_, h2⟩
  rcases Nat.eq_zero_or_pos (wnat w) with z | z
  · have := wl_w h.2.1 h.2.2
    rw [z] at this
    exact absurd this.symm h.1
  · exact z
theorem cb_w {w : List Int32} (h : wd w) : cbytes (wc w) = w ∧ isSg (wc w) = false := by
  obtain ⟨h1, h2, h3⟩ := wc_pos h
  constructor
  · unfold cbytes
    rw [if_pos (by rw [gt_toI, h1]; omega), clamp_toI h1, wl_w h.2.1 h.2.2]
  · cases q : isSg (wc w) with
    | false => rfl
    | true => rw [isSg_iff, h1] at q; omega
def dfb : List Int32 := [100, 101, 102, 105, 110, 101, 32]
theorem cb_def : cbytes (-3000) = [100, 101, 102, 105, 110, 101] ∧ isSg (-3000) = false := by decide +kernel
theorem cb_as : cbytes (-3001) = [97, 115] ∧ isSg (-3001) = false := by decide +kernel
theorem cb_col : cbytes (-59) = [58] ∧ isSg (-59) = true := by decide +kernel
theorem cB_define {w : List Int32} (h : wd w) (r : List Int64) : ∃ x, (cB (-3000 :: wc w :: -3001 :: r)).1 = dfb ++ (w ++ 32 :: 97 :: x) := by
  obtain ⟨x, hx⟩ := cB_pre [-3000, wc w, -3001] r
  refine ⟨115 :: x, ?_⟩
  rw [show -3000 :: wc w :: -3001 :: r = [-3000, wc w, -3001] ++ r from rfl, hx]
  obtain ⟨c1, c2⟩ := cb_w h
  have e : (cB [-3000, wc w, -3001]).1 = dfb ++ (w ++ [32, 97, 115]) := by
    simp only [cB, List.foldl_cons, List.foldl_nil, cput, cb_def.1, cb_def.2, cb_as.1, cb_as.2, c1, c2]
    simp [dfb]
  rw [e]; simp
theorem cB_label {w : List Int32} (h : wd w) (r : List Int64) : ∃ x, (cB (wc w :: -59 :: r)).1 = w ++ 58 :: x := by
  obtain ⟨x, hx⟩ := cB_pre [wc w, -59] r
  refine ⟨x, ?_⟩
  rw [show wc w :: -59 :: r = [wc w, -59] ++ r from rfl, hx]
  obtain ⟨c1, c2⟩ := cb_w h
  have e : (cB [wc w, -59]).1 = w ++ [58] := by
    simp only [cB, List.foldl_cons, List.foldl_nil, cput, cb_col.1, cb_col.2, c1, c2]
    simp
  rw [e]; simp
/-- a clause's tokens begin as its kind asks -/
def wfc (c : Cl) : Prop := ∃ w, wd w ∧ wc w = c.2.1 ∧ (if isDf c = true then ∃ r, Cl.tks c = -3000 :: c.2.1 :: -3001 :: r else ∃ r, Cl.tks c = c.2.1 :: -59 :: r)
theorem isL_sep {c : Int32} (h : isL c = true) : c ≠ 58 ∧ c ≠ 32 := by
  constructor
  · rintro rfl; revert h; decide
  · rintro rfl; revert h; decide
theorem get_app_l {u x : List Int32} {i : Nat} (h : i < u.length) : (u ++ x).getD i 0 = u.getD i 0 := by
  rw [List.getD_eq_getElem?_getD, List.getD_eq_getElem?_getD, List.getElem?_append_left h]
theorem get_app_m {u x : List Int32} {s : Int32} : (u ++ s :: x).getD u.length 0 = s := by
  rw [List.getD_eq_getElem?_getD, List.getElem?_append_right (Nat.le_refl _), Nat.sub_self]; rfl
theorem getD_mem {u : List Int32} {i : Nat} (h : i < u.length) : u.getD i 0 ∈ u := by
  rw [List.getD_eq_getElem?_getD, List.getElem?_eq_getElem h]; exact List.getElem_mem h
theorem sep_eq {w u x : List Int32} {s : Int32} (hw : ∀ c ∈ w, isL c = true) (hu : ∀ c ∈ u, isL c = true) (hs : isL s = false) : (u.length < (w ++ s :: x).length ∧ (∀ k, k < u.length → (w ++ s :: x).getD k 0 = u.getD k 0) ∧ (w ++ s :: x).getD u.length 0 = s) ↔ w = u := by
  constructor
  · rintro ⟨h1, h2, h3⟩
    have hl : w.length = u.length := by
      rcases Nat.lt_trichotomy w.length u.length with q | q | q
      · have h4 := h2 w.length q
        rw [get_app_m] at h4
        have := hu _ (getD_mem q)
        rw [← h4, hs] at this; exact absurd this (by decide)
      · exact q
      · rw [get_app_l q] at h3
        have := hw _ (getD_mem q)
        rw [h3, hs] at this; exact absurd this (by decide)
    refine list_ext hl fun i hi => ?_
    rw [← h2 i (by omega), get_app_l hi]
  · rintro rfl
    exact ⟨by simp, fun k hk => get_app_l hk, get_app_m⟩
def mPr (M : Nat) (μ : JM) (cls : List Cl) : Prop := jI μ M 51 = nI cls.length ∧ cls.length ≤ 36 ∧ ∀ i, i < cls.length → ∃ o, jI μ (M + 35) i = nI o ∧ jI μ (M + 36) i = nI (cB (Cl.tks (cls.getD i cl0))).1.length ∧ o + (cB (Cl.tks (cls.getD i cl0))).1.length ≤ 8000 ∧ Sg (jI μ (M + 37)) o (cB (Cl.tks (cls.getD i cl0))).1 ∧ wfc (cls.getD i cl0)
theorem mPr.sm {M : Nat} {μ ν : JM} {fs as : List Nat} {cls : List Cl} (h : mPr M μ cls) (s : sm M fs as μ ν) (hf : 51 ∉ fs) (ha : ∀ i ∈ [35, 36, 37], i ∉ as) : mPr M ν cls := by
  obtain ⟨h1, h2, h3⟩ := h
  refine ⟨(s.fI hf).trans h1, h2, fun i hi => ?_⟩
  rw [s.aI (by decide) (ha 35 (by decide)), s.aI (by decide) (ha 36 (by decide)), s.aI (by decide) (ha 37 (by decide))]
  exact h3 i hi
theorem pd_def {M o p : Nat} {x1 x4 s0 : Int32} {μ : JM} {B : List Int32} {rec2 : Nat → Int32 → Int32 → JM → JO Int32} (h : MT M μ) (hp : p < 40) (hz : jI μ (M + 36) p = nI B.length) (ho : o + B.length ≤ 8000) (hS : Sg (jI μ (M + 37)) o B) :
    fX11_placed_b50 rec2 M x1 (nI p) (nI o) x4 s0 μ = fX11_placed_b158 rec2 M x1 (nI p) (nI o) x4 s0 (if 7 < B.length ∧ B.take 7 = dfb then 1 else 0) μ := by
  rw [fX11_placed_b50]
  simp only [jck_true, jde_is, jlt_is, jcl_0, beq_self_eq_true, jT_sI, jT_sJ, jP_sI, jP_sJ, jJ_sI, jI_sJ, jZ_sI, jZ_sJ, h.1, mP_partSize h, mT_partSize h, mP_bytes h, mT_bytes h, jin_nI hp (by decide), nI_clamp (show p < 2 ^ 31 by omega), hz]
  have b157 : fX11_placed_b157 rec2 M x1 (nI p) (nI o) x4 s0 μ = fX11_placed_b158 rec2 M x1 (nI p) (nI o) x4 s0 0 μ := rfl
  by_cases q : 7 < B.length
  · rw [if_neg (show ¬ nI B.length ≤ 7 from nI_ge (b := B.length) (a := 7) q (by omega))]
    have g : ∀ i, i < 7 → jI μ (M + 37) (o + i) = B.getD i 0 := fun i hi => hS i (by omega)
    match B, q, g, ho with
    | b0 :: b1 :: b2 :: b3 :: b4 :: b5 :: b6 :: r, q, g, ho =>
      have hr : o + 7 < 8000 := by simp only [List.length_cons] at ho; omega
      have g0 : jI μ (M + 37) o = b0 := g 0 (by decide)
      have g1 : jI μ (M + 37) (o + 1) = b1 := g 1 (by decide)
      have g2 : jI μ (M + 37) (o + 2) = b2 := g 2 (by decide)
      have g3 : jI μ (M + 37) (o + 3) = b3 := g 3 (by decide)
      have g4 : jI μ (M + 37) (o + 4) = b4 := g 4 (by decide)
      have g5 : jI μ (M + 37) (o + 5) = b5 := g 5 (by decide)
      have g6 : jI μ (M + 37) (o + 6) = b6 := g 6 (by decide)
      have n1 : nI o + 1 = nI (o + 1) := nI_1 o
      have n2 : nI o + 2 = nI (o + 2) := nI_add o 2
      have n3 : nI o + 3 = nI (o + 3) := nI_add o 3
      have n4 : nI o + 4 = nI (o + 4) := nI_add o 4
      have n5 : nI o + 5 = nI (o + 5) := nI_add o 5
      have n6 : nI o + 6 = nI (o + 6) := nI_add o 6
      simp only [jck_true, jde_is, jlt_is, jcl_0, beq_self_eq_true, jT_sI, jT_sJ, jP_sI, jP_sJ, jJ_sI, jI_sJ, jZ_sI, jZ_sJ, n1, n2, n3, n4, n5, n6, jin_nI (show o < 8000 by omega) (by decide), jin_nI (show o + 1 < 8000 by omega) (by decide), jin_nI (show o + 2 < 8000 by omega) (by decide), jin_nI (show o + 3 < 8000 by omega) (by decide), jin_nI (show o + 4 < 8000 by omega) (by decide), jin_nI (show o + 5 < 8000 by omega) (by decide), jin_nI (show o + 6 < 8000 by omega) (by decide), nI_clamp (show o < 2 ^ 31 by omega), nI_clamp (show o + 1 < 2 ^ 31 by omega), nI_clamp (show o + 2 < 2 ^ 31 by omega), nI_clamp (show o + 3 < 2 ^ 31 by omega), nI_clamp (show o + 4 < 2 ^ 31 by omega), nI_clamp (show o + 5 < 2 ^ 31 by omega), nI_clamp (show o + 6 < 2 ^ 31 by omega), g0, g1, g2, g3, g4, g5, g6, b157]
      have ht : (7 < (b0 :: b1 :: b2 :: b3 :: b4 :: b5 :: b6 :: r).length ∧ (b0 :: b1 :: b2 :: b3 :: b4 :: b5 :: b6 :: r).take 7 = dfb) ↔ (b0 = 100 ∧ b1 = 101 ∧ b2 = 102 ∧ b3 = 105 ∧ b4 = 110 ∧ b5 = 101 ∧ b6 = 32) := by
        have e : (b0 :: b1 :: b2 :: b3 :: b4 :: b5 :: b6 :: r).take 7 = [b0, b1, b2, b3, b4, b5, b6] := rfl
        rw [e]; unfold dfb
        constructor
        · rintro ⟨-, z⟩; simpa using z
        · intro z; exact ⟨q, by simpa using z⟩
      simp only [ht]
      by_cases c0 : b0 = 100
      · by_cases c1 : b1 = 101
        · by_cases c2 : b2 = 102
          · by_cases c3 : b3 = 105
            · by_cases c4 : b4 = 110
              · by_cases c5 : b5 = 101
                · by_cases c6 : b6 = 32
                  · simp only [c0, c1, c2, c3, c4, c5, c6, if_true, and_self]
                  · simp only [c0, c1, c2, c3, c4, c5, c6, if_true, if_false, and_false]
                · simp only [c0, c1, c2, c3, c4, c5, if_true, if_false, and_false, false_and]
              · simp only [c0, c1, c2, c3, c4, if_true, if_false, and_false, false_and]
            · simp only [c0, c1, c2, c3, if_true, if_false, and_false, false_and]
          · simp only [c0, c1, c2, if_true, if_false, and_false, false_and]
        · simp only [c0, c1, if_true, if_false, and_false, false_and]
      · simp only [c0, if_false, false_and]
  · rw [if_pos (show nI B.length ≤ 7 from nI_le (a := B.length) (b := 7) (by omega) (by omega)), if_neg (fun z => q z.1), b157]
theorem pd_in {M o p q : Nat} {x1 : Int32} {μ : JM} {l : List Int32} {j : Nat} {B : List Int32} {rec2 : Nat → Int32 → Int32 → JM → JO Int32} (h : mWd M μ l j) (hq : q ≤ 7) (ho : o + q + B.length ≤ 8000) (hS : Sg (jI μ (M + 37)) (o + q) B) (hl : (hw (l.drop j)).length < B.length) : ∀ (fu k : Nat), k ≤ (hw (l.drop j)).length → (∀ i, i < k → B.getD i 0 = (hw (l.drop j)).getD i 0) → (hw (l.drop j)).length - k + 1 < fu →
    fX11_placed_b181 rec2 fu M x1 (nI p) (nI o) (nI q) 1 (nI k) μ = fX11_placed_b235 rec2 M x1 (nI p) (nI o) (nI q) (if (∀ i, i < (hw (l.drop j)).length → B.getD i 0 = (hw (l.drop j)).getD i 0) then 1 else 0) μ := by
  obtain ⟨g1, g2, g3⟩ := h.len
  obtain ⟨h1, h2, h3, h4, h5⟩ := h
  have k5 := h3.2.2.2.2.1
  have k3 := h3.2.2.1
  have hll := h2.2.2
  have hle := hdLen_le (l.drop j)
  rw [List.length_drop] at hle
  have hjl := h3.1
  intro fu
  induction fu with
  | zero => intro k _ _ q; omega
  | succ fu ih =>
    intro k hk hp hf
    rw [fX11_placed_b181, if_neg (by decide)]
    simp only [jck_true, beq_self_eq_true, h1.1, k5, g1]
    by_cases z : k = (hw (l.drop j)).length
    · rw [if_pos (nI_le (by omega) (by omega)), if_pos (fun i hi => hp i (by omega))]
    · have hk2 : k < (hw (l.drop j)).length := by omega
      rw [if_neg (nI_ge (by omega) (by omega))]
      have hjk : j + k < l.length := by omega
      simp only [jde_is, beq_self_eq_true, jck_true, mP_text h1, mT_text h1, mP_bytes h1, mT_bytes h1, k3, nI_add, jin_nI (show o + q + k < 8000 by omega) (by decide), jin_nI (show j + k < 2400 by omega) (by decide), nI_clamp (show o + q + k < 2 ^ 31 by omega), nI_clamp (show j + k < 2 ^ 31 by omega), h2.at hjk, hS k (by omega)]
      rw [hw_get (by omega)]
      by_cases c : B.getD k 0 = (hw (l.drop j)).getD k 0
      · rw [if_pos c, fX11_placed_b227, nI_1]
        exact ih (k + 1) (by omega) (fun i hi => by
          by_cases e : i = k
          · subst e; exact c
          · exact hp i (by omega)) (by omega)
      · rw [if_neg c, fX11_placed_b227, nI_1]
        obtain ⟨f2, rfl⟩ : ∃ f2, fu = f2 + 1 := ⟨fu - 1, by omega⟩
        rw [fX11_placed_b181, if_pos rfl, if_neg (fun e => c (e k hk2))]
/-- one part's turn -/
theorem lab_nodef {w x : List Int32} (hw : ∀ c ∈ w, isL c = true) : ¬ (w ++ 58 :: x).take 7 = dfb := by
  intro h
  by_cases q : 7 ≤ w.length
  · rw [List.take_append_of_le_length q] at h
    have : (32 : Int32) ∈ w := List.mem_of_mem_take (i := 7) (by rw [h]; decide)
    exact (isL_sep (hw _ this)).2 rfl
  · have : (58 : Int32) ∈ (w ++ 58 :: x).take 7 := by
      rw [List.take_append, show 7 - w.length = (6 - w.length) + 1 by omega, List.take_succ_cons]; simp
    rw [h] at this; revert this; decide
theorem pd_one {M p : Nat} {df : Bool} {c : Cl} {o : Nat} {μ : JM} {l : List Int32} {ts : List Int64} {k : Nat} {rec2 : Nat → Int32 → Int32 → JM → JO Int32} (h : mAt M μ l ts k) (hc : 0 < Cd l k) (hp : p < 40) (h2 : jI μ (M + 36) p = nI (cB (Cl.tks c)).1.length) (h3 : o + (cB (Cl.tks c)).1.length ≤ 8000) (h4 : Sg (jI μ (M + 37)) o (cB (Cl.tks c)).1) (h5 : wfc c) :
    fX11_placed_b27 rec2 M (if df then 1 else 0) (nI p) (nI o) (if df then 7 else 0) μ = if (decide (c.2.1 = Cd l k) && (isDf c == df)) = true then some (nI p, μ, 0, 0) else rec2 M (if df then 1 else 0) (nI p + 1) μ := by
  obtain ⟨a1, a2, a3⟩ := h.wd hc
  obtain ⟨g1, g2, g3⟩ := a1.len
  have h1 := a1.1
  have k5 := a1.2.2.1.2.2.2.2.1
  obtain ⟨w, w1, w2, w3⟩ := h5
  have hin := wc_inj w1 a2
  rw [a3, w2] at hin
  have b175 : ∀ x1 x4 : Int32, fX11_placed_b175 rec2 M x1 (nI p) (nI o) x4 μ = rec2 M x1 (nI p + 1) μ := fun x1 x4 => by
    rw [fX11_placed_b175, fX11_placed_b176, jfuel_5, fX11_placed_b181, if_pos rfl, fX11_placed_b235, if_pos rfl, fX11_placed_b270]
  -- the comparison, where the kinds agree
  have fin : ∀ (q : Nat) (s : Int32) (B x : List Int32), q ≤ 7 → isL s = false → (df = true → s = 32) → (df = false → s = 58) → B = w ++ s :: x → o + q + B.length ≤ 8000 → Sg (jI μ (M + 37)) (o + q) B → (hw (l.drop (pl l k))).length < B.length → fX11_placed_b176 rec2 M (if df then 1 else 0) (nI p) (nI o) (nI q) 1 μ = if c.2.1 = Cd l k then some (nI p, μ, 0, 0) else rec2 M (if df then 1 else 0) (nI p + 1) μ := by
    intro q s B x hq hs hd1 hd2 hB hoq hSq hlt
    have se := sep_eq (x := x) w1.2.1 a2.2.1 hs
    rw [← hB] at se
    rw [fX11_placed_b176]
    have := pd_in (p := p) (x1 := if df then 1 else 0) (rec2 := rec2) a1 hq hoq hSq hlt jfuel 0 (by omega) (fun i hi => by omega) (jfuel_gt (by omega))
    have this' : fX11_placed_b181 rec2 jfuel M (if df then 1 else 0) (nI p) (nI o) (nI q) 1 0 μ = _ := this
    rw [this', fX11_placed_b235]
    by_cases z : ∀ i, i < (hw (l.drop (pl l k))).length → B.getD i 0 = (hw (l.drop (pl l k))).getD i 0
    · rw [if_pos z, if_neg (by decide)]
      have e1 := hSq _ hlt
      simp only [jck_true, jde_is, jlt_is, jcl_0, beq_self_eq_true, jT_sI, jT_sJ, jP_sI, jP_sJ, jJ_sI, jI_sJ, jZ_sI, jZ_sJ, h1.1, mP_bytes h1, mT_bytes h1, k5, g1, nI_add, jin_nI (show o + q + (hw (l.drop (pl l k))).length < 8000 by omega) (by decide), nI_clamp (show o + q + (hw (l.drop (pl l k))).length < 2 ^ 31 by omega), e1]
      have e2 : (B.getD (hw (l.drop (pl l k))).length 0 = s) ↔ c.2.1 = Cd l k := by
        rw [hin, ← se]; exact ⟨fun y => ⟨hlt, z, y⟩, fun y => y.2.2⟩
      cases df with
      | false =>
        simp only [Bool.false_eq_true, if_false, if_true]
        rw [fX11_placed_b265]
        have := hd2 rfl; subst this
        by_cases y : c.2.1 = Cd l k
        · rw [if_pos (e2.mpr y), if_pos y]
        · rw [if_neg (fun t => y (e2.mp t)), if_neg y, fX11_placed_b270]
      | true =>
        simp only [if_true]
        rw [if_neg (by decide), fX11_placed_b265]
        have := hd1 rfl; subst this
        by_cases y : c.2.1 = Cd l k
        · rw [if_pos (e2.mpr y), if_pos y]
        · rw [if_neg (fun t => y (e2.mp t)), if_neg y, fX11_placed_b270]
    · have ny : ¬ c.2.1 = Cd l k := fun y => z (se.mpr (hin.mp y)).2.1
      rw [if_neg z, if_pos rfl, fX11_placed_b270, if_neg ny]
  rw [fX11_placed_b27]
  simp only [jck_true, jde_is, jlt_is, jcl_0, beq_self_eq_true, jT_sI, jT_sJ, jP_sI, jP_sJ, jJ_sI, jI_sJ, jZ_sI, jZ_sJ, h1.1, mP_partSize h1, mT_partSize h1, jin_nI hp (by decide), nI_clamp (show p < 2 ^ 31 by omega), h2, k5, g1]
  have pdd : ∀ x1 x4 s0 : Int32, fX11_placed_b50 rec2 M x1 (nI p) (nI o) x4 s0 μ = _ := fun x1 x4 s0 => pd_def (x1 := x1) (x4 := x4) (s0 := s0) (rec2 := rec2) h1 hp h2 h3 h4
  rw [pdd, pdd]
  cases hdf : isDf c with
  | true =>
    rw [hdf, if_pos rfl] at w3
    obtain ⟨r, hr⟩ := w3
    obtain ⟨x, hx⟩ := cB_define w1 r
    rw [w2, ← hr] at hx
    generalize (cB (Cl.tks c)).1 = B at *
    have hl : B.length = 7 + (w ++ 32 :: 97 :: x).length := by rw [hx, List.length_append]; rfl
    have hl2 : 7 < B.length := by rw [hl]; simp; omega
    have ht : B.take 7 = dfb := by rw [hx]; rfl
    rw [show (if 7 < B.length ∧ B.take 7 = dfb then (1 : Int32) else 0) = 1 from if_pos ⟨hl2, ht⟩]
    cases df with
    | false =>
      simp only [Bool.false_eq_true, if_false, if_true]
      have : (decide (c.2.1 = Cd l k) && (true == false)) = false := by simp
      rw [this]
      simp only [Bool.false_eq_true, if_false]
      simp only [fX11_placed_b158]
      simp only [if_neg (show ¬ (1 : Int32) = 0 by decide), b175]
      split <;> simp
    | true =>
      simp only [if_true]
      have : (decide (c.2.1 = Cd l k) && (true == true)) = decide (c.2.1 = Cd l k) := by simp
      rw [this]
      simp only [decide_eq_true_eq]
      simp only [fX11_placed_b158]
      rw [show (7 : Int32) = nI 7 from rfl, nI_add]
      simp only [if_neg (show ¬ (1 : Int32) = 0 by decide), if_true, b175]
      by_cases y : B.length ≤ 7 + (hw (l.drop (pl l k))).length
      · rw [if_pos (nI_le y (by omega)), if_neg]
        intro z
        have := (sep_eq (x := 97 :: x) w1.2.1 a2.2.1 (s := 32) (by decide)).mpr (hin.mp z)
        omega
      · rw [if_neg (nI_ge (by omega) (by omega))]
        have hS2 : Sg (jI μ (M + 37)) (o + 7) (w ++ 32 :: 97 :: x) := by
          intro i hi
          have := h4 (7 + i) (by omega)
          rw [show o + 7 + i = o + (7 + i) by omega, this, hx, List.getD_eq_getElem?_getD, List.getElem?_append_right (by show 7 ≤ 7 + i; omega), List.getD_eq_getElem?_getD]
          congr 2
          show 7 + i - 7 = i; omega
        exact fin 7 32 _ (97 :: x) (by omega) (by decide) (fun _ => rfl) (fun z => by cases z) rfl (by omega) hS2 (by omega)
  | false =>
    rw [hdf, if_neg (by decide)] at w3
    obtain ⟨r, hr⟩ := w3
    obtain ⟨x, hx⟩ := cB_label w1 r
    rw [w2, ← hr] at hx
    generalize (cB (Cl.tks c)).1 = B at *
    have ht : ¬ B.take 7 = dfb := by rw [hx]; exact lab_nodef w1.2.1
    rw [show (if 7 < B.length ∧ B.take 7 = dfb then (1 : Int32) else 0) = 0 from if_neg (fun z => ht z.2)]
    cases df with
    | true =>
      simp only [if_true]
      have : (decide (c.2.1 = Cd l k) && (false == true)) = false := by simp
      rw [this]
      simp only [Bool.false_eq_true, if_false]
      simp only [fX11_placed_b158]
      simp only [if_neg (show ¬ (0 : Int32) = 1 by decide), b175]
      split <;> simp
    | false =>
      simp only [Bool.false_eq_true, if_false]
      have : (decide (c.2.1 = Cd l k) && (false == false)) = decide (c.2.1 = Cd l k) := by simp
      rw [this]
      simp only [decide_eq_true_eq]
      simp only [fX11_placed_b158]
      rw [show (0 : Int32) + nI (hw (l.drop (pl l k))).length = nI (hw (l.drop (pl l k))).length from by rw [show (0 : Int32) = nI 0 from rfl, nI_add, Nat.zero_add]]
      simp only [if_neg (show ¬ (1 : Int32) = 0 by decide), if_true, b175]
      by_cases y : B.length ≤ (hw (l.drop (pl l k))).length
      · rw [if_pos (nI_le y (by omega)), if_neg]
        intro z
        have := (sep_eq (x := x) w1.2.1 a2.2.1 (s := 58) (by decide)).mpr (hin.mp z)
        rw [← hx] at this
        omega
      · rw [if_neg (nI_ge (by omega) (by omega))]
        exact fin 0 58 B x (by omega) (by decide) (fun z => by cases z) (fun _ => rfl) hx (by omega) h4 (by omega)
theorem pd_l {M : Nat} {df : Bool} {μ : JM} {l : List Int32} {ts : List Int64} {k : Nat} {cls : List Cl} (h : mAt M μ l ts k) (hc : 0 < Cd l k) (hP : mPr M μ cls) : ∀ (fu n : Nat), n ≤ cls.length → cls.length - n < fu → fX11_placed_b2 fu M (if df then 1 else 0) (nI n) μ = some (oI n (lfnd (cls.drop n) (Cd l k) df), μ, 0, 0) := by
  obtain ⟨h1, -, -⟩ := mA_ok h
  obtain ⟨p1, p2, p3⟩ := hP
  intro fu
  induction fu with
  | zero => intro n _ q; omega
  | succ fu ih =>
    intro n hn hf
    rw [fX11_placed_b2]
    simp only [jck_true, jde_is, jlt_is, jcl_0, beq_self_eq_true, jT_sI, jT_sJ, jP_sI, jP_sJ, jJ_sI, jI_sJ, jZ_sI, jZ_sJ, h1.1, p1]
    by_cases q : n = cls.length
    · rw [if_pos (nI_le (by omega) (by omega)), q, List.drop_length]; rfl
    · have hn2 : n < cls.length := by omega
      obtain ⟨o, o1, o2, o3, o4, o5⟩ := p3 n hn2
      have hd : cls.drop n = cls.getD n cl0 :: cls.drop (n + 1) := by
        rw [List.drop_eq_getElem_cons hn2]; congr 1; simp [List.getD, hn2]
      rw [if_neg (nI_ge hn2 (by omega))]
      simp only [jck_true, jde_is, jlt_is, jcl_0, beq_self_eq_true, jT_sI, jT_sJ, jP_sI, jP_sJ, jJ_sI, jI_sJ, jZ_sI, jZ_sJ, h1.1, mP_partFrom h1, mT_partFrom h1, jin_nI (show n < 40 by omega) (by decide), nI_clamp (show n < 2 ^ 31 by omega), o1]
      have one := pd_one (df := df) (rec2 := fX11_placed_b2 fu) h hc (show n < 40 by omega) o2 o3 o4 o5
      have nxt : fX11_placed_b2 fu M (if df then 1 else 0) (nI n + 1) μ = some (oI (n + 1) (lfnd (cls.drop (n + 1)) (Cd l k) df), μ, 0, 0) := by
        rw [nI_1]; exact ih (n + 1) (by omega) (by omega)
      rw [nxt] at one
      have two : (if (decide ((cls.getD n cl0).2.1 = Cd l k) && (isDf (cls.getD n cl0) == df)) = true then some (nI n, μ, 0, 0) else some (oI (n + 1) (lfnd (cls.drop (n + 1)) (Cd l k) df), μ, 0, 0)) = some (oI n (lfnd (cls.drop n) (Cd l k) df), μ, 0, 0) := by
        unfold lfnd
        rw [hd, List.findIdx?_cons]
        by_cases z : (decide ((cls.getD n cl0).2.1 = Cd l k) && (isDf (cls.getD n cl0) == df)) = true
        · rw [if_pos z, if_pos z]; rfl
        · rw [if_neg z, if_neg z]
          cases (cls.drop (n + 1)).findIdx? _ with
          | none => rfl
          | some i => simp only [Option.map_some, oI]; congr 3; omega
      rw [two] at one
      cases df with
      | false => simp only [Bool.false_eq_true, if_false, if_true] at one ⊢; exact one
      | true => simp only [if_true] at one ⊢; rw [if_neg (by decide)]; exact one
theorem m_placed {M : Nat} {df : Bool} {μ : JM} {l : List Int32} {ts : List Int64} {k : Nat} {cls : List Cl} (h : mAt M μ l ts k) (hc : 0 < Cd l k) (hP : mPr M μ cls) : fX11_placed M (if df then 1 else 0) μ = some (oI 0 (lfnd cls (Cd l k) df), μ, 0, 0) := by
  rw [fX11_placed]
  have := pd_l (df := df) h hc hP jfuel 0 (by omega) (jfuel_gt (by have := hP.2.1; omega))
  rw [List.drop_zero] at this
  exact this
