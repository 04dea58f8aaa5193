/-! the reference: words by their codes; one() -/
def wd (w : List Int32) : Prop := w ≠ [] ∧ (∀ c ∈ w, isL c = true) ∧ w.length ≤ 12
def wc (w : List Int32) : Int64 := lN (wnat w)
theorem wc_inj {u w : List Int32} (hu : wd u) (hw : wd w) : wc u = wc w ↔ u = w := by
  constructor
  · intro h
    have h1 := wnat_lt hu.2.1 hu.2.2
    have h2 := wnat_lt hw.2.1 hw.2.2
    exact wnat_inj hu.2.1 hu.2.2 hw.2.1 hw.2.2 ((fb_lN_inj (by omega) (by omega)).mp h)
  · rintro rfl; rfl
def mW (μ : JM) (A S : Nat) (cs : List Int64) : Prop := ∃ ws, mTb μ A S ws ∧ (∀ w ∈ ws, wd w) ∧ cs = ws.map wc
def ixC (cs : List Int64) (c : Int64) : Int32 := match cs.idxOf? c with
  | some i => nI i
  | none => -1
theorem idx_map {w : List Int32} (hw : wd w) : ∀ ws : List (List Int32), (∀ u ∈ ws, wd u) → (ws.map wc).idxOf? (wc w) = ws.idxOf? w
  | [], _ => rfl
  | u :: r, h => by
    rw [List.map_cons, List.idxOf?_cons, List.idxOf?_cons, idx_map hw r (fun x hx => h x (List.mem_cons_of_mem _ hx))]
    have := wc_inj (h u (List.mem_cons_self)) hw
    by_cases e : u = w
    · subst e; simp
    · have e2 : ¬ wc u = wc w := fun z => e (this.mp z)
      simp [e, e2]
theorem mAt.wd {M : Nat} {μ : JM} {l : List Int32} {ts : List Int64} {k : Nat} (h : mAt M μ l ts k) (hc : 0 < Cd l k) : mWd M μ l (pl l k) ∧ wd (hw (l.drop (pl l k))) ∧ wc (hw (l.drop (pl l k))) = Cd l k := by
  have ho := h.1.2.2.2.2.2.2.1
  have ht : tokc (l.drop (pl l k)) = 1 := (tokc_1 h.2 (mA_ok h).2.2).mpr (Or.inl hc)
  have hm : mWd M μ l (pl l k) := ⟨h.1.1, h.1.2.1, h.1.2.2.1, ht, ho⟩
  obtain ⟨g1, g2, g3⟩ := hm.len
  refine ⟨hm, ⟨fun q => by rw [q] at g3; simp at g3, tw_all, g2⟩, ?_⟩
  rw [gt_toI] at hc
  unfold Cd at hc ⊢
  rcases tcl _ (h.2.drop (pl l k)) with ⟨e1, e2, e3, e4, e5⟩ | ⟨i, e1, e2, e3, e4, e5, e6, e7, e8⟩ | ⟨e1, e2, e3, e4, e5, e6, e7, e8, e9⟩ | ⟨w, e1, e2, e3, e4, e5, e6, e7, e8⟩ | ⟨c, r, w, e1, e2, e3, e4, e5, e6, e7, e8, e9, e10⟩ | ⟨e1, e2, e3, e4, e5⟩
  · rw [e2] at hc; exact absurd hc (by decide)
  · omega
  · exact e4.symm
  · omega
  · omega
  · omega
theorem mA_find {M A S : Nat} {μ : JM} {l : List Int32} {ts : List Int64} {k : Nat} {cs : List Int64} (h : mAt M μ l ts k) (hc : 0 < Cd l k) (hA : (jT μ A).1 = 100) (hA2 : 12 * cs.length ≤ (jT μ A).2) (hA3 : (jT μ A).2 < 2 ^ 31) (hS : (jT μ S).1 = 101) (hS2 : cs.length ≤ (jT μ S).2) (hS3 : (jT μ S).2 < 2 ^ 31) (hW : mW μ A S cs) (hcs : cs.length ≤ 10000) : fX11_find M (some A) (some S) (nI cs.length) μ = some (ixC cs (Cd l k), μ, 0, 0) := by
  obtain ⟨h1, h2, h3⟩ := h.wd hc
  obtain ⟨ws, g1, g2, rfl⟩ := hW
  rw [List.length_map] at *
  rw [m_find h1 hA hA2 hA3 hS hS2 hS3 g1 hcs]
  unfold ixI ixC
  rw [← h3, idx_map h2 ws g2, List.drop_zero]
  cases ws.idxOf? (hw (l.drop (pl l k))) with
  | none => rfl
  | some i => simp
theorem mW.sm {M : Nat} {fs as : List Nat} {μ ν : JM} {a s : Nat} {cs : List Int64} (h : mW μ (M + a) (M + s) cs) (q : sm M fs as μ ν) (ha : a ≠ 0) (hs : s ≠ 0) (h1 : a ∉ as) (h2 : s ∉ as) : mW ν (M + a) (M + s) cs := by
  obtain ⟨ws, g1, g2, g3⟩ := h
  refine ⟨ws, fun n hn => ?_, g2, g3⟩
  rw [q.aI ha h1, q.aI hs h2]; exact g1 n hn
theorem ixC_lt {cs : List Int64} {c : Int64} (hl : cs.length ≤ 10000) : (∃ i, cs.idxOf? c = some i ∧ ixC cs c = nI i ∧ i < cs.length ∧ ¬ ixC cs c < 0 ∧ 0 ≤ ixC cs c) ∨ (cs.idxOf? c = none ∧ ixC cs c = -1) := by
  unfold ixC
  cases q : cs.idxOf? c with
  | none => right; exact ⟨rfl, rfl⟩
  | some i =>
    left
    obtain ⟨h1, -, -⟩ := List.idxOf?_eq_some_iff.mp q
    exact ⟨i, rfl, rfl, h1, nI_pos (by omega), nI_le (a := 0) (by omega) (by omega)⟩
/-- the FACTS, and the names told so far -/
def mFa (M : Nat) (μ : JM) (F : List Int64) : Prop := jI μ M 2 = nI F.length ∧ F.length ≤ 8 ∧ mW μ (M + 2) (M + 3) F ∧ ∀ f, f < F.length → ∀ i, i < 4 → jJ μ (M + 12) (4 * f + i) = fcs f i &&& jJ μ (M + 10) i
def mNa (M : Nat) (μ : JM) (N : List (Int64 × CS)) : Prop := jI μ M 29 = nI N.length ∧ N.length ≤ 24 ∧ mW μ (M + 17) (M + 18) (N.map (·.1)) ∧ ∀ n, n < N.length → ∀ i, i < 4 → jJ μ (M + 19) (4 * n + i) = (N.getD n (0, fun _ => 0)).2 i &&& jJ μ (M + 10) i
theorem mFa.sm {M : Nat} {fs as : List Nat} {μ ν : JM} {F : List Int64} (h : mFa M μ F) (q : sm M fs as μ ν) (hf : 2 ∉ fs) (ha : ∀ i ∈ [2, 3, 10, 12], i ∉ as) : mFa M ν F := by
  obtain ⟨h1, h2, h3, h4⟩ := h
  refine ⟨(q.fI hf).trans h1, h2, h3.sm q (by decide) (by decide) (ha 2 (by decide)) (ha 3 (by decide)), fun f hf i hi => ?_⟩
  rw [q.aJ (by decide) (ha 12 (by decide)), q.aJ (by decide) (ha 10 (by decide))]; exact h4 f hf i hi
theorem mNa.sm {M : Nat} {fs as : List Nat} {μ ν : JM} {N : List (Int64 × CS)} (h : mNa M μ N) (q : sm M fs as μ ν) (hf : 29 ∉ fs) (ha : ∀ i ∈ [10, 17, 18, 19], i ∉ as) : mNa M ν N := by
  obtain ⟨h1, h2, h3, h4⟩ := h
  refine ⟨(q.fI hf).trans h1, h2, h3.sm q (by decide) (by decide) (ha 17 (by decide)) (ha 18 (by decide)), fun f hf i hi => ?_⟩
  rw [q.aJ (by decide) (ha 19 (by decide)), q.aJ (by decide) (ha 10 (by decide))]; exact h4 f hf i hi
/-- now[] is a set of CASES -/
def mNow (M : Nat) (μ : JM) (v : CS) : Prop := ∀ i, i < 4 → jJ μ (M + 16) i = v i &&& jJ μ (M + 10) i
theorem one_l {M : Nat} {x1 x2 : Int32} {v : CS} {T k : Nat} (hx : (x1 < 0 ∧ x2 < 0 ∧ ∀ i, i < 4 → v i = 0) ∨ (x1 < 0 ∧ ¬ x2 < 0 ∧ T = 19 ∧ x2 = nI k ∧ k < 25) ∨ (¬ x1 < 0 ∧ T = 12 ∧ x1 = nI k ∧ k < 8)) : ∀ (fu i : Nat) (μ : JM), MT M μ → i ≤ 4 → 4 - i < fu → (¬ (x1 < 0 ∧ x2 < 0) → ∀ e, e < 4 → jJ μ (M + T) (4 * k + e) = v e) → (∀ e, e < i → jJ μ (M + 16) e = v e) →
    ∃ ν, fX11_one_b101 fu M x1 x2 (nI i) μ = some (1, ν, 0, 0) ∧ sm M [] [16] μ ν ∧ ∀ e, e < 4 → jJ ν (M + 16) e = v e := by
  intro fu
  induction fu with
  | zero => intro i μ _ _ h; omega
  | succ fu ih =>
    intro i μ h hi hf hT hp
    rw [fX11_one_b101]
    by_cases q : i = 4
    · subst q
      rw [if_pos (by decide)]
      exact ⟨_, rfl, sm.rf, hp⟩
    · have i4 : i < 4 := by omega
      rw [if_neg (show ¬ (4 : Int32) ≤ nI i from nI_ge (b := 4) (by omega) (by decide))]
      have nx : ∀ s : Int64, s = v i → ∃ ν, fX11_one_b146 (fX11_one_b101 fu) M x1 x2 (nI i) s (nI i) (some (M + 16)) μ = some (1, ν, 0, 0) ∧ sm M [] [16] μ ν ∧ ∀ e, e < 4 → jJ ν (M + 16) e = v e := by
        intro s hs
        rw [fX11_one_b146]
        simp only [jck_true, jde_is, jlt_is, jcl_0, beq_self_eq_true, jT_sI, jT_sJ, jP_sI, jP_sJ, jJ_sI, jI_sJ, jZ_sI, jZ_sJ, mT_now h, jin_nI i4 (show 4 < 2 ^ 31 by decide), nI_clamp (show i < 2 ^ 31 by omega), nI_1]
        have s1 : sm M [] [16] μ (jsJ μ (M + 16) i s) := sm.sJ (by decide)
        obtain ⟨ν, e1, e2, e3⟩ := ih (i + 1) (jsJ μ (M + 16) i s) (s1.mt h) (by omega) (by omega) (fun z e he => by
          have hne : M + T ≠ M + 16 := by
            rcases hx with ⟨g1, g2, -⟩ | ⟨-, -, g3, -⟩ | ⟨-, g3, -⟩
            · exact absurd ⟨g1, g2⟩ z
            · omega
            · omega
          rw [jJ_sJ_ne hne]
          exact hT z e he) (fun e he => by
          rw [jJ_sJ]
          by_cases y : e = i
          · subst y; rw [if_pos ⟨rfl, rfl⟩, hs]
          · rw [if_neg (by omega)]; exact hp e (by omega))
        exact ⟨ν, e1, s1.tr e2, e3⟩
      simp only [jck_true, jde_is, jlt_is, jcl_0, beq_self_eq_true, jT_sI, jT_sJ, jP_sI, jP_sJ, jJ_sI, jI_sJ, jZ_sI, jZ_sJ, h.1]
      rcases hx with ⟨g1, g2, g3⟩ | ⟨g1, g2, g3, g4, g5⟩ | ⟨g1, g3, g4, g5⟩
      · rw [if_pos g1, if_pos g2]; simp only [mP_now h]; exact nx 0 (g3 i i4).symm
      · subst g3
        rw [if_pos g1, if_neg g2, g4]
        simp only [jck_true, jde_is, jlt_is, jcl_0, beq_self_eq_true, jT_sI, jT_sJ, jP_sI, jP_sJ, jJ_sI, jI_sJ, jZ_sI, jZ_sJ, mP_nameSet h, mT_nameSet h, mP_now h, mT_now h, ix4, jin_nI (show 4 * k + i < 100 by omega) (by decide), nI_clamp (show 4 * k + i < 2 ^ 31 by omega)]
        rw [← g4]
        exact nx _ (hT (fun z => g2 z.2) i i4)
      · subst g3
        rw [if_neg g1, g4]
        simp only [jck_true, jde_is, jlt_is, jcl_0, beq_self_eq_true, jT_sI, jT_sJ, jP_sI, jP_sJ, jJ_sI, jI_sJ, jZ_sI, jZ_sJ, mP_factSet h, mT_factSet h, mP_now h, mT_now h, ix4, jin_nI (show 4 * k + i < 32 by omega) (by decide), nI_clamp (show 4 * k + i < 2 ^ 31 by omega)]
        rw [← g4]
        exact nx _ (hT (fun z => g1 z.1) i i4)
def mOn (M : Nat) (ν : JM) (l : List Int32) (ts : List Int64) (k : Nat) (r : Int32) : Option CS → Prop
  | none => r = 0 ∧ mBad M ν l (k, 3)
  | some v => r = 1 ∧ mAt M ν l ts k ∧ mNow M ν v
theorem m_one {M : Nat} {μ : JM} {l : List Int32} {ts : List Int64} {k : Nat} {F : List Int64} {N : List (Int64 × CS)} {wh : Bool} (h : mAt M μ l ts k) (hF : mFa M μ F) (hN : mNa M μ N) (hw : jI μ M 33 = if wh then 1 else 0) :
    ∃ r ν, fX11_one M μ = some (r, ν, 0, 0) ∧ sm M [18] [16] μ ν ∧ (if ¬ 0 < Cd l k then r = 0 ∧ mBad M ν l (k, 0) else mOn M ν l ts k r (opv F N wh (Cd l k))) := by
  obtain ⟨h1, h2, h3⟩ := mA_ok h
  have k6 := h.1.2.2.1.2.2.2.2.2.1
  have kc := tokc_1 h.2 h3
  have smf : ∀ {ν : JM} {kd : Nat}, kd ≤ 7 → fX11_fails M (nI kd) (jI μ M 15) μ = some (0, ν, 0, 0) → sm M [18] [16] μ ν := by
    intro ν kd hkd e
    rw [m_fails h1] at e
    have e2 : mFail M μ (nI kd) (jI μ M 15) = ν := by injection e with e; injection e with e0 e; injection e
    rw [← e2]; unfold mFail; rw [if_pos h2]
    exact sm.sF (by decide)
  have b15 : ∃ r ν, fX11_one_b15 M μ = some (r, ν, 0, 0) ∧ sm M [18] [16] μ ν ∧ r = 0 ∧ mBad M ν l (k, 0) := by
    obtain ⟨ν, e1, e2, e3⟩ := mA_fail h 0 (by omega)
    have e1' : fX11_fails M 0 (jI μ M 15) μ = some (0, ν, 0, 0) := e1
    refine ⟨0, ν, ?_, smf (kd := 0) (by omega) e1, rfl, e3⟩
    rw [fX11_one_b15]
    simp only [jck_true, jde_is, jlt_is, jcl_0, beq_self_eq_true, jT_sI, jT_sJ, jP_sI, jP_sJ, jJ_sI, jI_sJ, jZ_sI, jZ_sJ, h1.1, e1']
    rw [jck_of (by decide)]
  rw [fX11_one]
  simp only [jck_true, jde_is, jlt_is, jcl_0, beq_self_eq_true, jT_sI, jT_sJ, jP_sI, jP_sJ, jJ_sI, jI_sJ, jZ_sI, jZ_sJ, h1.1, k6, mA_isOwn h]
  by_cases q1 : 0 < Cd l k
  · have q2 : ¬ Cd l k ≤ -3000 := by rw [gt_toI] at q1; rw [le_toI (z := -3000) (by decide)]; omega
    rw [if_pos (kc.mpr (Or.inl q1)), if_neg q2, if_pos rfl]
    simp only [not_true, not_false_iff, q1, if_false, mP_factName h1, mP_factSize h1, hF.1]
    rw [mA_find h q1 (by rw [mT_factName h1]) (by rw [mT_factName h1]; have := hF.2.1; simp; omega) (by rw [mT_factName h1]; decide) (by rw [mT_factSize h1]) (by rw [mT_factSize h1]; have := hF.2.1; simp; omega) (by rw [mT_factSize h1]; decide) hF.2.2.1 (by have := hF.2.1; omega)]
    simp only [jcl_0]
    have fin : ∀ (x1 x2 : Int32) (v : CS) (T kk : Nat), ((x1 < 0 ∧ x2 < 0 ∧ ∀ i, i < 4 → v i = 0) ∨ (x1 < 0 ∧ ¬ x2 < 0 ∧ T = 19 ∧ x2 = nI kk ∧ kk < 25) ∨ (¬ x1 < 0 ∧ T = 12 ∧ x1 = nI kk ∧ kk < 8)) → (¬ (x1 < 0 ∧ x2 < 0) → ∀ e, e < 4 → jJ μ (M + T) (4 * kk + e) = v e &&& jJ μ (M + 10) e) → ∃ r ν, fX11_one_b99 M x1 x2 μ = some (r, ν, 0, 0) ∧ sm M [18] [16] μ ν ∧ mOn M ν l ts k r (some v) := by
      intro x1 x2 v T kk hx hT
      obtain ⟨ν, e1, e2, e3⟩ := one_l (M := M) (x1 := x1) (x2 := x2) (v := fun e => v e &&& jJ μ (M + 10) e) (T := T) (k := kk) (by
        rcases hx with ⟨g1, g2, g3⟩ | hx | hx
        · exact Or.inl ⟨g1, g2, fun i hi => by rw [g3 i hi]; simp⟩
        · exact Or.inr (Or.inl hx)
        · exact Or.inr (Or.inr hx)) jfuel 0 μ h1 (by omega) (jfuel_gt (by omega)) hT (fun e he => by omega)
      refine ⟨1, ν, by rw [fX11_one_b99]; exact e1, e2.wk (by simp) (by simp), rfl, h.sm e2 (by simp) (by decide), fun i hi => ?_⟩
      rw [e3 i hi, e2.aJ (by decide) (by decide)]
    rcases ixC_lt (cs := F) (c := Cd l k) (by have := hF.2.1; omega) with ⟨f, f1, f2, f3, f4, f5⟩ | ⟨f1, f2⟩
    · -- a fact
      rw [if_pos f5, fX11_one_b72, fX11_one_b73]
      simp only [jck_true, jde_is, jlt_is, jcl_0, beq_self_eq_true, jT_sI, jT_sJ, jP_sI, jP_sJ, jJ_sI, jI_sJ, jZ_sI, jZ_sJ, h1.1, hw]
      have hop : opv F N wh (Cd l k) = some (fcs f) := by unfold opv; rw [f1]
      rw [hop]
      have := fin (ixC F (Cd l k)) (-1) (fcs f) 12 f (Or.inr (Or.inr ⟨f4, rfl, f2, by have := hF.2.1; omega⟩)) (fun _ e he => hF.2.2.2 f f3 e he)
      rw [if_pos f5, ite_self]; exact this
    · rw [f2, if_neg (by decide)]
      simp only [jck_true, jde_is, jlt_is, jcl_0, beq_self_eq_true, jT_sI, jT_sJ, jP_sI, jP_sJ, jJ_sI, jI_sJ, jZ_sI, jZ_sJ, h1.1, hw]
      cases wh with
      | false =>
        simp only [Bool.false_eq_true, if_false, if_true]
        have hop : opv F N false (Cd l k) = some (fun _ => 0) := by unfold opv; rw [f1]; rfl
        rw [hop, fX11_one_b72, fX11_one_b73]
        simp only [jck_true, jde_is, jlt_is, jcl_0, beq_self_eq_true, jT_sI, jT_sJ, jP_sI, jP_sJ, jJ_sI, jI_sJ, jZ_sI, jZ_sJ, h1.1, hw, Bool.false_eq_true, if_false, if_true]
        exact fin (-1) (-1) (fun _ => 0) 0 0 (Or.inl ⟨by decide, by decide, fun _ _ => rfl⟩) (fun z => absurd ⟨by decide, by decide⟩ z)
      | true =>
        simp only [if_true]
        rw [if_neg (by decide)]
        simp only [mP_nameName h1, mP_nameSize h1, hN.1]
        have hNl := hN.2.1
        have := mA_find (cs := N.map (·.1)) h q1 (A := M + 17) (S := M + 18) (by rw [mT_nameName h1]) (by rw [mT_nameName h1, List.length_map]; simp; omega) (by rw [mT_nameName h1]; decide) (by rw [mT_nameSize h1]) (by rw [mT_nameSize h1, List.length_map]; simp; omega) (by rw [mT_nameSize h1]; decide) hN.2.2.1 (by rw [List.length_map]; omega)
        rw [List.length_map] at this
        rw [this]
        simp only [jcl_0, fX11_one_b73]
        simp only [jck_true, jde_is, jlt_is, jcl_0, beq_self_eq_true, jT_sI, jT_sJ, jP_sI, jP_sJ, jJ_sI, jI_sJ, jZ_sI, jZ_sJ, h1.1, hw, if_true]
        rw [if_neg (by decide), if_neg (by decide)]
        rcases ixC_lt (cs := N.map (·.1)) (c := Cd l k) (by rw [List.length_map]; omega) with ⟨f, g1, g2, g3, g4, g5⟩ | ⟨g1, g2⟩
        · rw [if_pos g5]
          rw [List.length_map] at g3
          have hop : opv F N true (Cd l k) = some (N.getD f (0, fun _ => 0)).2 := by unfold opv; rw [f1]; simp only [if_true, g1]
          rw [hop]
          have y1 : (-1 : Int32) < 0 := by decide
          have y2 : f < 25 := by omega
          have y3 : ∀ e, e < 4 → jJ μ (M + 19) (4 * f + e) = (N.getD f (0, fun _ => 0)).2 e &&& jJ μ (M + 10) e := fun e he => hN.2.2.2 f g3 e he
          generalize (N.getD f (0, fun _ => 0)).2 = vv at y3 ⊢
          generalize ixC (N.map (·.1)) (Cd l k) = x2 at g2 g4 ⊢
          have := fin (-1) x2 vv 19 f (Or.inr (Or.inl ⟨y1, g4, rfl, g2, y2⟩)) (fun _ => y3)
          exact this
        · rw [g2, if_neg (by decide)]
          have hop : opv F N true (Cd l k) = none := by unfold opv; rw [f1]; simp only [if_true, g1]
          rw [hop]
          obtain ⟨ν, e1, e2, e3⟩ := mA_fail h 3 (by omega)
          have e1' : fX11_fails M 3 (jI μ M 15) μ = some (0, ν, 0, 0) := e1
          rw [e1']; simp only [jcl_0]
          exact ⟨0, ν, by rw [jck_of (by decide)], smf (kd := 3) (by omega) e1, rfl, e3⟩
  · simp only [q1, not_false_iff, if_true]
    by_cases q2 : Cd l k ≤ -3000
    · rw [if_pos (kc.mpr (Or.inr q2)), if_pos q2, if_neg (by decide)]; exact b15
    · rw [if_neg (fun z => by rcases kc.mp z with z | z <;> contradiction)]; exact b15
