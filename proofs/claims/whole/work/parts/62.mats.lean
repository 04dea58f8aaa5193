/-! the reference's steps, by tokens -/
theorem Cd_own {l : List Int32} {k : Nat} (hb : byt l) (ho : ovr (l.drop (pl l k)) = false) : Cd l k ≠ -2000 := by
  intro q
  unfold Cd at q
  have q2 : (tcode (l.drop (pl l k))).toInt = -2000 := by rw [q]; decide
  rcases tcl _ (hb.drop (pl l k)) with ⟨e1, e2, e3, e4, e5⟩ | ⟨i, e1, e2, e3, e4, e5, e6, e7, e8⟩ | ⟨e1, e2, e3, e4, e5, e6, e7, e8, e9⟩ | ⟨v, e1, e2, e3, e4, e5, e6, e7, e8⟩ | ⟨c, r, v, e1, e2, e3, e4, e5, e6, e7, e8, e9, e10⟩ | ⟨e1, e2, e3, -⟩
  · rw [e2] at q; exact absurd q (by decide)
  · omega
  · omega
  · omega
  · omega
  · rw [ho] at e1; exact absurd e1 (by decide)
theorem ovr_iff {l : List Int32} {k : Nat} (hb : byt l) : ovr (l.drop (pl l k)) = true ↔ Cd l k = -2000 := by
  constructor
  · exact fun h => ovr_own h
  · intro h
    cases q : ovr (l.drop (pl l k)) with
    | true => rfl
    | false => exact absurd h (Cd_own hb q)
theorem isT_lt {l : List Int32} {k : Nat} (h : isT (Cd l k)) (hb : byt l) : pl l k < pl l (k + 1) := nxj_gt (tok_put (hb.drop _) h ([], 0)).2.2
theorem mA_take {M : Nat} {μ : JM} {l : List Int32} {ts : List Int64} {k : Nat} (h : mAt M μ l ts k) (hT : isT (Cd l k)) : ∃ r ν, fX11_takes M μ = some (r, ν, 0, 0) ∧ sm M TK [9] μ ν ∧ mR M ν l ts k r (tk (Cd l) k) := by
  obtain ⟨h1, hb⟩ := h
  obtain ⟨q1, q2, q3⟩ := tok_put (hb.drop (pl l k)) hT (cB ts)
  obtain ⟨r, ν, e1, e2, e3⟩ := m_take h1 q2
  refine ⟨r, ν, e1, e2.sm, ?_⟩
  have hl := h1.2.2.2.2.2.2.2.2
  unfold sTake at e3
  unfold tk
  by_cases o : ovr (l.drop (nxj l (pl l k))) = true
  · rw [if_pos o] at e3
    rw [if_pos ((ovr_iff (k := k + 1) hb).mp o)]
    exact ⟨e3.1, mBad.of e3.2.2 e3.2.1 hl (by omega)⟩
  · rw [if_neg o] at e3
    rw [if_neg (fun z => o ((ovr_iff (k := k + 1) hb).mpr z))]
    refine ⟨e3.1, by omega, ?_, hb⟩
    have e4 := e3.2
    rw [sl_one, cB_snoc]
    have : cput (cB ts) (Cd l k) = (cnx l (pl l k, (cB ts).1, (cB ts).2), ahx l (pl l k, (cB ts).1, (cB ts).2)) := q1
    rw [this]; exact e4
theorem isT_own {c : Int64} {i : Nat} (hi : i < 18) (h : c = -3000 - lN i) : isT c := by
  right; left
  rw [h, sub_toI (-3000) (by decide) (by omega) (by omega) (by omega)]; omega
theorem isT_free {c : Int64} (h : 0 < c) : isT c := Or.inl (gt_toI.mp h)
theorem isT_sg {c : Int64} (h : isSg c = true) : isT c := Or.inr (Or.inr (Or.inr h))
theorem mA_isWord {M : Nat} {μ : JM} {l : List Int32} {ts : List Int64} {k : Nat} (h : mAt M μ l ts k) (i : Nat) (hi : i < 18) : fX11_isWord M (lN (oursN.getD i 0)) μ = some (if Cd l k = -3000 - lN i then 1 else 0, μ, 0, 0) := m_isWord h.1.1 h.1.2.1 h.1.2.2.1 i hi
theorem mA_isOwn {M : Nat} {μ : JM} {l : List Int32} {ts : List Int64} {k : Nat} (h : mAt M μ l ts k) : fX11_isOwn M μ = some (if Cd l k ≤ -3000 then 1 else 0, μ, 0, 0) := by
  rw [m_isOwn h.1.1 h.1.2.1 h.1.2.2.1]
  congr 2
theorem mA_isSign {M : Nat} {μ : JM} {l : List Int32} {ts : List Int64} {k : Nat} (h : mAt M μ l ts k) (v : Nat) (hv : v = 58 ∨ v = 59 ∨ v = 40 ∨ v = 41) : fX11_isSign M (nI v) μ = some (if Cd l k = -1 - lN v then 1 else 0, μ, 0, 0) := by
  rw [m_isSign h.1.1 h.1.2.2.1]
  congr 2
  have hz : (-1 - lN v).toInt = -1 - (v : Int) := sub_toI (-1) (by decide) (by omega) (by omega) (by omega)
  have : (tokc (l.drop (pl l k)) = 3 ∧ tokv (l.drop (pl l k)) = nI v) ↔ Cd l k = -1 - lN v := by
    unfold Cd
    rw [code_eq (z := -1 - (v : Int)) _ hz]
    rcases tcl _ (h.2.drop (pl l k)) with ⟨e1, e2, e3, e4, e5⟩ | ⟨i, e1, e2, e3, e4, e5, e6, e7, e8⟩ | ⟨e1, e2, e3, e4, e5, e6, e7, e8, e9⟩ | ⟨w, e1, e2, e3, e4, e5, e6, e7, e8⟩ | ⟨c, r, w, e1, e2, e3, e4, e5, e6, e7, e8, e9, e10⟩ | ⟨e1, e2, e3, e4, e5⟩
    · rw [e2, e3]; simp; omega
    · rw [e3, e4]; simp; omega
    · rw [e5, e1]; simp; omega
    · rw [e8, e2]; simp; omega
    · rw [e9, e3, e4]
      constructor
      · rintro ⟨g1, g2⟩
        split at g1
        next z =>
          rw [e5 (by omega)] at g2
          have := (nI_eq (by omega) (by omega)).mp g2
          omega
        next z => exact absurd g1 (by decide)
      · intro g
        have : w = v := by omega
        subst this
        exact ⟨if_pos hv, e5 (by omega)⟩
    · rw [e3]
      rcases e5 with e5 | e5 <;> rw [e5] <;> simp <;> omega
  simp only [this]
theorem mA_fail {M : Nat} {μ : JM} {l : List Int32} {ts : List Int64} {k : Nat} (h : mAt M μ l ts k) (kind : Nat) (hk : kind ≤ 7) : ∃ ν, fX11_fails M (nI kind) (jI μ M 15) μ = some (0, ν, 0, 0) ∧ sm M TK [9] μ ν ∧ mBad M ν l (k, kind) := by
  obtain ⟨ν, e1, e2, e3⟩ := m_fail h.1 kind
  exact ⟨ν, e1, e2.sm, mBad.of e3.2.2 e3.2.1 h.1.2.2.2.2.2.2.2.2 hk⟩
theorem mA_ok {M : Nat} {μ : JM} {l : List Int32} {ts : List Int64} {k : Nat} (h : mAt M μ l ts k) : MT M μ ∧ jI μ M 18 = 0 ∧ Cd l k ≠ -2000 := ⟨h.1.1, h.1.2.2.2.2.2.1, Cd_own h.2 h.1.2.2.2.2.2.2.1⟩
theorem mA_exW {M : Nat} {μ : JM} {l : List Int32} {ts : List Int64} {k : Nat} (h : mAt M μ l ts k) (i : Nat) (hi : i < 18) : ∃ r ν, fX11_expects M (lN (oursN.getD i 0)) μ = some (r, ν, 0, 0) ∧ sm M TK [9] μ ν ∧ mR M ν l ts k r (exC (Cd l) (-3000 - lN i) k) := by
  obtain ⟨h1, h2, h3⟩ := mA_ok h
  rw [fX11_expects]
  simp only [jck_true, beq_self_eq_true, h1.1, h2, if_true, mA_isWord h i hi, jcl_0]
  unfold exC
  by_cases q : Cd l k = -3000 - lN i
  · simp only [if_pos q]
    rw [if_neg (by decide), fX11_expects_b27]
    simp only [jck_true, beq_self_eq_true, h1.1]
    obtain ⟨r, ν, e1, e2, e3⟩ := mA_take h (isT_own hi q)
    rw [e1]; simp only [jcl_0]
    cases hs : tk (Cd l) k with
    | error f =>
      rw [hs] at e3
      obtain ⟨e4, e5⟩ := e3
      subst e4
      exact ⟨0, ν, by rw [if_pos rfl], e2, rfl, e5⟩
    | ok p2 =>
      rw [hs] at e3
      obtain ⟨e4, e5⟩ := e3
      subst e4
      exact ⟨1, ν, by rw [if_neg (by decide)], e2, rfl, e5⟩
  · simp only [if_neg q]
    obtain ⟨ν, e1, e2, e3⟩ := mA_fail h 0 (by omega)
    rw [if_pos trivial, show fX11_fails M 0 (jI μ M 15) μ = some (0, ν, 0, 0) from e1]; simp only [jcl_0]
    exact ⟨0, ν, by rw [if_pos trivial], e2, rfl, e3⟩
theorem mA_exS {M : Nat} {μ : JM} {l : List Int32} {ts : List Int64} {k : Nat} (h : mAt M μ l ts k) (v : Nat) (hv : v = 58 ∨ v = 59 ∨ v = 40 ∨ v = 41) : ∃ r ν, fX11_expectsSign M (nI v) μ = some (r, ν, 0, 0) ∧ sm M TK [9] μ ν ∧ mR M ν l ts k r (exC (Cd l) (-1 - lN v) k) := by
  obtain ⟨h1, h2, h3⟩ := mA_ok h
  rw [fX11_expectsSign]
  simp only [jck_true, beq_self_eq_true, h1.1, h2, if_true, mA_isSign h v hv, jcl_0]
  unfold exC
  by_cases q : Cd l k = -1 - lN v
  · simp only [if_pos q]
    rw [if_neg (by decide), fX11_expectsSign_b27]
    simp only [jck_true, beq_self_eq_true, h1.1]
    have hz : (-1 - lN v).toInt = -1 - (v : Int) := sub_toI (-1) (by decide) (by omega) (by omega) (by omega)
    obtain ⟨r, ν, e1, e2, e3⟩ := mA_take h (isT_sg (by rw [isSg_iff, q, hz]; omega))
    rw [e1]; simp only [jcl_0]
    cases hs : tk (Cd l) k with
    | error f =>
      rw [hs] at e3
      obtain ⟨e4, e5⟩ := e3
      subst e4
      exact ⟨0, ν, by rw [if_pos rfl], e2, rfl, e5⟩
    | ok p2 =>
      rw [hs] at e3
      obtain ⟨e4, e5⟩ := e3
      subst e4
      exact ⟨1, ν, by rw [if_neg (by decide)], e2, rfl, e5⟩
  · simp only [if_neg q]
    obtain ⟨ν, e1, e2, e3⟩ := mA_fail h 0 (by omega)
    rw [if_pos trivial, show fX11_fails M 0 (jI μ M 15) μ = some (0, ν, 0, 0) from e1]; simp only [jcl_0]
    exact ⟨0, ν, by rw [if_pos trivial], e2, rfl, e3⟩
/-- the token's class is told by its code -/
theorem tokc_1 {l : List Int32} {k : Nat} (hb : byt l) (ho : Cd l k ≠ -2000) : tokc (l.drop (pl l k)) = 1 ↔ (0 < Cd l k ∨ Cd l k ≤ -3000) := by
  rw [gt_toI, le_toI (z := -3000) (by decide)]
  unfold Cd at ho ⊢
  rcases tcl _ (hb.drop (pl l k)) with ⟨e1, e2, e3, e4, e5⟩ | ⟨i, e1, e2, e3, e4, e5, e6, e7, e8⟩ | ⟨e1, e2, e3, e4, e5, e6, e7, e8, e9⟩ | ⟨w, e1, e2, e3, e4, e5, e6, e7, e8⟩ | ⟨c, r, w, e1, e2, e3, e4, e5, e6, e7, e8, e9, e10⟩ | ⟨e1, e2, e3, e4, e5⟩
  · rw [e2, e3]; simp
  · rw [e3, e4]; simp; omega
  · rw [e5, e1]; simp; omega
  · rw [e8, e2]; simp; omega
  · rw [e9, e3]; split <;> simp <;> omega
  · exact absurd e2 ho
theorem mA_isName {M : Nat} {μ : JM} {l : List Int32} {ts : List Int64} {k : Nat} (h : mAt M μ l ts k) : ∃ r ν, fX11_isName M μ = some (r, ν, 0, 0) ∧ sm M TK [9] μ ν ∧ (match nmC (Cd l) k with | .error e => r = 0 ∧ mBad M ν l e | .ok _ => r = 1 ∧ ν = μ) := by
  obtain ⟨h1, h2, h3⟩ := mA_ok h
  have k6 := h.1.2.2.1.2.2.2.2.2.1
  have kc := tokc_1 h.2 h3
  rw [fX11_isName]
  simp only [jck_true, beq_self_eq_true, h1.1, h2, k6, mA_isOwn h, jcl_0]
  rw [if_pos (by decide)]
  unfold nmC
  by_cases q1 : 0 < Cd l k
  · have q2 : ¬ Cd l k ≤ -3000 := by rw [gt_toI] at q1; rw [le_toI (z := -3000) (by decide)]; omega
    rw [if_pos (kc.mpr (Or.inl q1))]
    simp only [if_pos q1, if_neg q2]
    exact ⟨1, μ, by rw [if_pos trivial], sm.rf, rfl, rfl⟩
  · by_cases q2 : Cd l k ≤ -3000
    · rw [if_pos (kc.mpr (Or.inr q2))]
      simp only [if_neg q1, if_pos q2]
      rw [if_neg (by decide)]
      obtain ⟨ν, e1, e2, e3⟩ := mA_fail h 2 (by omega)
      rw [show (2 : Int32) = nI 2 from rfl, e1]; simp only [jcl_0]
      exact ⟨0, ν, by rw [if_pos trivial], e2, rfl, e3⟩
    · rw [if_neg (fun z => by rcases kc.mp z with z | z <;> contradiction)]
      simp only [if_neg q1, if_neg q2]
      obtain ⟨ν, e1, e2, e3⟩ := mA_fail h 0 (by omega)
      rw [show fX11_fails M 0 (jI μ M 15) μ = some (0, ν, 0, 0) from e1]; simp only [jcl_0]
      exact ⟨0, ν, by rw [jck_of (by decide)], e2, rfl, e3⟩
/-- the place among tokens is kept by what doesn't touch it -/
theorem mAt.sm {M : Nat} {μ ν : JM} {l : List Int32} {ts : List Int64} {k : Nat} {fs as : List Nat} (h : mAt M μ l ts k) (s : sm M fs as μ ν) (h1 : ∀ i ∈ [12, 13, 14, 15, 16, 17, 18, 20, 21], i ∉ fs) (h2 : ∀ i ∈ [8, 9], i ∉ as) : mAt M ν l ts k := by
  obtain ⟨⟨g1, g2, g3, g4, g5, g6, g7, g8, g9⟩, hb⟩ := h
  have f : ∀ i ∈ [12, 13, 14, 15, 16, 17, 18, 20, 21], jI ν M i = jI μ M i := fun i hi => s.fI (h1 i hi)
  have a : ∀ i ∈ [8, 9], jI ν (M + i) = jI μ (M + i) := fun i hi => s.aI (by rcases List.mem_cons.mp hi with rfl | hi <;> simp at * ; omega) (h2 i hi)
  have f5 : ∀ k, 13 ≤ k → k ≤ 17 → jI ν M k = jI μ M k := fun k q1 q2 => by
    have : k = 13 ∨ k = 14 ∨ k = 15 ∨ k = 16 ∨ k = 17 := by omega
    rcases this with rfl | rfl | rfl | rfl | rfl <;> exact f _ (by decide)
  exact ⟨⟨s.mt g1, ⟨(f 12 (by decide)).trans g2.1, by rw [a 8 (by decide)]; exact g2.2.1, g2.2.2⟩, lk_keep f5 g3, ⟨(f 20 (by decide)).trans g4.1, by rw [a 9 (by decide)]; exact g4.2.1, g4.2.2⟩, (f 21 (by decide)).trans g5, (f 18 (by decide)).trans g6, g7, g8, g9⟩, hb⟩
