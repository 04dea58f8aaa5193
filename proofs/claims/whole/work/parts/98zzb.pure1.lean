/-! what the spec keeps: the tokens of clauses that were read -/
theorem isV_of {l : List Int32} {k : Nat} (hb : byt l) (h : isT (Cd l k)) : isV (Cd l k) := by
  unfold Cd at h ⊢
  rcases tcl _ (hb.drop (pl l k)) with ⟨e1, e2, e3, e4, e5⟩ | ⟨i, e1, e2, e3, e4, e5, e6, e7, e8⟩ | ⟨e1, e2, e3, e4, e5, e6, e7, e8, e9⟩ | ⟨w, e1, e2, e3, e4, e5, e6, e7, e8⟩ | ⟨c, r, w, e1, e2, e3, e4, e5, e6, e7, e8, e9, e10⟩ | ⟨e1, e2, e3, e4, e5⟩
  · exfalso; rw [e2] at h; revert h; unfold isT; decide
  · exact Or.inr (Or.inl ⟨i, e1, e2⟩)
  · exact Or.inl ⟨_, e6, e7, e4⟩
  · refine Or.inr (Or.inr (Or.inl ?_))
    unfold isNm
    rw [Bool.and_eq_true, decide_eq_true_eq, decide_eq_true_eq, fa_lt64, fa_le64, show (-2000 : Int64).toInt = -2000 from by decide, show (-1000 : Int64).toInt = -1000 from by decide]
    omega
  · refine Or.inr (Or.inr (Or.inr ?_))
    unfold isT at h
    rcases h with h | h | h | h
    · omega
    · omega
    · omega
    · exact h
  · exfalso; rw [e2] at h; revert h; unfold isT; decide
theorem pl_cnt {l : List Int32} {k : Nat} (hb : byt l) : ∀ n, aT (Cd l) k (k + n) → pl l k + n ≤ pl l (k + n)
  | 0, _ => Nat.le_refl _
  | n + 1, h => by
    have ih := pl_cnt hb n (fun i h1 h2 => h i h1 (by omega))
    have hx := (tok_put (hb.drop (pl l (k + n))) (h (k + n) (by omega) (by omega)) ([], 0)).2.2
    have := nxj_gt hx
    show pl l k + (n + 1) ≤ nxj l (pl l (k + n)); omega
theorem aT_cnt {l : List Int32} {k n : Nat} (hb : byt l) (hk : k ≤ n) (h : aT (Cd l) k n) : n - k ≤ l.length := by
  have h1 := pl_cnt (k := k) hb (n - k) (by rw [show k + (n - k) = n by omega]; exact h)
  have h2 := pl_le l (k + (n - k))
  omega
def tkG (c : Cl) : Prop := good c ∧ (∀ k ∈ Cl.tks c, vld k ∧ isV k) ∧ (Cl.tks c).length ≤ 900
theorem sClause_tkG {l : List Int32} {F : List Int64} {md : Nat} {cls : List Cl} {P A : List Int64} {k : Nat} {y : Cl × List Int64 × List Int64 × Nat} (hb : byt l) (hl : l.length ≤ 900) (h : sClause (Cd l) F md cls P A k = .ok y) : tkG y.1 := by
  have hT := sClause_T (Cd l) F md cls P A k y h
  have ht := sClause_tks h
  refine ⟨sClause_wf (Cd_wrd hb) h, fun c hc => ?_, ?_⟩
  · rw [ht] at hc
    have hq := aT_sl hT.2 c hc
    unfold sl at hc
    rw [List.mem_map] at hc
    obtain ⟨i, hi, rfl⟩ := hc
    exact ⟨⟨_, hb.drop (pl l i), rfl, hq⟩, isV_of hb hq⟩
  · rw [ht, sl_len]
    exact Nat.le_trans (aT_cnt hb hT.1 hT.2) hl
/-! numbers of PARTIES and ACTS, terms -/
theorem idx_lt {P : List Int64} {c : Int64} {i : Nat} (h : P.idxOf? c = some i) : i < P.length := by
  unfold List.idxOf? at h
  rw [List.findIdx?_eq_some_iff_getElem] at h
  exact h.1
theorem sNum_K {C : Nat → Int64} {P : List Int64} {mx k : Nat} {y : Int32 × List Int64 × Nat} (hP : P.length ≤ mx) (h : sNum true P mx C k = .ok y) : (∃ i, y.1 = nI i ∧ i < mx) ∧ y.2.1.length ≤ mx := by
  unfold sNum at h
  obtain ⟨_, h1, h⟩ := eb_inv h
  simp only [if_true] at h
  cases hi : P.idxOf? (C k) with
  | some i =>
    rw [hi] at h
    obtain ⟨k2, h2, h⟩ := eb_inv h
    injection h with h
    rw [← h]
    have := idx_lt hi
    exact ⟨⟨i, rfl, by omega⟩, hP⟩
  | none =>
    rw [hi] at h
    obtain ⟨hn, h⟩ := ite_inv h
    obtain ⟨k2, h2, h⟩ := eb_inv h
    injection h with h
    rw [← h]
    refine ⟨⟨P.length, rfl, by omega⟩, ?_⟩
    show (P ++ [C k]).length ≤ mx
    simp; omega
theorem sTerm_K {C : Nat → Int64} {k : Nat} {y : Int32 × Int32 × Nat} (h : sTerm C k = .ok y) : ∃ x w, y.1 = nI x ∧ x < 512 ∧ y.2.1 = nI w ∧ w < 2 := by
  unfold sTerm at h
  obtain ⟨k1, h1, h⟩ := eb_inv h
  by_cases q : isNm (C k1) = true
  · rw [if_pos q] at h
    obtain ⟨hn, h⟩ := ite_inv h
    obtain ⟨k2, h2, h⟩ := eb_inv h
    by_cases q2 : C k2 = -3008
    · rw [if_pos q2] at h
      obtain ⟨k3, h3, h⟩ := eb_inv h
      injection h with h
      rw [← h]
      exact ⟨_, 1, rfl, by omega, rfl, by omega⟩
    · rw [if_neg q2] at h
      obtain ⟨k3, h3, h⟩ := eb_inv h
      injection h with h
      rw [← h]
      exact ⟨_, 0, rfl, by omega, rfl, by omega⟩
  · rw [if_neg q] at h; cases h
theorem sClause_K {C : Nat → Int64} {F : List Int64} {cls : List Cl} {P A : List Int64} {k : Nat} {y : Cl × List Int64 × List Int64 × Nat} (hP : P.length ≤ 6) (hA : A.length ≤ 12) (h : sClause C F 0 cls P A k = .ok y) : (isDf y.1 = true ∨ rngK y.1) ∧ y.2.1.length ≤ 6 ∧ y.2.2.1.length ≤ 12 := by
  unfold sClause at h
  by_cases q : C k = -3000
  · rw [if_pos q] at h
    unfold sDefine at h
    obtain ⟨-, h⟩ := ite_inv h
    obtain ⟨k1, h1, h⟩ := eb_inv h
    obtain ⟨_, h2, h⟩ := eb_inv h
    obtain ⟨-, h⟩ := ite_inv h
    obtain ⟨-, h⟩ := ite_inv h
    obtain ⟨k2, h3, h⟩ := eb_inv h
    obtain ⟨k3, h4, h⟩ := eb_inv h
    obtain ⟨x, h5, h⟩ := eb_inv h
    injection h with h
    rw [← h]
    exact ⟨Or.inl rfl, hP, hA⟩
  · rw [if_neg q] at h
    unfold sLabel at h
    obtain ⟨_, h1, h⟩ := eb_inv h
    obtain ⟨-, h⟩ := ite_inv h
    obtain ⟨-, h⟩ := ite_inv h
    obtain ⟨-, h⟩ := ite_inv h
    obtain ⟨k1, h2, h⟩ := eb_inv h
    unfold sDeed at h
    obtain ⟨k2, h3, h⟩ := eb_inv h
    obtain ⟨nk, h⟩ := ite_inv h
    obtain ⟨k3, h4, h⟩ := eb_inv h
    obtain ⟨p, h5, h⟩ := eb_inv h
    obtain ⟨k4, h6, h⟩ := eb_inv h
    obtain ⟨a, h7, h⟩ := eb_inv h
    obtain ⟨t, h8, h⟩ := eb_inv h
    obtain ⟨z, h9, h⟩ := eb_inv h
    injection h with h
    rw [← h]
    obtain ⟨⟨p1, p2, p3⟩, p4⟩ := sNum_K hP h5
    obtain ⟨⟨a1, a2, a3⟩, a4⟩ := sNum_K hA h7
    refine ⟨Or.inr ?_, p4, a4⟩
    rcases sKind_T nk with ⟨-, e⟩ | ⟨-, e⟩ | ⟨-, e⟩
    · rw [if_pos e] at h8
      obtain ⟨x, w, t1, t2, t3, t4⟩ := sTerm_K h8
      exact ⟨1, p1, a1, e, by omega, by omega, p2, by omega, a2, by omega, fun _ => ⟨x, w, t1, t2, t3, t4⟩⟩
    · exact ⟨2, p1, a1, e, by omega, by omega, p2, by omega, a2, by omega, fun z => absurd z (by omega)⟩
    · exact ⟨3, p1, a1, e, by omega, by omega, p2, by omega, a2, by omega, fun z => absurd z (by omega)⟩
def G9 (c : Cl) : Prop := tkG c ∧ (isDf c = true ∨ rngK c)
theorem sVer_9 {l : List Int32} {F : List Int64} (hb : byt l) (hl : l.length ≤ 900) : ∀ (n : Nat) (cls : List Cl) (P A : List Int64) (k : Nat) (y : List Cl × List Int64 × List Int64 × Nat), P.length ≤ 6 → A.length ≤ 12 → sVer (Cd l) F n cls P A k = .ok y → (∀ c ∈ cls, G9 c) → (∀ c ∈ y.1, G9 c) ∧ y.1.length ≤ cls.length + n
  | 0, cls, P, A, k, y, _, _, h, _ => by rw [sVer] at h; cases h
  | n + 1, cls, P, A, k, y, hP, hA, h, hg => by
    rw [sVer] at h
    obtain ⟨x, hx, h⟩ := eb_inv h
    obtain ⟨k1, k2, k3⟩ := sClause_K hP hA hx
    have g1 : ∀ c ∈ cls ++ [x.1], G9 c := by
      intro c hc
      rcases List.mem_append.mp hc with t | t
      · exact hg c t
      · rw [List.mem_singleton] at t; rw [t]; exact ⟨sClause_tkG hb hl hx, k1⟩
    by_cases q : Cd l x.2.2.2 = 0
    · rw [if_pos q] at h
      injection h with h
      rw [← h]; exact ⟨g1, by simp⟩
    · rw [if_neg q] at h
      obtain ⟨k2', hk, h⟩ := eb_inv h
      have := sVer_9 hb hl n _ _ _ _ y k2 k3 h g1
      exact ⟨this.1, by have := this.2; simp at this; omega⟩
theorem all_set {G : Cl → Prop} (hG : ∀ c h, G c → G (setC c h)) : ∀ (cls : List Cl) (hs : List CS), (∀ c ∈ cls, G c) → ∀ c ∈ List.zipWith setC cls hs, G c
  | [], _, _, c, hc => by simp at hc
  | _ :: _, [], _, c, hc => by simp at hc
  | d :: r, h :: hs, g, c, hc => by
    rw [List.zipWith_cons_cons, List.mem_cons] at hc
    rcases hc with rfl | hc
    · exact hG _ _ (g d List.mem_cons_self)
    · exact all_set hG r hs (fun x hx => g x (List.mem_cons_of_mem _ hx)) c hc
theorem G9_stl {cls : List Cl} (h : ∀ c ∈ cls, G9 c) : ∀ c ∈ stlC cls, G9 c := all_set (fun _ _ g => g) cls _ h
/-! a text, and where it was read -/
def gR9 (s : SS) : Prop := ∀ t, t < (sTx s).length → ∃ l P0 A0 y, byt l ∧ l.length ≤ 900 ∧ P0.length ≤ 6 ∧ A0.length ≤ 12 ∧ sRead (Cd l) (sF s) P0 A0 = .ok y ∧ txA s t = stlC y.1 ∧ y.2.1 <+: sP s ∧ y.2.2.1 <+: sA s
theorem gR9.rd {s : SS} (h : gR9 s) : gRd s := fun t ht => by
  obtain ⟨l, P0, A0, y, h1, _, _, _, h5, h6, h7, h8⟩ := h t ht
  exact ⟨l, P0, A0, y, h1, h5, h6, h7, h8⟩
theorem sRead_len {l : List Int32} {F P A : List Int64} {y : List Cl × List Int64 × List Int64 × Nat} (hb : byt l) (h : sRead (Cd l) F P A = .ok y) : (txB y.1).length ≤ 2 * l.length := by
  obtain ⟨r1, r2, r3, r4, r5⟩ := sRead_ok h
  unfold txB
  rw [r2]
  have h1 := cB_len hb (Nat.zero_le _) r3
  have h2 := pl_le l y.2.2.2
  omega
theorem txB_stl (cls : List Cl) : txB (stlC cls) = txB cls := by unfold txB; rw [jT2_stl]
theorem gR9.all {s : SS} (h : gR9 s) {t : Nat} (ht : t < (sTx s).length) : txA s t ≠ [] ∧ (∀ c ∈ txA s t, G9 c) ∧ (txA s t).length ≤ 26 ∧ (txB (txA s t)).length ≤ 1800 := by
  obtain ⟨l, P0, A0, y, h1, h2, h3, h4, h5, h6, h7, h8⟩ := h t ht
  obtain ⟨r1, r2, r3, r4, r5⟩ := sRead_ok h5
  obtain ⟨v1, v2⟩ := sVer_9 h1 h2 26 [] P0 A0 0 y h3 h4 r1 (fun c hc => by cases hc)
  rw [h6]
  refine ⟨fun z => ?_, G9_stl v1, ?_, ?_⟩
  · have := stlC_len y.1
    rw [z] at this
    exact r5 (List.length_eq_zero_iff.mp this.symm)
  · rw [stlC_len]; simpa using v2
  · rw [txB_stl]
    have := sRead_len h1 h5
    omega
theorem jT2_len : ∀ cls : List Cl, (∀ c ∈ cls, (Cl.tks c).length ≤ 900) → (jT2 cls).length ≤ 901 * cls.length
  | [], _ => by simp [jT2]
  | [c], h => by
    have := h c List.mem_cons_self
    rw [jT2, List.length_singleton]; omega
  | c :: d :: r, h => by
    have h1 := h c List.mem_cons_self
    have h2 := jT2_len (d :: r) (fun x hx => h x (List.mem_cons_of_mem _ hx))
    rw [jT2, List.length_append, List.length_cons, List.length_cons]; omega
theorem mV_of {cls : List Cl} (h : ∀ c ∈ cls, tkG c) (hl : cls.length ≤ 50) : mV cls := by
  refine ⟨fun c hc k hk => ((h c hc).2.1 k hk).2, fun c hc => by have := (h c hc).2.2; omega, fun k hk => ?_, txB_byt cls fun d hd => (h d hd).1⟩
  have := jT2_len (cls.take k) (fun c hc => (h c (List.mem_of_mem_take hc)).2.2)
  have h2 : (cls.take k).length ≤ 50 := by rw [List.length_take]; omega
  omega
theorem gR9.tx {s : SS} (h : gR9 s) (hV : ∀ v, v < 4 → sV s v ≠ none → sF s ≠ []) : gTx s := ⟨fun t ht => ⟨(h.all ht).1, fun d hd => ((h.all ht).2.1 d hd).1.1⟩, hV⟩
theorem gR9.v {s : SS} (h : gR9 s) : gV s := fun t ht => by
  obtain ⟨a1, a2, a3, a4⟩ := h.all ht
  obtain ⟨m1, m2, m3, m4⟩ := mV_of (cls := txA s t) (fun c hc => (a2 c hc).1) (by omega)
  exact ⟨m1, m2, m3, a4⟩
theorem gR9.n {s : SS} (h : gR9 s) : gN s := fun t ht c hc => by
  obtain ⟨⟨w, w1, w2, _⟩, _⟩ := ((h.all ht).2.1 c hc).1.1
  exact ⟨wnat w, wnat_lt w1.2.1 w1.2.2, w2.symm⟩
theorem gR9.k {s : SS} (h : gR9 s) : gK s := fun t ht c hc => ((h.all ht).2.1 c hc).2
/-! a rider's clauses -/
theorem sCh1_9 {l : List Int32} {F P A : List Int64} {cls : List Cl} {k : Nat} {y : List Cl × Nat} (hb : byt l) (hl : l.length ≤ 900) (hg : ∀ d ∈ cls, tkG d) (h : sCh1 (Cd l) F P A cls k = .ok y) : (∀ d ∈ y.1, tkG d) ∧ y.1.length ≤ cls.length + 1 := by
  unfold sCh1 at h
  by_cases q1 : Cd l k = -3015
  · rw [if_pos q1] at h
    obtain ⟨k1, -, h⟩ := eb_inv h
    obtain ⟨_, -, h⟩ := eb_inv h
    cases hl : lfnd cls (Cd l k1) false with
    | none => rw [hl] at h; cases h
    | some p =>
      rw [hl] at h
      obtain ⟨k2, -, h⟩ := eb_inv h
      injection h with h
      rw [← h]
      refine ⟨fun d hd => hg d (List.mem_of_mem_eraseIdx hd), ?_⟩
      have := List.length_eraseIdx_le cls p
      show (cls.eraseIdx p).length ≤ _; omega
  · rw [if_neg q1] at h
    by_cases q2 : Cd l k = -3016
    · rw [if_pos q2] at h
      obtain ⟨k1, -, h⟩ := eb_inv h
      obtain ⟨z, hz, h⟩ := eb_inv h
      cases hl : lfnd cls z.1.2.1 (isDf z.1) with
      | none => rw [hl] at h; cases h
      | some p =>
        rw [hl] at h
        injection h with h
        rw [← h]
        refine ⟨fun d hd => ?_, by simp⟩
        rcases List.mem_or_eq_of_mem_set hd with t | t
        · exact hg d t
        · rw [t]; exact sClause_tkG hb (by assumption) hz
    · rw [if_neg q2] at h
      by_cases q3 : Cd l k = -3017
      · rw [if_pos q3] at h
        obtain ⟨k1, -, h⟩ := eb_inv h
        obtain ⟨z, hz, h⟩ := eb_inv h
        injection h with h
        rw [← h]
        refine ⟨fun d hd => ?_, by simp⟩
        rcases List.mem_append.mp hd with t | t
        · exact hg d t
        · rw [List.mem_singleton] at t; rw [t]; exact sClause_tkG hb hl hz
      · rw [if_neg q3] at h; cases h
theorem sCh_9 {l : List Int32} {F P A : List Int64} (hb : byt l) (hl : l.length ≤ 900) : ∀ (fu n : Nat) (cls : List Cl) (k : Nat) (y : List Cl × Nat), (∀ d ∈ cls, tkG d) → sCh (Cd l) F P A fu n cls k = .ok y → (∀ d ∈ y.1, tkG d) ∧ y.1.length ≤ cls.length + fu
  | 0, n, cls, k, y, _, h => by rw [sCh] at h; cases h
  | fu + 1, n, cls, k, y, hg, h => by
    rw [sCh] at h
    obtain ⟨-, h⟩ := ite_inv h
    obtain ⟨x, hx, h⟩ := eb_inv h
    have g1 := sCh1_9 hb hl hg hx
    by_cases q : Cd l x.2 = 0
    · rw [if_pos q] at h; injection h with h; rw [← h]; exact ⟨g1.1, by have := g1.2; omega⟩
    · rw [if_neg q] at h
      obtain ⟨k2, hk, h⟩ := eb_inv h
      have g2 := sCh_9 hb hl fu _ _ _ y g1.1 h
      exact ⟨g2.1, by have := g1.2; have := g2.2; omega⟩
theorem sRid_9 {l : List Int32} {F P A : List Int64} {cls : List Cl} {y : List Cl × Nat} (hb : byt l) (hl : l.length ≤ 900) (hg : ∀ d ∈ cls, tkG d) (h : sRid (Cd l) F P A cls = .ok y) : (∀ d ∈ y.1, tkG d) ∧ y.1.length ≤ cls.length + 13 := by
  unfold sRid at h
  obtain ⟨-, h⟩ := ite_inv h
  exact sCh_9 hb hl 13 0 cls 0 y hg h
theorem gR9.m {s : SS} (h : gR9 s) (hb : byt (sTp s)) (hl : (sTp s).length ≤ 900) : gM s := fun t y ht e => by
  obtain ⟨a1, a2, a3, a4⟩ := h.all ht
  obtain ⟨b1, b2⟩ := sRid_9 hb hl (fun d hd => (a2 d hd).1) e
  exact mV_of b1 (by omega)
