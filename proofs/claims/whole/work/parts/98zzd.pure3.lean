/-! what the spec keeps from call to call -/
def pur (l : List Int32) : Prop := ∀ F P A y, sRead (Cd l) F P A = .ok y → (txB y.1).length ≤ 900
def potF (k : Nat) (tp o : List Int32) (n : Nat) : Prop := ∃ p w, k + p + w ≤ 585 * n ∧ (tp ≠ [] → 585 ≤ p) ∧ (2 * tp.length ≤ p + 585 ∨ (630 ≤ p ∧ pur tp)) ∧ (o ≠ [] → 45 ≤ w)
def rdF (r : Nat) (tp : List Int32) (n : Nat) : Prop := 2 * r ≤ n ∧ (tp ≠ [] → 2 * r + 1 ≤ n)
def gF (s : SS) : Prop := sTx s ≠ [] → sF s ≠ []
def gPu (s : SS) : Prop := (sO s).length ≤ 900 → pur (sO s)
def GI (s : SS) (n : Nat) : Prop := gR9 s ∧ gF s ∧ gRi s ∧ gW s ∧ gO s ∧ gPu s ∧ (sTx s).length ≤ n ∧ rdF (sR s).length (sTp s) n ∧ potF (ptS (sTx s)) (sTp s) (sO s) n
def gB (s : SS) : Prop := byt (sTp s) ∧ (sTp s).length ≤ 900 ∧ (sP s).length ≤ 6 ∧ (sA s).length ≤ 12 ∧ (sF s).length ≤ 8 ∧ ∀ v, v < 4 → ∀ t, sV s v = some t → t < (sTx s).length
theorem potF.up {k n : Nat} {tp o : List Int32} (h : potF k tp o n) : potF k tp o (n + 1) := by
  obtain ⟨p, w, h1, h2, h3, h4⟩ := h
  exact ⟨p, w, by omega, h2, h3, h4⟩
theorem potF.clr {k n : Nat} {tp o : List Int32} (h : potF k tp o n) : potF k [] o (n + 1) := by
  obtain ⟨p, w, h1, h2, h3, h4⟩ := h
  exact ⟨0, w, by omega, fun z => absurd rfl z, Or.inl (by simp), h4⟩
theorem rdF.up {r n : Nat} {tp : List Int32} (h : rdF r tp n) : rdF r tp (n + 1) := ⟨by have := h.1; omega, fun z => by have := h.2 z; omega⟩
theorem rdF.any {r n : Nat} {tp tp2 : List Int32} (h : rdF r tp n) : rdF r tp2 (n + 1) := ⟨by have := h.1; omega, fun _ => by have := h.1; omega⟩
theorem GI.up {s : SS} {n : Nat} (h : GI s n) : GI s (n + 1) := by
  obtain ⟨h1, h2, h3, h4, h5, h6, h7, h8, h9⟩ := h
  exact ⟨h1, h2, h3, h4, h5, h6, by omega, h8.up, h9.up⟩
theorem GI.clr {s : SS} {n : Nat} (h : GI s n) : GI (wTp s []) (n + 1) := by
  obtain ⟨h1, h2, h3, h4, h5, h6, h7, h8, h9⟩ := h
  exact ⟨h1, h2, h3, h4, h5, h6, Nat.le_succ_of_le h7, h8.any, h9.clr⟩
theorem GI.s0 : GI s0 0 := by
  refine ⟨fun t ht => absurd ht (Nat.not_lt_zero _), fun z => absurd rfl z, fun e he => (by cases he), fun c hc _ => ?_, fun c hc => (by cases hc), fun _ F P A y h => ?_, Nat.le_refl _, ⟨Nat.le_refl _, fun z => absurd rfl z⟩, ⟨0, 0, Nat.le_refl _, fun z => absurd rfl z, Or.inl (by decide), fun z => absurd rfl z⟩⟩
  · show lb (0 : Int64) (c % 64) = false
    have : ∀ b, b < 64 → lb (0 : Int64) b = false := by decide +kernel
    exact this _ (by omega)
  · have := sRead_len (l := []) (fun c hc => by cases hc) h
    simp at this
    rw [this]; simp
theorem JS.gb {B : Nat} {μ : JM} {s : SS} (h : JS B μ s) : gB s := by
  obtain ⟨hc, hm, -⟩ := h
  refine ⟨hc.2.2.1.2.2, hc.2.2.1.2.1, hm.2.2.2.2.1.2.1, hm.2.2.2.2.2.1.2.1, ?_, fun v hv t ht => ?_⟩
  · by_cases q : sF s = []
    · rw [q]; simp
    · exact (mFx.ne hm.2.2.2.1 q).1.2.1
  · exact ((hm.2.2.2.2.2.2.2.1 v hv).2 t ht).1
theorem GI.tx {s : SS} {n : Nat} (h : GI s n) (j : gB s) : gTx s := h.1.tx fun v hv z => by
  refine h.2.1 fun e => z ?_
  cases q : sV s v with
  | none => rfl
  | some t =>
    have := j.2.2.2.2.2 v hv t q
    rw [e] at this; exact absurd this (Nat.not_lt_zero _)
/-! feed, end, back -/
theorem four_len (a : Int32) : (four a).length = 4 := rfl
theorem GI_feed {s : SS} {n : Nat} (a b c d e : Int32) (h : GI s n) (j : gB s) : GI (spFeed a b c d e s).2 (n + 1) := by
  unfold spFeed
  split
  · exact h.up
  · next q =>
    obtain ⟨h1, h2, h3, h4, h5, h6, h7, h8, h9⟩ := h
    refine ⟨h1, h2, h3, h4, h5, h6, Nat.le_succ_of_le h7, h8.any, ?_⟩
    obtain ⟨p, w, p1, p2, p3, p4⟩ := h9
    refine ⟨p + 585, w, by show ptS (sTx s) + (p + 585) + w ≤ _; omega, fun _ => by omega, Or.inl ?_, p4⟩
    have eL : (sTp (wTp s (sTp s ++ four a ++ four b ++ four c ++ four d ++ four e))).length = (sTp s).length + 20 := by
      show (sTp s ++ four a ++ four b ++ four c ++ four d ++ four e).length = _
      simp only [List.length_append, four_len]
    show 2 * (sTp (wTp s (sTp s ++ four a ++ four b ++ four c ++ four d ++ four e))).length ≤ _
    rw [eL]
    rcases p3 with p3 | p3
    · omega
    · have := p3.1; omega
theorem GI_end {s : SS} {n : Nat} (x : Int32) (h : GI s n) (j : gB s) : GI (spEnd x s).2 (n + 1) := by
  unfold spEnd
  split
  · exact h.up
  · split
    · obtain ⟨h1, h2, h3, h4, h5, h6, h7, h8, h9⟩ := h
      refine ⟨h1, h2, h3, h4, h5, h6, Nat.le_succ_of_le h7, h8.any, ?_⟩
      obtain ⟨p, w, p1, p2, p3, p4⟩ := h9
      refine ⟨p + 585, w, by show ptS (sTx s) + (p + 585) + w ≤ _; omega, fun _ => by omega, Or.inl ?_, p4⟩
      have e : ((sTp s).take x.toNatClampNeg).length ≤ (sTp s).length := by rw [List.length_take]; omega
      have j2 := j.2.1
      show 2 * ((sTp s).take x.toNatClampNeg).length ≤ _
      rcases p3 with p3 | p3
      · omega
      · have := p3.1; omega
    · exact h.up
theorem pot_a1 {a p w n : Nat} (h : a + p + w ≤ 585 * n) : a + (p + w + 585) + 0 ≤ 585 * (n + 1) := by omega
theorem pot_a2 {a b p w : Nat} (h : ¬ 900 < a + b) (h1 : 585 ≤ p) (h2 : 45 ≤ w) : 2 * (a + b) ≤ p + w + 585 + 585 := by omega
theorem GI_back {s : SS} {n : Nat} (h : GI s n) (j : gB s) : GI (spBack s).2 (n + 1) := by
  unfold spBack
  split
  · exact h.up
  · next q =>
    obtain ⟨h1, h2, h3, h4, h5, h6, h7, h8, h9⟩ := h
    refine ⟨h1, h2, h3, h4, fun c hc => (by cases hc), fun _ F P A y hy => ?_, Nat.le_succ_of_le h7, h8.any, ?_⟩
    · have := sRead_len (l := []) (fun c hc => by cases hc) hy
      simp at this
      rw [this]; simp
    obtain ⟨p, w, p1, p2, p3, p4⟩ := h9
    show potF (ptS (sTx s)) (sTp s ++ sO s) [] (n + 1)
    by_cases qO : sO s = []
    · rw [qO, List.append_nil]
      exact ⟨p, w, by omega, p2, p3, fun z => absurd rfl z⟩
    · have w4 := p4 qO
      by_cases qT : sTp s = []
      · rw [qT, List.nil_append]
        rw [qT] at q
        simp at q
        exact ⟨p + w + 585, 0, by omega, fun _ => by omega, Or.inr ⟨by omega, h6 (by omega)⟩, fun z => absurd rfl z⟩
      · have w2 := p2 qT
        refine ⟨p + w + 585, 0, pot_a1 p1, fun _ => Nat.le_add_left _ _, Or.inl ?_, fun z => absurd rfl z⟩
        rw [List.length_append]; exact pot_a2 q w2 w4
/-! write -/
theorem GI_write {s : SS} {n : Nat} (v : Int32) (h : GI s n) (j : gB s) : GI (spWrite v s).2 (n + 1) := by
  unfold spWrite
  cases hv : vAt s v with
  | none => exact h.up
  | some t =>
    have ht : t < (sTx s).length := by
      unfold vAt at hv
      cases hi : inR v 4 with
      | none => rw [hi] at hv; cases hv
      | some u =>
        rw [hi] at hv
        exact j.2.2.2.2.2 u (inR_some hi).2 t hv
    obtain ⟨h1, h2, h3, h4, h5, h6, h7, h8, h9⟩ := h
    obtain ⟨a1, a2, a3, a4⟩ := h1.all ht
    have a5 : ∀ c ∈ txA s t, tkG c := fun c hc => (a2 c hc).1
    refine ⟨h1, h2, h3, h4, txB_asc a5, fun hl F P A y hy => ?_, Nat.le_succ_of_le h7, h8.up, ?_⟩
    · rw [canon a5 hy]; exact hl
    · obtain ⟨p, w, p1, p2, p3, p4⟩ := h9
      exact ⟨p, 45, by show ptS (sTx s) + p + 45 ≤ _; omega, p2, p3, fun _ => Nat.le_refl _⟩
/-! facts, world -/
theorem sFa_ok {C : Nat → Int64} : ∀ (n : Nat) (F : List Int64) (k : Nat) (G : List Int64), F.length ≤ 8 → sFa C n F k = .ok G → G ≠ [] ∧ G.length ≤ 8
  | 0, F, k, G, _, h => by rw [sFa] at h; cases h
  | n + 1, F, k, G, hF, h => by
    rw [sFa] at h
    by_cases q : C k = 0 ∧ F ≠ []
    · rw [if_pos q] at h; injection h with h; rw [← h]; exact ⟨q.2, hF⟩
    · rw [if_neg q] at h
      obtain ⟨_, h1, h⟩ := eb_inv h
      obtain ⟨-, h⟩ := ite_inv h
      obtain ⟨h8, h⟩ := ite_inv h
      obtain ⟨k2, h2, h⟩ := eb_inv h
      exact sFa_ok n _ _ G (by simp; omega) h
theorem gW_all {s : SS} {F : List Int64} (e : sF s = F) (hF : F ≠ []) (hl : F.length ≤ 8) (hW : sW s = allC F.length) : gW s := by
  intro c hc h
  rw [e] at h
  rcases h with h | h
  · exact absurd h hF
  · rw [hW]
    show lb (allC F.length (c / 64)) (c % 64) = false
    rw [allC_b _ (by omega) _ (by omega) _ (by omega)]
    simp; omega
theorem GI_facts {s : SS} {n : Nat} (h : GI s n) (j : gB s) : GI (spFacts s).2 (n + 1) := by
  unfold spFacts
  split
  · next q =>
    cases hf : sFacts (Cd (sTp s)) with
    | error e => exact h.clr
    | ok F =>
      unfold sFacts at hf
      obtain ⟨-, hf⟩ := ite_inv hf
      obtain ⟨f1, f2⟩ := sFa_ok _ _ _ _ (by decide) hf
      obtain ⟨h1, h2, h3, h4, h5, h6, h7, h8, h9⟩ := h
      have e : sTx s = [] := by
        by_cases z : sTx s = []
        · exact z
        · exact absurd q (h2 z)
      refine ⟨fun t ht => ?_, fun _ => f1, h3, gW_all rfl f1 f2 rfl, h5, h6, Nat.le_succ_of_le h7, h8.any, h9.clr⟩
      have ht : t < (sTx s).length := ht
      rw [e] at ht; exact absurd ht (Nat.not_lt_zero _)
  · exact h.clr
theorem GI_world {s : SS} {n : Nat} (h : GI s n) (j : gB s) : GI (spWorld s).2 (n + 1) := by
  have key : ∀ W, gW (wW (wTp s []) W) → GI (wW (wTp s []) W) (n + 1) := fun W hW => by
    obtain ⟨h1, h2, h3, h4, h5, h6, h7, h8, h9⟩ := h
    exact ⟨h1, h2, h3, hW, h5, h6, Nat.le_succ_of_le h7, h8.any, h9.clr⟩
  unfold spWorld
  split
  · exact h.clr
  · next q =>
    split
    · exact h.clr
    · split
      · exact key _ (gW_all rfl q j.2.2.2.2.1 rfl)
      · cases hs : sCon (Cd (sTp s)) (sF s) [] true 2000 0 with
        | error e => exact h.clr
        | ok v =>
          dsimp only
          split
          · exact key _ (gW_mask (s := wTp s []) q j.2.2.2.2.1)
          · exact h.clr
/-! version, rider, takeOff -/
theorem txA_old {Tx : List (List Cl)} {c : List Cl} {t : Nat} (h : t < Tx.length) : (Tx ++ [c]).getD t [] = Tx.getD t [] := by
  rw [List.getD_eq_getElem?_getD, List.getD_eq_getElem?_getD, List.getElem?_append_left h]
theorem GI_text {s : SS} {n u : Nat} {l : List Int32} {z : List Cl × List Int64 × List Int64 × Nat} (h : GI s n) (j : gB s) (hb : byt l) (hl : l.length ≤ 900) (hF : sF s ≠ []) (e : sRead (Cd l) (sF s) (sP s) (sA s) = .ok z) (hp : ∃ p w, ptS (sTx s) + p + w ≤ 585 * n ∧ (sO s ≠ [] → 45 ≤ w) ∧ (txB z.1).length ≤ p + 585) : GI (wTx (wTp s []) z.2.1 z.2.2.1 (stlC z.1) u) (n + 1) := by
  obtain ⟨h1, h2, h3, h4, h5, h6, h7, h8, h9⟩ := h
  obtain ⟨x1, x2, -⟩ := sVer_ext 26 [] (sP s) (sA s) 0 z (sRead_ok e).1
  have eT : (sTx (wTx (wTp s []) z.2.1 z.2.2.1 (stlC z.1) u)) = sTx s ++ [stlC z.1] := rfl
  refine ⟨fun t ht => ?_, fun _ => hF, fun r hr => ?_, h4, h5, h6, ?_, h8.any, ?_⟩
  · rw [eT, List.length_append, List.length_singleton] at ht
    by_cases q : t < (sTx s).length
    · obtain ⟨l0, P0, A0, y, b1, b2, b3, b4, b5, b6, b7, b8⟩ := h1 t q
      refine ⟨l0, P0, A0, y, b1, b2, b3, b4, b5, ?_, b7.trans x1, b8.trans x2⟩
      show (sTx s ++ [stlC z.1]).getD t [] = _
      rw [txA_old q]; exact b6
    · have ht2 : t = (sTx s).length := by omega
      refine ⟨l, sP s, sA s, z, hb, hl, j.2.2.1, j.2.2.2.1, e, ?_, List.prefix_refl _, List.prefix_refl _⟩
      show (sTx s ++ [stlC z.1]).getD t [] = _
      rw [ht2, List.getD_eq_getElem?_getD]; simp
  · obtain ⟨r1, r2, r3⟩ := h3 r hr
    rw [eT, List.length_append, List.length_singleton]
    exact ⟨r1, by omega, fun t ht => by have := r3 t ht; omega⟩
  · rw [eT, List.length_append, List.length_singleton]; omega
  · obtain ⟨p, w, p1, p2, p3⟩ := hp
    refine ⟨0, w, ?_, fun z => absurd rfl z, Or.inl (by show 2 * ([] : List Int32).length ≤ _; simp), p2⟩
    rw [eT, ptS_snoc, txB_stl]; omega
theorem GI_version {s : SS} {n : Nat} (v : Int32) (h : GI s n) (j : gB s) : GI (spVersion v s).2 (n + 1) := by
  unfold spVersion
  split
  · exact h.clr
  · next q =>
    cases inR v 4 with
    | none => exact h.clr
    | some u =>
      dsimp only
      cases hr : sRead (Cd (sTp s)) (sF s) (sP s) (sA s) with
      | error e => exact h.clr
      | ok y =>
        refine GI_text h j j.1 j.2.1 q hr ?_
        obtain ⟨p, w, p1, p2, p3, p4⟩ := h.2.2.2.2.2.2.2.2
        refine ⟨p, w, p1, p4, ?_⟩
        rcases p3 with p3 | p3
        · have := sRead_len j.1 hr; omega
        · have := p3.2 _ _ _ _ hr; omega
theorem sRid_ne {l : List Int32} {F P A : List Int64} {cls : List Cl} {y : List Cl × Nat} (h : sRid (Cd l) F P A cls = .ok y) : l ≠ [] := by
  rintro rfl
  have e : Cd [] 0 = 0 := by decide
  unfold sRid at h
  rw [sCh] at h
  unfold sCh1 at h
  rw [e] at h
  simp [eb] at h
theorem vAt_lt {s : SS} {v : Int32} {t : Nat} (j : gB s) (hv : vAt s v = some t) : t < (sTx s).length := by
  unfold vAt at hv
  cases hi : inR v 4 with
  | none => rw [hi] at hv; cases hv
  | some u =>
    rw [hi] at hv
    exact j.2.2.2.2.2 u (inR_some hi).2 t hv
theorem GI_rider {s : SS} {n : Nat} (v w : Int32) (h : GI s n) (j : gB s) : GI (spRider v w s).2 (n + 1) := by
  unfold spRider
  cases hv : vAt s v with
  | none => exact h.clr
  | some t =>
    have ht := vAt_lt j hv
    dsimp only
    cases hw : inR w 4 with
    | none => exact h.clr
    | some u =>
      dsimp only
      cases hr : sRid (Cd (sTp s)) (sF s) (sP s) (sA s) (txA s t) with
      | error e => exact h.clr
      | ok y =>
        dsimp only
        split
        · exact h.clr
        · next q9 =>
          cases hz : sRead (Cd (txB y.1)) (sF s) (sP s) (sA s) with
          | error e => exact h.clr
          | ok z =>
            have ne := sRid_ne hr
            have a2 := (h.1.all ht).2.1
            obtain ⟨b1, b2⟩ := sRid_9 j.1 j.2.1 (fun d hd => (a2 d hd).1) hr
            have hF : sF s ≠ [] := h.2.1 fun z => by rw [z] at ht; exact absurd ht (Nat.not_lt_zero _)
            have g := GI_text (u := u) h j (txB_byt y.1 fun d hd => (b1 d hd).1) (Nat.le_of_not_lt q9) hF hz (by
              obtain ⟨p, w, p1, p2, p3, p4⟩ := h.2.2.2.2.2.2.2.2
              refine ⟨p, w, p1, p4, ?_⟩
              have := p2 ne
              rw [canon b1 hz]; omega)
            obtain ⟨h1, h2, h3, h4, h5, h6, h7, h8, h9⟩ := g
            refine ⟨h1, h2, fun r hr => ?_, h4, h5, h6, h7, ?_, h9⟩
            · have hr : r ∈ sR s ++ [(u, sV s u, (sTx s).length)] := hr
              have eL : (sTx (wR (wTx (wTp s []) z.2.1 z.2.2.1 (stlC z.1) u) (sR s ++ [(u, sV s u, (sTx s).length)]))).length = (sTx s).length + 1 := by
                show (sTx s ++ [stlC z.1]).length = _; simp
              rcases List.mem_append.mp hr with t | t
              · exact h3 r t
              · rw [List.mem_singleton] at t
                rw [t, eL]
                exact ⟨(inR_some hw).2, by show (sTx s).length < _; omega, fun t ht => by have := j.2.2.2.2.2 u (inR_some hw).2 t ht; omega⟩
            · have := h.2.2.2.2.2.2.2.1.2 ne
              refine ⟨?_, fun z => absurd rfl z⟩
              show 2 * (sR s ++ [(u, sV s u, (sTx s).length)]).length ≤ _
              rw [List.length_append, List.length_singleton]; omega
theorem GI_takeOff {s : SS} {n : Nat} (h : GI s n) (j : gB s) : GI (spTakeOff s).2 (n + 1) := by
  have key : GI (wR s (sR s).dropLast) (n + 1) := by
    obtain ⟨h1, h2, h3, h4, h5, h6, h7, h8, h9⟩ := h
    refine ⟨h1, h2, fun e he => h3 e ((List.dropLast_sublist _).subset he), h4, h5, h6, Nat.le_succ_of_le h7, ?_, h9.up⟩
    have e : (sR (wR s (sR s).dropLast)).length = (sR s).length - 1 := List.length_dropLast
    rw [e]
    exact ⟨by have := h8.1; omega, fun z => by have := h8.2 z; omega⟩
  unfold spTakeOff
  cases (sR s).getLast? with
  | none => exact h.up
  | some e =>
    dsimp only
    split
    · exact key
    · exact key
/-! the others -/
theorem GI_free {s : SS} {n : Nat} (day : Int32) (is : Bool) (h : GI s n) : GI (spFree day is s).2 (n + 1) := by
  unfold spFree
  cases inR day 10000 with
  | none => exact h.up
  | some d =>
    dsimp only
    split
    · exact h.up
    · exact h.up
theorem GI_quarrel {s : SS} {n : Nat} (v : Int32) (h : GI s n) : GI (spQuarrel v s).2 (n + 1) := by
  unfold spQuarrel
  cases vAt s v with
  | none => exact h.up
  | some t =>
    dsimp only
    cases lstN (quP s t) (nCs s) 0 with
    | none => exact h.up
    | some c =>
      dsimp only
      cases qp (txA s t) c (txA s t) 0 with
      | none => exact h.up
      | some e => exact h.up
