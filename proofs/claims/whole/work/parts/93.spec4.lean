/-! SPEC: no clause has a semicolon -/
def isU (c : Int64) : Prop := isT c ∧ c ≠ -60
theorem ne60 {c : Int64} {z : Int} (h : c.toInt = z) (hz : z ≠ -60) : c ≠ -60 := by rw [ne_eq, code_eq (z := -60) (-60) (by decide), h]; exact hz
theorem isU_lit {c : Int64} {z : Int} (d : Int64) (h : c = d) (hd : d.toInt = z) (hz : (0 < z ∨ z ≤ -3000 ∨ (-2000 < z ∧ z ≤ -1000) ∨ z = -59 ∨ z = -60 ∨ z = -41 ∨ z = -42) ∧ z ≠ -60) : isU c := ⟨isT_lit d h hd hz.1, by rw [h]; exact ne60 hd hz.2⟩
theorem isU_L {c : Int64} {z : Int} (hd : c.toInt = z) (hz : (0 < z ∨ z ≤ -3000 ∨ (-2000 < z ∧ z ≤ -1000) ∨ z = -59 ∨ z = -60 ∨ z = -41 ∨ z = -42) ∧ z ≠ -60) : isU c := isU_lit c rfl hd hz
theorem isU_free {c : Int64} (h : 0 < c) : isU c := ⟨isT_free h, by
  have := gt_toI.mp h
  exact ne60 (z := c.toInt) rfl (by omega)⟩
theorem isNm_U {c : Int64} (h : isNm c = true) : isU c := by
  refine ⟨isNm_T h, ?_⟩
  unfold isNm at h
  rw [Bool.and_eq_true, decide_eq_true_eq, decide_eq_true_eq, fa_lt64, fa_le64, show (-2000 : Int64).toInt = -2000 from by decide, show (-1000 : Int64).toInt = -1000 from by decide] at h
  exact ne60 (z := c.toInt) rfl (by omega)
def aU (C : Nat → Int64) (k n : Nat) : Prop := ∀ i, k ≤ i → i < n → isU (C i)
def okU {α : Type} (C : Nat → Int64) (k : Nat) (x : Except Er α) (f : α → Nat) : Prop := ∀ a, x = .ok a → k ≤ f a ∧ aU C k (f a)
theorem okU.err {α : Type} {C : Nat → Int64} {k : Nat} {e : Er} {f : α → Nat} : okU C k (.error e) f := fun a h => by cases h
theorem okU.ok {α : Type} {C : Nat → Int64} {k : Nat} {a : α} {f : α → Nat} (h : f a = k) : okU C k (.ok a) f := fun b hb => by
  injection hb with hb; subst hb
  rw [h]; exact ⟨Nat.le_refl _, fun i h1 h2 => by omega⟩
theorem okU.bind {α β : Type} {C : Nat → Int64} {k : Nat} {x : Except Er α} {g : α → Nat} {h : α → Except Er β} {f : β → Nat} (h1 : okU C k x g) (h2 : ∀ a, x = .ok a → okU C (g a) (h a) f) : okU C k (eb x h) f := by
  intro b hb
  cases x with
  | error e => cases hb
  | ok a =>
    obtain ⟨q1, q2⟩ := h1 a rfl
    obtain ⟨q3, q4⟩ := h2 a rfl b hb
    exact ⟨by omega, fun i i1 i2 => if z : i < g a then q2 i i1 z else q4 i (by omega) i2⟩
theorem okU.ite {α : Type} {C : Nat → Int64} {k : Nat} {p : Prop} [Decidable p] {x y : Except Er α} {f : α → Nat} (h1 : p → okU C k x f) (h2 : ¬ p → okU C k y f) : okU C k (if p then x else y) f := by
  by_cases q : p
  · rw [if_pos q]; exact h1 q
  · rw [if_neg q]; exact h2 q
theorem okU_tk {C : Nat → Int64} {k : Nat} (h : isU (C k)) : okU C k (tk C k) id := by
  unfold tk
  refine okU.ite (fun _ => okU.err) (fun _ a ha => ?_)
  injection ha with ha; subst ha
  exact ⟨by show k ≤ k + 1; omega, fun i h1 h2 => by
    have : i < k + 1 := h2
    have : i = k := by omega
    subst this; exact h⟩
theorem okU.ex {C : Nat → Int64} {k : Nat} {c : Int64} (h : isU c) : okU C k (exC C c k) id := by
  unfold exC
  exact okU.ite (fun q => okU_tk (by rw [q]; exact h)) (fun _ => okU.err)
theorem okU.nm {β : Type} {C : Nat → Int64} {k : Nat} {h : Unit → Except Er β} {f : β → Nat} (h1 : 0 < C k → okU C k (h ()) f) : okU C k (eb (nmC C k) h) f := by
  unfold nmC
  by_cases q : 0 < C k
  · rw [if_pos q, eb_ok]; exact h1 q
  · rw [if_neg q]
    split
    · exact okU.err
    · exact okU.err
theorem sClo_U (C : Nat → Int64) : ∀ (r : List Lv) (t : Lv) (k : Nat), okU C k (sClo C t r k) (fun x => x.2.2)
  | [], t, k => by rw [sClo]; exact okU.ok rfl
  | b :: r, t, k => by
    rw [sClo]
    refine okU.ite (fun q => okU.bind (okU_tk (isU_lit (-42) q (by decide) (z := -42) (by decide))) fun k2 _ => ?_) (fun _ => okU.ok rfl)
    exact sClo_U C r _ k2
theorem sCond_U (C : Nat → Int64) (F : List Int64) (N : List (Int64 × CS)) (wh : Bool) : ∀ (n : Nat) (t : Lv) (r : List Lv) (o k : Nat), okU C k (sCond C F N wh n t r o k) (fun x => x.2)
  | 0, t, r, o, k => by rw [sCond]; exact okU.err
  | n + 1, t, r, o, k => by
    rw [sCond]
    refine okU.ite (fun q => okU.ite (fun _ => okU.err) (fun _ => okU.bind (okU_tk (isU_lit (-3014) q (by decide) (z := -3014) (by decide))) fun k2 _ => sCond_U C F N wh n _ _ _ _)) (fun _ => ?_)
    refine okU.ite (fun q => okU.ite (fun _ => okU.err) (fun _ => okU.bind (okU_tk (isU_lit (-41) q (by decide) (z := -41) (by decide))) fun k2 _ => sCond_U C F N wh n _ _ _ _)) (fun _ => ?_)
    refine okU.ite (fun _ => okU.err) (fun q => ?_)
    have q : 0 < C k := Decidable.not_not.mp q
    cases opv F N wh (C k) with
    | none => exact okU.err
    | some v =>
      refine okU.ite (fun _ => okU.err) (fun _ => okU.bind (okU_tk (isU_free q)) fun k2 _ => okU.bind (sClo_U C r _ k2) fun x _ => ?_)
      refine okU.ite (fun y => okU.bind (okU_tk (isU_lit (-3013) y (by decide) (z := -3013) (by decide))) fun k3 _ => sCond_U C F N wh n _ _ _ _) (fun _ => ?_)
      refine okU.ite (fun y => okU.bind (okU_tk (isU_lit (-3012) y (by decide) (z := -3012) (by decide))) fun k3 _ => sCond_U C F N wh n _ _ _ _) (fun _ => ?_)
      exact okU.ite (fun _ => okU.ok rfl) (fun _ => okU.err)
theorem sNum_U (C : Nat → Int64) (wh : Bool) (P : List Int64) (mx k : Nat) : okU C k (sNum wh P mx C k) (fun x => x.2.2) := by
  unfold sNum
  refine okU.nm fun q => okU.ite (fun _ => ?_) (fun _ => okU.bind (okU_tk (isU_free q)) fun k2 _ => okU.ok rfl)
  cases P.idxOf? (C k) with
  | none => exact okU.ite (fun _ => okU.err) (fun _ => okU.bind (okU_tk (isU_free q)) fun k2 _ => okU.ok rfl)
  | some i => exact okU.bind (okU_tk (isU_free q)) fun k2 _ => okU.ok rfl
theorem sTerm_U (C : Nat → Int64) (k : Nat) : okU C k (sTerm C k) (fun x => x.2.2) := by
  unfold sTerm
  refine okU.bind (okU.ex (isU_L (z := -3006) (by decide) (by decide))) fun k1 _ => okU.ite (fun q => okU.ite (fun _ => okU.err) (fun _ => ?_)) (fun _ => okU.err)
  refine okU.bind (okU_tk (isNm_U q)) fun k2 _ => okU.ite (fun y => okU.bind (okU_tk (isU_lit (-3008) y (by decide) (z := -3008) (by decide))) fun k3 _ => okU.ok rfl) (fun _ => okU.bind (okU.ex (isU_L (z := -3007) (by decide) (by decide))) fun k3 _ => okU.ok rfl)
theorem sOver_U (C : Nat → Int64) (wh : Bool) (cls : List Cl) : ∀ (n k : Nat) (o : Int32), isU (C k) → okU C k (sOver C wh cls n k o) (fun x => x.2)
  | 0, k, o, _ => by rw [sOver]; exact okU.err
  | n + 1, k, o, h => by
    rw [sOver]
    refine okU.bind (okU_tk h) fun k1 _ => okU.nm fun q => ?_
    cases (if wh = true then lfnd cls (C k1) false else some 0) with
    | none => exact okU.err
    | some u => exact okU.bind (okU_tk (isU_free q)) fun k2 _ => okU.ite (fun y => sOver_U C wh cls n _ _ (isU_lit (-3012) y (by decide) (z := -3012) (by decide))) (fun _ => okU.ok rfl)
theorem sIf_U (C : Nat → Int64) (F : List Int64) (N : List (Int64 × CS)) (wh : Bool) (k : Nat) : okU C k (sIf C F N wh k) (fun x => x.2) := by
  unfold sIf sCon
  exact okU.ite (fun y => okU.bind (okU_tk (isU_lit (-3009) y (by decide) (z := -3009) (by decide))) fun k1 _ => okU.bind (sCond_U C F N wh _ _ _ _ _) fun x _ => okU.ok rfl) (fun _ => okU.ok rfl)
theorem sUnl_U (C : Nat → Int64) (F : List Int64) (N : List (Int64 × CS)) (wh : Bool) (y : CS × Nat) : okU C y.2 (sUnl C F N wh y) (fun x => x.2) := by
  unfold sUnl sCon
  exact okU.ite (fun z => okU.bind (okU_tk (isU_lit (-3010) z (by decide) (z := -3010) (by decide))) fun k1 _ => okU.bind (sCond_U C F N wh _ _ _ _ _) fun x _ => okU.ok rfl) (fun _ => okU.ok rfl)
theorem sTail_U (C : Nat → Int64) (F : List Int64) (wh : Bool) (cls : List Cl) (k : Nat) : okU C k (sTail C F wh cls k) (fun x => x.2.2) := by
  unfold sTail
  refine okU.bind (sIf_U C F _ wh k) fun y _ => okU.bind (sUnl_U C F _ wh y) fun z _ => okU.ite (fun q => ?_) (fun _ => okU.ok rfl)
  exact okU.bind (sOver_U C wh cls _ _ _ (isU_lit (-3011) q (by decide) (z := -3011) (by decide))) fun o _ => okU.ok rfl
theorem sDefine_U (C : Nat → Int64) (F : List Int64) (md : Nat) (cls : List Cl) (P A : List Int64) (k : Nat) (h : C k = -3000) : okU C k (sDefine C F md cls P A k) (fun x => x.2.2.2) := by
  unfold sDefine sCon
  refine okU.ite (fun _ => okU.err) (fun _ => okU.bind (okU_tk (isU_lit (-3000) h (by decide) (z := -3000) (by decide))) fun k1 _ => okU.nm fun q => okU.ite (fun _ => okU.err) (fun _ => okU.ite (fun _ => okU.err) (fun _ => ?_)))
  exact okU.bind (okU_tk (isU_free q)) fun k2 _ => okU.bind (okU.ex (isU_L (z := -3001) (by decide) (by decide))) fun k3 _ => okU.bind (sCond_U C F _ _ _ _ _ _ _) fun x _ => okU.ok rfl
theorem sDeed_U (C : Nat → Int64) (F : List Int64) (wh : Bool) (cls : List Cl) (P A : List Int64) (k0 k : Nat) : okU C k (sDeed C F wh cls P A k0 k) (fun x => x.2.2.2) := by
  unfold sDeed
  refine okU.bind (okU.ex (isU_L (z := -59) (by decide) (by decide))) fun k2 _ => okU.ite (fun _ => okU.err) (fun q => ?_)
  have hT : isU (C k2) := by
    rcases sKind_T q with ⟨t, -⟩ | ⟨t, -⟩ | ⟨t, -⟩
    · exact isU_lit _ t (by decide) (z := -3002) (by decide)
    · exact isU_lit _ t (by decide) (z := -3003) (by decide)
    · exact isU_lit _ t (by decide) (z := -3004) (by decide)
  refine okU.bind (okU_tk hT) fun k3 _ => okU.bind (sNum_U C wh P 6 k3) fun p _ => okU.bind (okU.ex (isU_L (z := -3005) (by decide) (by decide))) fun k4 _ => okU.bind (sNum_U C wh A 12 k4) fun a _ => ?_
  refine okU.bind (g := fun t => t.2.2) (okU.ite (fun _ => sTerm_U C _) (fun _ => okU.ok rfl)) fun t _ => okU.bind (sTail_U C F wh cls _) fun z _ => okU.ok rfl
theorem sClause_U (C : Nat → Int64) (F : List Int64) (md : Nat) (cls : List Cl) (P A : List Int64) (k : Nat) : okU C k (sClause C F md cls P A k) (fun x => x.2.2.2) := by
  unfold sClause
  refine okU.ite (fun q => sDefine_U C F md cls P A k q) (fun _ => ?_)
  unfold sLabel
  exact okU.nm fun q => okU.ite (fun _ => okU.err) (fun _ => okU.ite (fun _ => okU.err) (fun _ => okU.ite (fun _ => okU.err) (fun _ => okU.bind (okU_tk (isU_free q)) fun k1 _ => sDeed_U C F _ cls P A k k1)))
theorem aU_sl {C : Nat → Int64} {k n : Nat} (h : aU C k n) : ∀ c ∈ sl C k n, isU c := by
  intro c hc
  unfold sl at hc
  rw [List.mem_map] at hc
  obtain ⟨i, hi, rfl⟩ := hc
  rw [List.mem_range'_1] at hi
  exact h i hi.1 (by omega)
/-- words are words -/
def wrd (C : Nat → Int64) : Prop := ∀ k, 0 < C k → ∃ w, wd w ∧ wc w = C k
theorem Cd_wrd {l : List Int32} (hb : byt l) : wrd (Cd l) := by
  intro k hc
  rw [gt_toI] at hc
  unfold Cd at hc ⊢
  rcases tcl _ (hb.drop (pl l k)) with ⟨e1, e2, e3, e4, e5⟩ | ⟨i, e1, e2, e3, e4, e5, e6, e7, e8⟩ | ⟨e1, e2, e3, e4, e5, e6, e7, e8, e9⟩ | ⟨w, e1, e2, e3, e4, e5, e6, e7, e8⟩ | ⟨c, r, w, e1, e2, e3, e4, e5, e6, e7, e8, e9, e10⟩ | ⟨e1, e2, e3, e4, e5⟩
  · rw [e2] at hc; exact absurd hc (by decide)
  · omega
  · refine ⟨hw (l.drop (pl l k)), ⟨fun z => ?_, tw_all, e8⟩, e4.symm⟩
    rw [z] at e6; simp [wnat] at e6
  · omega
  · omega
  · omega
def good (c : Cl) : Prop := wfc c ∧ ∀ t ∈ Cl.tks c, isU t
theorem nmC_ok {C : Nat → Int64} {k : Nat} {u : Unit} (h : nmC C k = .ok u) : 0 < C k := by
  unfold nmC at h
  split at h
  · assumption
  · split at h <;> cases h
theorem tk_ok {C : Nat → Int64} {k n : Nat} (h : tk C k = .ok n) : n = k + 1 := by
  rcases tk_cases C k with ⟨e, he⟩ | he
  · rw [he] at h; cases h
  · rw [he] at h; injection h with h; exact h.symm
theorem exC_ok {C : Nat → Int64} {c : Int64} {k n : Nat} (h : exC C c k = .ok n) : n = k + 1 ∧ C k = c := by
  rcases exC_cases C c k with ⟨e, he⟩ | ⟨he, hc⟩
  · rw [he] at h; cases h
  · rw [he] at h; injection h with h; exact ⟨h.symm, hc⟩
theorem sClause_wf {C : Nat → Int64} {F : List Int64} {md : Nat} {cls : List Cl} {P A : List Int64} {k : Nat} {y : Cl × List Int64 × List Int64 × Nat} (hC : wrd C) (h : sClause C F md cls P A k = .ok y) : good y.1 := by
  have hT := sClause_U C F md cls P A k y h
  have ht := sClause_tks h
  refine ⟨?_, by rw [ht]; exact aU_sl hT.2⟩
  unfold sClause at h
  by_cases q : C k = -3000
  · rw [if_pos q] at h
    unfold sDefine at h
    obtain ⟨-, h⟩ := ite_inv h
    obtain ⟨k1, h1, h⟩ := eb_inv h
    obtain ⟨_, h2, h⟩ := eb_inv h
    obtain ⟨-, h⟩ := ite_inv h
    obtain ⟨-, h⟩ := ite_inv h
    obtain ⟨k2, h3, h⟩ := eb_inv h
    obtain ⟨k3, h4, h⟩ := eb_inv h
    obtain ⟨x, h5, h⟩ := eb_inv h
    have e1 := tk_ok h1
    have e2 := tk_ok h3
    have e3 := exC_ok h4
    have e4 : k3 ≤ x.2 := (sCond_U C F _ _ _ _ _ _ _ x h5).1
    injection h with h
    obtain ⟨w, w1, w2⟩ := hC k1 (nmC_ok h2)
    rw [← h]
    refine ⟨w, w1, w2, ?_⟩
    rw [if_pos (by rfl)]
    refine ⟨sl C (k + 1 + 1 + 1) x.2, ?_⟩
    show sl C k x.2 = -3000 :: C k1 :: -3001 :: _
    rw [sl_cons C (by omega), sl_cons C (by omega), sl_cons C (by omega), q, e1, ← e3.2, e2, e1]
  · rw [if_neg q] at h
    unfold sLabel at h
    obtain ⟨_, h1, h⟩ := eb_inv h
    obtain ⟨-, h⟩ := ite_inv h
    obtain ⟨-, h⟩ := ite_inv h
    obtain ⟨-, h⟩ := ite_inv h
    obtain ⟨k1, h2, h⟩ := eb_inv h
    have h0 := sDeed_U C F _ cls P A k k1 y h
    unfold sDeed at h
    obtain ⟨k2, h3, h⟩ := eb_inv h
    obtain ⟨nk, h⟩ := ite_inv h
    obtain ⟨k3, h4, h⟩ := eb_inv h
    obtain ⟨p, h5, h⟩ := eb_inv h
    obtain ⟨k4, h6, h⟩ := eb_inv h
    obtain ⟨a, h7, h⟩ := eb_inv h
    obtain ⟨t, h8, h⟩ := eb_inv h
    obtain ⟨z, h9, h⟩ := eb_inv h
    have e1 := tk_ok h2
    have e2 := exC_ok h3
    have e3 := tk_ok h4
    have e5 : k3 ≤ p.2.2 := (sNum_U C _ P 6 k3 p h5).1
    have e6 := (exC_ok h6).1
    have e7 : k4 ≤ a.2.2 := (sNum_U C _ A 12 k4 a h7).1
    have e8 : a.2.2 ≤ t.2.2 := by
      by_cases q : sKind (C k2) = 1
      · rw [if_pos q] at h8; exact (sTerm_U C _ t h8).1
      · rw [if_neg q] at h8; injection h8 with h8; rw [← h8]; exact Nat.le_refl _
    have e9 : t.2.2 ≤ z.2.2 := (sTail_U C F _ cls _ z h9).1
    injection h with h
    obtain ⟨w, w1, w2⟩ := hC k (nmC_ok h1)
    have nd : isDf (((sKind (C k2), C k, p.1, a.1, t.1, t.2.1, z.1, z.2.1, sl C k z.2.2)) : Cl) = false := by
      rw [isDf_f]
      rcases sKind_T nk with ⟨-, e⟩ | ⟨-, e⟩ | ⟨-, e⟩ <;> show ¬ sKind (C k2) = 0 <;> rw [e] <;> decide
    rw [← h]
    refine ⟨w, w1, w2, ?_⟩
    rw [if_neg (by rw [nd]; decide)]
    refine ⟨sl C (k + 1 + 1) z.2.2, ?_⟩
    show sl C k z.2.2 = C k :: -59 :: _
    rw [sl_cons C (by omega), sl_cons C (by omega), ← e2.2, e1]
theorem sVer_wf {C : Nat → Int64} {F : List Int64} (hC : wrd C) : ∀ (n : Nat) (cls : List Cl) (P A : List Int64) (k : Nat) (y : List Cl × List Int64 × List Int64 × Nat), sVer C F n cls P A k = .ok y → (∀ c ∈ cls, good c) → ∀ c ∈ y.1, good c
  | 0, cls, P, A, k, y, h, _ => by rw [sVer] at h; cases h
  | n + 1, cls, P, A, k, y, h, hg => by
    rw [sVer] at h
    obtain ⟨x, hx, h⟩ := eb_inv h
    have g1 : ∀ c ∈ cls ++ [x.1], good c := by
      intro c hc
      rcases List.mem_append.mp hc with t | t
      · exact hg c t
      · rw [List.mem_singleton] at t; rw [t]; exact sClause_wf hC hx
    by_cases q : C x.2.2.2 = 0
    · rw [if_pos q] at h
      injection h with h
      rw [← h]; exact g1
    · rw [if_neg q] at h
      obtain ⟨k2, hk, h⟩ := eb_inv h
      exact sVer_wf hC n _ _ _ _ y h g1
theorem good_set {c : Cl} {h : CS} (g : good c) : good (setC c h) := g
theorem good_stl : ∀ (cls : List Cl) (hs : List CS), (∀ c ∈ cls, good c) → ∀ c ∈ List.zipWith setC cls hs, good c
  | [], _, _, c, hc => by simp at hc
  | _ :: _, [], _, c, hc => by simp at hc
  | d :: r, h :: hs, g, c, hc => by
    rw [List.zipWith_cons_cons, List.mem_cons] at hc
    rcases hc with rfl | hc
    · exact good_set (g d List.mem_cons_self)
    · exact good_stl r hs (fun x hx => g x (List.mem_cons_of_mem _ hx)) c hc
/-! the bytes of clauses in a row -/
theorem cf_shift : ∀ (r : List Int64) (x y : List Int32) (a : Int32), r.foldl cput (x ++ y, a) = (x ++ (r.foldl cput (y, a)).1, (r.foldl cput (y, a)).2)
  | [], x, y, a => rfl
  | c :: r, x, y, a => by
    rw [List.foldl_cons, List.foldl_cons]
    have e : cput (x ++ y, a) c = (x ++ (cput (y, a) c).1, (cput (y, a) c).2) := by simp [cput, List.append_assoc]
    rw [e]
    exact cf_shift r x _ _
theorem cb_semi : cbytes (-60) = [59] ∧ isSg (-60) = true ∧ nI (-1 - (-60 : Int64)).toNatClampNeg = 59 := by decide +kernel
theorem cB_join (ts : List Int64) (c : Int64) (r : List Int64) (hc : isSg c = false) : (cB (ts ++ -60 :: c :: r)).1 = (cB ts).1 ++ 59 :: 32 :: (cB (c :: r)).1 := by
  unfold cB
  rw [List.foldl_append, List.foldl_cons, List.foldl_cons, List.foldl_cons]
  generalize ts.foldl cput ([], 0) = s
  have e1 : cput s (-60) = (s.1 ++ [59], 59) := by
    unfold cput
    rw [cb_semi.1, cb_semi.2.1, cb_semi.2.2]
    have : s.2 = 0 ∨ s.2 = 40 ∨ (true = true ∧ (-60 : Int64) ≠ -41) := Or.inr (Or.inr ⟨rfl, by decide⟩)
    rw [if_pos this, if_pos rfl, List.append_nil]
  have e2 : cput (s.1 ++ [59], 59) c = (s.1 ++ [59, 32] ++ cbytes c, 1) := by
    unfold cput
    rw [hc]
    simp
  have e3 : cput ([], 0) c = (cbytes c, 1) := by
    unfold cput
    rw [hc]
    simp
  rw [e1, e2, e3, cf_shift]
  simp
theorem good_hd {c : Cl} (h : good c) : ∃ t r, Cl.tks c = t :: r ∧ isSg t = false := by
  obtain ⟨⟨w, w1, w2, w3⟩, -⟩ := h
  split at w3
  · obtain ⟨r, hr⟩ := w3
    exact ⟨_, _, hr, cb_def.2⟩
  · obtain ⟨r, hr⟩ := w3
    exact ⟨_, _, hr, by rw [← w2]; exact (cb_w w1).2⟩
theorem jT2_hd {c : Cl} {r : List Cl} (h : good c) : ∃ t q, jT2 (c :: r) = t :: q ∧ isSg t = false := by
  obtain ⟨t, q, h1, h2⟩ := good_hd h
  cases r with
  | nil => exact ⟨t, q, by rw [jT2]; exact h1, h2⟩
  | cons d r => exact ⟨t, q ++ -60 :: jT2 (d :: r), by rw [jT2, h1]; rfl, h2⟩
theorem txB_cons {c d : Cl} {r : List Cl} (h : good d) : txB (c :: d :: r) = (cB (Cl.tks c)).1 ++ 59 :: 32 :: txB (d :: r) := by
  unfold txB
  obtain ⟨t, q, h1, h2⟩ := jT2_hd (r := r) h
  rw [jT2, h1]
  exact cB_join _ _ _ h2
theorem cbytes_no {c : Int64} (h : isU c) : ∀ x ∈ cbytes c, x ≠ 59 := by
  have nol : ∀ (f n : Nat), ∀ x ∈ wlf f n, x ≠ 59 := by
    intro f
    induction f with
    | zero => intro n x hx; rw [wlf] at hx; cases hx
    | succ f ih =>
      intro n x hx
      rw [wlf] at hx
      split at hx
      · cases hx
      · rcases List.mem_append.mp hx with t | t
        · exact ih _ x t
        · rw [List.mem_singleton] at t; rw [t, show (59 : Int32) = nI 59 from rfl, ne_eq, nI_eq (by omega) (by omega)]; omega
  have nod : ∀ n : Nat, n < 10 → nI (48 + n) ≠ 59 := by
    intro n hn
    rw [show (59 : Int32) = nI 59 from rfl, ne_eq, nI_eq (by omega) (by omega)]; omega
  unfold cbytes
  split
  · exact nol _ _
  · split
    · exact nol _ _
    · split
      · intro x hx
        unfold numB at hx
        simp only [List.mem_append, List.mem_singleton] at hx
        rcases hx with (hx | hx) | hx
        · split at hx
          · rw [List.mem_singleton] at hx; rw [hx]; exact nod _ (by omega)
          · cases hx
        · split at hx
          · rw [List.mem_singleton] at hx; rw [hx]; exact nod _ (by omega)
          · cases hx
        · rw [hx]; exact nod _ (by omega)
      · next q1 q2 q3 =>
        rw [gt_toI] at q1
        rw [le_toI (z := -3000) (by decide)] at q2
        rw [le_toI (z := -1000) (by decide)] at q3
        obtain ⟨h, h6⟩ := h
        rw [ne_eq, code_eq (z := -60) (-60) (by decide)] at h6
        unfold isT at h
        rw [isSg_iff] at h
        intro d hd
        rw [List.mem_singleton] at hd; subst hd
        rcases h with h | h | h | h | h | h | h
        · omega
        · omega
        · omega
        · rw [sub_clamp (n := 58) (-1) (by decide) (by omega) (by omega) (by rw [h]; rfl) (by omega)]; decide
        · exact absurd h h6
        · rw [sub_clamp (n := 40) (-1) (by decide) (by omega) (by omega) (by rw [h]; rfl) (by omega)]; decide
        · rw [sub_clamp (n := 41) (-1) (by decide) (by omega) (by omega) (by rw [h]; rfl) (by omega)]; decide
theorem cf_no : ∀ (ts : List Int64) (s : List Int32 × Int32), (∀ c ∈ ts, isU c) → (∀ x ∈ s.1, x ≠ 59) → ∀ x ∈ (ts.foldl cput s).1, x ≠ 59
  | [], s, _, h => h
  | c :: r, s, h, hs => by
    rw [List.foldl_cons]
    refine cf_no r _ (fun d hd => h d (List.mem_cons_of_mem _ hd)) ?_
    unfold cput
    intro x hx
    rcases List.mem_append.mp hx with t | t
    · rcases List.mem_append.mp t with t | t
      · exact hs x t
      · split at t
        · cases t
        · rw [List.mem_singleton] at t; rw [t]; decide
    · exact cbytes_no (h c List.mem_cons_self) x t
theorem cB_no {c : Cl} (h : good c) : ∀ x ∈ (cB (Cl.tks c)).1, x ≠ 59 := cf_no _ _ h.2 (fun x hx => by cases hx)
theorem good_byt {c : Cl} (h : good c) : byt (cB (Cl.tks c)).1 := cB_byt fun t ht => (h.2 t ht).1
