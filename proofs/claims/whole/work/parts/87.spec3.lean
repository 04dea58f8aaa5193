/-! SPEC: what is read is words, numbers and signs -/
def aT (C : Nat → Int64) (k n : Nat) : Prop := ∀ i, k ≤ i → i < n → isT (C i)
def okT {α : Type} (C : Nat → Int64) (k : Nat) (x : Except Er α) (f : α → Nat) : Prop := ∀ a, x = .ok a → k ≤ f a ∧ aT C k (f a)
theorem okT.err {α : Type} {C : Nat → Int64} {k : Nat} {e : Er} {f : α → Nat} : okT C k (.error e) f := fun a h => by cases h
theorem okT.ok {α : Type} {C : Nat → Int64} {k : Nat} {a : α} {f : α → Nat} (h : f a = k) : okT C k (.ok a) f := fun b hb => by
  injection hb with hb; subst hb
  rw [h]; exact ⟨Nat.le_refl _, fun i h1 h2 => by omega⟩
theorem okT.bind {α β : Type} {C : Nat → Int64} {k : Nat} {x : Except Er α} {g : α → Nat} {h : α → Except Er β} {f : β → Nat} (h1 : okT C k x g) (h2 : ∀ a, x = .ok a → okT C (g a) (h a) f) : okT C k (eb x h) f := by
  intro b hb
  cases x with
  | error e => cases hb
  | ok a =>
    obtain ⟨q1, q2⟩ := h1 a rfl
    obtain ⟨q3, q4⟩ := h2 a rfl b hb
    exact ⟨by omega, fun i i1 i2 => if z : i < g a then q2 i i1 z else q4 i (by omega) i2⟩
theorem okT.ite {α : Type} {C : Nat → Int64} {k : Nat} {p : Prop} [Decidable p] {x y : Except Er α} {f : α → Nat} (h1 : p → okT C k x f) (h2 : ¬ p → okT C k y f) : okT C k (if p then x else y) f := by
  by_cases q : p
  · rw [if_pos q]; exact h1 q
  · rw [if_neg q]; exact h2 q
theorem okT_tk {C : Nat → Int64} {k : Nat} (h : isT (C k)) : okT C k (tk C k) id := by
  unfold tk
  refine okT.ite (fun _ => okT.err) (fun _ a ha => ?_)
  injection ha with ha; subst ha
  exact ⟨by show k ≤ k + 1; omega, fun i h1 h2 => by
    have : i < k + 1 := h2
    have : i = k := by omega
    subst this; exact h⟩
theorem okT.ex {C : Nat → Int64} {k : Nat} {c : Int64} (h : isT c) : okT C k (exC C c k) id := by
  unfold exC
  exact okT.ite (fun q => okT_tk (by rw [q]; exact h)) (fun _ => okT.err)
theorem okT.nm {β : Type} {C : Nat → Int64} {k : Nat} {h : Unit → Except Er β} {f : β → Nat} (h1 : 0 < C k → okT C k (h ()) f) : okT C k (eb (nmC C k) h) f := by
  unfold nmC
  by_cases q : 0 < C k
  · rw [if_pos q, eb_ok]; exact h1 q
  · rw [if_neg q]
    split
    · exact okT.err
    · exact okT.err
theorem isT_L {c : Int64} {z : Int} (hd : c.toInt = z) (hz : 0 < z ∨ z ≤ -3000 ∨ (-2000 < z ∧ z ≤ -1000) ∨ z = -59 ∨ z = -60 ∨ z = -41 ∨ z = -42) : isT c := isT_lit c rfl hd hz
theorem sClo_T (C : Nat → Int64) : ∀ (r : List Lv) (t : Lv) (k : Nat), okT C k (sClo C t r k) (fun x => x.2.2)
  | [], t, k => by rw [sClo]; exact okT.ok rfl
  | b :: r, t, k => by
    rw [sClo]
    refine okT.ite (fun q => okT.bind (okT_tk (isT_lit (-42) q (by decide) (z := -42) (by decide))) fun k2 _ => ?_) (fun _ => okT.ok rfl)
    exact sClo_T C r _ k2
theorem sCond_T (C : Nat → Int64) (F : List Int64) (N : List (Int64 × CS)) (wh : Bool) : ∀ (n : Nat) (t : Lv) (r : List Lv) (o k : Nat), okT C k (sCond C F N wh n t r o k) (fun x => x.2)
  | 0, t, r, o, k => by rw [sCond]; exact okT.err
  | n + 1, t, r, o, k => by
    rw [sCond]
    refine okT.ite (fun q => okT.ite (fun _ => okT.err) (fun _ => okT.bind (okT_tk (isT_lit (-3014) q (by decide) (z := -3014) (by decide))) fun k2 _ => sCond_T C F N wh n _ _ _ _)) (fun _ => ?_)
    refine okT.ite (fun q => okT.ite (fun _ => okT.err) (fun _ => okT.bind (okT_tk (isT_lit (-41) q (by decide) (z := -41) (by decide))) fun k2 _ => sCond_T C F N wh n _ _ _ _)) (fun _ => ?_)
    refine okT.ite (fun _ => okT.err) (fun q => ?_)
    have q : 0 < C k := Decidable.not_not.mp q
    cases opv F N wh (C k) with
    | none => exact okT.err
    | some v =>
      refine okT.ite (fun _ => okT.err) (fun _ => okT.bind (okT_tk (isT_free q)) fun k2 _ => okT.bind (sClo_T C r _ k2) fun x _ => ?_)
      refine okT.ite (fun y => okT.bind (okT_tk (isT_lit (-3013) y (by decide) (z := -3013) (by decide))) fun k3 _ => sCond_T C F N wh n _ _ _ _) (fun _ => ?_)
      refine okT.ite (fun y => okT.bind (okT_tk (isT_lit (-3012) y (by decide) (z := -3012) (by decide))) fun k3 _ => sCond_T C F N wh n _ _ _ _) (fun _ => ?_)
      exact okT.ite (fun _ => okT.ok rfl) (fun _ => okT.err)
theorem sNum_T (C : Nat → Int64) (wh : Bool) (P : List Int64) (mx k : Nat) : okT C k (sNum wh P mx C k) (fun x => x.2.2) := by
  unfold sNum
  refine okT.nm fun q => okT.ite (fun _ => ?_) (fun _ => okT.bind (okT_tk (isT_free q)) fun k2 _ => okT.ok rfl)
  cases P.idxOf? (C k) with
  | none => exact okT.ite (fun _ => okT.err) (fun _ => okT.bind (okT_tk (isT_free q)) fun k2 _ => okT.ok rfl)
  | some i => exact okT.bind (okT_tk (isT_free q)) fun k2 _ => okT.ok rfl
theorem isNm_T {c : Int64} (h : isNm c = true) : isT c := by
  unfold isNm at h
  rw [Bool.and_eq_true, decide_eq_true_eq, decide_eq_true_eq, fa_lt64, fa_le64, show (-2000 : Int64).toInt = -2000 from by decide, show (-1000 : Int64).toInt = -1000 from by decide] at h
  exact Or.inr (Or.inr (Or.inl h))
theorem sTerm_T (C : Nat → Int64) (k : Nat) : okT C k (sTerm C k) (fun x => x.2.2) := by
  unfold sTerm
  refine okT.bind (okT.ex (isT_L (z := -3006) (by decide) (by decide))) fun k1 _ => okT.ite (fun q => okT.ite (fun _ => okT.err) (fun _ => ?_)) (fun _ => okT.err)
  refine okT.bind (okT_tk (isNm_T q)) fun k2 _ => okT.ite (fun y => okT.bind (okT_tk (isT_lit (-3008) y (by decide) (z := -3008) (by decide))) fun k3 _ => okT.ok rfl) (fun _ => okT.bind (okT.ex (isT_L (z := -3007) (by decide) (by decide))) fun k3 _ => okT.ok rfl)
theorem sOver_T (C : Nat → Int64) (wh : Bool) (cls : List Cl) : ∀ (n k : Nat) (o : Int32), isT (C k) → okT C k (sOver C wh cls n k o) (fun x => x.2)
  | 0, k, o, _ => by rw [sOver]; exact okT.err
  | n + 1, k, o, h => by
    rw [sOver]
    refine okT.bind (okT_tk h) fun k1 _ => okT.nm fun q => ?_
    cases (if wh = true then lfnd cls (C k1) false else some 0) with
    | none => exact okT.err
    | some u => exact okT.bind (okT_tk (isT_free q)) fun k2 _ => okT.ite (fun y => sOver_T C wh cls n _ _ (isT_lit (-3012) y (by decide) (z := -3012) (by decide))) (fun _ => okT.ok rfl)
theorem sIf_T (C : Nat → Int64) (F : List Int64) (N : List (Int64 × CS)) (wh : Bool) (k : Nat) : okT C k (sIf C F N wh k) (fun x => x.2) := by
  unfold sIf sCon
  exact okT.ite (fun y => okT.bind (okT_tk (isT_lit (-3009) y (by decide) (z := -3009) (by decide))) fun k1 _ => okT.bind (sCond_T C F N wh _ _ _ _ _) fun x _ => okT.ok rfl) (fun _ => okT.ok rfl)
theorem sUnl_T (C : Nat → Int64) (F : List Int64) (N : List (Int64 × CS)) (wh : Bool) (y : CS × Nat) : okT C y.2 (sUnl C F N wh y) (fun x => x.2) := by
  unfold sUnl sCon
  exact okT.ite (fun z => okT.bind (okT_tk (isT_lit (-3010) z (by decide) (z := -3010) (by decide))) fun k1 _ => okT.bind (sCond_T C F N wh _ _ _ _ _) fun x _ => okT.ok rfl) (fun _ => okT.ok rfl)
theorem sTail_T (C : Nat → Int64) (F : List Int64) (wh : Bool) (cls : List Cl) (k : Nat) : okT C k (sTail C F wh cls k) (fun x => x.2.2) := by
  unfold sTail
  refine okT.bind (sIf_T C F _ wh k) fun y _ => okT.bind (sUnl_T C F _ wh y) fun z _ => okT.ite (fun q => ?_) (fun _ => okT.ok rfl)
  exact okT.bind (sOver_T C wh cls _ _ _ (isT_lit (-3011) q (by decide) (z := -3011) (by decide))) fun o _ => okT.ok rfl
theorem sDefine_T (C : Nat → Int64) (F : List Int64) (md : Nat) (cls : List Cl) (P A : List Int64) (k : Nat) (h : C k = -3000) : okT C k (sDefine C F md cls P A k) (fun x => x.2.2.2) := by
  unfold sDefine sCon
  refine okT.ite (fun _ => okT.err) (fun _ => okT.bind (okT_tk (isT_lit (-3000) h (by decide) (z := -3000) (by decide))) fun k1 _ => okT.nm fun q => okT.ite (fun _ => okT.err) (fun _ => okT.ite (fun _ => okT.err) (fun _ => ?_)))
  exact okT.bind (okT_tk (isT_free q)) fun k2 _ => okT.bind (okT.ex (isT_L (z := -3001) (by decide) (by decide))) fun k3 _ => okT.bind (sCond_T C F _ _ _ _ _ _ _) fun x _ => okT.ok rfl
theorem sDeed_T (C : Nat → Int64) (F : List Int64) (wh : Bool) (cls : List Cl) (P A : List Int64) (k0 k : Nat) : okT C k (sDeed C F wh cls P A k0 k) (fun x => x.2.2.2) := by
  unfold sDeed
  refine okT.bind (okT.ex (isT_L (z := -59) (by decide) (by decide))) fun k2 _ => okT.ite (fun _ => okT.err) (fun q => ?_)
  have hT : isT (C k2) := by
    rcases sKind_T q with ⟨t, -⟩ | ⟨t, -⟩ | ⟨t, -⟩
    · exact isT_lit _ t (by decide) (z := -3002) (by decide)
    · exact isT_lit _ t (by decide) (z := -3003) (by decide)
    · exact isT_lit _ t (by decide) (z := -3004) (by decide)
  refine okT.bind (okT_tk hT) fun k3 _ => okT.bind (sNum_T C wh P 6 k3) fun p _ => okT.bind (okT.ex (isT_L (z := -3005) (by decide) (by decide))) fun k4 _ => okT.bind (sNum_T C wh A 12 k4) fun a _ => ?_
  refine okT.bind (g := fun t => t.2.2) (okT.ite (fun _ => sTerm_T C _) (fun _ => okT.ok rfl)) fun t _ => okT.bind (sTail_T C F wh cls _) fun z _ => okT.ok rfl
theorem sClause_T (C : Nat → Int64) (F : List Int64) (md : Nat) (cls : List Cl) (P A : List Int64) (k : Nat) : okT C k (sClause C F md cls P A k) (fun x => x.2.2.2) := by
  unfold sClause
  refine okT.ite (fun q => sDefine_T C F md cls P A k q) (fun _ => ?_)
  unfold sLabel
  exact okT.nm fun q => okT.ite (fun _ => okT.err) (fun _ => okT.ite (fun _ => okT.err) (fun _ => okT.ite (fun _ => okT.err) (fun _ => okT.bind (okT_tk (isT_free q)) fun k1 _ => sDeed_T C F _ cls P A k k1)))
theorem sVer_T (C : Nat → Int64) (F : List Int64) : ∀ (n : Nat) (cls : List Cl) (P A : List Int64) (k : Nat), okT C k (sVer C F n cls P A k) (fun x => x.2.2.2)
  | 0, cls, P, A, k => by rw [sVer]; exact okT.err
  | n + 1, cls, P, A, k => by
    rw [sVer]
    refine okT.bind (sClause_T C F 0 cls P A k) fun x _ => okT.ite (fun _ => okT.ok rfl) (fun _ => ?_)
    exact okT.bind (okT.ex (isT_L (z := -60) (by decide) (by decide))) fun k2 _ => sVer_T C F n _ _ _ _
/-- canonical bytes are bytes -/
theorem byt.app {x y : List Int32} (h : byt x) (g : byt y) : byt (x ++ y) := fun c hc => by
  rcases List.mem_append.mp hc with t | t
  · exact h c t
  · exact g c t
theorem wlf_byt : ∀ (f n : Nat), byt (wlf f n)
  | 0, n => by rw [wlf]; intro c hc; cases hc
  | f + 1, n => by
    rw [wlf]; split
    · intro c hc; cases hc
    · refine (wlf_byt f _).app fun c hc => ?_
      rw [List.mem_singleton] at hc; subst hc
      exact nb_small (by omega)
theorem one_byt {n : Nat} (h : n < 128) : byt [nI n] := fun c hc => by
  rw [List.mem_singleton] at hc; subst hc; exact nb_small h
theorem nil_byt : byt [] := fun c hc => by cases hc
theorem numB_byt (n : Nat) : byt (numB n) := by
  unfold numB
  refine (byt.app ?_ ?_).app (one_byt (by omega))
  · split
    · exact one_byt (by omega)
    · exact nil_byt
  · split
    · exact one_byt (by omega)
    · exact nil_byt
theorem cbytes_byt {c : Int64} (h : isT c) : byt (cbytes c) := by
  unfold cbytes
  split
  · exact wlf_byt _ _
  · split
    · exact wlf_byt _ _
    · split
      · exact numB_byt _
      · next q1 q2 q3 =>
        rw [gt_toI] at q1
        rw [le_toI (z := -3000) (by decide)] at q2
        rw [le_toI (z := -1000) (by decide)] at q3
        unfold isT at h
        rw [isSg_iff] at h
        intro d hd
        rw [List.mem_singleton] at hd; subst hd
        rcases h with h | h | h | h | h | h | h
        · omega
        · omega
        · omega
        · rw [sub_clamp (n := 58) (-1) (by decide) (by omega) (by omega) (by rw [h]; rfl) (by omega)]; exact nb_small (by omega)
        · rw [sub_clamp (n := 59) (-1) (by decide) (by omega) (by omega) (by rw [h]; rfl) (by omega)]; exact nb_small (by omega)
        · rw [sub_clamp (n := 40) (-1) (by decide) (by omega) (by omega) (by rw [h]; rfl) (by omega)]; exact nb_small (by omega)
        · rw [sub_clamp (n := 41) (-1) (by decide) (by omega) (by omega) (by rw [h]; rfl) (by omega)]; exact nb_small (by omega)
theorem cf_byt : ∀ (ts : List Int64) (s : List Int32 × Int32), (∀ c ∈ ts, isT c) → byt s.1 → byt (ts.foldl cput s).1
  | [], s, _, h => h
  | c :: r, s, h, hs => by
    rw [List.foldl_cons]
    refine cf_byt r _ (fun d hd => h d (List.mem_cons_of_mem _ hd)) ?_
    unfold cput
    refine (hs.app ?_).app (cbytes_byt (h c List.mem_cons_self))
    split
    · intro d hd; cases hd
    · intro d hd; rw [List.mem_singleton] at hd; subst hd; decide
theorem cB_byt {ts : List Int64} (h : ∀ c ∈ ts, isT c) : byt (cB ts).1 := cf_byt ts _ h (fun c hc => by cases hc)
theorem aT_sl {C : Nat → Int64} {k n : Nat} (h : aT C k n) : ∀ c ∈ sl C k n, isT c := by
  intro c hc
  unfold sl at hc
  rw [List.mem_map] at hc
  obtain ⟨i, hi, rfl⟩ := hc
  rw [List.mem_range'_1] at hi
  exact h i hi.1 (by omega)
