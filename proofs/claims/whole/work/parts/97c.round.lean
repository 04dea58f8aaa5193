/-! the canonical text has the same tokens -/
def isE (R : List Int32) : Prop := ∀ c r, R = c :: r → isL c = false ∧ isD c = false
def vld (c : Int64) : Prop := ∃ x, byt x ∧ tcode x = c ∧ isT c
theorem tw_app {p : Int32 → Bool} : ∀ (w R : List Int32), (∀ c ∈ w, p c = true) → (∀ c r, R = c :: r → p c = false) → (w ++ R).takeWhile p = w
  | [], R, _, h => by
    cases R with
    | nil => rfl
    | cons c r => rw [List.nil_append, List.takeWhile_cons, h c r rfl]; rfl
  | d :: w, R, hw, h => by
    rw [List.cons_append, List.takeWhile_cons, hw d List.mem_cons_self, if_pos rfl, tw_app w R (fun c hc => hw c (List.mem_cons_of_mem _ hc)) h]
theorem tc_word {x : List Int32} (h : tokc x = 1) : ∃ c r, x = c :: r ∧ isL c = true ∧ tcode x = wcode (hw x) := by
  cases x with
  | nil => simp [tokc] at h
  | cons c r =>
    by_cases q : isL c = true
    · exact ⟨c, r, rfl, q, by rw [hw_cons q]; simp [tcode, q]⟩
    · exfalso
      simp only [tokc, q, Bool.false_eq_true, if_false] at h
      split at h
      · exact absurd h (by decide)
      · split at h <;> exact absurd h (by decide)
theorem tc_app {w R : List Int32} (hn : w ≠ []) (hw : ∀ c ∈ w, isL c = true) (hR : isE R) : tcode (w ++ R) = wcode w ∧ hdLen (w ++ R) = w.length ∧ ∃ d r, w = d :: r ∧ isB d = false := by
  cases w with
  | nil => exact absurd rfl hn
  | cons d r =>
    have hd := hw d List.mem_cons_self
    have ht := tw_app (p := isL) r R (fun c hc => hw c (List.mem_cons_of_mem _ hc)) (fun c q e => (hR c q e).1)
    refine ⟨by simp [tcode, hd, ht], by simp [hdLen, hd, ht]; omega, d, r, rfl, ?_⟩
    obtain ⟨m, m1, m2, rfl⟩ := isL_nat hd
    unfold isB
    rw [show (32 : Int32) = nI 32 from rfl, show (10 : Int32) = nI 10 from rfl]
    have a1 : ¬ nI m = nI 32 := fun z => by have := (nI_eq (by omega) (by omega)).mp z; omega
    have a2 : ¬ nI m = nI 10 := fun z => by have := (nI_eq (by omega) (by omega)).mp z; omega
    simp [a1, a2]
theorem num_all : ∀ v, v < 1000 → (numB v).all isD = true ∧ numB v ≠ [] ∧ (numB v).all (fun c => !isL c) = true ∧ (numB v).all (fun c => !isB c) = true ∧ dcode (numB v) = -1000 - lN v := by decide +kernel
theorem dc_app {w R : List Int32} (hn : w ≠ []) (hw : ∀ c ∈ w, isD c = true) (hl : ∀ c ∈ w, isL c = false) (hR : isE R) : tcode (w ++ R) = dcode w ∧ hdLen (w ++ R) = w.length := by
  cases w with
  | nil => exact absurd rfl hn
  | cons d r =>
    have hd := hw d List.mem_cons_self
    have hl := hl d List.mem_cons_self
    have ht := tw_app (p := isD) r R (fun c hc => hw c (List.mem_cons_of_mem _ hc)) (fun c q e => (hR c q e).2)
    exact ⟨by simp [tcode, hd, hl, ht], by simp [hdLen, hd, hl, ht]; omega⟩
theorem sg_app (R : List Int32) : ∀ v, v = 58 ∨ v = 59 ∨ v = 40 ∨ v = 41 → tcode (nI v :: R) = -1 - lN v ∧ hdLen (nI v :: R) = 1 ∧ isB (nI v) = false ∧ isL (nI v) = false ∧ isD (nI v) = false := by
  intro v hv
  have key : isL (nI v) = false ∧ isD (nI v) = false ∧ isB (nI v) = false ∧ -1 - (nI v &&& 255).toInt64 = -1 - lN v := by
    rcases hv with rfl | rfl | rfl | rfl <;> decide
  obtain ⟨k1, k2, k3, k4⟩ := key
  refine ⟨?_, ?_, k3, k1, k2⟩
  · simp only [tcode, k1, k2, Bool.false_eq_true, if_false]; exact k4
  · simp only [hdLen, k1, k2, Bool.false_eq_true, if_false]
theorem tk_rt {c : Int64} (hv : vld c) (R : List Int32) (hR : isSg c = true ∨ isE R) : tcode (cbytes c ++ R) = c ∧ hdLen (cbytes c ++ R) = (cbytes c).length ∧ (∃ d r, cbytes c = d :: r ∧ isB d = false) ∧ (isSg c = true → ∀ d r, cbytes c = d :: r → isL d = false ∧ isD d = false) := by
  obtain ⟨x, hb, rfl, hT⟩ := hv
  have hsg : ∀ z : Int, (tcode x).toInt = z → (z ≠ -59 ∧ z ≠ -60 ∧ z ≠ -41 ∧ z ≠ -42) → isSg (tcode x) = false := by
    intro z h1 h2
    cases q : isSg (tcode x) with
    | false => rfl
    | true => rw [isSg_iff, h1] at q; omega
  unfold isT at hT
  rcases tcl x hb with ⟨e1, e2, -⟩ | ⟨i, e1, e2, e3, e4, e5, e6, e7, e8⟩ | ⟨e1, e2, e3, e4, e5, e6, e7, e8, e9⟩ | ⟨v, e1, e2, e3, e4, e5, e6, e7, e8⟩ | ⟨c, r, v, e1, e2, e3, e4, e5, e6, e7, e8, e9, e10⟩ | ⟨e1, e2, e3, -⟩
  · rw [e2] at hT; exact absurd hT (by decide)
  · have ns := hsg _ e3 (by omega)
    have hE : isE R := by rcases hR with q | q; rw [ns] at q; cases q; exact q
    obtain ⟨d, r, w1, w2, w3⟩ := tc_word e4
    have hB : cbytes (tcode x) = hw x := by
      unfold cbytes
      rw [if_neg (by rw [gt_toI, e3]; omega), if_pos (by rw [le_toI (z := -3000) (by decide), e3]; omega), sub_clamp (n := i) (-3000) (by decide) (by omega) (by omega) (by rw [e3]) (by omega), e7]
    have hne : hw x ≠ [] := by rw [w1, hw_cons w2]; simp
    obtain ⟨t1, t2, t3⟩ := tc_app (R := R) hne tw_all hE
    rw [hB]
    exact ⟨by rw [t1, w3], t2, t3, fun q => by rw [ns] at q; cases q⟩
  · have ns := hsg _ e5 (by omega)
    have hE : isE R := by rcases hR with q | q; rw [ns] at q; cases q; exact q
    obtain ⟨d, r, w1, w2, w3⟩ := tc_word e1
    have hB : cbytes (tcode x) = hw x := by
      unfold cbytes
      rw [if_pos (by rw [gt_toI, e5]; omega), clamp_toI e5, wl_w (w := hw x) tw_all e8]
    have hne : hw x ≠ [] := by rw [w1, hw_cons w2]; simp
    obtain ⟨t1, t2, t3⟩ := tc_app (R := R) hne tw_all hE
    rw [hB]
    exact ⟨by rw [t1, w3], t2, t3, fun q => by rw [ns] at q; cases q⟩
  · have ns := hsg _ e8 (by omega)
    have hE : isE R := by rcases hR with q | q; rw [ns] at q; cases q; exact q
    have hB : cbytes (tcode x) = numB v := by
      unfold cbytes
      rw [if_neg (by rw [gt_toI, e8]; omega), if_neg (by rw [le_toI (z := -3000) (by decide), e8]; omega), if_pos (by rw [le_toI (z := -1000) (by decide), e8]; omega), sub_clamp (n := v) (-1000) (by decide) (by omega) (by omega) (by rw [e8]) (by omega)]
    obtain ⟨n1, n2, n3, n4, n5⟩ := num_all v e1
    obtain ⟨t1, t2⟩ := dc_app (R := R) n2 (fun c hc => List.all_eq_true.mp n1 c hc) (fun c hc => by have := List.all_eq_true.mp n3 c hc; simpa using this) hE
    rw [hB]
    refine ⟨by rw [t1, n5, e7], t2, ?_, fun q => by rw [ns] at q; cases q⟩
    cases hn : numB v with
    | nil => exact absurd hn n2
    | cons d r =>
      refine ⟨d, r, rfl, ?_⟩
      have := List.all_eq_true.mp n4 d (by rw [hn]; exact List.mem_cons_self)
      simpa using this
  · have hsv : v = 58 ∨ v = 59 ∨ v = 40 ∨ v = 41 := by
      rcases hT with h | h | h | h
      · rw [e9] at h; omega
      · rw [e9] at h; omega
      · rw [e9] at h; omega
      · rw [isSg_iff, e9] at h; omega
    have hB : cbytes (tcode x) = [nI v] := by
      unfold cbytes
      rw [if_neg (by rw [gt_toI, e9]; omega), if_neg (by rw [le_toI (z := -3000) (by decide), e9]; omega), if_neg (by rw [le_toI (z := -1000) (by decide), e9]; omega), sub_clamp (n := v) (-1) (by decide) (by omega) (by omega) (by rw [e9]) (by omega)]
    obtain ⟨t1, t2, t3, t4, t5⟩ := sg_app R v hsv
    rw [hB]
    refine ⟨by rw [e8]; exact t1, t2, ⟨nI v, [], rfl, t3⟩, fun _ d r e => ?_⟩
    injection e with e0 e1
    rw [← e0]; exact ⟨t4, t5⟩
  · rw [e3] at hT
    rcases hT with h | h | h | h
    · omega
    · omega
    · omega
    · rw [isSg_iff, e3] at h; omega
def bl (a : Int32) (c : Int64) : List Int32 := if a = 0 ∨ a = 40 ∨ (isSg c = true ∧ c ≠ -41) then [] else [32]
def ah (c : Int64) : Int32 := if isSg c = true then nI (-1 - c).toNatClampNeg else 1
def txt : Int32 → List Int64 → List Int32
  | _, [] => []
  | a, c :: r => bl a c ++ (cbytes c ++ txt (ah c) r)
theorem txt_is : ∀ (r : List Int64) (x : List Int32) (a : Int32), (r.foldl cput (x, a)).1 = x ++ txt a r
  | [], x, a => by simp [txt]
  | c :: r, x, a => by
    rw [List.foldl_cons, txt]
    have e : cput (x, a) c = (x ++ bl a c ++ cbytes c, ah c) := rfl
    rw [e, txt_is r]; simp
theorem txt_E {r : List Int64} (h : ∀ c ∈ r, vld c) : isE (txt 1 r) := by
  intro d q e
  cases r with
  | nil => rw [txt] at e; cases e
  | cons c r =>
    rw [txt] at e
    unfold bl at e
    split at e
    · next z =>
      rcases z with z | z | z
      · exact absurd z (by decide)
      · exact absurd z (by decide)
      · obtain ⟨-, -, ⟨d2, r2, h1, -⟩, h4⟩ := tk_rt (h c List.mem_cons_self) [] (Or.inl z.1)
        rw [List.nil_append, h1] at e
        injection e with e0 e1
        rw [← e0]; exact h4 z.1 d2 r2 h1
    · injection e with e0 e1
      rw [← e0]; decide
theorem skp_bl {a : Int32} {c : Int64} {X : List Int32} {d : Int32} {r : List Int32} (hX : X = d :: r) (hd : isB d = false) : skp (bl a c ++ X) = (bl a c).length := by
  subst hX
  unfold bl
  split
  · simp [skp, hd]
  · simp only [List.cons_append, List.nil_append, skp, hd]
    simp [isB, hd]
theorem rt_l {l : List Int32} : ∀ (ts : List Int64) (a : Int32) (pre : List Int32) (k : Nat), l = pre ++ txt a ts → (∀ c ∈ ts, vld c) → pl l k = pre.length + skp (l.drop pre.length) → (∀ i, i < ts.length → Cd l (k + i) = ts.getD i 0) ∧ Cd l (k + ts.length) = 0
  | [], a, pre, k, hl, _, hp => by
    refine ⟨fun i hi => by simp at hi, ?_⟩
    rw [txt, List.append_nil] at hl
    subst hl
    rw [List.drop_length] at hp
    unfold Cd
    rw [List.length_nil, Nat.add_zero, hp, show skp [] = 0 from rfl, Nat.add_zero, List.drop_length]; rfl
  | c :: r, a, pre, k, hl, hv, hp => by
    have hv1 := hv c List.mem_cons_self
    have hvr : ∀ d ∈ r, vld d := fun d hd => hv d (List.mem_cons_of_mem _ hd)
    have hE : isSg c = true ∨ isE (txt (ah c) r) := by
      cases q : isSg c with
      | true => exact Or.inl rfl
      | false =>
        right
        have : ah c = 1 := by unfold ah; rw [q]; rfl
        rw [this]; exact txt_E hvr
    obtain ⟨t1, t2, ⟨d, q, t3, t4⟩, -⟩ := tk_rt hv1 (txt (ah c) r) hE
    have hd : l.drop pre.length = bl a c ++ (cbytes c ++ txt (ah c) r) := by rw [hl, List.drop_left, txt]
    have hs : skp (l.drop pre.length) = (bl a c).length := by
      rw [hd]
      exact skp_bl (d := d) (r := q ++ txt (ah c) r) (by rw [t3]; rfl) t4
    rw [hs] at hp
    have hd2 : l.drop (pl l k) = cbytes c ++ txt (ah c) r := by
      rw [hp, ← List.drop_drop, hd, List.drop_left]
    have c0 : Cd l k = c := by unfold Cd; rw [hd2]; exact t1
    have hp2 : pl l (k + 1) = (pre ++ bl a c ++ cbytes c).length + skp (l.drop (pre ++ bl a c ++ cbytes c).length) := by
      show nxj l (pl l k) = _
      unfold nxj
      rw [hd2, t2, List.length_append, List.length_append, hp]
    obtain ⟨i1, i2⟩ := rt_l r (ah c) (pre ++ bl a c ++ cbytes c) (k + 1) (by rw [hl, txt]; simp) hvr hp2
    refine ⟨fun i hi => ?_, ?_⟩
    · cases i with
      | zero => exact c0
      | succ i =>
        have := i1 i (by simpa using hi)
        rw [show k + (i + 1) = k + 1 + i by omega, this]; rfl
    · rw [List.length_cons, show k + (r.length + 1) = k + 1 + r.length by omega]; exact i2
theorem Cd_zero {l : List Int32} {k : Nat} (hb : byt l) (h : Cd l k = 0) : ∀ n, Cd l (k + n) = 0 := by
  have hx : l.drop (pl l k) = [] := by
    have h0 : (Cd l k).toInt = 0 := by rw [h]; rfl
    have hd : (Cd l k) = tcode (l.drop (pl l k)) := rfl
    rw [hd] at h0
    rcases tcl _ (hb.drop (pl l k)) with ⟨e1, e2, e3, e4, e5⟩ | ⟨i, e1, e2, e3, e4, e5, e6, e7, e8⟩ | ⟨e1, e2, e3, e4, e5, e6, e7, e8, e9⟩ | ⟨w, e1, e2, e3, e4, e5, e6, e7, e8⟩ | ⟨c, r, w, e1, e2, e3, e4, e5, e6, e7, e8, e9, e10⟩ | ⟨e1, e2, e3, e4, e5⟩
    · exact e1
    · omega
    · omega
    · omega
    · omega
    · omega
  have hp : ∀ n, pl l (k + n) = pl l k := by
    intro n
    induction n with
    | zero => rfl
    | succ n ih =>
      show nxj l (pl l (k + n)) = _
      rw [ih]; unfold nxj
      rw [hx]
      show pl l k + 0 + skp (l.drop (pl l k + 0)) = _
      rw [Nat.add_zero, hx]; rfl
  intro n
  unfold Cd; rw [hp n, hx]; rfl
/-- a text and its canonical text have the same tokens -/
theorem Cd_rt {l : List Int32} {n : Nat} (hb : byt l) (ha : aT (Cd l) 0 n) (h0 : Cd l n = 0) : Cd (cB (sl (Cd l) 0 n)).1 = Cd l := by
  have hv : ∀ c ∈ sl (Cd l) 0 n, vld c := by
    intro c hc
    have hT := aT_sl ha c hc
    unfold sl at hc
    rw [List.mem_map] at hc
    obtain ⟨i, hi, rfl⟩ := hc
    exact ⟨_, hb.drop (pl l i), rfl, hT⟩
  have hB : (cB (sl (Cd l) 0 n)).1 = txt 0 (sl (Cd l) 0 n) := by unfold cB; rw [txt_is]; rfl
  have hby : byt (cB (sl (Cd l) 0 n)).1 := cB_byt (aT_sl ha)
  obtain ⟨r1, r2⟩ := rt_l (l := (cB (sl (Cd l) 0 n)).1) (sl (Cd l) 0 n) 0 [] 0 (by rw [hB]; rfl) hv (by show skp _ = 0 + skp _; rw [List.length_nil, List.drop_zero, Nat.zero_add])
  have hlen : (sl (Cd l) 0 n).length = n := by unfold sl; simp
  rw [hlen] at r1 r2
  funext i
  by_cases q : i < n
  · have := r1 i q
    rw [Nat.zero_add] at this
    rw [this]
    unfold sl
    simp [List.getD, q]
  · have h1 := Cd_zero hby r2 (i - n)
    have h2 := Cd_zero hb h0 (i - n)
    rw [show 0 + n + (i - n) = i by omega] at h1
    rw [show n + (i - n) = i by omega] at h2
    rw [h1, h2]
