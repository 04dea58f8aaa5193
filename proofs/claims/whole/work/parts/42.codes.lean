/-! codes of tokens -/
theorem isL_nat {c : Int32} (h : isL c = true) : ∃ m : Nat, 97 ≤ m ∧ m ≤ 122 ∧ c = nI m := by
  simp only [isL, Bool.and_eq_true, decide_eq_true_eq] at h
  obtain ⟨j, h1, h2⟩ := nI_of2 (M := 122) (n := 122) rfl (fun q => by
    have h1 := h.1
    rw [fa_lt] at q
    rw [fa_le] at h1
    have e1 : (97 : Int32).toInt = 97 := rfl
    have e2 : (0 : Int32).toInt = 0 := rfl
    omega) h.2
  refine ⟨j, ?_, h1, h2⟩
  have := h.1
  rw [h2] at this
  exact (nI_leI (a := 97) (by decide) (by omega)).mp this
theorem isD_nat {c : Int32} (h : isD c = true) : ∃ m : Nat, 48 ≤ m ∧ m ≤ 57 ∧ c = nI m := by
  simp only [isD, Bool.and_eq_true, decide_eq_true_eq] at h
  obtain ⟨j, h1, h2⟩ := nI_of2 (M := 57) (n := 57) rfl (fun q => by
    have h1 := h.1
    rw [fa_lt] at q
    rw [fa_le] at h1
    have e1 : (48 : Int32).toInt = 48 := rfl
    have e2 : (0 : Int32).toInt = 0 := rfl
    omega) h.2
  refine ⟨j, ?_, h1, h2⟩
  have := h.1
  rw [h2] at this
  exact (nI_leI (a := 48) (by decide) (by omega)).mp this
theorem isLD {c : Int32} (h : isL c = true) : isD c = false := by
  obtain ⟨m, h1, h2, rfl⟩ := isL_nat h
  by_cases q : isD (nI m) = true
  · obtain ⟨k, k1, k2, k3⟩ := isD_nat q
    have := (nI_eq (by omega) (by omega)).mp k3
    omega
  · simpa using q
theorem foldl_lt {w : List Int32} (h : ∀ c ∈ w, isL c = true) : ∀ n b : Nat, n < b → w.foldl wstep n < b * 32 ^ w.length := by
  induction w with
  | nil => intro n b hn; simpa using hn
  | cons c r ih =>
    intro n b hn
    obtain ⟨m, h1, h2, rfl⟩ := isL_nat (h c (List.mem_cons_self))
    have := ih (fun d hd => h d (List.mem_cons_of_mem _ hd)) (wstep n (nI m)) (b * 32) (by
      simp only [wstep, nI_clamp (show m < 2 ^ 31 by omega)]; omega)
    simpa [List.foldl_cons, List.length_cons, Nat.pow_succ, Nat.mul_assoc, Nat.mul_comm] using this
theorem wnat_lt {w : List Int32} (h : ∀ c ∈ w, isL c = true) (hl : w.length ≤ 12) : wnat w < 2 ^ 60 := by
  have h1 := foldl_lt h 0 1 (by omega)
  have h2 : 32 ^ w.length ≤ 32 ^ 12 := Nat.pow_le_pow_right (by omega) hl
  have h3 : (32 : Nat) ^ 12 = 2 ^ 60 := by decide
  unfold wnat
  omega
theorem wnat_pos {c : Int32} {r : List Int32} (h : ∀ d ∈ c :: r, isL d = true) : 0 < wnat (c :: r) := by
  have key : ∀ (w : List Int32), (∀ d ∈ w, isL d = true) → ∀ n, 0 < n → 0 < w.foldl wstep n := by
    intro w
    induction w with
    | nil => intro _ n hn; simpa using hn
    | cons d s ih =>
      intro hw n hn
      rw [List.foldl_cons]
      exact ih (fun e he => hw e (List.mem_cons_of_mem _ he)) _ (by unfold wstep; omega)
  unfold wnat
  rw [List.foldl_cons]
  refine key r (fun d hd => h d (List.mem_cons_of_mem _ hd)) _ ?_
  obtain ⟨m, h1, h2, rfl⟩ := isL_nat (h c (List.mem_cons_self))
  simp only [wstep, nI_clamp (show m < 2 ^ 31 by omega)]; omega
theorem tw_all {p : Int32 → Bool} {l : List Int32} : ∀ c ∈ l.takeWhile p, p c = true := fun c hc => (List.all_takeWhile (p := p) (l := l) |> fun h => List.all_eq_true.mp h c hc)
/-- the word at the head -/
def hw (l : List Int32) : List Int32 := l.takeWhile isL
theorem hw_cons {c : Int32} {r : List Int32} (h : isL c = true) : hw (c :: r) = c :: r.takeWhile isL := by simp [hw, List.takeWhile_cons, h]
theorem hdLen_w {c : Int32} {r : List Int32} (h : isL c = true) : hdLen (c :: r) = (hw (c :: r)).length := by rw [hw_cons h]; simp only [hdLen, h, if_true, List.length_cons]; omega
theorem oursN_lt : ∀ x ∈ oursN, x < 2 ^ 60 := by decide
theorem dval_nat : ∀ (d : List Int32), (∀ c ∈ d, isD c = true) → d.length ≤ 3 → ∃ v : Nat, v < 1000 ∧ dval d = nI v := by
  intro d
  have st : ∀ (v m : Nat), 48 ≤ m → dstep (nI v) (nI m) = nI (10 * v + m - 48) := by
    intro v m hm
    unfold dstep
    have a1 : (10 : Int32) * nI v = nI (10 * v) := pk_mul 10 v
    rw [a1, nI_add, show (48 : Int32) = nI 48 from rfl, pk_sub (by omega)]
  match d with
  | [] => intro _ _; exact ⟨0, by omega, rfl⟩
  | [a] =>
    intro h _
    obtain ⟨m, m1, m2, rfl⟩ := isD_nat (h a (by simp))
    refine ⟨10 * 0 + m - 48, by omega, ?_⟩
    show dstep (nI 0) (nI m) = _
    rw [st 0 m m1]
  | [a, e] =>
    intro h _
    obtain ⟨m, m1, m2, rfl⟩ := isD_nat (h a (by simp))
    obtain ⟨n, n1, n2, rfl⟩ := isD_nat (h e (by simp))
    refine ⟨10 * (10 * 0 + m - 48) + n - 48, by omega, ?_⟩
    show dstep (dstep (nI 0) (nI m)) (nI n) = _
    rw [st 0 m m1, st _ n n1]
  | [a, e, f] =>
    intro h _
    obtain ⟨m, m1, m2, rfl⟩ := isD_nat (h a (by simp))
    obtain ⟨n, n1, n2, rfl⟩ := isD_nat (h e (by simp))
    obtain ⟨k, k1, k2, rfl⟩ := isD_nat (h f (by simp))
    refine ⟨10 * (10 * (10 * 0 + m - 48) + n - 48) + k - 48, by omega, ?_⟩
    show dstep (dstep (dstep (nI 0) (nI m)) (nI n)) (nI k) = _
    rw [st 0 m m1, st _ n n1, st _ k k1]
  | _ :: _ :: _ :: _ :: _ => intro _ h; simp at h
theorem and255 (c : Int32) : ∃ v : Nat, v < 256 ∧ c &&& 255 = nI v := pk_andE c 8 rfl
theorem lN_toI {n : Nat} (h : n < 2 ^ 63) : (lN n).toInt = (n : Int) := pk_lT h
theorem sub_toI {k : Int64} {n : Nat} (kz : Int) (hk : k.toInt = kz) (h1 : -100000 ≤ kz) (h2 : kz ≤ 0) (hn : n < 2 ^ 40) : (k - lN n).toInt = kz - n := by
  rw [fb_subL, hk, lN_toI (by omega)] <;> rw [hk, lN_toI (by omega)] <;> omega
def tokval (l : List Int32) : Int32 := match l with
  | [] => 0
  | c :: r => dval (c :: r.takeWhile isD)
/-- what the code at the head says -/
theorem tcode_cases (l : List Int32) : (l = [] ∧ tcode l = 0) ∨
    (∃ c r, l = c :: r ∧ isL c = true ∧ (hw l).length ≤ 12 ∧ ∃ i, i < 18 ∧ oursN.getD i 0 = wnat (hw l) ∧ tcode l = -3000 - lN i ∧ (tcode l).toInt = -3000 - (i : Int)) ∨
    (∃ c r, l = c :: r ∧ isL c = true ∧ (hw l).length ≤ 12 ∧ wnat (hw l) ∉ oursN ∧ tcode l = lN (wnat (hw l)) ∧ (tcode l).toInt = (wnat (hw l) : Int) ∧ 0 < wnat (hw l) ∧ wnat (hw l) < 2 ^ 60) ∨
    (∃ c r, l = c :: r ∧ isL c = false ∧ isD c = true ∧ hdLen l ≤ 3 ∧ ∃ v, v < 1000 ∧ tokval l = nI v ∧ tcode l = -1000 - lN v ∧ (tcode l).toInt = -1000 - (v : Int)) ∨
    (∃ c r, l = c :: r ∧ isL c = false ∧ isD c = false ∧ ∃ v, v < 256 ∧ c &&& 255 = nI v ∧ tcode l = -1 - lN v ∧ (tcode l).toInt = -1 - (v : Int)) ∨
    (∃ c r, l = c :: r ∧ ((isL c = true ∧ 12 < hdLen l) ∨ (isL c = false ∧ isD c = true ∧ 3 < hdLen l)) ∧ tcode l = -2000) := by
  cases l with
  | nil => exact Or.inl ⟨rfl, rfl⟩
  | cons c r =>
    right
    by_cases cL : isL c = true
    · have ha : ∀ d ∈ hw (c :: r), isL d = true := tw_all
      by_cases hl : (hw (c :: r)).length ≤ 12
      · have hlt := wnat_lt ha hl
        have hpos : 0 < wnat (hw (c :: r)) := by
          have := ha
          rw [hw_cons cL] at this ⊢
          exact wnat_pos this
        have e : tcode (c :: r) = wcode (hw (c :: r)) := by simp only [tcode, cL, if_true, hw_cons cL]
        cases hx : oursN.idxOf? (wnat (hw (c :: r))) with
        | some i =>
          left
          have hi := List.idxOf?_eq_some_iff.mp hx
          obtain ⟨hi1, hi2, -⟩ := hi
          have hi18 : i < 18 := hi1
          have et : tcode (c :: r) = -3000 - lN i := by rw [e, wcode, if_pos hl, hx]
          refine ⟨c, r, rfl, cL, hl, i, hi18, ?_, et, ?_⟩
          · rw [List.getD_eq_getElem?_getD, List.getElem?_eq_getElem hi1, Option.getD_some]
            exact hi2
          · rw [et]; exact sub_toI (-3000) (by decide) (by omega) (by omega) (by omega)
        | none =>
          right; left
          have hi := List.idxOf?_eq_none_iff.mp hx
          have et : tcode (c :: r) = lN (wnat (hw (c :: r))) := by rw [e, wcode, if_pos hl, hx]
          exact ⟨c, r, rfl, cL, hl, hi, et, by rw [et, lN_toI (by omega)], hpos, hlt⟩
      · right; right; right; right
        refine ⟨c, r, rfl, Or.inl ⟨cL, by rw [hdLen_w cL]; omega⟩, ?_⟩
        simp only [tcode, cL, if_true]
        rw [hw_cons cL] at hl
        rw [wcode, if_neg hl]
    · have cL2 : isL c = false := by simpa using cL
      by_cases cD : isD c = true
      · have ha : ∀ d ∈ c :: r.takeWhile isD, isD d = true := by
          intro d hd
          rcases List.mem_cons.mp hd with rfl | hd
          · exact cD
          · exact tw_all d hd
        have e : tcode (c :: r) = dcode (c :: r.takeWhile isD) := by simp only [tcode, cL2, cD, if_true, Bool.false_eq_true, if_false]
        have hlen : hdLen (c :: r) = (c :: r.takeWhile isD).length := by simp only [hdLen, cL2, cD, if_true, Bool.false_eq_true, if_false, List.length_cons]; omega
        by_cases hl : hdLen (c :: r) ≤ 3
        · right; right; left
          obtain ⟨v, v1, v2⟩ := dval_nat _ ha (by omega)
          have et : tcode (c :: r) = -1000 - lN v := by rw [e, dcode, if_pos (by omega), v2, nI_l (by omega)]
          refine ⟨c, r, rfl, cL2, cD, hl, v, v1, ?_, et, ?_⟩
          · simp only [tokval, v2]
          · rw [et]; exact sub_toI (-1000) (by decide) (by omega) (by omega) (by omega)
        · right; right; right; right
          refine ⟨c, r, rfl, Or.inr ⟨cL2, cD, by omega⟩, ?_⟩
          rw [e, dcode, if_neg (by omega)]
      · have cD2 : isD c = false := by simpa using cD
        right; right; right; left
        obtain ⟨v, v1, v2⟩ := and255 c
        have et : tcode (c :: r) = -1 - lN v := by simp only [tcode, cL2, cD2, Bool.false_eq_true, if_false, v2]; rw [nI_l (by omega)]
        exact ⟨c, r, rfl, cL2, cD2, v, v1, v2, et, by rw [et]; exact sub_toI (-1) (by decide) (by omega) (by omega) (by omega)⟩
