/-! the reference stands at a token -/
def byt (l : List Int32) : Prop := ∀ c ∈ l, nb c = c
theorem byt.drop {l : List Int32} (h : byt l) (n : Nat) : byt (l.drop n) := fun c hc => h c (List.mem_of_mem_drop hc)
theorem ovr_own {x : List Int32} (h : ovr x = true) : tcode x = -2000 := by
  cases x with
  | nil => simp [ovr] at h
  | cons c r =>
    by_cases cL : isL c = true
    · simp only [ovr, cL, if_true, decide_eq_true_eq] at h
      simp only [tcode, cL, if_true]
      rw [hdLen_w cL, hw_cons cL] at h
      rw [wcode, if_neg (by omega)]
    · have cL2 : isL c = false := by simpa using cL
      by_cases cD : isD c = true
      · simp only [ovr, cL2, cD, if_true, Bool.false_eq_true, if_false, decide_eq_true_eq] at h
        simp only [tcode, cL2, cD, if_true, Bool.false_eq_true, if_false]
        simp only [hdLen, cL2, cD, if_true, Bool.false_eq_true, if_false] at h
        rw [dcode, if_neg (by simp only [List.length_cons]; omega)]
      · have cD2 : isD c = false := by simpa using cD
        simp [ovr, cL2, cD2] at h
theorem m2000 : (-2000 : Int64).toInt = -2000 := by decide
/-- what the token at the head is, to class and reference -/
theorem tcl (x : List Int32) (hb : byt x) :
    (x = [] ∧ tcode x = 0 ∧ tokc x = 0 ∧ ovr x = false ∧ own x = false) ∨
    (∃ i, i < 18 ∧ tcode x = -3000 - lN i ∧ (tcode x).toInt = -3000 - (i : Int) ∧ tokc x = 1 ∧ ovr x = false ∧ own x = true ∧ wl (oursN.getD i 0) = hw x ∧ hdLen x = (hw x).length) ∨
    (tokc x = 1 ∧ ovr x = false ∧ own x = false ∧ tcode x = lN (wnat (hw x)) ∧ (tcode x).toInt = (wnat (hw x) : Int) ∧ 0 < wnat (hw x) ∧ wnat (hw x) < 2 ^ 60 ∧ (hw x).length ≤ 12 ∧ hdLen x = (hw x).length) ∨
    (∃ v, v < 1000 ∧ tokc x = 2 ∧ tokv x = nI v ∧ tokval x = nI v ∧ ovr x = false ∧ own x = false ∧ tcode x = -1000 - lN v ∧ (tcode x).toInt = -1000 - (v : Int)) ∨
    (∃ c r v, x = c :: r ∧ v < 256 ∧ tokc x = (if v = 58 ∨ v = 59 ∨ v = 40 ∨ v = 41 then 3 else 4) ∧ tokv x = c ∧ (v < 128 → c = nI v) ∧ ovr x = false ∧ own x = false ∧ tcode x = -1 - lN v ∧ (tcode x).toInt = -1 - (v : Int) ∧ hdLen x = 1) ∨
    (ovr x = true ∧ tcode x = -2000 ∧ (tcode x).toInt = -2000 ∧ own x = false ∧ (tokc x = 1 ∨ tokc x = 2)) := by
  rcases tcode_cases x with ⟨e1, e2⟩ | ⟨c, r, e1, e2, e3, i2, e4, e5, e6, e7⟩ | ⟨c, r, e1, e2, e3, e4, e5, e6, e7, e8⟩ | ⟨c, r, e1, e2, e3, e4, v, e5, e6, e7, e8⟩ | ⟨c, r, e1, e2, e3, v, e4, e5, e6, e7⟩ | ⟨c, r, e1, e2, e3⟩
  · subst e1; left; exact ⟨rfl, rfl, rfl, rfl, by decide⟩
  · right; left
    have hl := hdLen_w (r := r) e2
    refine ⟨i2, e4, e6, e7, by rw [e1]; simp [tokc, e2], ?_, own_of e4 e6, ?_, by rw [e1]; exact hl⟩
    · rw [e1] at e3 ⊢; simp only [ovr, e2, if_true, decide_eq_false_iff_not]; omega
    · rw [e5]; exact wl_w tw_all e3
  · right; right; left
    have hl := hdLen_w (r := r) e2
    refine ⟨by rw [e1]; simp [tokc, e2], ?_, ?_, e5, e6, e7, e8, e3, by rw [e1]; exact hl⟩
    · rw [e1] at e3 ⊢; simp only [ovr, e2, if_true, decide_eq_false_iff_not]; omega
    · unfold own; rw [e6]; simp; omega
  · right; right; right; left
    refine ⟨v, e5, by rw [e1]; simp [tokc, e2, e3], ?_, e6, ?_, ?_, e7, e8⟩
    · rw [← e6, e1]
      simp only [tokv, tokval, e2, e3, Bool.false_eq_true, if_false, if_true]
      rw [List.take_of_length_le]
      rw [e1] at e4
      simp only [hdLen, e2, e3, Bool.false_eq_true, if_false, if_true] at e4
      simp only [List.length_cons]; omega
    · rw [e1] at e4 ⊢; simp only [ovr, e2, e3, Bool.false_eq_true, if_false, if_true, decide_eq_false_iff_not]; omega
    · unfold own; rw [e8]; simp; omega
  · right; right; right; right; left
    have hc : nb c = c := hb c (by rw [e1]; simp)
    have key : ∀ m : Nat, m < 128 → (c = nI m ↔ v = m) := by
      intro m hm
      have em : nI m &&& 255 = nI m := by
        have := fa_mask m 8
        rw [show (255 : Int32) = nI (2 ^ 8 - 1) from rfl, this, Nat.mod_eq_of_lt (by omega)]
      constructor
      · intro q
        rw [q, em] at e5
        exact ((nI_eq (by omega) (by omega)).mp e5).symm
      · intro q
        subst q
        have : nb c = nb (nI v) := nb_low (by rw [em, e5])
        rw [hc, nb_small hm] at this; exact this
    refine ⟨c, r, v, e1, e4, ?_, by rw [e1]; simp [tokv, e2, e3], fun h => (key v h).mpr rfl, by rw [e1]; simp [ovr, e2, e3], ?_, e6, e7, by rw [e1]; simp [hdLen, e2, e3]⟩
    · rw [e1]; simp only [tokc, e2, e3, Bool.false_eq_true, if_false]
      have k1 : c = 58 ↔ v = 58 := key 58 (by omega)
      have k2 : c = 59 ↔ v = 59 := key 59 (by omega)
      have k3 : c = 40 ↔ v = 40 := key 40 (by omega)
      have k4 : c = 41 ↔ v = 41 := key 41 (by omega)
      simp only [k1, k2, k3, k4]
    · unfold own; rw [e7]; simp; omega
  · right; right; right; right; right
    refine ⟨?_, e3, by rw [e3]; decide, by unfold own; rw [e3]; decide, ?_⟩
    · rcases e2 with ⟨g1, g2⟩ | ⟨g1, g2, g3⟩
      · rw [e1] at g2 ⊢; simp only [ovr, g1, if_true, decide_eq_true_eq]; exact g2
      · rw [e1] at g3 ⊢; simp only [ovr, g1, g2, if_true, Bool.false_eq_true, if_false, decide_eq_true_eq]; exact g3
    · rcases e2 with ⟨g1, g2⟩ | ⟨g1, g2, g3⟩
      · left; rw [e1]; simp [tokc, g1]
      · right; rw [e1]; simp [tokc, g1, g2]
theorem code_eq {c : Int64} {z : Int} (d : Int64) (hd : d.toInt = z) : c = d ↔ c.toInt = z := by rw [fa_eq64, hd]
theorem nxj_le {l : List Int32} {j : Nat} (h : j ≤ l.length) : nxj l j ≤ l.length := by
  have h1 := hdLen_le (l.drop j)
  have h2 := skp_le (l.drop (j + hdLen (l.drop j)))
  rw [List.length_drop] at h1 h2
  unfold nxj; omega
theorem pl_le (l : List Int32) : ∀ k, pl l k ≤ l.length
  | 0 => skp_le l
  | k + 1 => nxj_le (pl_le l k)
theorem nxj_gt {l : List Int32} {j : Nat} (h : l.drop j ≠ []) : j < nxj l j := by
  unfold nxj
  cases hd : l.drop j with
  | nil => exact absurd hd h
  | cons c r => have := hdLen_pos c r; omega
def mAt (M : Nat) (μ : JM) (l : List Int32) (ts : List Int64) (k : Nat) : Prop := mOK M μ l (pl l k, (cB ts).1, (cB ts).2) ∧ byt l
def mBad (M : Nat) (ν : JM) (l : List Int32) (e : Er) : Prop := MT M ν ∧ jI ν M 18 = flt (pl l e.1) e.2 ∧ ¬ jI ν M 18 = 0 ∧ ¬ jI ν M 18 ≤ 0
def mR (M : Nat) (ν : JM) (l : List Int32) (ts : List Int64) (k : Nat) (r : Int32) (x : Except Er Nat) : Prop := match x with
  | .error e => r = 0 ∧ mBad M ν l e
  | .ok k2 => r = 1 ∧ k ≤ k2 ∧ mAt M ν l (ts ++ sl (Cd l) k k2) k2
theorem mBad.of {M : Nat} {ν : JM} {l : List Int32} {k kind : Nat} (hM : MT M ν) (h : jI ν M 18 = flt (pl l k) kind) (hl : l.length ≤ 1900) (hk : kind ≤ 7) : mBad M ν l (k, kind) := by
  have := pl_le l k
  exact ⟨hM, h, by rw [h]; exact flt_ne (by omega) hk, by rw [h]; exact flt_pos (by omega) hk⟩
/-- a token that is written is a word, a number or a sign -/
def isT (c : Int64) : Prop := 0 < c.toInt ∨ c.toInt ≤ -3000 ∨ (-2000 < c.toInt ∧ c.toInt ≤ -1000) ∨ isSg c = true
theorem isSg_iff (c : Int64) : isSg c = true ↔ c.toInt = -59 ∨ c.toInt = -60 ∨ c.toInt = -41 ∨ c.toInt = -42 := by
  unfold isSg
  rw [Bool.or_eq_true, Bool.or_eq_true, Bool.or_eq_true]
  simp only [decide_eq_true_eq]
  rw [code_eq (z := -59) (-59) (by decide), code_eq (z := -60) (-60) (by decide), code_eq (z := -41) (-41) (by decide), code_eq (z := -42) (-42) (by decide)]
  omega
theorem clamp_toI {c : Int64} {n : Nat} (h : c.toInt = n) : c.toNatClampNeg = n := by
  show c.toInt.toNat = n
  rw [h]; rfl
theorem sub_clamp {k c : Int64} {n : Nat} (kz : Int) (hk : k.toInt = kz) (h0 : -100000 ≤ kz) (h1 : kz ≤ 0) (hc : c.toInt = kz - n) (hn : n < 2 ^ 40) : (k - c).toNatClampNeg = n := by
  refine clamp_toI ?_
  rw [fb_subL (by rw [hk, hc]; omega) (by rw [hk, hc]; omega), hk, hc]; omega
theorem gt_toI {c : Int64} : 0 < c ↔ 0 < c.toInt := by rw [fa_lt64]; rfl
theorem le_toI {c d : Int64} {z : Int} (h : d.toInt = z) : c ≤ d ↔ c.toInt ≤ z := by rw [fa_le64, h]
/-- class's and reference's text of a token -/
theorem tok_put {x : List Int32} (hb : byt x) (h : isT (tcode x)) (s : List Int32 × Int32) : cput s (tcode x) = (s.1 ++ (if s.2 = 0 ∨ s.2 = 40 ∨ (tokc x = 3 ∧ tokv x ≠ 40) then [] else [32]) ++ tokB x, if tokc x = 3 then tokv x else 1) ∧ (tokc x = 1 ∨ tokc x = 2 ∨ tokc x = 3) ∧ x ≠ [] := by
  have hwp : ∀ x : List Int32, hdLen x = (hw x).length → x.take (hdLen x) = hw x := by
    intro x h
    rw [h]; exact (List.prefix_iff_eq_take.mp (List.takeWhile_prefix isL)).symm
  have hsg : ∀ z : Int, (tcode x).toInt = z → (z ≠ -59 ∧ z ≠ -60 ∧ z ≠ -41 ∧ z ≠ -42) → isSg (tcode x) = false := by
    intro z h1 h2
    cases q : isSg (tcode x) with
    | false => rfl
    | true => rw [isSg_iff, h1] at q; omega
  unfold isT at h
  rcases tcl x hb with ⟨e1, e2, -⟩ | ⟨i, e1, e2, e3, e4, e5, e6, e7, e8⟩ | ⟨e1, e2, e3, e4, e5, e6, e7, e8, e9⟩ | ⟨v, e1, e2, e3, e4, e5, e6, e7, e8⟩ | ⟨c, r, v, e1, e2, e3, e4, e5, e6, e7, e8, e9, e10⟩ | ⟨e1, e2, e3, -⟩
  · rw [e2] at h; exact absurd h (by decide)
  · have hs := hsg _ e3 (by omega)
    refine ⟨?_, Or.inl e4, by rintro rfl; simp [tokc] at e4⟩
    have hB : cbytes (tcode x) = tokB x := by
      unfold cbytes tokB
      rw [if_neg (by rw [gt_toI, e3]; omega), if_pos (by rw [le_toI (z := -3000) (by decide), e3]; omega), sub_clamp (n := i) (-3000) (by decide) (by omega) (by omega) (by rw [e3]) (by omega), e7, if_neg (by rw [e4]; decide), hwp x e8]
    unfold cput; rw [hB, hs, e4]; simp
  · have hs := hsg _ e5 (by omega)
    refine ⟨?_, Or.inl e1, by rintro rfl; simp [tokc] at e1⟩
    have hB : cbytes (tcode x) = tokB x := by
      unfold cbytes tokB
      rw [if_pos (by rw [gt_toI, e5]; omega), clamp_toI e5, wl_w (w := hw x) tw_all e8, if_neg (by rw [e1]; decide), hwp x e9]
    unfold cput; rw [hB, hs, e1]; simp
  · have hs := hsg _ e8 (by omega)
    refine ⟨?_, Or.inr (Or.inl e2), by rintro rfl; simp [tokc] at e2⟩
    have hB : cbytes (tcode x) = tokB x := by
      unfold cbytes tokB
      rw [if_neg (by rw [gt_toI, e8]; omega), if_neg (by rw [le_toI (z := -3000) (by decide), e8]; omega), if_pos (by rw [le_toI (z := -1000) (by decide), e8]; omega), sub_clamp (n := v) (-1000) (by decide) (by omega) (by omega) (by rw [e8]) (by omega), if_pos e2, e4, nI_clamp (by omega)]
    unfold cput; rw [hB, hs, e2]; simp
  · have hsv : v = 58 ∨ v = 59 ∨ v = 40 ∨ v = 41 := by
      rcases h with h | h | h | h
      · rw [e9] at h; omega
      · rw [e9] at h; omega
      · rw [e9] at h; omega
      · rw [isSg_iff, e9] at h; omega
    have hs : isSg (tcode x) = true := by rw [isSg_iff, e9]; omega
    rw [if_pos hsv] at e3
    have hc := e5 (by omega)
    have hn : (-1 - tcode x).toNatClampNeg = v := sub_clamp (n := v) (-1) (by decide) (by omega) (by omega) (by rw [e9]) (by omega)
    refine ⟨?_, Or.inr (Or.inr e3), by rintro rfl; simp [tokc] at e3⟩
    have hB : cbytes (tcode x) = tokB x := by
      unfold cbytes tokB
      rw [if_neg (by rw [gt_toI, e9]; omega), if_neg (by rw [le_toI (z := -3000) (by decide), e9]; omega), if_neg (by rw [le_toI (z := -1000) (by decide), e9]; omega), hn, if_neg (by rw [e3]; decide), e10, e1, hc]; rfl
    have h40 : (tcode x ≠ -41) ↔ tokv x ≠ 40 := by
      rw [e4, hc, ne_eq, ne_eq, code_eq (-41) (z := -41) (by decide), e9, show (40 : Int32) = nI 40 from rfl, nI_eq (by omega) (by omega)]; omega
    unfold cput; rw [hB, hs, e3, hn]
    simp only [h40, true_and, if_true]
    rw [e4, hc]
  · rw [e3] at h
    rcases h with h | h | h | h
    · omega
    · omega
    · omega
    · rw [isSg_iff, e3] at h; omega
