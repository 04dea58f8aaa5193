/-! tokens of a text: codes as the class has them, and their places -/
def isL (c : Int32) : Bool := decide (97 ≤ c) && decide (c ≤ 122)
def isD (c : Int32) : Bool := decide (48 ≤ c) && decide (c ≤ 57)
def isB (c : Int32) : Bool := decide (c = 32) || decide (c = 10)
def wstep (n : Nat) (c : Int32) : Nat := n * 32 + (c.toNatClampNeg - 96)
def wnat (w : List Int32) : Nat := w.foldl wstep 0
def dstep (v c : Int32) : Int32 := 10 * v + c - 48
def dval (d : List Int32) : Int32 := d.foldl dstep 0
/-- the language's words, as numbers -/
def oursN : List Nat := [139666885, 51, 153241, 19176724, 2094, 655, 89, 132915, 806995756851, 294, 719722099, 514226, 1476, 498, 14836, 659105125, 19512296549, 1156]
def hdLen (l : List Int32) : Nat := match l with
  | [] => 0
  | c :: r => if isL c then 1 + (r.takeWhile isL).length else if isD c then 1 + (r.takeWhile isD).length else 1
def wcode (w : List Int32) : Int64 := if w.length ≤ 12 then (match oursN.idxOf? (wnat w) with | some i => -3000 - lN i | none => lN (wnat w)) else -2000
def dcode (d : List Int32) : Int64 := if d.length ≤ 3 then -1000 - (dval d).toInt64 else -2000
def tcode (l : List Int32) : Int64 := match l with
  | [] => 0
  | c :: r => if isL c then wcode (c :: r.takeWhile isL) else if isD c then dcode (c :: r.takeWhile isD) else -1 - (c &&& 255).toInt64
def tks : Nat → List Int32 → Nat → List (Int64 × Nat)
  | 0, _, _ => []
  | _ + 1, [], _ => []
  | f + 1, c :: r, p => if isB c then tks f r (p + 1) else (tcode (c :: r), p) :: tks f ((c :: r).drop (hdLen (c :: r))) (p + hdLen (c :: r))
def toks (l : List Int32) (p : Nat) : List (Int64 × Nat) := tks l.length l p
theorem hdLen_pos (c : Int32) (r : List Int32) : 1 ≤ hdLen (c :: r) := by
  simp only [hdLen]; split
  · omega
  · split <;> omega
theorem takeWhile_le {α : Type} (p : α → Bool) (l : List α) : (l.takeWhile p).length ≤ l.length := (List.takeWhile_prefix p).length_le
theorem hdLen_le (l : List Int32) : hdLen l ≤ l.length := by
  cases l with
  | nil => simp [hdLen]
  | cons c r =>
    have h1 := takeWhile_le isL r
    have h2 := takeWhile_le isD r
    simp only [hdLen, List.length_cons]
    split
    · omega
    · split <;> omega
theorem tks_fuel : ∀ (f : Nat) (l : List Int32) (p : Nat), l.length ≤ f → tks f l p = tks l.length l p := by
  intro f
  induction f using Nat.strongRecOn with
  | ind f ih =>
    intro l p hl
    cases f with
    | zero =>
      have : l.length = 0 := by omega
      rw [this]
    | succ f =>
      cases l with
      | nil => rfl
      | cons c r =>
        simp only [List.length_cons] at hl ⊢
        simp only [tks]
        split
        · rw [ih f (by omega) r (p + 1) (by omega)]
        · have h1 := hdLen_pos c r
          have h2 := hdLen_le (c :: r)
          simp only [List.length_cons] at h2
          have h3 : ((c :: r).drop (hdLen (c :: r))).length ≤ r.length := by simp only [List.length_drop, List.length_cons]; omega
          rw [ih f (by omega) _ _ (by omega)]
          by_cases q : r.length < f + 1
          · rw [ih r.length (by omega) ((c :: r).drop (hdLen (c :: r))) _ h3]
          · omega
theorem toks_nil (p : Nat) : toks [] p = [] := rfl
theorem toks_b {c : Int32} {r : List Int32} {p : Nat} (h : isB c = true) : toks (c :: r) p = toks r (p + 1) := by
  simp only [toks, List.length_cons, tks, h, if_true]
theorem toks_t {c : Int32} {r : List Int32} {p : Nat} (h : isB c = false) : toks (c :: r) p = (tcode (c :: r), p) :: toks ((c :: r).drop (hdLen (c :: r))) (p + hdLen (c :: r)) := by
  have h1 := hdLen_pos c r
  have h3 : ((c :: r).drop (hdLen (c :: r))).length ≤ r.length := by simp only [List.length_drop, List.length_cons]; omega
  simp only [toks, List.length_cons, tks, h]
  rw [tks_fuel r.length _ _ h3]
  simp
/-- behind blanks -/
def skp : List Int32 → Nat
  | [] => 0
  | c :: r => if isB c then 1 + skp r else 0
theorem skp_le : ∀ l : List Int32, skp l ≤ l.length
  | [] => Nat.le_refl _
  | c :: r => by
    have := skp_le r
    simp only [skp, List.length_cons]; split <;> omega
theorem toks_skp : ∀ (l : List Int32) (p : Nat), toks l p = toks (l.drop (skp l)) (p + skp l)
  | [], p => rfl
  | c :: r, p => by
    simp only [skp]
    split
    next h =>
      rw [toks_b h, toks_skp r (p + 1), Nat.add_comm 1 (skp r), List.drop_succ_cons, show p + 1 + skp r = p + (skp r + 1) by omega]
    next h => simp
theorem skp_head : ∀ (l : List Int32) (c : Int32) (r : List Int32), l.drop (skp l) = c :: r → isB c = false
  | [], c, r, h => by simp [skp] at h
  | d :: s, c, r, h => by
    simp only [skp] at h
    split at h
    next q =>
      rw [Nat.add_comm 1 (skp s), List.drop_succ_cons] at h
      exact skp_head s c r h
    next q =>
      simp at h
      rw [← h.1]; simpa using q
