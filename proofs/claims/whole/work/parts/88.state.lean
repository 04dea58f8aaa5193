/-! SPEC: the state between calls -/
abbrev SS : Type := List Int32 × List Int64 × List Int64 × List Int64 × List (List Cl) × (Nat → Option Nat) × List (Nat × Option Nat × Nat) × CS × List Int32 × (Nat → Bool) × Int32 × Int32
def sTp (s : SS) : List Int32 := s.1
def sF (s : SS) : List Int64 := s.2.1
def sP (s : SS) : List Int64 := s.2.2.1
def sA (s : SS) : List Int64 := s.2.2.2.1
def sTx (s : SS) : List (List Cl) := s.2.2.2.2.1
def sV (s : SS) : Nat → Option Nat := s.2.2.2.2.2.1
def sR (s : SS) : List (Nat × Option Nat × Nat) := s.2.2.2.2.2.2.1
def sW (s : SS) : CS := s.2.2.2.2.2.2.2.1
def sO (s : SS) : List Int32 := s.2.2.2.2.2.2.2.2.1
def sFr (s : SS) : Nat → Bool := s.2.2.2.2.2.2.2.2.2.1
def sQd (s : SS) : Int32 := s.2.2.2.2.2.2.2.2.2.2.1
def sQb (s : SS) : Int32 := s.2.2.2.2.2.2.2.2.2.2.2
def wTp (s : SS) (x : List Int32) : SS := (x, s.2)
def wV (s : SS) (x : Nat → Option Nat) : SS := (s.1, s.2.1, s.2.2.1, s.2.2.2.1, s.2.2.2.2.1, x, s.2.2.2.2.2.2)
def wR (s : SS) (x : List (Nat × Option Nat × Nat)) : SS := (s.1, s.2.1, s.2.2.1, s.2.2.2.1, s.2.2.2.2.1, s.2.2.2.2.2.1, x, s.2.2.2.2.2.2.2)
def wW (s : SS) (x : CS) : SS := (s.1, s.2.1, s.2.2.1, s.2.2.2.1, s.2.2.2.2.1, s.2.2.2.2.2.1, s.2.2.2.2.2.2.1, x, s.2.2.2.2.2.2.2.2)
def wO (s : SS) (x : List Int32) : SS := (s.1, s.2.1, s.2.2.1, s.2.2.2.1, s.2.2.2.2.1, s.2.2.2.2.2.1, s.2.2.2.2.2.2.1, s.2.2.2.2.2.2.2.1, x, s.2.2.2.2.2.2.2.2.2)
def wFr (s : SS) (x : Nat → Bool) : SS := (s.1, s.2.1, s.2.2.1, s.2.2.2.1, s.2.2.2.2.1, s.2.2.2.2.2.1, s.2.2.2.2.2.2.1, s.2.2.2.2.2.2.2.1, s.2.2.2.2.2.2.2.2.1, x, s.2.2.2.2.2.2.2.2.2.2)
def wQ (s : SS) (x y : Int32) : SS := (s.1, s.2.1, s.2.2.1, s.2.2.2.1, s.2.2.2.2.1, s.2.2.2.2.2.1, s.2.2.2.2.2.2.1, s.2.2.2.2.2.2.2.1, s.2.2.2.2.2.2.2.2.1, s.2.2.2.2.2.2.2.2.2.1, x, y)
/-- FACTS are told: with them the WORLD -/
def wF (s : SS) (F : List Int64) (W : CS) : SS := (s.1, F, s.2.2.1, s.2.2.2.1, s.2.2.2.2.1, s.2.2.2.2.2.1, s.2.2.2.2.2.2.1, W, s.2.2.2.2.2.2.2.2)
/-- a text comes to place v -/
def wTx (s : SS) (P A : List Int64) (cls : List Cl) (v : Nat) : SS := (s.1, s.2.1, P, A, s.2.2.2.2.1 ++ [cls], (fun u => if u = v then some s.2.2.2.2.1.length else s.2.2.2.2.2.1 u), s.2.2.2.2.2.2)
/-- the tokens of clauses in a row, and their bytes -/
def jT2 : List Cl → List Int64
  | [] => []
  | [c] => Cl.tks c
  | c :: d :: r => Cl.tks c ++ -60 :: jT2 (d :: r)
def txB (cls : List Cl) : List Int32 := (cB (jT2 cls)).1
def ptS (Tx : List (List Cl)) : Nat := (Tx.map (fun c => (txB c).length)).sum
/-- the CASES there are -/
def allC (n i : Nat) : Int64 := if 2 ^ n ≤ 64 * i then 0 else if 64 * (i + 1) ≤ 2 ^ n then -1 else lN (2 ^ (2 ^ n) - 1)
theorem allC_b : ∀ n, n < 9 → ∀ i, i < 4 → ∀ b, b < 64 → lb (allC n i) b = decide (64 * i + b < 2 ^ n) := by decide +kernel
/-! the reference's state -/
def mFx (M : Nat) (μ : JM) (F : List Int64) : Prop := if F = [] then (jI μ M 2 = -1 ∧ ∀ i, i < 32 → jJ μ (M + 12) i = 0) else mFa M μ F ∧ ∀ i, i < 4 → jJ μ (M + 10) i = allC F.length i
def mVs (M : Nat) (μ : JM) (Tx : List (List Cl)) (V : Nat → Option Nat) : Prop := ∀ v, v < 4 → jI μ (M + 34) v = oI 0 (V v) ∧ ∀ t, V v = some t → t < Tx.length ∧ jI μ (M + 20) v = nI (Tx.getD t []).length ∧ (Tx.getD t []).length ≤ 24 ∧ mCls M μ (24 * v) (Tx.getD t [])
def mRi (M : Nat) (μ : JM) (R : List (Nat × Option Nat × Nat)) : Prop := jI μ M 58 = nI R.length ∧ R.length ≤ 600 ∧ ∀ i, i < R.length → jI μ (M + 38) i = nI (R.getD i (0, none, 0)).1 ∧ jI μ (M + 39) i = oI 0 (R.getD i (0, none, 0)).2.1 ∧ jI μ (M + 40) i = nI (R.getD i (0, none, 0)).2.2
def mWo (M : Nat) (μ : JM) (W : CS) : Prop := ∀ i, i < 4 → jJ μ (M + 11) i = W i
def mOu (M : Nat) (μ : JM) (O : List Int32) : Prop := jI μ M 63 = nI O.length ∧ Sg (jI μ (M + 41)) 0 O ∧ O.length ≤ 1900 ∧ byt O
def mFr (M : Nat) (μ : JM) (f : Nat → Bool) : Prop := jI μ M 70 = nI (fb_ct f 10000) ∧ ∀ d, d < 10000 → jI μ (M + 44) d = if f d then 1 else 0
def mSt (M : Nat) (μ : JM) (s : SS) : Prop := MT M μ ∧ mTape M μ (sTp s) ∧ byt (sTp s) ∧ mFx M μ (sF s) ∧ mWl M μ 5 4 5 6 (sP s) ∧ mWl M μ 8 6 7 12 (sA s) ∧ mPool M μ ((sTx s).map txB) (ptS (sTx s)) ∧ mVs M μ (sTx s) (sV s) ∧ jI μ M 56 = 0 ∧ mRi M μ (sR s) ∧ mWo M μ (sW s) ∧ mOu M μ (sO s) ∧ mFr M μ (sFr s) ∧ jI μ M 67 = sQd s ∧ jI μ M 68 = sQb s
theorem mTape.sm {M : Nat} {μ ν : JM} {fs as : List Nat} {l : List Int32} (h : mTape M μ l) (s : sm M fs as μ ν) (hf : 1 ∉ fs) (ha : 1 ∉ as) : mTape M ν l := ⟨(s.fI hf).trans h.1, by rw [s.aI (by decide) ha]; exact h.2.1, h.2.2⟩
theorem mFx.sm {M : Nat} {μ ν : JM} {fs as : List Nat} {F : List Int64} (h : mFx M μ F) (s : sm M fs as μ ν) (hf : 2 ∉ fs) (ha : ∀ i ∈ [2, 3, 10, 12], i ∉ as) : mFx M ν F := by
  unfold mFx at h ⊢
  split
  · next q => rw [if_pos q] at h; exact ⟨(s.fI hf).trans h.1, by rw [s.aJ (by decide) (ha 12 (by decide))]; exact h.2⟩
  · next q =>
    rw [if_neg q] at h
    refine ⟨h.1.sm s hf ha, ?_⟩
    rw [s.aJ (by decide) (ha 10 (by decide))]; exact h.2
theorem mVs.sm {M : Nat} {μ ν : JM} {fs as : List Nat} {Tx : List (List Cl)} {V : Nat → Option Nat} (h : mVs M μ Tx V) (s : sm M fs as μ ν) (ha : 34 ∉ as) (hc : clsLow M μ ν) : mVs M ν Tx V := by
  intro v hv
  rw [hc.2 v (by omega), s.aI (by decide) ha]
  refine ⟨(h v hv).1, fun t ht => ?_⟩
  obtain ⟨h1, h2, h3, h4⟩ := (h v hv).2 t ht
  exact ⟨h1, h2, h3, fun i hi => hc.1 _ _ (by omega) (h4 i hi)⟩
theorem mRi.sm {M : Nat} {μ ν : JM} {fs as : List Nat} {R : List (Nat × Option Nat × Nat)} (h : mRi M μ R) (s : sm M fs as μ ν) (hf : 58 ∉ fs) (ha : ∀ i ∈ [38, 39, 40], i ∉ as) : mRi M ν R := by
  unfold mRi
  rw [s.fI hf, s.aI (by decide) (ha 38 (by decide)), s.aI (by decide) (ha 39 (by decide)), s.aI (by decide) (ha 40 (by decide))]; exact h
theorem mWo.sm {M : Nat} {μ ν : JM} {fs as : List Nat} {W : CS} (h : mWo M μ W) (s : sm M fs as μ ν) (ha : 11 ∉ as) : mWo M ν W := by
  unfold mWo
  rw [s.aJ (by decide) ha]; exact h
theorem mOu.sm {M : Nat} {μ ν : JM} {fs as : List Nat} {O : List Int32} (h : mOu M μ O) (s : sm M fs as μ ν) (hf : 63 ∉ fs) (ha : 41 ∉ as) : mOu M ν O := by
  unfold mOu
  rw [s.fI hf, s.aI (by decide) ha]; exact h
theorem mFr.sm {M : Nat} {μ ν : JM} {fs as : List Nat} {f : Nat → Bool} (h : mFr M μ f) (s : sm M fs as μ ν) (hf : 70 ∉ fs) (ha : 44 ∉ as) : mFr M ν f := by
  unfold mFr
  rw [s.fI hf, s.aI (by decide) ha]; exact h
/-- a call that leaves the state as it is -/
def STF : List Nat := [1, 2, 5, 8, 48, 49, 56, 58, 63, 67, 68, 70]
def STA : List Nat := [1, 2, 3, 4, 5, 6, 7, 10, 11, 12, 20, 21, 22, 23, 24, 25, 26, 27, 28, 29, 30, 31, 32, 33, 34, 38, 39, 40, 41, 44]
theorem mSt.sm {M : Nat} {μ ν : JM} {fs as : List Nat} {x : SS} (h : mSt M μ x) (s : sm M fs as μ ν) (hf : ∀ i ∈ STF, i ∉ fs) (ha : ∀ i ∈ STA, i ∉ as) : mSt M ν x := by
  obtain ⟨h1, h2, h3, h4, h5, h6, h7, h8, h9, h10, h11, h12, h13, h14, h15⟩ := h
  refine ⟨s.mt h1, h2.sm s (hf 1 (by decide)) (ha 1 (by decide)), h3, h4.sm s (hf 2 (by decide)) (fun i hi => ha i (by revert i; decide)), h5.sm s (hf 5 (by decide)) (by decide) (by decide) (ha 4 (by decide)) (ha 5 (by decide)), h6.sm s (hf 8 (by decide)) (by decide) (by decide) (ha 6 (by decide)) (ha 7 (by decide)), h7.sm s (fun i hi => hf i (by revert i; decide)) (fun i hi => ha i (by revert i; decide)), h8.sm s (ha 34 (by decide)) (clsLow.sm s (fun i hi => ha i (by revert i; decide)) (ha 20 (by decide))), (s.fI (hf 56 (by decide))).trans h9, h10.sm s (hf 58 (by decide)) (fun i hi => ha i (by revert i; decide)), h11.sm s (ha 11 (by decide)), h12.sm s (hf 63 (by decide)) (ha 41 (by decide)), h13.sm s (hf 70 (by decide)) (ha 44 (by decide)), (s.fI (hf 67 (by decide))).trans h14, (s.fI (hf 68 (by decide))).trans h15⟩
/-! SPEC: the first calls -/
def inR (v : Int32) (n : Nat) : Option Nat := if 0 ≤ v ∧ v.toNatClampNeg < n then some v.toNatClampNeg else none
def fltI (l : List Int32) (e : Er) : Int32 := -2 - flt (pl l e.1) e.2
def spVersion (v : Int32) (s : SS) : Int32 × SS := if sF s = [] then (-1, wTp s []) else match inR v 4 with
  | none => (-1, wTp s [])
  | some u => match sRead (Cd (sTp s)) (sF s) (sP s) (sA s) with
    | .error e => (fltI (sTp s) e, wTp s [])
    | .ok y => (nI y.1.length, wTx (wTp s []) y.2.1 y.2.2.1 (stlC y.1) u)
theorem nI_cl {v : Int32} (h : 0 ≤ v) : nI v.toNatClampNeg = v := by
  have h1 : 0 ≤ v.toInt := (fa_le 0 v).mp h
  have h2 := (fb_rng v).2
  refine Int32.toInt_inj.mp ?_
  have e : v.toNatClampNeg = v.toInt.toNat := rfl
  rw [e, show nI v.toInt.toNat = Int32.ofNat v.toInt.toNat from rfl, Int32.toInt_ofNat_of_lt (by omega)]; omega
theorem inR_some {v : Int32} {n u : Nat} (h : inR v n = some u) : v = nI u ∧ u < n := by
  unfold inR at h
  split at h
  · next q =>
    injection h with h
    refine ⟨?_, by omega⟩
    rw [← h]
    exact (nI_cl q.1).symm
  · cases h
