/-! SPEC: clauses, versions. A clause: kind, name, party, act, number, workdays, over, cases, tokens -/
abbrev Cl : Type := Int32 × Int64 × Int32 × Int32 × Int32 × Int32 × Int32 × CS × List Int64
def Cl.cas (c : Cl) : CS := c.2.2.2.2.2.2.2.1
def Cl.ovr (c : Cl) : Int32 := c.2.2.2.2.2.2.1
def Cl.tks (c : Cl) : List Int64 := c.2.2.2.2.2.2.2.2
def isDf (c : Cl) : Bool := decide (c.1 = 0)
def defs (cls : List Cl) : List (Int64 × CS) := (cls.filter isDf).map (fun c => (c.2.1, Cl.cas c))
def dfs (wh : Bool) (cls : List Cl) : List (Int64 × CS) := if wh then defs cls else []
def lfnd (cls : List Cl) (c : Int64) (df : Bool) : Option Nat := cls.findIdx? (fun x => decide (x.2.1 = c) && (isDf x == df))
def sNum (wh : Bool) (P : List Int64) (mx : Nat) (C : Nat → Int64) (k : Nat) : Except Er (Int32 × List Int64 × Nat) :=
  eb (nmC C k) fun _ => if wh then (match P.idxOf? (C k) with
    | some i => eb (tk C k) fun k2 => .ok (nI i, P, k2)
    | none => if P.length = mx then .error (k, 5) else eb (tk C k) fun k2 => .ok (nI P.length, P ++ [C k], k2))
  else eb (tk C k) fun k2 => .ok (0, P, k2)
def isNm (c : Int64) : Bool := decide (-2000 < c) && decide (c ≤ -1000)
def sTerm (C : Nat → Int64) (k : Nat) : Except Er (Int32 × Int32 × Nat) :=
  eb (exC C (-3006) k) fun k1 => if isNm (C k1) then (if 365 < (-1000 - C k1).toNatClampNeg then .error (k1, 1) else
    eb (tk C k1) fun k2 => if C k2 = -3008 then eb (tk C k2) fun k3 => .ok (nI (-1000 - C k1).toNatClampNeg, 1, k3) else eb (exC C (-3007) k2) fun k3 => .ok (nI (-1000 - C k1).toNatClampNeg, 0, k3))
  else .error (k1, 0)
def sOver (C : Nat → Int64) (wh : Bool) (cls : List Cl) : Nat → Nat → Int32 → Except Er (Int32 × Nat)
  | 0, k, _ => .error (k, 0)
  | n + 1, k, o => eb (tk C k) fun k1 => eb (nmC C k1) fun _ =>
    match (if wh then lfnd cls (C k1) false else some 0) with
    | none => .error (k1, 3)
    | some u => eb (tk C k1) fun k2 => if C k2 = -3012 then sOver C wh cls n k2 (o ||| jshl 1 (nI u)) else .ok (o ||| jshl 1 (nI u), k2)
def sIf (C : Nat → Int64) (F : List Int64) (N : List (Int64 × CS)) (wh : Bool) (k : Nat) : Except Er (CS × Nat) :=
  if C k = -3009 then eb (tk C k) fun k1 => eb (sCon C F N wh 2000 k1) fun x => .ok (fun i => (-1) &&& x.1 i, x.2) else .ok (fun _ => -1, k)
def sUnl (C : Nat → Int64) (F : List Int64) (N : List (Int64 × CS)) (wh : Bool) (y : CS × Nat) : Except Er (CS × Nat) :=
  if C y.2 = -3010 then eb (tk C y.2) fun k1 => eb (sCon C F N wh 2000 k1) fun x => .ok (fun i => y.1 i &&& (x.1 i ^^^ (-1)), x.2) else .ok y
def sTail (C : Nat → Int64) (F : List Int64) (wh : Bool) (cls : List Cl) (k : Nat) : Except Er (Int32 × CS × Nat) :=
  eb (sIf C F (dfs wh cls) wh k) fun y => eb (sUnl C F (dfs wh cls) wh y) fun z =>
    if C z.2 = -3011 then eb (sOver C wh cls 2000 z.2 0) fun o => .ok (o.1, z.1, o.2) else .ok (0, z.1, z.2)
def sKind (c : Int64) : Int32 := if c = -3002 then 1 else if c = -3003 then 2 else if c = -3004 then 3 else -1
def sDefine (C : Nat → Int64) (F : List Int64) (md : Nat) (cls : List Cl) (P A : List Int64) (k : Nat) : Except Er (Cl × List Int64 × List Int64 × Nat) :=
  if md = 0 ∧ 24 ≤ cls.length then .error (k, 4) else
  eb (tk C k) fun k1 => eb (nmC C k1) fun _ =>
  if md = 0 ∧ ((F.idxOf? (C k1)).isSome = true ∨ (lfnd cls (C k1) true).isSome = true) then .error (k1, 2) else
  if md = 2 ∧ lfnd cls (C k1) true = none then .error (k1, 3) else
  eb (tk C k1) fun k2 => eb (exC C (-3001) k2) fun k3 => eb (sCon C F (dfs (decide (md = 0)) cls) (decide (md = 0)) 2000 k3) fun x =>
  .ok ((0, C k1, -1, -1, -1, -1, 0, x.1, sl C k x.2), P, A, x.2)
/-- from behind the LABEL on -/
def sDeed (C : Nat → Int64) (F : List Int64) (wh : Bool) (cls : List Cl) (P A : List Int64) (k0 k : Nat) : Except Er (Cl × List Int64 × List Int64 × Nat) :=
  eb (exC C (-59) k) fun k2 => if sKind (C k2) = -1 then .error (k2, 0) else
  eb (tk C k2) fun k3 => eb (sNum wh P 6 C k3) fun p => eb (exC C (-3005) p.2.2) fun k4 => eb (sNum wh A 12 C k4) fun a =>
  eb (if sKind (C k2) = 1 then sTerm C a.2.2 else .ok (-1, -1, a.2.2)) fun t => eb (sTail C F wh cls t.2.2) fun z =>
  .ok ((sKind (C k2), C k0, p.1, a.1, t.1, t.2.1, z.1, z.2.1, sl C k0 z.2.2), p.2.1, a.2.1, z.2.2)
def sLabel (C : Nat → Int64) (F : List Int64) (md : Nat) (cls : List Cl) (P A : List Int64) (k : Nat) : Except Er (Cl × List Int64 × List Int64 × Nat) :=
  eb (nmC C k) fun _ =>
  if md = 0 ∧ (lfnd cls (C k) false).isSome = true then .error (k, 2) else
  if md = 2 ∧ lfnd cls (C k) false = none then .error (k, 3) else
  if md = 0 ∧ 24 ≤ cls.length then .error (k, 4) else
  eb (tk C k) fun k1 => sDeed C F (decide (md = 0)) cls P A k k1
def sClause (C : Nat → Int64) (F : List Int64) (md : Nat) (cls : List Cl) (P A : List Int64) (k : Nat) : Except Er (Cl × List Int64 × List Int64 × Nat) :=
  if C k = -3000 then sDefine C F md cls P A k else sLabel C F md cls P A k
/-- clauses up to the end -/
def sVer (C : Nat → Int64) (F : List Int64) : Nat → List Cl → List Int64 → List Int64 → Nat → Except Er (List Cl × List Int64 × List Int64 × Nat)
  | 0, _, _, _, k => .error (k, 0)
  | n + 1, cls, P, A, k => eb (sClause C F 0 cls P A k) fun x =>
    if C x.2.2.2 = 0 then .ok (cls ++ [x.1], x.2.1, x.2.2.1, x.2.2.2) else eb (exC C (-60) x.2.2.2) fun k2 => sVer C F n (cls ++ [x.1]) x.2.1 x.2.2.1 k2
/-! the reference's clauses -/
def pcI (x : Int32) : Int32 := nI (fb_ct (bt x) 32)
def mLab (M : Nat) (μ : JM) (e : Nat) (c : Int64) : Prop := ∃ w, wd w ∧ wc w = c ∧ jI μ (M + 29) e = nI w.length ∧ Sg (jI μ (M + 28)) (12 * e) w
def mCp (M : Nat) (μ : JM) (e : Nat) (kd p a n w ob : Int32) : Prop := jI μ (M + 21) e = kd ∧ jI μ (M + 22) e = p ∧ jI μ (M + 23) e = a ∧ jI μ (M + 24) e = n ∧ jI μ (M + 25) e = w ∧ jI μ (M + 26) e = pcI ob ∧ jI μ (M + 27) e = ob
def mHo (M : Nat) (μ : JM) (e : Nat) (v : CS) : Prop := ∀ i, i < 4 → jJ μ (M + 30) (4 * e + i) = v i &&& jJ μ (M + 10) i
def mCl (M : Nat) (μ : JM) (e : Nat) (c : Cl) : Prop := mCp M μ e c.1 c.2.2.1 c.2.2.2.1 c.2.2.2.2.1 c.2.2.2.2.2.1 (Cl.ovr c) ∧ mLab M μ e c.2.1 ∧ mHo M μ e (Cl.cas c)
def clsBut (M : Nat) (μ ν : JM) (e : Nat) : Prop := ∀ f c, f ≠ e → mCl M μ f c → mCl M ν f c
theorem clsBut.rf {M : Nat} {μ : JM} {e : Nat} : clsBut M μ μ e := fun _ _ _ h => h
theorem clsBut.tr {M : Nat} {μ ν ρ : JM} {e : Nat} (h : clsBut M μ ν e) (g : clsBut M ν ρ e) : clsBut M μ ρ e := fun f c hf q => g f c hf (h f c hf q)
def DA : List Nat := [10, 21, 22, 23, 24, 25, 26, 27, 28, 29, 30]
theorem mCp.sm {M : Nat} {μ ν : JM} {fs as : List Nat} {e : Nat} {kd p a n w ob : Int32} (h : mCp M μ e kd p a n w ob) (s : sm M fs as μ ν) (ha : ∀ i ∈ DA, i ∉ as) : mCp M ν e kd p a n w ob := by
  unfold mCp
  rw [s.aI (by decide) (ha 21 (by decide)), s.aI (by decide) (ha 22 (by decide)), s.aI (by decide) (ha 23 (by decide)), s.aI (by decide) (ha 24 (by decide)), s.aI (by decide) (ha 25 (by decide)), s.aI (by decide) (ha 26 (by decide)), s.aI (by decide) (ha 27 (by decide))]
  exact h
theorem mLab.sm {M : Nat} {μ ν : JM} {fs as : List Nat} {e : Nat} {c : Int64} (h : mLab M μ e c) (s : sm M fs as μ ν) (ha : ∀ i ∈ DA, i ∉ as) : mLab M ν e c := by
  unfold mLab
  rw [s.aI (by decide) (ha 28 (by decide)), s.aI (by decide) (ha 29 (by decide))]
  exact h
theorem mHo.sm {M : Nat} {μ ν : JM} {fs as : List Nat} {e : Nat} {v : CS} (h : mHo M μ e v) (s : sm M fs as μ ν) (ha : ∀ i ∈ DA, i ∉ as) : mHo M ν e v := by
  unfold mHo
  rw [s.aJ (by decide) (ha 30 (by decide)), s.aJ (by decide) (ha 10 (by decide))]
  exact h
theorem mCl.sm {M : Nat} {μ ν : JM} {fs as : List Nat} {e : Nat} {c : Cl} (h : mCl M μ e c) (s : sm M fs as μ ν) (ha : ∀ i ∈ DA, i ∉ as) : mCl M ν e c := ⟨h.1.sm s ha, h.2.1.sm s ha, h.2.2.sm s ha⟩
theorem clsBut.sm {M : Nat} {μ ν : JM} {fs as : List Nat} {e : Nat} (s : sm M fs as μ ν) (ha : ∀ i ∈ DA, i ∉ as) : clsBut M μ ν e := fun _ _ _ h => h.sm s ha
/-- writing one of the clause's ints -/
theorem clsBut.setI {M : Nat} {μ : JM} {e j : Nat} {v : Int32} (hj : j ∈ [21, 22, 23, 24, 25, 26, 27, 29]) : clsBut M μ (jsI μ (M + j) e v) e := by
  intro f c hf ⟨h1, ⟨w, w1, w2, w3, w4⟩, h3⟩
  have k : ∀ i, jI (jsI μ (M + j) e v) (M + i) f = jI μ (M + i) f := fun i => by rw [jI_sI, if_neg (fun z => hf z.2)]
  refine ⟨?_, ⟨w, w1, w2, by rw [k]; exact w3, w4.eq fun i hi => ?_⟩, h3⟩
  · unfold mCp; rw [k, k, k, k, k, k, k]; exact h1
  · rw [jI_sI, if_neg]
    rintro ⟨z, -⟩
    have : j = 28 := by omega
    subst this; simp at hj
theorem clsBut.setL {M : Nat} {μ : JM} {e i : Nat} {v : Int32} (hi : i < 12) : clsBut M μ (jsI μ (M + 28) (12 * e + i) v) e := by
  intro f c hf ⟨h1, ⟨w, w1, w2, w3, w4⟩, h3⟩
  have k : ∀ j, j ≠ 28 → jI (jsI μ (M + 28) (12 * e + i) v) (M + j) f = jI μ (M + j) f := fun j hj => by rw [jI_sI, if_neg (by omega)]
  refine ⟨?_, ⟨w, w1, w2, by rw [k _ (by decide)]; exact w3, w4.eq fun j hj => ?_⟩, h3⟩
  · unfold mCp; rw [k _ (by decide), k _ (by decide), k _ (by decide), k _ (by decide), k _ (by decide), k _ (by decide), k _ (by decide)]; exact h1
  · have := w1.2.2
    rw [jI_sI, if_neg (by omega)]
theorem clsBut.setJ {M : Nat} {μ : JM} {e i : Nat} {v : Int64} (hi : i < 4) : clsBut M μ (jsJ μ (M + 30) (4 * e + i) v) e := by
  intro f c hf ⟨h1, h2, h3⟩
  refine ⟨h1, h2, fun j hj => ?_⟩
  rw [jJ_sJ, if_neg (by omega), jJ_sJ, if_neg (by omega)]; exact h3 j hj
