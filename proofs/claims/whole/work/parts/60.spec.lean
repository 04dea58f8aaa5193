/-! SPEC: over the codes of a text's tokens; a fault is a token and a kind -/
/-- the same reference's memory but for its fields fs and its arrays as -/
def sm (M : Nat) (fs as : List Nat) (μ ν : JM) : Prop := jZ ν = jZ μ ∧ jT ν = jT μ ∧ jP ν = jP μ ∧ (∀ k, k ∉ fs → jI ν M k = jI μ M k) ∧ ∀ a, a ≠ M → (∀ i ∈ as, a ≠ M + i) → jI ν a = jI μ a ∧ jJ ν a = jJ μ a
theorem sm.rf {M : Nat} {fs as : List Nat} {μ : JM} : sm M fs as μ μ := ⟨rfl, rfl, rfl, fun _ _ => rfl, fun _ _ _ => ⟨rfl, rfl⟩⟩
theorem sm.tr {M : Nat} {fs as : List Nat} {μ ν ρ : JM} (h : sm M fs as μ ν) (g : sm M fs as ν ρ) : sm M fs as μ ρ := ⟨g.1.trans h.1, g.2.1.trans h.2.1, g.2.2.1.trans h.2.2.1, fun k hk => (g.2.2.2.1 k hk).trans (h.2.2.2.1 k hk), fun a h1 h2 => ⟨(g.2.2.2.2 a h1 h2).1.trans (h.2.2.2.2 a h1 h2).1, (g.2.2.2.2 a h1 h2).2.trans (h.2.2.2.2 a h1 h2).2⟩⟩
theorem sm.wk {M : Nat} {fs as gs bs : List Nat} {μ ν : JM} (h : sm M fs as μ ν) (h1 : ∀ k ∈ fs, k ∈ gs) (h2 : ∀ k ∈ as, k ∈ bs) : sm M gs bs μ ν := ⟨h.1, h.2.1, h.2.2.1, fun k hk => h.2.2.2.1 k (fun q => hk (h1 k q)), fun a q1 q2 => h.2.2.2.2 a q1 (fun i hi => q2 i (h2 i hi))⟩
theorem sm.mt {M : Nat} {fs as : List Nat} {μ ν : JM} (h : sm M fs as μ ν) (hM : MT M μ) : MT M ν := hM.of h.2.1 h.2.2.1
theorem sm.fI {M : Nat} {fs as : List Nat} {μ ν : JM} (h : sm M fs as μ ν) {k : Nat} (hk : k ∉ fs) : jI ν M k = jI μ M k := h.2.2.2.1 k hk
theorem sm.aI {M : Nat} {fs as : List Nat} {μ ν : JM} (h : sm M fs as μ ν) {i : Nat} (h0 : i ≠ 0) (hi : i ∉ as) : jI ν (M + i) = jI μ (M + i) := (h.2.2.2.2 (M + i) (by omega) (fun j hj e => hi (by rw [show i = j by omega]; exact hj))).1
theorem sm.aJ {M : Nat} {fs as : List Nat} {μ ν : JM} (h : sm M fs as μ ν) {i : Nat} (h0 : i ≠ 0) (hi : i ∉ as) : jJ ν (M + i) = jJ μ (M + i) := (h.2.2.2.2 (M + i) (by omega) (fun j hj e => hi (by rw [show i = j by omega]; exact hj))).2
theorem sm.sF {M : Nat} {fs as : List Nat} {μ : JM} {k : Nat} {v : Int32} (h : k ∈ fs) : sm M fs as μ (jsI μ M k v) := ⟨rfl, rfl, rfl, fun j hj => by rw [jI_sI, if_neg]; rintro ⟨-, rfl⟩; exact hj h, fun a h1 _ => ⟨jI_sI_ne h1, rfl⟩⟩
theorem sm.sA {M : Nat} {fs as : List Nat} {μ : JM} {i k : Nat} {v : Int32} (h0 : i ≠ 0) (h : i ∈ as) : sm M fs as μ (jsI μ (M + i) k v) := ⟨rfl, rfl, rfl, fun j _ => by rw [jI_sI_ne (by omega)], fun a h1 h2 => ⟨jI_sI_ne (h2 i h), rfl⟩⟩
theorem sm.sJ {M : Nat} {fs as : List Nat} {μ : JM} {i k : Nat} {v : Int64} (h : i ∈ as) : sm M fs as μ (jsJ μ (M + i) k v) := ⟨rfl, rfl, rfl, fun j _ => rfl, fun a h1 h2 => ⟨rfl, jJ_sJ_ne (h2 i h)⟩⟩
def TK : List Nat := [13, 14, 15, 16, 17, 18, 20, 21]
theorem smI.sm {M : Nat} {μ ν : JM} (h : smI (wTk M) μ ν) : sm M TK [9] μ ν := by
  refine ⟨h.1, h.2.1, h.2.2.1, fun k hk => h.2.2.2.2 M k ?_, fun a h1 h2 => ⟨funext fun k => h.2.2.2.2 a k ?_, by rw [h.2.2.2.1]⟩⟩
  · unfold wTk; simp [TK] at hk; omega
  · have := h2 9 (by simp); unfold wTk; omega
theorem jJ_at {μ : JM} {a k : Nat} {v : Int64} : jJ (jsJ μ a k v) a = vp_updL (jJ μ a) k v := by simp [jJ, jsJ, va_up]
abbrev Er : Type := Nat × Nat
abbrev CS : Type := Nat → Int64
abbrev Lv : Type := Nat × CS × CS
def pl (l : List Int32) : Nat → Nat
  | 0 => skp l
  | k + 1 => nxj l (pl l k)
def Cd (l : List Int32) (k : Nat) : Int64 := tcode (l.drop (pl l k))
def eb {α β : Type} (x : Except Er α) (f : α → Except Er β) : Except Er β := match x with
  | .error e => .error e
  | .ok a => f a
theorem eb_err {α β : Type} {e : Er} {f : α → Except Er β} : eb (.error e) f = .error e := rfl
theorem eb_ok {α β : Type} {a : α} {f : α → Except Er β} : eb (.ok a) f = f a := rfl
def tk (C : Nat → Int64) (k : Nat) : Except Er Nat := if C (k + 1) = -2000 then .error (k + 1, 1) else .ok (k + 1)
def exC (C : Nat → Int64) (c : Int64) (k : Nat) : Except Er Nat := if C k = c then tk C k else .error (k, 0)
def nmC (C : Nat → Int64) (k : Nat) : Except Er Unit := if 0 < C k then .ok () else if C k ≤ -3000 then .error (k, 2) else .error (k, 0)
def sl (C : Nat → Int64) (s k : Nat) : List Int64 := (List.range' s (k - s)).map C
theorem sl_self (C : Nat → Int64) (k : Nat) : sl C k k = [] := by simp [sl]
theorem sl_one (C : Nat → Int64) (k : Nat) : sl C k (k + 1) = [C k] := by simp [sl]
theorem sl_app (C : Nat → Int64) {s k n : Nat} (h1 : s ≤ k) (h2 : k ≤ n) : sl C s k ++ sl C k n = sl C s n := by
  unfold sl
  rw [← List.map_append]
  have e : List.range' k (n - k) = List.range' (s + 1 * (k - s)) (n - k) := by congr 1; omega
  rw [e, List.range'_append]
  congr 2; omega
theorem sl_snoc (C : Nat → Int64) {s k : Nat} (h1 : s ≤ k) : sl C s k ++ [C k] = sl C s (k + 1) := by rw [← sl_one, sl_app C h1 (by omega)]
/-! conditions -/
def cfl (n : Nat) (v : CS) : CS := fun i => if n % 2 = 1 then v i ^^^ (-1) else v i
def lvJoin (t : Lv) (v : CS) : Lv := (0, t.2.1, fun i => t.2.2 i &&& cfl t.1 v i)
def lvVal (t : Lv) : CS := fun i => t.2.1 i ||| t.2.2 i
def lv0 : Lv := (0, fun _ => 0, fun _ => -1)
def dpt (t : Lv) (r : List Lv) : Nat := t.1 + (r.map (fun x => x.1 + 1)).sum
def fbits : List Int64 := [-6148914691236517206, -3689348814741910324, -1085102592571150096, -71777214294589696, -281470681808896, -4294967296]
def fcs (f : Nat) : CS := fun i => if f < 6 then fbits.getD f 0 else if (i / 2 ^ (f - 6)) % 2 = 1 then -1 else 0
def opv (F : List Int64) (N : List (Int64 × CS)) (wh : Bool) (c : Int64) : Option CS := match F.idxOf? c with
  | some f => some (fcs f)
  | none => if wh then (match (N.map (·.1)).idxOf? c with | some n => some (N.getD n (0, fun _ => 0)).2 | none => none) else some (fun _ => 0)
def sClo (C : Nat → Int64) : Lv → List Lv → Nat → Except Er (Lv × List Lv × Nat)
  | t, [], k => .ok (t, [], k)
  | t, b :: r, k => if C k = -42 then eb (tk C k) (fun k2 => sClo C (lvJoin b (lvVal t)) r k2) else .ok (t, b :: r, k)
def sCond (C : Nat → Int64) (F : List Int64) (N : List (Int64 × CS)) (wh : Bool) : Nat → Lv → List Lv → Nat → Nat → Except Er (CS × Nat)
  | 0, _, _, _, k => .error (k, 0)
  | n + 1, t, r, ops, k =>
    if C k = -3014 then (if dpt t r = 10 then .error (k, 6) else eb (tk C k) fun k2 => sCond C F N wh n (t.1 + 1, t.2) r ops k2)
    else if C k = -41 then (if dpt t r = 10 then .error (k, 6) else eb (tk C k) fun k2 => sCond C F N wh n lv0 (t :: r) ops k2)
    else if ¬ 0 < C k then .error (k, 0)
    else match opv F N wh (C k) with
      | none => .error (k, 3)
      | some v => if ops = 60 then .error (k, 6) else
        eb (tk C k) fun k2 => eb (sClo C (lvJoin t v) r k2) fun x =>
          if C x.2.2 = -3013 then eb (tk C x.2.2) fun k3 => sCond C F N wh n (0, lvVal x.1, fun _ => -1) x.2.1 (ops + 1) k3
          else if C x.2.2 = -3012 then eb (tk C x.2.2) fun k3 => sCond C F N wh n x.1 x.2.1 (ops + 1) k3
          else if x.2.1 = [] then .ok (lvVal x.1, x.2.2) else .error (x.2.2, 0)
/-! canonical bytes of tokens -/
def wlf : Nat → Nat → List Int32
  | 0, _ => []
  | f + 1, n => if n = 0 then [] else wlf f (n / 32) ++ [nI (96 + n % 32)]
def wl (n : Nat) : List Int32 := wlf 12 n
def cbytes (c : Int64) : List Int32 := if 0 < c then wl c.toNatClampNeg else if c ≤ -3000 then wl (oursN.getD (-3000 - c).toNatClampNeg 0) else if c ≤ -1000 then numB (-1000 - c).toNatClampNeg else [nI (-1 - c).toNatClampNeg]
def isSg (c : Int64) : Bool := decide (c = -59) || decide (c = -60) || decide (c = -41) || decide (c = -42)
def cput (s : List Int32 × Int32) (c : Int64) : List Int32 × Int32 := (s.1 ++ (if s.2 = 0 ∨ s.2 = 40 ∨ (isSg c = true ∧ c ≠ -41) then [] else [32]) ++ cbytes c, if isSg c = true then nI (-1 - c).toNatClampNeg else 1)
def cB (ts : List Int64) : List Int32 × Int32 := ts.foldl cput ([], 0)
theorem cB_snoc (ts : List Int64) (c : Int64) : cB (ts ++ [c]) = cput (cB ts) c := by simp [cB]
theorem wlf_w : ∀ (f : Nat) (w : List Int32), (∀ c ∈ w, isL c = true) → w.length ≤ f → wlf f (wnat w) = w := by
  intro f
  induction f with
  | zero => intro w _ h; have : w = [] := List.length_eq_zero_iff.mp (by omega); subst this; rfl
  | succ f ih =>
    intro w hw hl
    rcases List.eq_nil_or_concat w with rfl | ⟨u, c, rfl⟩
    · simp [wlf, wnat]
    · simp only [List.concat_eq_append] at hw hl ⊢
      obtain ⟨m, m1, m2, rfl⟩ := isL_nat (hw c (by simp))
      have e : wnat (u ++ [nI m]) = wnat u * 32 + (m - 96) := by
        simp only [wnat, List.foldl_append, List.foldl_cons, List.foldl_nil, wstep, nI_clamp (show m < 2 ^ 31 by omega)]
      simp only [List.length_append, List.length_cons, List.length_nil] at hl
      rw [wlf, if_neg (by omega), e, show (wnat u * 32 + (m - 96)) / 32 = wnat u by omega, ih u (fun d hd => hw d (by simp [hd])) (by omega), show 96 + (wnat u * 32 + (m - 96)) % 32 = m by omega]
theorem wl_w {w : List Int32} (h : ∀ c ∈ w, isL c = true) (hl : w.length ≤ 12) : wl (wnat w) = w := wlf_w 12 w h hl
theorem wnat_inj {u w : List Int32} (h : ∀ c ∈ u, isL c = true) (hl : u.length ≤ 12) (h2 : ∀ c ∈ w, isL c = true) (hl2 : w.length ≤ 12) (e : wnat u = wnat w) : u = w := by rw [← wl_w h hl, e, wl_w h2 hl2]
