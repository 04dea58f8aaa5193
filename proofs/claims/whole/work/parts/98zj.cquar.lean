/-! the class: quarrel -/
def clp (x y : Cl) (c : Nat) : Bool := decide (x.1 = 1) && isBan x c y && hasC (Cl.cas x) c
theorem c_clash {B z v q a b i j : Nat} {cls : List Cl} {μ : JM} (cl : cL (B + 121) z true 24 μ v q cls) (hA : CAS μ a b) (hb : z ≤ b) (hi : i < cls.length) (hj : j < cls.length) : ∃ ν, fX8_clash v (nI i) (nI j) (some a) μ = some ((), ν, 0, 0) ∧ lo z μ ν ∧ CAS ν a b ∧ ∀ c, c < 256 → hasC (jJ ν b) c = clp (cls.getD i cl0) (cls.getD j cl0) c := by
  have h24 := cl.2.2.2.2.1
  unfold fX8_clash
  simp only [jck_true, jde_is, jlt_is, jcl_0, beq_self_eq_true, jT_sI, jT_sJ, jP_sI, jP_sJ, jJ_sI, jI_sJ, jZ_sI, jZ_sJ, hA.1, c_clear hA]
  have l1 : lo z μ (s4 μ b (fun _ => 0)) := lo.s4 hb
  have cl1 := l1.cl cl
  obtain ⟨e, e1, E⟩ := cl1.2.2.2.2.2.2.2 i hi
  obtain ⟨qq, bb, tt, e2, e3, e4, -, a5, a6, a7, a8, a9, -, -, -, a13⟩ := id E
  obtain ⟨f, f1, F⟩ := cl1.2.2.2.2.2.2.2 j hj
  obtain ⟨rr, cc, uu, f2, f3, f4, -, b5, b6, b7, b8, b9, -, -, -, b13⟩ := id F
  obtain ⟨a13, a14, -, -, -, a18⟩ := a13 rfl
  obtain ⟨b13, b14, -, -, -, b18⟩ := b13 rfl
  have hr : inR (nI i) cls.length = some i := by unfold inR; rw [nI_clamp (by omega), if_pos ⟨nI_pos' (by omega), hi⟩]
  have hs : inR (nI j) cls.length = some j := by unfold inR; rw [nI_clamp (by omega), if_pos ⟨nI_pos' (by omega), hj⟩]
  simp only [jck_true, jde_is, jlt_is, jcl_0, beq_self_eq_true, jT_sI, jT_sJ, jP_sI, jP_sJ, jJ_sI, jI_sJ, jZ_sI, jZ_sJ, cl1.2.2.1, c_lat cl1 (by decide), hr, hs, e1, f1]
  rw [if_neg (by intro z; cases z), if_neg (by intro z; cases z)]
  simp only [jck_true, jde_is, jlt_is, jcl_0, beq_self_eq_true, jT_sI, jT_sJ, jP_sI, jP_sJ, jJ_sI, jI_sJ, jZ_sI, jZ_sJ, a5, b5, a6, b6, a13, a14, b13, b14]
  have no : (∀ c, clp (cls.getD i cl0) (cls.getD j cl0) c = false) → ∃ ν, (some ((), s4 μ b (fun _ => 0), 0, 0) : JO Unit) = some ((), ν, 0, 0) ∧ lo z μ ν ∧ CAS ν a b ∧ ∀ c, c < 256 → hasC (jJ ν b) c = clp (cls.getD i cl0) (cls.getD j cl0) c := by
    intro w
    refine ⟨_, rfl, l1, hA, fun c hc => ?_⟩
    rw [ha_s4 hc, w c]
    unfold hasC lb; simp
  by_cases q1 : (cls.getD i cl0).1 = 1
  · rw [if_pos q1]
    by_cases q2 : (cls.getD j cl0).1 = 3
    · rw [if_pos q2]
      by_cases q3 : (cls.getD i cl0).2.2.1 = (cls.getD j cl0).2.2.1
      · rw [if_pos q3]
        by_cases q4 : (cls.getD i cl0).2.2.2.1 = (cls.getD j cl0).2.2.2.1
        · rw [if_pos q4]
          have hA1 : CAS (s4 μ b (fun _ => 0)) a b := hA
          simp only [jck_true, jde_is, jlt_is, jcl_0, beq_self_eq_true, jT_sI, jT_sJ, jP_sI, jP_sJ, jJ_sI, jI_sJ, jZ_sI, jZ_sJ, hA1.1, a8, c_copy hA1 a9]
          have b9' : CAS (s4 (s4 μ b (fun _ => 0)) b (fun i => jJ (s4 μ b (fun _ => 0)) bb i)) rr cc := b9
          have hA2 : CAS (s4 (s4 μ b (fun _ => 0)) b (fun i => jJ (s4 μ b (fun _ => 0)) bb i)) a b := hA
          simp only [jck_true, jde_is, jlt_is, jcl_0, beq_self_eq_true, jT_sI, jT_sJ, jP_sI, jP_sJ, jJ_sI, jI_sJ, jZ_sI, jZ_sJ, jT_s4, jP_s4] at b5 b8 ⊢
          have t2 := hA.1
          simp only [jck_true, jde_is, jlt_is, jcl_0, beq_self_eq_true, jT_sI, jT_sJ, jP_sI, jP_sJ, jJ_sI, jI_sJ, jZ_sI, jZ_sJ, jT_s4, jP_s4, b5, b8, t2, c_and hA2 b9']
          refine ⟨_, rfl, l1.tr ((lo.s4 hb).tr (lo.s4 hb)), hA, fun c hc => ?_⟩
          have c4 : c / 64 < 4 := by omega
          rw [ha_s4 hc]
          unfold clp isBan
          rw [decide_eq_true q1, decide_eq_true q2, decide_eq_true q3.symm, decide_eq_true q4.symm]
          unfold hasC
          dsimp only
          rw [lb_and, jJ_s4 c4, jJ_s4_ne (show cc ≠ b by omega), a18 _ c4, b18 _ c4]
          simp only [Bool.true_and]
          exact Bool.and_comm _ _
        · rw [if_neg q4]; exact no (fun c => by unfold clp isBan; rw [decide_eq_false (show ¬ (cls.getD j cl0).2.2.2.1 = (cls.getD i cl0).2.2.2.1 from fun z => q4 z.symm)]; simp)
      · rw [if_neg q3]; exact no (fun c => by unfold clp isBan; rw [decide_eq_false (show ¬ (cls.getD j cl0).2.2.1 = (cls.getD i cl0).2.2.1 from fun z => q3 z.symm)]; simp)
    · rw [if_neg q2]; exact no (fun c => by unfold clp isBan; rw [decide_eq_false q2]; simp)
  · rw [if_neg q1]; exact no (fun c => by unfold clp; rw [decide_eq_false q1]; simp)
/-! the pairs -/
def qP (s : SS) (cls : List Cl) (d b c : Nat) : Prop := d < cls.length ∧ b < cls.length ∧ c < nCs s ∧ hasC (sW s) c = true ∧ clp (cls.getD d cl0) (cls.getD b cl0) c = true
def qB (d b d' b' : Nat) : Prop := d' < d ∨ (d' = d ∧ b' < b)
def qI (s : SS) (cls : List Cl) (d b : Nat) : Option (Nat × Nat × Nat) → Prop
  | none => ∀ d' b' c, qB d b d' b' → ¬ qP s cls d' b' c
  | some e => qB d b e.2.1 e.2.2 ∧ qP s cls e.2.1 e.2.2 e.1 ∧ (∀ d' b' c', qB d b d' b' → qP s cls d' b' c' → e.1 ≤ c') ∧ ∀ d' b', qB e.2.1 e.2.2 d' b' → ¬ qP s cls d' b' e.1
theorem lstN_none {p : Nat → Bool} : ∀ (d c : Nat), lstN p d c = none → ∀ j, j < d → p (c + j) = false
  | 0, _, _, j, hj => by omega
  | d + 1, c, h, j, hj => by
    rw [lstN] at h
    by_cases q : p c = true
    · rw [if_pos q] at h; cases h
    · rw [if_neg q] at h
      cases j with
      | zero => simpa using q
      | succ j => rw [show c + (j + 1) = c + 1 + j by omega]; exact lstN_none d (c + 1) h j (by omega)
theorem lstN_some {p : Nat → Bool} : ∀ (d c n : Nat), lstN p d c = some n → c ≤ n ∧ p n = true ∧ ∀ j, c ≤ j → j < n → p j = false
  | 0, _, _, h => by rw [lstN] at h; cases h
  | d + 1, c, n, h => by
    rw [lstN] at h
    by_cases q : p c = true
    · rw [if_pos q] at h
      injection h with h
      subst h
      exact ⟨Nat.le_refl _, q, fun j h1 h2 => by omega⟩
    · rw [if_neg q] at h
      obtain ⟨h1, h2, h3⟩ := lstN_some d (c + 1) n h
      refine ⟨by omega, h2, fun j g1 g2 => ?_⟩
      by_cases e : j = c
      · subst e; simpa using q
      · exact h3 j (by omega) g2
def qU (st : Option (Nat × Nat × Nat)) (d b : Nat) : Option Nat → Option (Nat × Nat × Nat)
  | none => st
  | some c => match st with
    | none => some (c, d, b)
    | some e => if e.1 ≤ c then some e else some (c, d, b)
theorem qI_step {s : SS} {cls : List Cl} {d b : Nat} {st : Option (Nat × Nat × Nat)} (h : qI s cls d b st) (hd : d < cls.length) (hb : b < cls.length) : qI s cls d (b + 1) (qU st d b (lstN (fun c => hasC (sW s) c && clp (cls.getD d cl0) (cls.getD b cl0) c) (nCs s) 0)) := by
  have nw : ∀ d' b', qB d (b + 1) d' b' → qB d b d' b' ∨ (d' = d ∧ b' = b) := fun d' b' z => by unfold qB at *; omega
  have old : ∀ d' b', qB d b d' b' → qB d (b + 1) d' b' := fun d' b' z => by unfold qB at *; omega
  have me : qB d (b + 1) d b := by unfold qB; omega
  cases hg : lstN (fun c => hasC (sW s) c && clp (cls.getD d cl0) (cls.getD b cl0) c) (nCs s) 0 with
  | none =>
    have g := lstN_none _ _ hg
    have np : ∀ c, ¬ qP s cls d b c := fun c ⟨_, _, z3, z4, z5⟩ => by
      have := g c z3
      rw [Nat.zero_add, z4, z5] at this
      cases this
    unfold qU
    cases st with
    | none =>
      intro d' b' c z y
      rcases nw d' b' z with z | ⟨rfl, rfl⟩
      · exact h d' b' c z y
      · exact np c y
    | some e =>
      obtain ⟨h1, h2, h3, h4⟩ := h
      refine ⟨old _ _ h1, h2, fun d' b' c z y => ?_, h4⟩
      rcases nw d' b' z with z | ⟨rfl, rfl⟩
      · exact h3 d' b' c z y
      · exact absurd y (np c)
  | some c =>
    obtain ⟨-, g2, g3⟩ := lstN_some _ _ _ hg
    have g1 := lstN_lt _ _ _ hg
    rw [Nat.zero_add] at g1
    have g2' : hasC (sW s) c = true ∧ clp (cls.getD d cl0) (cls.getD b cl0) c = true := by simpa using g2
    have yp : qP s cls d b c := ⟨hd, hb, g1, g2'.1, g2'.2⟩
    have mn : ∀ c', qP s cls d b c' → c ≤ c' := fun c' ⟨_, _, _, z4, z5⟩ => by
      by_cases q : c ≤ c'
      · exact q
      · have := g3 c' (Nat.zero_le _) (by omega)
        rw [z4, z5] at this
        cases this
    unfold qU
    cases st with
    | none =>
      refine ⟨me, yp, fun d' b' c' z y => ?_, fun d' b' z y => h d' b' c z y⟩
      rcases nw d' b' z with z | ⟨rfl, rfl⟩
      · exact absurd y (h d' b' c' z)
      · exact mn c' y
    | some e =>
      obtain ⟨h1, h2, h3, h4⟩ := h
      dsimp only
      by_cases q : e.1 ≤ c
      · rw [if_pos q]
        refine ⟨old _ _ h1, h2, fun d' b' c' z y => ?_, h4⟩
        rcases nw d' b' z with z | ⟨rfl, rfl⟩
        · exact h3 d' b' c' z y
        · exact Nat.le_trans q (mn c' y)
      · rw [if_neg q]
        refine ⟨me, yp, fun d' b' c' z y => ?_, fun d' b' z y => q (h3 d' b' c z y)⟩
        rcases nw d' b' z with z | ⟨rfl, rfl⟩
        · have := h3 d' b' c' z y
          show c ≤ c'
          omega
        · exact mn c' y
theorem qI_row {s : SS} {cls : List Cl} {d : Nat} {st : Option (Nat × Nat × Nat)} (h : qI s cls d cls.length st) : qI s cls (d + 1) 0 st := by
  have nw : ∀ d' b', qB (d + 1) 0 d' b' → b' < cls.length → qB d cls.length d' b' := fun d' b' z y => by unfold qB at *; omega
  cases st with
  | none => exact fun d' b' c z y => h d' b' c (nw d' b' z y.2.1) y
  | some e =>
    obtain ⟨h1, h2, h3, h4⟩ := h
    exact ⟨by unfold qB at *; omega, h2, fun d' b' c z y => h3 d' b' c (nw d' b' z y.2.1) y, h4⟩
theorem qp_none {cls : List Cl} {c : Nat} : ∀ (r : List Cl) (d : Nat), qp cls c r d = none → ∀ i, i < r.length → ∀ b, b < cls.length → clp (r.getD i cl0) (cls.getD b cl0) c = false
  | [], _, _, i, hi, _, _ => by simp at hi
  | x :: r, d, h, i, hi, b, hb => by
    rw [qp] at h
    have rest : qp cls c r (d + 1) = none → (i = 0 → clp x (cls.getD b cl0) c = false) → clp ((x :: r).getD i cl0) (cls.getD b cl0) c = false := by
      intro h1 h0
      cases i with
      | zero => exact h0 rfl
      | succ i => rw [List.getD_cons_succ]; exact qp_none r (d + 1) h1 i (by simpa using hi) b hb
    by_cases q : x.1 = 1 ∧ hasC (Cl.cas x) c = true
    · rw [if_pos q] at h
      cases hf : cls.findIdx? (isBan x c) with
      | some j => rw [hf] at h; cases h
      | none =>
        rw [hf] at h
        refine rest h (fun _ => ?_)
        have := List.findIdx?_eq_none_iff.mp hf (cls.getD b cl0) (by rw [List.getD_eq_getElem?_getD, List.getElem?_eq_getElem hb]; exact List.getElem_mem hb)
        unfold clp; rw [this]; simp
    · rw [if_neg q] at h
      refine rest h (fun _ => ?_)
      unfold clp
      by_cases q1 : x.1 = 1
      · have : hasC (Cl.cas x) c = false := by
          cases hh : hasC (Cl.cas x) c
          · rfl
          · exact absurd ⟨q1, hh⟩ q
        rw [this, Bool.and_false]
      · rw [decide_eq_false q1]; simp
theorem qp_some {cls : List Cl} {c : Nat} : ∀ (r : List Cl) (d : Nat) (e : Nat × Nat), qp cls c r d = some e → ∃ i, e.1 = d + i ∧ i < r.length ∧ e.2 < cls.length ∧ clp (r.getD i cl0) (cls.getD e.2 cl0) c = true ∧ (∀ b, b < e.2 → clp (r.getD i cl0) (cls.getD b cl0) c = false) ∧ ∀ k, k < i → ∀ b, b < cls.length → clp (r.getD k cl0) (cls.getD b cl0) c = false
  | [], _, _, h => by rw [qp] at h; cases h
  | x :: r, d, e, h => by
    rw [qp] at h
    have rest : qp cls c r (d + 1) = some e → (∀ b, b < cls.length → clp x (cls.getD b cl0) c = false) → ∃ i, e.1 = d + i ∧ i < (x :: r).length ∧ e.2 < cls.length ∧ clp ((x :: r).getD i cl0) (cls.getD e.2 cl0) c = true ∧ (∀ b, b < e.2 → clp ((x :: r).getD i cl0) (cls.getD b cl0) c = false) ∧ ∀ k, k < i → ∀ b, b < cls.length → clp ((x :: r).getD k cl0) (cls.getD b cl0) c = false := by
      intro h1 h0
      obtain ⟨i, g1, g2, g3, g4, g5, g6⟩ := qp_some r (d + 1) e h1
      refine ⟨i + 1, by omega, by simpa using g2, g3, g4, g5, fun k hk b hb => ?_⟩
      cases k with
      | zero => exact h0 b hb
      | succ k => exact g6 k (by omega) b hb
    by_cases q : x.1 = 1 ∧ hasC (Cl.cas x) c = true
    · rw [if_pos q] at h
      cases hf : cls.findIdx? (isBan x c) with
      | some j =>
        rw [hf] at h
        injection h with h
        subst h
        obtain ⟨j1, j2, j3⟩ := List.findIdx?_eq_some_iff_getElem.mp hf
        have gt : ∀ b (hb : b < cls.length), cls.getD b cl0 = cls[b] := fun b hb => by rw [List.getD_eq_getElem?_getD, List.getElem?_eq_getElem hb]; rfl
        refine ⟨0, rfl, by simp, j1, ?_, fun b hb => ?_, fun k hk => by omega⟩
        · show clp x (cls.getD j cl0) c = true
          unfold clp; rw [gt j j1, j2, decide_eq_true q.1, q.2]; rfl
        · show clp x (cls.getD b cl0) c = false
          have hb : b < j := hb
          have := j3 b hb
          unfold clp; rw [gt b (by omega)]
          cases hq : isBan x c cls[b]
          · simp
          · exact absurd hq this
      | none =>
        rw [hf] at h
        refine rest h (fun b hb => ?_)
        have := List.findIdx?_eq_none_iff.mp hf (cls.getD b cl0) (by rw [List.getD_eq_getElem?_getD, List.getElem?_eq_getElem hb]; exact List.getElem_mem hb)
        unfold clp; rw [this]; simp
    · rw [if_neg q] at h
      refine rest h (fun b _ => ?_)
      unfold clp
      by_cases q1 : x.1 = 1
      · have : hasC (Cl.cas x) c = false := by
          cases hh : hasC (Cl.cas x) c
          · rfl
          · exact absurd ⟨q1, hh⟩ q
        rw [this, Bool.and_false]
      · rw [decide_eq_false q1]; simp
def qW (s : SS) : Option (Nat × Nat × Nat) → Int32 × SS
  | none => (-1, s)
  | some e => (nI e.1, wQ s (nI e.2.1) (nI e.2.2))
theorem qI_end {s : SS} {v : Int32} {t : Nat} {st : Option (Nat × Nat × Nat)} (hv : vAt s v = some t) (h : qI s (txA s t) (txA s t).length 0 st) : spQuarrel v s = qW s st := by
  unfold spQuarrel
  rw [hv]
  dsimp only
  have al : ∀ d b c, qP s (txA s t) d b c → qB (txA s t).length 0 d b := fun d b c z => by have := z.1; unfold qB; omega
  cases hN : lstN (quP s t) (nCs s) 0 with
  | none =>
    have g := lstN_none _ _ hN
    cases st with
    | none => rfl
    | some e =>
      obtain ⟨-, ⟨p1, p2, p3, p4, p5⟩, -, -⟩ := h
      have := g e.1 p3
      rw [Nat.zero_add] at this
      unfold quP at this
      rw [p4, Bool.true_and] at this
      cases hq : qp (txA s t) e.1 (txA s t) 0 with
      | some y => rw [hq] at this; cases this
      | none => rw [qp_none _ _ hq _ p1 _ p2] at p5; cases p5
  | some c =>
    obtain ⟨-, g2, g3⟩ := lstN_some _ _ _ hN
    have g1 := lstN_lt _ _ _ hN
    rw [Nat.zero_add] at g1
    unfold quP at g2
    rw [Bool.and_eq_true] at g2
    obtain ⟨w, g2⟩ := g2
    dsimp only
    cases hq : qp (txA s t) c (txA s t) 0 with
    | none => rw [hq] at g2; cases g2
    | some y =>
      obtain ⟨i, e1, e2, e3, e4, e5, e6⟩ := qp_some _ _ _ hq
      rw [Nat.zero_add] at e1
      have yP : qP s (txA s t) i y.2 c := ⟨e2, e3, g1, w, e4⟩
      cases st with
      | none => exact absurd yP (h _ _ _ (al _ _ _ yP))
      | some e =>
        obtain ⟨-, hP, h3, h4⟩ := h
        have le := h3 _ _ _ (al _ _ _ yP) yP
        obtain ⟨p1, p2, p3, p4, p5⟩ := id hP
        have ge : ¬ e.1 < c := fun z => by
          have := g3 e.1 (Nat.zero_le _) z
          unfold quP at this
          rw [p4, Bool.true_and] at this
          cases hq' : qp (txA s t) e.1 (txA s t) 0 with
          | some y => rw [hq'] at this; cases this
          | none => rw [qp_none _ _ hq' _ p1 _ p2] at p5; cases p5
        have ec : e.1 = c := by omega
        rw [ec] at p5 h4 hP
        have o1 : ¬ qB e.2.1 e.2.2 i y.2 := fun z => h4 _ _ z yP
        have o2 : ¬ e.2.1 < i := fun z => by rw [e6 _ z _ p2] at p5; cases p5
        have o3 : ¬ (e.2.1 = i ∧ e.2.2 < y.2) := fun z => by
          rw [z.1, e5 _ z.2] at p5; cases p5
        unfold qB at o1
        have f1 : e.2.1 = i := by omega
        have f2 : e.2.2 = y.2 := by omega
        dsimp only [qW]
        rw [ec, f1, f2, e1]
