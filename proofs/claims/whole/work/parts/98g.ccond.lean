/-! the class: Cond, its levels -/
def CDA : List Nat := [15, 19, 66, 68, 23, 25, 27, 29, 31, 33, 35, 37, 39, 41, 43, 45, 47, 49, 51, 53, 55, 57, 59, 61, 63, 65]
theorem cda_d : ∀ d, d < 11 → 23 + 4 * d ∈ CDA := by decide
theorem cda_g : ∀ d, d < 11 → 25 + 4 * d ∈ CDA := by decide
theorem cda_lt : ∀ i ∈ CDA, i < 121 := by decide
theorem ca_d {B d : Nat} {μ : JM} (h : CT B μ) (hd : d < 11) : jP μ (B + 20) d = some (B + (22 + 4 * d)) ∧ CAS μ (B + (22 + 4 * d)) (B + (23 + 4 * d)) := ⟨h.2.1 _ (ck_p1 d hd), by rw [h.1 _ (ck_k1 d hd)], h.2.1 _ (ck_p3 d hd), h.1 _ (ck_k2 d hd)⟩
theorem ca_g {B d : Nat} {μ : JM} (h : CT B μ) (hd : d < 11) : jP μ (B + 21) d = some (B + (24 + 4 * d)) ∧ CAS μ (B + (24 + 4 * d)) (B + (25 + 4 * d)) := ⟨h.2.1 _ (ck_p2 d hd), by rw [h.1 _ (ck_k3 d hd)], h.2.1 _ (ck_p4 d hd), h.1 _ (ck_k4 d hd)⟩
theorem ca_v {B : Nat} {μ : JM} (h : CT B μ) : CAS μ (B + 67) (B + 68) := ⟨by rw [cT67 h], cP67_0 h, cT68 h⟩
def cc (B z : Nat) (μ ν : JM) : Prop := cs B z CDA μ ν ∧ jI ν (B + 66) 0 = jI μ (B + 66) 0 ∧ jZ ν = jZ μ
theorem cc.rf {B z : Nat} {μ : JM} : cc B z μ μ := ⟨cs.rf, rfl, rfl⟩
theorem cc.tr {B z : Nat} {μ ν ρ : JM} (h : cc B z μ ν) (g : cc B z ν ρ) : cc B z μ ρ := ⟨h.1.tr g.1, g.2.1.trans h.2.1, g.2.2.trans h.2.2⟩
def cNm (B hi : Nat) (μ : JM) (wh : Bool) (p1 : Option Nat) (N : List (Int64 × CS)) : Prop := match p1 with
  | none => wh = true ∧ N = []
  | some v => ∃ q cap cls, cL (B + 121) hi wh cap μ v q cls ∧ cap ≤ 1000 ∧ (wh = true → N = defs cls)
def cEn (B hi z : Nat) (μ : JM) (wh : Bool) (p1 : Option Nat) (F : List Int64) (N : List (Int64 × CS)) : Prop := CT B μ ∧ cW B 9 8 μ F ∧ cNm B hi μ wh p1 N ∧ hi ≤ z ∧ z ≤ jZ μ ∧ B + 121 ≤ z
theorem cNm.ke {B hi z : Nat} {μ ν : JM} {wh : Bool} {p1 : Option Nat} {N : List (Int64 × CS)} {as : List Nat} (h : cNm B hi μ wh p1 N) (s : cs B z as μ ν) (ha : ∀ i ∈ as, i < 121) (hz : z ≤ jZ μ) (hh : hi ≤ z) : cNm B hi ν wh p1 N := by
  cases p1 with
  | none => exact h
  | some v =>
    obtain ⟨q, cap, cls, h1, h2, h3⟩ := h
    exact ⟨q, cap, cls, h1.ke s ha hz hh, h2, h3⟩
theorem cEn.kc {B hi z : Nat} {μ ν : JM} {wh : Bool} {p1 : Option Nat} {F : List Int64} {N : List (Int64 × CS)} (h : cEn B hi z μ wh p1 F N) (s : cs B z CDA μ ν) : cEn B hi z ν wh p1 F N := ⟨s.ct h.1 h.2.2.2.2.2, h.2.1.ke s (by have := h.2.2.2.2.2; omega) (by decide) (by decide), h.2.2.1.ke s cda_lt h.2.2.2.2.1 h.2.2.2.1, h.2.2.2.1, Nat.le_trans h.2.2.2.2.1 s.1, h.2.2.2.2.2⟩
def bs (r : List Lv) : Nat := (r.map (fun x => x.1 + 1)).sum
theorem dpt_bs (t : Lv) (r : List Lv) : dpt t r = t.1 + bs r := rfl
theorem bs_cons (t : Lv) (r : List Lv) : bs (t :: r) = dpt t r + 1 := by unfold bs dpt; rw [List.map_cons, List.sum_cons]; omega
def lvAt (wh : Bool) (B : Nat) (μ : JM) (d : Nat) (t : Lv) : Prop := jI μ (B + 66) d = 0 ∧ (∀ j, 1 ≤ j → j ≤ t.1 → jI μ (B + 66) (d + j) = 1) ∧ (wh = true → ∀ i, i < 4 → jJ μ (B + (23 + 4 * d)) i = t.2.1 i ∧ jJ μ (B + (25 + 4 * d)) i = t.2.2 i)
def lvs (wh : Bool) (B : Nat) (μ : JM) : Lv → List Lv → Prop
  | t, [] => lvAt wh B μ 0 t
  | t, b :: r => lvAt wh B μ (bs (b :: r)) t ∧ lvs wh B μ b r
theorem lvs.top {wh : Bool} {B : Nat} {μ : JM} {t : Lv} {r : List Lv} (h : lvs wh B μ t r) : lvAt wh B μ (bs r) t := by
  cases r with
  | nil => exact h
  | cons b r => exact h.1
theorem lvs.mk {wh : Bool} {B : Nat} {μ : JM} {t : Lv} {r : List Lv} (h : lvAt wh B μ (bs r) t) (g : ∀ b s, r = b :: s → lvs wh B μ b s) : lvs wh B μ t r := by
  cases r with
  | nil => exact h
  | cons b r => exact ⟨h, g b r rfl⟩
theorem lvAt.lo {wh : Bool} {B d : Nat} {μ ν : JM} {t : Lv} (h : lvAt wh B μ d t) (h1 : ∀ j, j ≤ d + t.1 → jI ν (B + 66) j = jI μ (B + 66) j) (h2 : jJ ν (B + (23 + 4 * d)) = jJ μ (B + (23 + 4 * d))) (h3 : jJ ν (B + (25 + 4 * d)) = jJ μ (B + (25 + 4 * d))) : lvAt wh B ν d t := ⟨by rw [h1 d (by omega)]; exact h.1, fun j a b => by rw [h1 _ (by omega)]; exact h.2.1 j a b, fun w i hi => by rw [h2, h3]; exact h.2.2 w i hi⟩
theorem lvs.lo {wh : Bool} {B : Nat} {μ ν : JM} : ∀ (r : List Lv) (t : Lv), lvs wh B μ t r → (∀ j, j ≤ dpt t r → jI ν (B + 66) j = jI μ (B + 66) j) → (∀ d, d ≤ dpt t r → jJ ν (B + (23 + 4 * d)) = jJ μ (B + (23 + 4 * d)) ∧ jJ ν (B + (25 + 4 * d)) = jJ μ (B + (25 + 4 * d))) → lvs wh B ν t r
  | [], t, h, h1, h2 => lvAt.lo (d := 0) h (fun j hj => h1 j (by rw [dpt_bs]; simp [bs]; omega)) (h2 0 (by omega)).1 (h2 0 (by omega)).2
  | b :: r, t, h, h1, h2 => by
    have e : dpt t (b :: r) = t.1 + (dpt b r + 1) := by rw [dpt_bs, bs_cons]
    have e2 := bs_cons b r
    exact ⟨h.1.lo (fun j hj => h1 j (by omega)) (h2 _ (by omega)).1 (h2 _ (by omega)).2, lvs.lo r b h.2 (fun j hj => h1 j (by omega)) (fun d hd => h2 d (by omega))⟩
def cD (B : Nat) (μ : JM) (wh : Bool) (t : Lv) (r : List Lv) (ops : Nat) : Prop := jI μ (B + 19) 5 = nI (dpt t r) ∧ dpt t r ≤ 10 ∧ jI μ (B + 19) 6 = nI ops ∧ lvs wh B μ t r
/-- an opening -/
theorem c_open {B z n k : Nat} {μ : JM} {l : List Int32} {wh : Bool} {t : Lv} {r : List Lv} {ops : Nat} {x1 : Int32} {rec2 : Nat → Int32 → JM → JO Int32} (hC : CT B μ) (h : cAt B μ l n k) (hD : cD B μ wh t r ops) (hk : Cd l k = -3014 ∨ Cd l k = -41) (hd : dpt t r < 10) (hz : B + 121 ≤ z) : ∃ ν, fX3_readOpenings_b34 rec2 (B + 19) x1 (Cd l k) μ = rec2 (B + 19) (x1 + 1) ν ∧ cc B z μ ν ∧ cAt B ν l n (k + 1) ∧ (Cd l k = -3014 → cD B ν wh (t.1 + 1, t.2) r ops) ∧ (Cd l k = -41 → cD B ν wh lv0 (t :: r) ops) := by
  obtain ⟨d1, d2, d3, d4⟩ := hD
  rw [fX3_readOpenings_b34]
  simp only [jck_true, jde_is, jlt_is, jcl_0, beq_self_eq_true, jT_sI, jT_sJ, jP_sI, jP_sJ, jJ_sI, jI_sJ, jZ_sI, jZ_sJ, cT19 hC, d1]
  rw [if_pos (show nI (dpt t r) < 10 from nI_lt (b := 10) hd (by decide)), nI_1]
  have e5 : jI (jsI μ (B + 19) 5 (nI (dpt t r + 1))) (B + 19) 5 = nI (dpt t r + 1) := by rw [jI_sI, if_pos ⟨rfl, rfl⟩]
  rw [e5, cP19_4 hC]
  have d11 : dpt t r + 1 < 11 := by omega
  have key : ∀ s0 : Int32, (s0 = 0 ∨ s0 = 1) → ∃ ν, fX3_readOpenings_b84 rec2 (B + 19) x1 s0 (nI (dpt t r + 1)) (some (B + 66)) (jsI μ (B + 19) 5 (nI (dpt t r + 1))) = rec2 (B + 19) (x1 + 1) ν ∧ cc B z μ ν ∧ cAt B ν l n (k + 1) ∧ jI ν (B + 19) 5 = nI (dpt t r + 1) ∧ jI ν (B + 19) 6 = nI ops ∧ (∀ j, jI ν (B + 66) j = if j = dpt t r + 1 then s0 else jI μ (B + 66) j) ∧ (∀ d, d ≤ dpt t r → jJ ν (B + (23 + 4 * d)) = jJ μ (B + (23 + 4 * d)) ∧ jJ ν (B + (25 + 4 * d)) = jJ μ (B + (25 + 4 * d))) ∧ (∀ i, i < 4 → jJ ν (B + (23 + 4 * (dpt t r + 1))) i = 0 ∧ jJ ν (B + (25 + 4 * (dpt t r + 1))) i = -1) := by
    intro s0 hs
    have enar : vp_nar .boolean s0 = s0 := by rcases hs with rfl | rfl <;> decide
    rw [fX3_readOpenings_b84]
    have s1 : cs B z CDA μ (jsI μ (B + 19) 5 (nI (dpt t r + 1))) := cs.sI (by decide)
    have k6 : jI (jsI μ (B + 19) 5 (nI (dpt t r + 1))) (B + 19) 6 = nI ops := by rw [jI_sI, if_neg (by omega)]; exact d3
    have k66 : jI (jsI μ (B + 19) 5 (nI (dpt t r + 1))) (B + 66) = jI μ (B + 66) := jI_sI_ne (by omega)
    have kJ : jJ (jsI μ (B + 19) 5 (nI (dpt t r + 1))) = jJ μ := rfl
    have a1 : cAt B (jsI μ (B + 19) 5 (nI (dpt t r + 1))) l n k := h.ke (z := z) (as := [19]) (cs.sI (by decide)) (by omega) (by decide) (by decide) (by decide)
    have kZ : jZ (jsI μ (B + 19) 5 (nI (dpt t r + 1))) = jZ μ := rfl
    generalize jsI μ (B + 19) 5 (nI (dpt t r + 1)) = μ1 at s1 k6 k66 kJ a1 e5 kZ ⊢
    have hC1 := s1.ct hC hz
    simp only [jck_true, jde_is, jlt_is, jcl_0, beq_self_eq_true, jT_sI, jT_sJ, jP_sI, jP_sJ, jJ_sI, jI_sJ, jZ_sI, jZ_sJ, cT66 hC1, jin_nI d11 (by decide), nI_clamp (show dpt t r + 1 < 2 ^ 31 by omega), enar]
    have s2 : cs B z CDA μ1 (jsI μ1 (B + 66) (dpt t r + 1) s0) := cs.sI (by decide)
    have m66 : ∀ j, jI (jsI μ1 (B + 66) (dpt t r + 1) s0) (B + 66) j = if j = dpt t r + 1 then s0 else jI μ (B + 66) j := by
      intro j; rw [jI_sI, k66]
      by_cases e : j = dpt t r + 1
      · rw [if_pos ⟨rfl, e⟩, if_pos e]
      · rw [if_neg (fun t => e t.2), if_neg e]
    have m19 : jI (jsI μ1 (B + 66) (dpt t r + 1) s0) (B + 19) = jI μ1 (B + 19) := jI_sI_ne (by omega)
    have mJ : jJ (jsI μ1 (B + 66) (dpt t r + 1) s0) = jJ μ1 := rfl
    have a2 : cAt B (jsI μ1 (B + 66) (dpt t r + 1) s0) l n k := a1.ke (z := z) (as := [66]) (cs.sI (by decide)) (by omega) (by decide) (by decide) (by decide)
    have mZ : jZ (jsI μ1 (B + 66) (dpt t r + 1) s0) = jZ μ1 := rfl
    have mT : jT μ1 = jT (jsI μ1 (B + 66) (dpt t r + 1) s0) := rfl
    rw [mT]
    generalize jsI μ1 (B + 66) (dpt t r + 1) s0 = μ2 at s2 m66 m19 mJ a2 mZ ⊢
    have hC2 := s2.ct hC1 hz
    have e52 : jI μ2 (B + 19) 5 = nI (dpt t r + 1) := by rw [m19]; exact e5
    simp only [jck_true, jde_is, jlt_is, jcl_0, beq_self_eq_true, jT_sI, jT_sJ, jP_sI, jP_sJ, jJ_sI, jI_sJ, jZ_sI, jZ_sJ, cT19 hC2, cP19_2 hC1, (ca_d hC1 d11).1, cP19_2 hC2, cT20 hC2, e52, jin_nI d11 (by decide), nI_clamp (show dpt t r + 1 < 2 ^ 31 by omega), (ca_d hC2 d11).1, (ca_d hC2 d11).2.1, c_clear (ca_d hC2 d11).2, jT_s4, jP_s4, jI_s4, cP19_3 hC2, cT21 hC2, (ca_g hC2 d11).1, (ca_g hC2 d11).2.1]
    have s3 : cs B z CDA μ2 (s4 μ2 (B + (23 + 4 * (dpt t r + 1))) (fun _ => 0)) := cs.q4 (cda_d _ d11)
    have hC3 := s3.ct hC2 hz
    rw [c_fill (ca_g hC3 d11).2, jcl_0]
    simp only [jck_true, jde_is, jlt_is, jcl_0, beq_self_eq_true, jT_sI, jT_sJ, jP_sI, jP_sJ, jJ_sI, jI_sJ, jZ_sI, jZ_sJ, jT_s4, jP_s4, cT19 hC2, cP19_0 hC2, cT15 hC2]
    have s4' : cs B z CDA (s4 μ2 (B + (23 + 4 * (dpt t r + 1))) (fun _ => 0)) (s4 (s4 μ2 (B + (23 + 4 * (dpt t r + 1))) (fun _ => 0)) (B + (25 + 4 * (dpt t r + 1))) (fun _ => -1)) := cs.q4 (cda_g _ d11)
    have a4 : cAt B (s4 (s4 μ2 (B + (23 + 4 * (dpt t r + 1))) (fun _ => 0)) (B + (25 + 4 * (dpt t r + 1))) (fun _ => -1)) l n k := (a2.ke (z := z) (as := [23 + 4 * (dpt t r + 1)]) (cs.q4 (by simp)) (by omega) (by simp; omega) (by simp; omega) (by simp; omega)).ke (z := z) (as := [25 + 4 * (dpt t r + 1)]) (cs.q4 (by simp)) (by omega) (by simp; omega) (by simp; omega) (by simp; omega)
    have J3 : ∀ x, x ≠ B + (23 + 4 * (dpt t r + 1)) → x ≠ B + (25 + 4 * (dpt t r + 1)) → jJ (s4 (s4 μ2 (B + (23 + 4 * (dpt t r + 1))) (fun _ => 0)) (B + (25 + 4 * (dpt t r + 1))) (fun _ => -1)) x = jJ μ2 x := fun x h1 h2 => by rw [jJ_s4_ne h2, jJ_s4_ne h1]
    have J4 : ∀ i, i < 4 → jJ (s4 (s4 μ2 (B + (23 + 4 * (dpt t r + 1))) (fun _ => 0)) (B + (25 + 4 * (dpt t r + 1))) (fun _ => -1)) (B + (23 + 4 * (dpt t r + 1))) i = 0 ∧ jJ (s4 (s4 μ2 (B + (23 + 4 * (dpt t r + 1))) (fun _ => 0)) (B + (25 + 4 * (dpt t r + 1))) (fun _ => -1)) (B + (25 + 4 * (dpt t r + 1))) i = -1 := fun i hi => ⟨by rw [jJ_s4_ne (by omega), jJ_s4 hi], by rw [jJ_s4 hi]⟩
    have I3 : jI (s4 (s4 μ2 (B + (23 + 4 * (dpt t r + 1))) (fun _ => 0)) (B + (25 + 4 * (dpt t r + 1))) (fun _ => -1)) = jI μ2 := rfl
    have Z3 : jZ (s4 (s4 μ2 (B + (23 + 4 * (dpt t r + 1))) (fun _ => 0)) (B + (25 + 4 * (dpt t r + 1))) (fun _ => -1)) = jZ μ2 := rfl
    have s34 := s3.tr s4'
    generalize s4 (s4 μ2 (B + (23 + 4 * (dpt t r + 1))) (fun _ => 0)) (B + (25 + 4 * (dpt t r + 1))) (fun _ => -1) = μ4 at s34 a4 J3 J4 I3 Z3 ⊢
    have hC4 := s34.ct hC2 hz
    obtain ⟨_, ν, e, s5, a5⟩ := c_step (z := z) hC4 a4 (by rcases hk with e | e <;> rw [e] <;> decide) (by omega)
    rw [e, jcl_0]
    have i5 : ∀ j, j ≠ 15 → B + j < z → jI ν (B + j) = jI μ4 (B + j) := fun j hj hz => s5.1.iI hz (by simpa using hj)
    have j5 : ∀ j, j ≠ 15 → B + j < z → jJ ν (B + j) = jJ μ4 (B + j) := fun j hj hz => s5.1.iJ hz (by simpa using hj)
    have z5 : jZ ν = jZ μ4 := s5.2
    have n66 : ∀ j, jI ν (B + 66) j = if j = dpt t r + 1 then s0 else jI μ (B + 66) j := fun j => by rw [i5 66 (by decide) (by omega), I3]; exact m66 j
    refine ⟨ν, rfl, ⟨((s1.tr s2).tr s34).tr (s5.1.wk (by decide)), ?_, by rw [z5, Z3, mZ, kZ]⟩, a5, ?_, ?_, n66, fun d hd => ?_, fun i hi => ?_⟩
    · rw [n66, if_neg (by omega)]
    · rw [i5 19 (by decide) (by omega), I3]; exact e52
    · rw [i5 19 (by decide) (by omega), I3, m19]; exact k6
    · rw [j5 _ (by omega) (by omega), j5 _ (by omega) (by omega), J3 _ (by omega) (by omega), J3 _ (by omega) (by omega), mJ, kJ]; exact ⟨rfl, rfl⟩
    · rw [j5 _ (by omega) (by omega), j5 _ (by omega) (by omega)]; exact J4 i hi
  simp only [lg_cmp_0]
  rcases hk with hk | hk
  · rw [if_pos hk]
    obtain ⟨ν, e, c1, a1, f5, f6, n66, lo, -⟩ := key 1 (Or.inr rfl)
    refine ⟨ν, e, c1, a1, fun _ => ⟨?_, ?_, f6, ?_⟩, fun q => by rw [hk] at q; exact absurd q (by decide)⟩
    · rw [f5]; congr 1; rw [dpt_bs, dpt_bs]; omega
    · rw [dpt_bs] at hd ⊢; show t.1 + 1 + bs r ≤ 10; omega
    · refine lvs.mk ?_ (fun b s hr => ?_)
      · have T := d4.top
        have hb := dpt_bs t r
        refine ⟨by rw [n66, if_neg (by omega)]; exact T.1, fun j h1 h2 => ?_, fun w i hi => ?_⟩
        · rw [n66]
          have h2 : j ≤ t.1 + 1 := h2
          by_cases e : bs r + j = dpt t r + 1
          · rw [if_pos e]
          · rw [if_neg e]; exact T.2.1 j h1 (by omega)
        · rw [(lo (bs r) (by omega)).1, (lo (bs r) (by omega)).2]; exact T.2.2 w i hi
      · subst hr
        have hb := dpt_bs t (b :: s)
        have hb2 := bs_cons b s
        exact lvs.lo s b d4.2 (fun j hj => by rw [n66, if_neg (by omega)]) (fun d hd => lo d (by omega))
  · rw [if_neg (by rw [hk]; decide)]
    obtain ⟨ν, e, c1, a1, f5, f6, n66, lo, up⟩ := key 0 (Or.inl rfl)
    have hb2 := bs_cons t r
    refine ⟨ν, e, c1, a1, fun q => by rw [hk] at q; exact absurd q (by decide), fun _ => ⟨?_, ?_, f6, ?_⟩⟩
    · rw [f5]; congr 1; show dpt t r + 1 = 0 + bs (t :: r); omega
    · show 0 + bs (t :: r) ≤ 10; omega
    · refine ⟨⟨?_, fun j h1 h2 => ?_, fun w i hi => ?_⟩, lvs.lo r t d4 (fun j hj => by rw [n66, if_neg (by omega)]) (fun d hd => lo d hd)⟩
      · rw [n66, hb2, if_pos rfl]
      · have h2 : j ≤ 0 := h2
        omega
      · rw [hb2]; exact up i hi
