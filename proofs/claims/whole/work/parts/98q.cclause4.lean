/-! the class: Reader.readClause -/
def RDM : List Nat := [18, 15, 19, 66, 68, 23, 25, 27, 29, 31, 33, 35, 37, 39, 41, 43, 45, 47, 49, 51, 53, 55, 57, 59, 61, 63, 65, 11, 12, 13, 14]
theorem rdm_lt : ∀ i ∈ RDM, i < 121 := by decide
theorem rdl_rdm : ∀ i ∈ RDL, i ∈ RDM := by decide
theorem cr.rf {B z : Nat} {as : List Nat} {μ : JM} : cr B z as μ μ := cs.rf.tocr
theorem cr.tr {B z : Nat} {as : List Nat} {μ ν ρ : JM} (h : cr B z as μ ν) (g : cr B z as ν ρ) : cr B z as μ ρ := ⟨Nat.le_trans h.1 g.1, fun a ha => (g.2.1 a (Nat.lt_of_lt_of_le ha h.1)).trans (h.2.1 a ha), fun a k h1 h2 => (g.2.2.1 a k h1 h2).trans (h.2.2.1 a k h1 h2), fun a h1 h2 => ⟨(g.2.2.2 a h1 h2).1.trans (h.2.2.2 a h1 h2).1, (g.2.2.2 a h1 h2).2.trans (h.2.2.2 a h1 h2).2⟩⟩
theorem cr.wk {B z : Nat} {as bs : List Nat} {μ ν : JM} (h : cr B z as μ ν) (hw : ∀ i ∈ as, i ∈ bs) : cr B z bs μ ν := ⟨h.1, h.2.1, h.2.2.1, fun a h1 h2 => h.2.2.2 a h1 (fun i hi => h2 i (hw i hi))⟩
theorem cr.lo {B z y : Nat} {as : List Nat} {μ ν : JM} (h : cr B z as μ ν) (hy : y ≤ z) : cr B y as μ ν := ⟨h.1, h.2.1, fun a k h1 h2 => h.2.2.1 a k (by omega) h2, fun a h1 h2 => h.2.2.2 a (by omega) h2⟩
theorem cr.ct {B z : Nat} {as : List Nat} {μ ν : JM} (h : cr B z as μ ν) (hC : CT B μ) (hz : B + 121 ≤ z) : CT B ν := by
  refine ⟨fun e he => ?_, fun e he => ?_, Nat.le_trans hC.2.2 h.1⟩
  · have : ∀ e ∈ ckin, e.1 < 121 := by decide
    rw [h.2.1 _ (by have := this e he; have := hC.2.2; omega)]; exact hC.1 e he
  · have : ∀ e ∈ cptr, e.1 < 121 ∧ ¬ (e.1 = 18 ∧ e.2.1 = 6) := by decide
    have := this e he
    rw [h.2.2.1 _ _ (by omega) (fun q => this.2 ⟨by omega, q.2⟩)]; exact hC.2.1 e he
theorem cr.iI {B z : Nat} {as : List Nat} {μ ν : JM} (h : cr B z as μ ν) {i : Nat} (hz : B + i < z) (hi : i ∉ as) : jI ν (B + i) = jI μ (B + i) := (h.2.2.2 (B + i) hz (fun j hj e => hi (by rw [show i = j by omega]; exact hj))).1
theorem cr.iJ {B z : Nat} {as : List Nat} {μ ν : JM} (h : cr B z as μ ν) {i : Nat} (hz : B + i < z) (hi : i ∉ as) : jJ ν (B + i) = jJ μ (B + i) := (h.2.2.2 (B + i) hz (fun j hj e => hi (by rw [show i = j by omega]; exact hj))).2
theorem cr.iP {B z : Nat} {as : List Nat} {μ ν : JM} (h : cr B z as μ ν) {i : Nat} (hz : B + i < z) (hi : i ≠ 18) : jP ν (B + i) = jP μ (B + i) := funext fun k => h.2.2.1 (B + i) k hz (fun q => hi (by omega))
theorem cr.dyn {B z : Nat} {as : List Nat} {μ ν : JM} (s : cr B z as μ ν) (ha : ∀ i ∈ as, i < 121) (hz : z ≤ jZ μ) : ∀ x, B + 121 ≤ x → x < z → sameC μ ν x := fun x h1 h2 => ⟨s.2.1 x (by omega), (s.2.2.2 x h2 (fun i hi => by have := ha i hi; omega)).1, (s.2.2.2 x h2 (fun i hi => by have := ha i hi; omega)).2, funext fun k => s.2.2.1 x k h2 (fun e => by omega)⟩
theorem cr.lP {B z : Nat} {as : List Nat} {μ : JM} {v : Option Nat} : cr B z as μ (jsP μ (B + 18) 6 v) := ⟨Nat.le_refl _, fun _ _ => rfl, fun b j _ hq => by rw [jP_sP, if_neg hq], fun b _ _ => ⟨rfl, rfl⟩⟩
/-- a new CLAUSE -/
theorem c_newCl {μ : JM} : ∃ ν, fX2_init (jZ μ) (jnew μ 3 0) = some ((), ν, 2, 5) ∧ jZ ν = jZ μ + 3 ∧ (∀ x, x < jZ μ → sameC μ ν x) ∧ cX ν (jZ μ) 0 0 (-1) (-1) (-1) (-1) 0 := by
  obtain ⟨a, ha⟩ : ∃ a, a = jZ μ := ⟨_, rfl⟩
  rw [← ha]
  have T0 : jT (jnew μ 3 0) a = (3, 0) := by rw [jT_nw, if_pos ha]
  have I0 : jI (jnew μ 3 0) a = fun _ => 0 := by rw [jI_nw, if_pos ha]
  have J0 : jJ (jnew μ 3 0) a = fun _ => 0 := by rw [jJ_nw, if_pos ha]
  have Z0 : jZ (jnew μ 3 0) = a + 1 := by rw [jZ_nw, ha]
  have lo0 : ∀ x, x < a → sameC μ (jnew μ 3 0) x := fun x hx => ⟨by rw [jT_nw, if_neg (by omega)], by rw [jI_nw, if_neg (by omega)], by rw [jJ_nw, if_neg (by omega)], by rw [jP_nw, if_neg (by omega)]⟩
  unfold fX2_init
  rw [jck_of (by rw [T0]; rfl)]
  simp only [jlt_is]
  generalize jnew μ 3 0 = μ0 at T0 I0 J0 Z0 lo0 ⊢
  have I1 : ∀ j, jI (jsI (jsI (jsI (jsI (jsI μ0 a 0 0) a 2 (-1)) a 3 (-1)) a 4 (-1)) a 5 (-1)) a j = if j = 2 ∨ j = 3 ∨ j = 4 ∨ j = 5 then -1 else 0 := by
    intro j
    simp only [jI_sI, I0, true_and]
    by_cases q5 : j = 5
    · simp [q5]
    · by_cases q4 : j = 4
      · simp [q4]
      · by_cases q3 : j = 3
        · simp [q3]
        · by_cases q2 : j = 2
          · simp [q2]
          · simp [q5, q4, q3, q2]
  have T1 : jT (jsI (jsI (jsI (jsI (jsI μ0 a 0 0) a 2 (-1)) a 3 (-1)) a 4 (-1)) a 5 (-1)) = jT μ0 := rfl
  have J1 : jJ (jsI (jsI (jsI (jsI (jsI μ0 a 0 0) a 2 (-1)) a 3 (-1)) a 4 (-1)) a 5 (-1)) = jJ μ0 := rfl
  have P1 : jP (jsI (jsI (jsI (jsI (jsI μ0 a 0 0) a 2 (-1)) a 3 (-1)) a 4 (-1)) a 5 (-1)) = jP μ0 := rfl
  have Z1 : jZ (jsI (jsI (jsI (jsI (jsI μ0 a 0 0) a 2 (-1)) a 3 (-1)) a 4 (-1)) a 5 (-1)) = jZ μ0 := rfl
  have lo1 : ∀ x, x < a → jI (jsI (jsI (jsI (jsI (jsI μ0 a 0 0) a 2 (-1)) a 3 (-1)) a 4 (-1)) a 5 (-1)) x = jI μ0 x := fun x hx => by rw [jI_sI_ne (by omega), jI_sI_ne (by omega), jI_sI_ne (by omega), jI_sI_ne (by omega), jI_sI_ne (by omega)]
  generalize jsI (jsI (jsI (jsI (jsI μ0 a 0 0) a 2 (-1)) a 3 (-1)) a 4 (-1)) a 5 (-1) = μ1 at I1 T1 J1 P1 Z1 lo1 ⊢
  have Z1' : jZ μ1 = a + 1 := by rw [Z1, Z0]
  -- its CASES
  unfold jnwo fX1_init jnw
  simp only [jcl, jlt_is]
  have T2 : jT (jnew (jnew μ1 2 0) 102 4) (jZ μ1) = (2, 0) := by rw [jT_nw, if_neg (by rw [jZ_nw]; omega), jT_nw, if_pos rfl]
  rw [jck_of (by rw [T2]; rfl)]
  have Ta : jT (jnew (jnew μ1 2 0) 102 4) a = (3, 0) := by rw [jT_nw, if_neg (by rw [jZ_nw]; omega), jT_nw, if_neg (by omega), T1]; exact T0
  simp only [jT_sP]
  rw [jck_of (by rw [Ta]; rfl)]
  refine ⟨_, rfl, ?_, fun x hx => ?_, ?_⟩
  · show jZ (jnew (jnew μ1 2 0) 102 4) = _
    rw [jZ_nw, jZ_nw, Z1']
  · obtain ⟨b1, b2, b3, b4⟩ := lo0 x hx
    refine ⟨?_, ?_, ?_, ?_⟩
    · rw [jT_sP, jT_sP, jT_nw, if_neg (by rw [jZ_nw]; omega), jT_nw, if_neg (by omega), T1]; exact b1
    · rw [jI_sP, jI_sP, jI_nw, if_neg (by rw [jZ_nw]; omega), jI_nw, if_neg (by omega), lo1 x hx]; exact b2
    · rw [jJ_sP, jJ_sP, jJ_nw, if_neg (by rw [jZ_nw]; omega), jJ_nw, if_neg (by omega), J1]; exact b3
    · rw [jP_sP_ne (by omega), jP_sP_ne (by omega), jP_nw, if_neg (by rw [jZ_nw]; omega), jP_nw, if_neg (by omega), P1]; exact b4
  · have Ia : ∀ j, jI (jnew (jnew μ1 2 0) 102 4) a j = if j = 2 ∨ j = 3 ∨ j = 4 ∨ j = 5 then -1 else 0 := fun j => by rw [jI_nw, if_neg (by rw [jZ_nw]; omega), jI_nw, if_neg (by omega)]; exact I1 j
    refine ⟨by rw [jT_sP, jT_sP, Ta], by rw [jP_sP, if_pos ⟨rfl, rfl⟩, Z1'], ⟨?_, ?_, ?_⟩, ?_, ?_, ?_, ?_, ?_, ?_, ?_⟩
    · rw [jT_sP, jT_sP, ← Z1', T2]
    · rw [jP_sP_ne (by omega), jP_sP, if_pos ⟨by omega, rfl⟩, jZ_nw, Z1']
    · rw [jT_sP, jT_sP, jT_nw, if_pos (by rw [jZ_nw, Z1'])]
    · rw [jI_sP, jI_sP, Ia]; decide
    · rw [jJ_sP, jJ_sP, jJ_nw, if_neg (by rw [jZ_nw]; omega), jJ_nw, if_neg (by omega), J1, J0]
    · rw [jI_sP, jI_sP, Ia]; decide
    · rw [jI_sP, jI_sP, Ia]; decide
    · rw [jI_sP, jI_sP, Ia]; decide
    · rw [jI_sP, jI_sP, Ia]; decide
    · rw [jI_sP, jI_sP, Ia]; decide
