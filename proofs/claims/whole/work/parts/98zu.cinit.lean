/-! the class: its making. RM: so many cells are made, and these references are set -/
def RM (B : Nat) (μ0 : JM) (K : Nat) (ps : List (Nat × Nat × Nat)) (c1 : Nat → Int32) (c2 : Nat → Int64) (μ : JM) : Prop :=
  jZ μ = B + K ∧ (∀ a, a < B → sameC μ0 μ a) ∧ (∀ i, i < K → jT μ (B + i) = (ckin.getD i (0, 0, 0)).2) ∧ (∀ i k, i < K → jP μ (B + i) k = (ps.find? (fun e => e.1 == i && e.2.1 == k)).map (fun e => B + e.2.2)) ∧ (∀ i, i < K → jI μ (B + i) = if i = 1 then c1 else fun _ => 0) ∧ ∀ i, i < K → jJ μ (B + i) = if i = 2 then c2 else fun _ => 0
theorem RM.nw {B K t n : Nat} {μ0 μ : JM} {ps : List (Nat × Nat × Nat)} {c1 : Nat → Int32} {c2 : Nat → Int64} (h : RM B μ0 K ps c1 c2 μ) (ht : (ckin.getD K (0, 0, 0)).2 = (t, n)) (hp : ∀ e ∈ ps, e.1 ≠ K) (h1 : K = 1 → c1 = fun _ => 0) (h2 : K = 2 → c2 = fun _ => 0) : RM B μ0 (K + 1) ps c1 c2 (jnew μ t n) := by
  obtain ⟨z, a1, a2, a3, a4, a5⟩ := h
  refine ⟨by rw [jZ_nw, z]; omega, fun a ha => ?_, fun i hi => ?_, fun i k hi => ?_, fun i hi => ?_, fun i hi => ?_⟩
  · exact (a1 a ha).tr ⟨by rw [jT_nw, if_neg (by omega)], by rw [jI_nw, if_neg (by omega)], by rw [jJ_nw, if_neg (by omega)], by rw [jP_nw, if_neg (by omega)]⟩
  · rw [jT_nw]
    by_cases c : i = K
    · rw [if_pos (by omega), c, ht]
    · rw [if_neg (by omega)]; exact a2 i (by omega)
  · rw [jP_nw]
    by_cases c : i = K
    · rw [if_pos (by omega)]
      have : ps.find? (fun e => e.1 == i && e.2.1 == k) = none := List.find?_eq_none.mpr fun e he => by
        have := hp e he
        simp only [Bool.and_eq_true, beq_iff_eq, not_and]
        intro z; omega
      rw [this]; rfl
    · rw [if_neg (by omega)]; exact a3 i k (by omega)
  · rw [jI_nw]
    by_cases c : i = K
    · rw [if_pos (by omega)]
      by_cases d : i = 1
      · rw [if_pos d, h1 (by omega)]
      · rw [if_neg d]
    · rw [if_neg (by omega)]; exact a4 i (by omega)
  · rw [jJ_nw]
    by_cases c : i = K
    · rw [if_pos (by omega)]
      by_cases d : i = 2
      · rw [if_pos d, h2 (by omega)]
      · rw [if_neg d]
    · rw [if_neg (by omega)]; exact a5 i (by omega)
theorem RM.sP {B K i k j : Nat} {μ0 μ : JM} {ps : List (Nat × Nat × Nat)} {c1 : Nat → Int32} {c2 : Nat → Int64} (h : RM B μ0 K ps c1 c2 μ) (hi : i < K) : RM B μ0 K ((i, k, j) :: ps) c1 c2 (jsP μ (B + i) k (some (B + j))) := by
  obtain ⟨z, a1, a2, a3, a4, a5⟩ := h
  refine ⟨z, fun a ha => (a1 a ha).tr (sameC.sP (by omega)), a2, fun x y hx => ?_, a4, a5⟩
  rw [jP_sP, List.find?_cons]
  by_cases c : x = i ∧ y = k
  · rw [if_pos ⟨by omega, c.2⟩]
    have : ((i, k, j).1 == x && (i, k, j).2.1 == y) = true := by rw [c.1, c.2]; simp
    rw [this]; rfl
  · rw [if_neg (fun t => c ⟨by omega, t.2⟩)]
    have : ((i, k, j).1 == x && (i, k, j).2.1 == y) = false := by
      rw [Bool.and_eq_false_iff]
      simp only [beq_eq_false_iff_ne]
      by_cases d : i = x
      · exact Or.inr (fun e => c ⟨d.symm, e.symm⟩)
      · exact Or.inl d
    rw [this]
    exact a3 x y hx
/-- WORDS of so many -/
theorem RM.words {B K i : Nat} {n : Int32} {m : Nat} {β : Type} {μ0 μ : JM} {ps : List (Nat × Nat × Nat)} {c1 : Nat → Int32} {c2 : Nat → Int64} {f : Nat → JM → JO β} {Q : β → JM → Nat → Nat → Prop} (h : RM B μ0 K ps c1 c2 μ) (hi : i = K) (hn : jmax n 0 = nI m) (hm : m < 2 ^ 20) (k1 : (ckin.getD K (0, 0, 0)).2 = (10, 0)) (k2 : (ckin.getD (K + 1) (0, 0, 0)).2 = (102, m)) (hp : ∀ e ∈ ps, e.1 < K) (h1 : K = 1 → c1 = (fun _ => 0) ∧ c2 = fun _ => 0) (h2 : 1 ≤ K ∧ K ≠ 2)
    (g : ∀ ν, RM B μ0 (K + 2) ((K, 0, K + 1) :: ps) c1 c2 ν → Rq (f (B + K) ν) (fun r ρ c s => Q r ρ (2 + c) (m + 2 + s))) : Rq (jnwo μ 10 2 fun q μ2 => jcl (fX9_init q n μ2) fun _ μ3 => f q μ3) Q := by
  have z := h.1
  refine Rq.nwo ?_
  have r1 := h.nw k1 (fun e he => by have := hp e he; omega) (fun e => (h1 e).1) (fun e => absurd e h2.2)
  have r2 := r1.nw k2 (fun e he => by have := hp e he; omega) (fun e => by omega) (fun e => (h1 (by omega)).2)
  have r3 := r2.sP (i := K) (k := 0) (j := K + 1) (by omega)
  have T : jT (jnew (jnew μ 10 0) 102 m) (B + K) = (10, 0) := by rw [r2.2.2.1 K (by omega), k1]
  have e : fX9_init (jZ μ) n (jnew μ 10 0) = some ((), jsP (jnew (jnew μ 10 0) 102 m) (B + K) 0 (some (B + (K + 1))), 1, m) := by
    unfold fX9_init
    rw [hn, nI_clamp (show m < 2 ^ 31 by omega), jck_of (decide_eq_true (nI_pos (by omega))), jck_of (decide_eq_true (by omega))]
    unfold jnw
    simp only [jcl, jlt_is, z]
    have z1 : jZ (jnew μ 10 0) = B + (K + 1) := r1.1
    rw [z1, jck_of (by rw [T]; rfl)]
    rfl
  refine Rq.eq e ?_
  rw [z]
  refine (g _ r3).mono fun r ρ c s q => ?_
  rw [show 1 + (1 + c) = 2 + c by omega, show 2 + (m + s) = m + 2 + s by omega]; exact q
/-- a SHEET of so many -/
theorem RM.sheet {B K : Nat} {n : Int32} {m : Nat} {β : Type} {μ0 μ : JM} {ps : List (Nat × Nat × Nat)} {c1 : Nat → Int32} {c2 : Nat → Int64} {f : Nat → JM → JO β} {Q : β → JM → Nat → Nat → Prop} (h : RM B μ0 K ps c1 c2 μ) (hn : jmax n 0 = nI m) (hm : m < 2 ^ 20) (k1 : (ckin.getD K (0, 0, 0)).2 = (7, 0)) (k2 : (ckin.getD (K + 1) (0, 0, 0)).2 = (100, m)) (hp : ∀ e ∈ ps, e.1 < K) (h2 : 3 ≤ K)
    (g : ∀ ν, RM B μ0 (K + 2) ((K, 1, 1) :: (K, 0, K + 1) :: ps) c1 c2 ν → Rq (f (B + K) ν) (fun r ρ c s => Q r ρ (2 + c) (m + 4 + s))) : Rq (jnwo μ 7 4 fun q μ2 => jcl (fX6_init q n (some (B + 1)) μ2) fun _ μ3 => f q μ3) Q := by
  have z := h.1
  refine Rq.nwo ?_
  have r1 := h.nw k1 (fun e he => by have := hp e he; omega) (fun e => by omega) (fun e => by omega)
  have r2 := r1.nw k2 (fun e he => by have := hp e he; omega) (fun e => by omega) (fun e => by omega)
  have r3 := r2.sP (i := K) (k := 0) (j := K + 1) (by omega)
  have r4 := r3.sP (i := K) (k := 1) (j := 1) (by omega)
  have T : jT (jnew (jnew μ 7 0) 100 m) (B + K) = (7, 0) := by rw [r2.2.2.1 K (by omega), k1]
  have e : fX6_init (jZ μ) n (some (B + 1)) (jnew μ 7 0) = some ((), jsP (jsP (jnew (jnew μ 7 0) 100 m) (B + K) 0 (some (B + (K + 1)))) (B + K) 1 (some (B + 1)), 1, m) := by
    unfold fX6_init
    rw [hn, nI_clamp (show m < 2 ^ 31 by omega), jck_of (decide_eq_true (nI_pos (by omega))), jck_of (decide_eq_true (by omega))]
    unfold jnw
    simp only [jcl, jlt_is, z]
    have z1 : jZ (jnew μ 7 0) = B + (K + 1) := r1.1
    rw [z1, jck_of (by rw [T]; rfl)]
    rfl
  refine Rq.eq e ?_
  rw [z]
  refine (g _ r4).mono fun r ρ c s q => ?_
  rw [show 1 + (1 + c) = 2 + c by omega, show 4 + (m + s) = m + 4 + s by omega]; exact q
/-- CASES -/
theorem RM.cases {B K : Nat} {β : Type} {μ0 μ : JM} {ps : List (Nat × Nat × Nat)} {c1 : Nat → Int32} {c2 : Nat → Int64} {f : Nat → JM → JO β} {Q : β → JM → Nat → Nat → Prop} (h : RM B μ0 K ps c1 c2 μ) (k1 : (ckin.getD K (0, 0, 0)).2 = (2, 0)) (k2 : (ckin.getD (K + 1) (0, 0, 0)).2 = (102, 4)) (hp : ∀ e ∈ ps, e.1 < K) (h2 : 3 ≤ K)
    (g : ∀ ν, RM B μ0 (K + 2) ((K, 0, K + 1) :: ps) c1 c2 ν → Rq (f (B + K) ν) (fun r ρ c s => Q r ρ (2 + c) (5 + s))) : Rq (jnwo μ 2 1 fun q μ2 => jcl (fX1_init q μ2) fun _ μ3 => f q μ3) Q := by
  have z := h.1
  refine Rq.nwo ?_
  have r1 := h.nw k1 (fun e he => by have := hp e he; omega) (fun e => by omega) (fun e => by omega)
  have r2 := r1.nw k2 (fun e he => by have := hp e he; omega) (fun e => by omega) (fun e => by omega)
  have r3 := r2.sP (i := K) (k := 0) (j := K + 1) (by omega)
  have T : jT (jnew (jnew μ 2 0) 102 4) (B + K) = (2, 0) := by rw [r2.2.2.1 K (by omega), k1]
  have e : fX1_init (jZ μ) (jnew μ 2 0) = some ((), jsP (jnew (jnew μ 2 0) 102 4) (B + K) 0 (some (B + (K + 1))), 1, 4) := by
    unfold fX1_init jnw
    simp only [jcl, jlt_is, z]
    have z1 : jZ (jnew μ 2 0) = B + (K + 1) := r1.1
    rw [z1, jck_of (by rw [T]; rfl)]
  refine Rq.eq e ?_
  rw [z]
  refine (g _ r3).mono fun r ρ c s q => ?_
  rw [show 1 + (1 + c) = 2 + c by omega, show 1 + (4 + s) = 5 + s by omega]; exact q
