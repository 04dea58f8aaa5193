/-! the class: its making -/
theorem RM.ob {B K : Nat} {μ0 μ : JM} {ps : List (Nat × Nat × Nat)} {c1 : Nat → Int32} {c2 : Nat → Int64} (h : RM B μ0 K ps c1 c2 μ) (hK : 0 < K) : ((jT μ B).1 == 11) = true := by
  have : jT μ B = (11, 0) := h.2.2.1 0 hK
  rw [this]; rfl
theorem RM.sB {B K k j : Nat} {μ0 μ : JM} {ps : List (Nat × Nat × Nat)} {c1 : Nat → Int32} {c2 : Nat → Int64} (h : RM B μ0 K ps c1 c2 μ) (hK : 0 < K) : RM B μ0 K ((0, k, j) :: ps) c1 c2 (jsP μ B k (some (B + j))) := h.sP (i := 0) hK
theorem RM.zero {μ0 : JM} : RM (jZ μ0) μ0 1 [] (fun _ => 0) (fun _ => 0) (jnew μ0 11 0) :=
  RM.nw (K := 0) ⟨rfl, fun _ _ => sameC.rf, fun i hi => absurd hi (by omega), fun i k hi => absurd hi (by omega), fun i hi => absurd hi (by omega), fun i hi => absurd hi (by omega)⟩ (by decide) (fun e he => by cases he) (fun e => by omega) (fun e => by omega)
/-- TEXT -/
theorem RM.text {B : Nat} {β : Type} {μ0 μ : JM} {ps : List (Nat × Nat × Nat)} {c1 : Nat → Int32} {c2 : Nat → Int64} {f : Nat → JM → JO β} {Q : β → JM → Nat → Nat → Prop} (h : RM B μ0 15 ps c1 c2 μ) (hp : ∀ e ∈ ps, e.1 < 15)
    (g : ∀ ν, RM B μ0 18 ((15, 2, 17) :: (15, 1, 16) :: (15, 0, 1) :: ps) c1 c2 ν → Rq (f (B + 15) ν) (fun r ρ c s => Q r ρ (3 + c) (1807 + s))) : Rq (jnwo μ 8 6 fun q μ2 => jcl (fX7_init q (some (B + 1)) μ2) fun _ μ3 => f q μ3) Q := by
  have z := h.1
  refine Rq.nwo ?_
  have r1 := h.nw (t := 8) (n := 0) (by decide) (fun e he => by have := hp e he; omega) (fun e => by omega) (fun e => by omega)
  have r2 := r1.sP (i := 15) (k := 0) (j := 1) (by omega)
  have r3 := r2.nw (t := 102) (n := 900) (by decide) (fun e he => by
    rcases List.mem_cons.mp he with rfl | he
    · show 15 ≠ 16; omega
    · have := hp e he; omega) (fun e => by omega) (fun e => by omega)
  have r4 := r3.sP (i := 15) (k := 1) (j := 16) (by omega)
  have r5 := r4.nw (t := 101) (n := 901) (by decide) (fun e he => by
    rcases List.mem_cons.mp he with rfl | he
    · show 15 ≠ 17; omega
    · rcases List.mem_cons.mp he with rfl | he
      · show 15 ≠ 17; omega
      · have := hp e he; omega) (fun e => by omega) (fun e => by omega)
  have r6 := r5.sP (i := 15) (k := 2) (j := 17) (by omega)
  have t1 : jT (jnew μ 8 0) (B + 15) = (8, 0) := r1.tk (by omega)
  have t3 : jT (jnew (jsP (jnew μ 8 0) (B + 15) 0 (some (B + 1))) 102 900) (B + 15) = (8, 0) := r3.tk (by omega)
  have t5 : jT (jnew (jsP (jnew (jsP (jnew μ 8 0) (B + 15) 0 (some (B + 1))) 102 900) (B + 15) 1 (some (B + 16))) 101 901) (B + 15) = (8, 0) := r5.tk (by omega)
  rw [z]
  refine Rq.cl (P := fun _ ν c m => c = 2 ∧ m = 1801 ∧ RM B μ0 18 ((15, 2, 17) :: (15, 1, 16) :: (15, 0, 1) :: ps) c1 c2 ν) ?_ fun _ ν c m ⟨e1, e2, r⟩ => ?_
  · unfold fX7_init
    rw [jck_of (by rw [t1]; rfl)]
    simp only [jlt_is]
    refine Rq.nw ?_
    rw [jck_of (by rw [t3]; rfl), r2.1]
    refine Rq.nw ?_
    rw [jck_of (by rw [t5]; rfl), r4.1]
    exact .ret ⟨rfl, rfl, r6⟩
  · subst e1 e2
    refine (g ν r).mono fun r ρ c s q => ?_
    rw [show 1 + (2 + c) = 3 + c by omega, show 6 + (1801 + s) = 1807 + s by omega]; exact q
/-- READER -/
theorem RM.reader {B : Nat} {μ0 μ : JM} {ps : List (Nat × Nat × Nat)} {c1 : Nat → Int32} {c2 : Nat → Int64} (h : RM B μ0 19 ps c1 c2 μ) (hp : ∀ e ∈ ps, e.1 < 18) : Rq (fX4_init (B + 18) (some (B + 15)) (some (B + 9)) (some (B + 11)) (some (B + 13)) μ) (fun _ ν c m => c = 50 ∧ m = 156 ∧ RM B μ0 69 ((18, 4, 19) :: psF ((19, 3, 21) :: (19, 2, 20) :: (19, 1, 9) :: (19, 0, 15) :: (18, 3, 13) :: (18, 2, 11) :: (18, 1, 9) :: (18, 0, 15) :: ps)) c1 c2 ν) := by
  have hm : ∀ (L : List (Nat × Nat × Nat)) (n : Nat), (∀ e ∈ L, e.1 < n) → 18 ≤ n → ∀ e ∈ L ++ ps, e.1 < n := fun L n hL hn e he => by
    rcases List.mem_append.mp he with t | t
    · exact hL e t
    · have := hp e t; omega
  have t0 : jT μ (B + 18) = (5, 0) := h.tk (by omega)
  unfold fX4_init
  rw [jck_of (by rw [t0]; rfl)]
  simp only [jlt_is]
  have r1 := (((h.sP (i := 18) (k := 0) (j := 15) (by omega)).sP (i := 18) (k := 1) (j := 9) (by omega)).sP (i := 18) (k := 2) (j := 11) (by omega)).sP (i := 18) (k := 3) (j := 13) (by omega)
  generalize jsP (jsP (jsP (jsP μ (B + 18) 0 (some (B + 15))) (B + 18) 1 (some (B + 9))) (B + 18) 2 (some (B + 11))) (B + 18) 3 (some (B + 13)) = μ1 at r1 ⊢
  refine Rq.nwo ?_
  have r2 := r1.nw (t := 4) (n := 0) (by decide) (fun e he => by have := hm [(18, 3, 13), (18, 2, 11), (18, 1, 9), (18, 0, 15)] 19 (by decide) (by decide) e he; omega) (fun e => by omega) (fun e => by omega)
  rw [r1.1]
  generalize jnew μ1 4 0 = μ2 at r2 ⊢
  refine Rq.cl (P := fun _ ν c m => c = 49 ∧ m = 148 ∧ RM B μ0 69 (psF ((19, 3, 21) :: (19, 2, 20) :: (19, 1, 9) :: (19, 0, 15) :: (18, 3, 13) :: (18, 2, 11) :: (18, 1, 9) :: (18, 0, 15) :: ps)) c1 c2 ν) ?_ fun _ ν c m ⟨e1, e2, r⟩ => ?_
  · have t2 : jT μ2 (B + 19) = (4, 0) := r2.tk (by omega)
    unfold fX3_init
    rw [jck_of (by rw [t2]; rfl)]
    simp only [jlt_is]
    have r3 := (r2.sP (i := 19) (k := 0) (j := 15) (by omega)).sP (i := 19) (k := 1) (j := 9) (by omega)
    generalize jsP (jsP μ2 (B + 19) 0 (some (B + 15))) (B + 19) 1 (some (B + 9)) = μ3 at r3 ⊢
    refine Rq.nw ?_
    have r4 := r3.nw (t := 104) (n := 11) (by decide) (fun e he => by have := hm [(19, 1, 9), (19, 0, 15), (18, 3, 13), (18, 2, 11), (18, 1, 9), (18, 0, 15)] 20 (by decide) (by decide) e he; omega) (fun e => by omega) (fun e => by omega)
    rw [r3.1]
    generalize jnew μ3 104 11 = μ4 at r4 ⊢
    have t4 : jT μ4 (B + 19) = (4, 0) := r4.tk (by omega)
    rw [jck_of (by rw [t4]; rfl)]
    have r5 := r4.sP (i := 19) (k := 2) (j := 20) (by omega)
    generalize jsP μ4 (B + 19) 2 (some (B + 20)) = μ5 at r5 ⊢
    refine Rq.nw ?_
    have r6 := r5.nw (t := 104) (n := 11) (by decide) (fun e he => by have := hm [(19, 2, 20), (19, 1, 9), (19, 0, 15), (18, 3, 13), (18, 2, 11), (18, 1, 9), (18, 0, 15)] 21 (by decide) (by decide) e he; omega) (fun e => by omega) (fun e => by omega)
    rw [r5.1]
    generalize jnew μ5 104 11 = μ6 at r6 ⊢
    have t6 : jT μ6 (B + 19) = (4, 0) := r6.tk (by omega)
    rw [jck_of (by rw [t6]; rfl)]
    have r7 := r6.sP (i := 19) (k := 3) (j := 21) (by omega)
    refine (cnd_l (fun e he => hm [(19, 3, 21), (19, 2, 20), (19, 1, 9), (19, 0, 15), (18, 3, 13), (18, 2, 11), (18, 1, 9), (18, 0, 15)] 22 (by decide) (by decide) e he) rfl rfl jfuel 0 _ (by omega) (jfuel_gt (by omega)) r7).mono fun _ ρ c m ⟨q1, q2, q3⟩ => ⟨by omega, by omega, q3⟩
  · subst e1 e2
    have t3 : jT ν (B + 18) = (5, 0) := r.tk (by omega)
    rw [jck_of (by rw [t3]; rfl)]
    exact .ret ⟨rfl, rfl, r.sP (i := 18) (k := 4) (j := 19) (by omega)⟩
