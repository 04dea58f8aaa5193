/-! the class: its making: COND -/
def psd (ps : List (Nat × Nat × Nat)) : Nat → List (Nat × Nat × Nat)
  | 0 => ps
  | d + 1 => (21, d, 24 + 4 * d) :: (24 + 4 * d, 0, 25 + 4 * d) :: (20, d, 22 + 4 * d) :: (22 + 4 * d, 0, 23 + 4 * d) :: psd ps d
theorem psd_lt {ps : List (Nat × Nat × Nat)} (h : ∀ e ∈ ps, e.1 < 22) : ∀ d, ∀ e ∈ psd ps d, e.1 < 22 + 4 * d
  | 0, e, he => h e he
  | d + 1, e, he => by
    rw [psd] at he
    rcases List.mem_cons.mp he with rfl | he
    · show 21 < _; omega
    · rcases List.mem_cons.mp he with rfl | he
      · show 24 + 4 * d < _; omega
      · rcases List.mem_cons.mp he with rfl | he
        · show 20 < _; omega
        · rcases List.mem_cons.mp he with rfl | he
          · show 22 + 4 * d < _; omega
          · have := psd_lt h d e he; omega
theorem psd_19 {ps : List (Nat × Nat × Nat)} {k : Nat} : ∀ d, (psd ps d).find? (fun e => e.1 == 19 && e.2.1 == k) = ps.find? (fun e => e.1 == 19 && e.2.1 == k)
  | 0 => rfl
  | d + 1 => by
    have ne : ∀ (a b c : Nat), a ≠ 19 → ((a, b, c).1 == 19 && (a, b, c).2.1 == k) = false := fun a b c h => by
      rw [Bool.and_eq_false_iff]; exact Or.inl (beq_eq_false_iff_ne.mpr h)
    rw [psd, List.find?_cons, ne _ _ _ (by omega)]
    dsimp only
    rw [List.find?_cons, ne _ _ _ (by omega)]
    dsimp only
    rw [List.find?_cons, ne _ _ _ (by omega)]
    dsimp only
    rw [List.find?_cons, ne _ _ _ (by omega)]
    exact psd_19 d
def psF (ps : List (Nat × Nat × Nat)) : List (Nat × Nat × Nat) := (19, 7, 67) :: (67, 0, 68) :: (19, 4, 66) :: psd ps 11
theorem ck_d : ∀ d, d < 11 → (ckin.getD (22 + 4 * d) (0, 0, 0)).2 = (2, 0) ∧ (ckin.getD (22 + 4 * d + 1) (0, 0, 0)).2 = (102, 4) ∧ (ckin.getD (22 + 4 * d + 2) (0, 0, 0)).2 = (2, 0) ∧ (ckin.getD (22 + 4 * d + 2 + 1) (0, 0, 0)).2 = (102, 4) := by decide +kernel
theorem RM.tk {B K i : Nat} {μ0 μ : JM} {ps : List (Nat × Nat × Nat)} {c1 : Nat → Int32} {c2 : Nat → Int64} (h : RM B μ0 K ps c1 c2 μ) (hi : i < K) : jT μ (B + i) = (ckin.getD i (0, 0, 0)).2 := h.2.2.1 i hi
theorem cnd_l {B : Nat} {μ0 : JM} {ps : List (Nat × Nat × Nat)} {c1 : Nat → Int32} {c2 : Nat → Int64} (hp : ∀ e ∈ ps, e.1 < 22) (h2 : ps.find? (fun e => e.1 == 19 && e.2.1 == 2) = some (19, 2, 20)) (h3 : ps.find? (fun e => e.1 == 19 && e.2.1 == 3) = some (19, 3, 21)) : ∀ (fu d : Nat) (μ : JM), d ≤ 11 → 11 - d < fu → RM B μ0 (22 + 4 * d) (psd ps d) c1 c2 μ → Rq (fX3_init_b34 fu (B + 19) (nI d) μ) (fun _ ν c m => c = 4 * (11 - d) + 3 ∧ m = 10 * (11 - d) + 16 ∧ RM B μ0 69 (psF ps) c1 c2 ν) := by
  intro fu
  induction fu with
  | zero => intro d μ _ q; omega
  | succ fu ih =>
    intro d μ hd hf R
    have k19 : (ckin.getD 19 (0, 0, 0)).2 = (4, 0) := by decide
    have k20 : (ckin.getD 20 (0, 0, 0)).2 = (104, 11) := by decide
    have k21 : (ckin.getD 21 (0, 0, 0)).2 = (104, 11) := by decide
    rw [fX3_init_b34]
    by_cases c : d = 11
    · subst c
      rw [if_pos (show (10 : Int32) < nI 11 by decide)]
      refine Rq.nw ?_
      have z := R.1
      have R1 := R.nw (t := 103) (n := 11) (by decide) (fun e he => by have := psd_lt hp 11 e he; omega) (fun e => by omega) (fun e => by omega)
      rw [z]
      have T1 : jT (jnew μ 103 11) (B + 19) = (4, 0) := by rw [R1.tk (by omega), k19]
      rw [jck_of (by rw [T1]; rfl)]
      simp only [jlt_is]
      have R2 := R1.sP (i := 19) (k := 4) (j := 66) (by omega)
      refine RM.cases R2 (by decide) (by decide) (fun e he => ?_) (by omega) fun ν R3 => ?_
      · rcases List.mem_cons.mp he with rfl | he
        · show 19 < _; omega
        · have := psd_lt hp 11 e he; omega
      · have T3 : jT ν (B + 19) = (4, 0) := by rw [R3.tk (by omega), k19]
        rw [jck_of (by rw [T3]; rfl)]
        exact .ret ⟨rfl, rfl, R3.sP (i := 19) (k := 7) (j := 67) (by omega)⟩
    · have hd2 : d < 11 := by omega
      obtain ⟨q1, q2, q3, q4⟩ := ck_d d hd2
      rw [if_neg (show ¬ (10 : Int32) < nI d from nI_nlt (a := 10) (by omega) (by decide))]
      have T0 : jT μ (B + 19) = (4, 0) := by rw [R.tk (by omega), k19]
      rw [jck_of (by rw [T0]; rfl)]
      have p2 : jP μ (B + 19) 2 = some (B + 20) := by rw [R.2.2.2.1 19 2 (by omega), psd_19, h2]; rfl
      rw [p2]
      refine RM.cases (f := fun q71 μ81 => jde (some (B + 20)) fun q89 => jck ((jT μ81 q89).1 == 104) <| jck (jin (nI d) (jT μ81 q89).2) <| jck ((jT μ81 q71).1 == 2) <| jlt (jsP μ81 q89 ((nI d)).toNatClampNeg (some q71)) fun μ94 => jck ((jT μ81 (B + 19)).1 == 4) <| jnwo μ94 2 1 fun q98 μ99 => jcl (fX1_init q98 μ99) fun u107 μ108 => jde (jP μ94 (B + 19) 3) fun q116 => jck ((jT μ108 q116).1 == 104) <| jck (jin (nI d) (jT μ108 q116).2) <| jck ((jT μ108 q98).1 == 2) <| jlt (jsP μ108 q116 ((nI d)).toNatClampNeg (some q98)) fun μ121 => fX3_init_b34 fu (B + 19) (nI d + (1 : Int32)) μ121) R q1 q2 (psd_lt hp d) (by omega) fun ν R1 => ?_
      have t20 : jT ν (B + 20) = (104, 11) := by rw [R1.tk (by omega), k20]
      have t22 : jT ν (B + (22 + 4 * d)) = (2, 0) := by rw [R1.tk (by omega), q1]
      have t19 : jT ν (B + 19) = (4, 0) := by rw [R1.tk (by omega), k19]
      simp only [jck_true, jde_is, jlt_is, jcl_0, beq_self_eq_true, jT_sI, jT_sJ, jP_sI, jP_sJ, jJ_sI, jI_sJ, jZ_sI, jZ_sJ, t20, t22, t19, jin_nI hd2 (show 11 < 2 ^ 31 by decide), nI_clamp (show d < 2 ^ 31 by omega)]
      have R2 := R1.sP (i := 20) (k := d) (j := 22 + 4 * d) (by omega)
      have p3 : jP (jsP ν (B + 20) d (some (B + (22 + 4 * d)))) (B + 19) 3 = some (B + 21) := by
        rw [jP_sP_ne (by omega), R1.2.2.2.1 19 3 (by omega), List.find?_cons]
        have : ((22 + 4 * d, 0, 22 + 4 * d + 1).1 == 19 && (22 + 4 * d, 0, 22 + 4 * d + 1).2.1 == 3) = false := by simp
        rw [this]
        dsimp only
        rw [psd_19, h3]; rfl
      rw [p3]
      refine RM.cases (f := fun q98 μ108 => jde (some (B + 21)) fun q116 => jck ((jT μ108 q116).1 == 104) <| jck (jin (nI d) (jT μ108 q116).2) <| jck ((jT μ108 q98).1 == 2) <| jlt (jsP μ108 q116 d (some q98)) fun μ121 => fX3_init_b34 fu (B + 19) (nI d + (1 : Int32)) μ121) R2 q3 q4 (fun e he => ?_) (by omega) fun ρ R3 => ?_
      · rcases List.mem_cons.mp he with rfl | he
        · show 20 < _; omega
        · rcases List.mem_cons.mp he with rfl | he
          · show 22 + 4 * d < _; omega
          · have := psd_lt hp d e he; omega
      · have u21 : jT ρ (B + 21) = (104, 11) := by rw [R3.tk (by omega), k21]
        have u24 : jT ρ (B + (22 + 4 * d + 2)) = (2, 0) := by rw [R3.tk (by omega), q3]
        simp only [jck_true, jde_is, jlt_is, jcl_0, beq_self_eq_true, jT_sI, jT_sJ, jP_sI, jP_sJ, jJ_sI, jI_sJ, jZ_sI, jZ_sJ, u21, u24, jin_nI hd2 (show 11 < 2 ^ 31 by decide), nI_1]
        have R4 := R3.sP (i := 21) (k := d) (j := 22 + 4 * d + 2) (by omega)
        have R5 : RM B μ0 (22 + 4 * (d + 1)) (psd ps (d + 1)) c1 c2 (jsP ρ (B + 21) d (some (B + (22 + 4 * d + 2)))) := by
          rw [psd, show 22 + 4 * (d + 1) = 22 + 4 * d + 2 + 2 by omega, show 24 + 4 * d = 22 + 4 * d + 2 by omega, show 25 + 4 * d = 22 + 4 * d + 2 + 1 by omega, show 23 + 4 * d = 22 + 4 * d + 1 by omega]
          exact R4
        refine (ih (d + 1) _ (by omega) (by omega) R5).mono fun r σ c m ⟨e1, e2, e3⟩ => ⟨by omega, by omega, e3⟩
