/-! the class: its making, whole -/
def PS1 : List (Nat × Nat × Nat) := [(0, 6, 15), (15, 2, 17), (15, 1, 16), (15, 0, 1), (0, 5, 13), (13, 0, 14), (0, 4, 11), (11, 0, 12), (0, 3, 9), (9, 0, 10), (0, 2, 7), (7, 1, 1), (7, 0, 8), (0, 1, 5), (5, 1, 1), (5, 0, 6), (0, 0, 3), (3, 1, 1), (3, 0, 4), (1, 0, 2)]
def PS2 : List (Nat × Nat × Nat) := (18, 4, 19) :: psF ((19, 3, 21) :: (19, 2, 20) :: (19, 1, 9) :: (19, 0, 15) :: (18, 3, 13) :: (18, 2, 11) :: (18, 1, 9) :: (18, 0, 15) :: PS1)
def PS3 : List (Nat × Nat × Nat) := (0, 12, 75) :: (0, 11, 73) :: (73, 0, 74) :: (0, 10, 71) :: (71, 0, 72) :: (0, 9, 70) :: (0, 8, 69) :: (0, 7, 18) :: PS2
theorem c_new {μ0 : JM} : Rq (fX10_init (jZ μ0) (jnew μ0 11 0)) (fun _ ν c m => c = 75 ∧ m ≤ 7000 ∧ ∃ c1 c2 ν0, RM (jZ μ0) μ0 76 PS3 c1 c2 ν0 ∧ c1 1 = nI 18 ∧ (∀ j, j < 18 → c2 j = langC.getD j 0) ∧ ν = jsI (jsI ν0 (jZ μ0) 15 (-1)) (jZ μ0) 16 (-1)) := by
  unfold fX10_init
  refine RM.words (m := 18) RM.zero rfl (by decide) (by decide) (by decide) (by decide) (fun e he => by cases he) (fun _ => ⟨rfl, rfl⟩) (by decide) fun μ1 r1 => ?_
  have t1 : jT μ1 (jZ μ0 + 1) = (10, 0) := r1.tk (by omega)
  rw [jck_of (by rw [t1]; rfl)]
  refine Rq.cl0 (c_ours r1) fun _ μ2 ⟨c1, c2, r2, l1, l2⟩ => ?_
  refine RM.sheet (m := 900) r2 (by decide) (by decide) (by decide) (by decide) (by decide) (by decide) fun μ3 r3 => ?_
  rw [jck_of (r3.ob (by omega))]
  simp only [jlt_is]
  have r3' := r3.sB (k := 0) (j := 3) (by omega)
  refine RM.sheet (m := 1800) r3' (by decide) (by decide) (by decide) (by decide) (by decide) (by decide) fun μ4 r4 => ?_
  rw [jck_of (r4.ob (by omega))]
  have r4' := r4.sB (k := 1) (j := 5) (by omega)
  refine RM.sheet (m := 900) r4' (by decide) (by decide) (by decide) (by decide) (by decide) (by decide) fun μ5 r5 => ?_
  rw [jck_of (r5.ob (by omega))]
  have r5' := r5.sB (k := 2) (j := 7) (by omega)
  refine RM.words (m := 8) r5' rfl (by decide) (by decide) (by decide) (by decide) (by decide) (fun e => by omega) (by decide) fun μ6 r6 => ?_
  rw [jck_of (r6.ob (by omega))]
  have r6' := r6.sB (k := 3) (j := 9) (by omega)
  refine RM.words (m := 6) r6' rfl (by decide) (by decide) (by decide) (by decide) (by decide) (fun e => by omega) (by decide) fun μ7 r7 => ?_
  rw [jck_of (r7.ob (by omega))]
  have r7' := r7.sB (k := 4) (j := 11) (by omega)
  refine RM.words (m := 12) r7' rfl (by decide) (by decide) (by decide) (by decide) (by decide) (fun e => by omega) (by decide) fun μ8 r8 => ?_
  rw [jck_of (r8.ob (by omega))]
  have r8' := r8.sB (k := 5) (j := 13) (by omega)
  refine RM.text r8' (by decide) fun μ9 r9 => ?_
  rw [jck_of (r9.ob (by omega))]
  have r9' : RM (jZ μ0) μ0 18 PS1 c1 c2 (jsP μ9 (jZ μ0) 6 (some (jZ μ0 + 15))) := r9.sB (k := 6) (j := 15) (by omega)
  generalize jsP μ9 (jZ μ0) 6 (some (jZ μ0 + 15)) = μA at r9' ⊢
  refine Rq.nwo ?_
  have rB := r9'.nw (t := 5) (n := 0) (by decide) (by decide) (fun e => by omega) (fun e => by omega)
  rw [r9'.1]
  generalize jnew μA 5 0 = μB at rB ⊢
  have p6 : jP μB (jZ μ0) 6 = some (jZ μ0 + 15) := rB.2.2.2.1 0 6 (by omega)
  have p3 : jP μB (jZ μ0) 3 = some (jZ μ0 + 9) := rB.2.2.2.1 0 3 (by omega)
  have p4 : jP μB (jZ μ0) 4 = some (jZ μ0 + 11) := rB.2.2.2.1 0 4 (by omega)
  have p5 : jP μB (jZ μ0) 5 = some (jZ μ0 + 13) := rB.2.2.2.1 0 5 (by omega)
  rw [jck_of (rB.ob (by omega)), p6, p3, p4, p5]
  refine Rq.cl (RM.reader rB (by decide)) fun _ μC cC mC ⟨e1, e2, rC⟩ => ?_
  subst e1 e2
  rw [jck_of (rC.ob (by omega))]
  have rC' : RM (jZ μ0) μ0 69 ((0, 7, 18) :: PS2) c1 c2 (jsP μC (jZ μ0) 7 (some (jZ μ0 + 18))) := rC.sB (k := 7) (j := 18) (by omega)
  generalize jsP μC (jZ μ0) 7 (some (jZ μ0 + 18)) = μD at rC' ⊢
  refine Rq.nw ?_
  have rD := rC'.nw (t := 106) (n := 4) (by decide) (by decide +kernel) (fun e => by omega) (fun e => by omega)
  rw [rC'.1]
  generalize jnew μD 106 4 = μE at rD ⊢
  rw [jck_of (rD.ob (by omega))]
  have rE := rD.sB (k := 8) (j := 69) (by omega)
  generalize jsP μE (jZ μ0) 8 (some (jZ μ0 + 69)) = μF at rE ⊢
  refine Rq.nw ?_
  have rF := rE.nw (t := 107) (n := 256) (by decide) (by decide +kernel) (fun e => by omega) (fun e => by omega)
  rw [rE.1]
  generalize jnew μF 107 256 = μG at rF ⊢
  rw [jck_of (rF.ob (by omega))]
  have rG := rF.sB (k := 9) (j := 70) (by omega)
  refine RM.cases rG (by decide) (by decide) (by decide +kernel) (by omega) fun μH rH => ?_
  rw [jck_of (rH.ob (by omega))]
  have rI := rH.sB (k := 10) (j := 71) (by omega)
  generalize jsP μH (jZ μ0) 10 (some (jZ μ0 + 71)) = μI at rI ⊢
  refine Rq.nwo ?_
  have rJ := rI.nw (t := 1) (n := 0) (by decide) (by decide +kernel) (fun e => by omega) (fun e => by omega)
  have zI := rI.1
  rw [zI]
  generalize jnew μI 1 0 = μJ at rJ ⊢
  have rK := rJ.nw (t := 102) (n := 157) (by decide) (by decide +kernel) (fun e => by omega) (fun e => by omega)
  have tK : jT (jnew μJ 102 157) (jZ μ0 + 73) = (1, 0) := rK.tk (by omega)
  have rL := rK.sP (i := 73) (k := 0) (j := 74) (by omega)
  have e : fX0_init (jZ μ0 + 73) μJ = some ((), jsP (jnew μJ 102 157) (jZ μ0 + 73) 0 (some (jZ μ0 + 74)), 1, 157) := by
    unfold fX0_init jnw
    simp only [jcl, jlt_is]
    rw [rJ.1, jck_of (by rw [tK]; rfl)]
  refine Rq.eq e ?_
  generalize jsP (jnew μJ 102 157) (jZ μ0 + 73) 0 (some (jZ μ0 + 74)) = μL at rL ⊢
  rw [jck_of (rL.ob (by omega))]
  have rM := rL.sB (k := 11) (j := 73) (by omega)
  generalize jsP μL (jZ μ0) 11 (some (jZ μ0 + 73)) = μM at rM ⊢
  refine Rq.nw ?_
  have rN := rM.nw (t := 101) (n := 24) (by decide) (by decide +kernel) (fun e => by omega) (fun e => by omega)
  rw [rM.1]
  generalize jnew μM 101 24 = μN at rN ⊢
  rw [jck_of (rN.ob (by omega))]
  have rO : RM (jZ μ0) μ0 76 PS3 c1 c2 (jsP μN (jZ μ0) 12 (some (jZ μ0 + 75))) := rN.sB (k := 12) (j := 75) (by omega)
  have l18 : langC.length = 18 := by decide
  rw [l18] at l1 l2
  exact .ret ⟨rfl, by omega, c1, c2, _, rO, l1, l2, rfl⟩
