/-! the reference: rider: the parts of a version -/
def rExit (M : Nat) (x2 : Int32) (μ : JM) : JO Int32 := jcl (fX11_changes M μ) fun r53 μ54 => if r53 = 0 then (jck ((jT μ54 M).1 == 12) <| some (((-2 : Int32) - (jI μ54 M 18)), μ54, 0, 0)) else (jck ((jT μ54 M).1 == 12) <| jlt (jsI μ54 M 12 (0 : Int32)) fun μ64 => fX11_rider_b158 jfuel M x2 (0 : Int32) μ64)
theorem sp_scan {M b last : Nat} {x2 x4 : Int32} {B t : List Int32} {μ : JM} (h : MT M μ) (hS : Sg (jI μ (M + 31)) b (B ++ t)) (hl : b + B.length ≤ last) (hL : last ≤ 300000) (hn : ∀ x ∈ B, x ≠ 59) : ∀ (d j fu : Nat), j + d = B.length → fX11_rider_b65 (fu + d) M x2 x4 (nI last) (nI (b + j)) μ = fX11_rider_b65 fu M x2 x4 (nI last) (nI (b + B.length)) μ := by
  intro d
  induction d with
  | zero => intro j fu hj; rw [Nat.add_zero, show j = B.length by omega]
  | succ d ih =>
    intro j fu hj
    have hj2 : j < B.length := by omega
    rw [show fu + (d + 1) = fu + d + 1 by omega, fX11_rider_b65, if_neg (Int32.not_lt.mpr (nI_le (by omega) (by omega))), if_neg (nI_ge (by omega) (by omega))]
    have ev : jI μ (M + 31) (b + j) = B.getD j 0 := by rw [hS j (by simp; omega), get_app_l hj2]
    simp only [jck_true, jde_is, jlt_is, jcl_0, beq_self_eq_true, jT_sI, jT_sJ, jP_sI, jP_sJ, jJ_sI, jI_sJ, jZ_sI, jZ_sJ, h.1, mP_pool h, mT_pool h, jin_nI (show b + j < 300000 by omega) (show 300000 < 2 ^ 31 by decide), nI_clamp (show b + j < 2 ^ 31 by omega), ev]
    rw [if_neg (hn _ (getD_mem hj2)), fX11_rider_b129, nI_1]
    exact ih (j + 1) fu (by omega)
theorem sp_part {M b bm last fu : Nat} {x2 : Int32} {c : Cl} {dn : List Cl} {t : List Int32} {μ : JM} {Q : Int32 → JM → Prop} (h : MT M μ) (hc : good c) (hQ : mPq M μ dn bm) (hd : dn.length < 36) (hS : Sg (jI μ (M + 31)) b ((cB (Cl.tks c)).1 ++ t)) (hL : b + (cB (Cl.tks c)).1.length ≤ 300000) (hbm : bm + (cB (Cl.tks c)).1.length ≤ 8000)
    (g : ∀ ν, sm M [51, 55] [35, 36, 37] μ ν → mPq M ν (dn ++ [c]) (bm + (cB (Cl.tks c)).1.length) → Res (fX11_rider_b65 fu M x2 (nI (b + (cB (Cl.tks c)).1.length + 2)) (nI last) (nI (b + (cB (Cl.tks c)).1.length + 1)) ν) Q) :
    Res (fX11_rider_b94 (fX11_rider_b65 fu) M x2 (nI b) (nI last) (nI (b + (cB (Cl.tks c)).1.length)) μ) Q := by
  obtain ⟨q1, q2, q3, q4, q5⟩ := id hQ
  have hby := good_byt hc
  have sub : nI (b + (cB (Cl.tks c)).1.length) - nI b = nI (cB (Cl.tks c)).1.length := by rw [pk_sub (by omega)]; congr 1; omega
  rw [fX11_rider_b94, jck_of (by rw [h.1]; rfl), q1, mP_pool h, sub]
  have hS' : Sg (jI μ (M + 31)) b (cB (Cl.tks c)).1 := fun i hi => by rw [hS i (by simp; omega), get_app_l hi]
  generalize hB : (cB (Cl.tks c)).1 = B at *
  refine Res.cl (m_part (M := M) (a := 31) (bg := b) (cap := 300000) (p := dn.length) (B := B) (bm := bm) (by decide) (by decide) hL (by decide) hby hbm (by omega) h (mT_pool h) hS' q3) fun _ μ4 p4 => ?_
  have s4 := p4.1
  have hM4 := s4.mt h
  have e51 : jI μ4 M 51 = nI dn.length := (s4.fI (by decide)).trans q1
  rw [jck_of (by rw [hM4.1]; rfl), jlt_is, e51, nI_1, fX11_rider_b129, nI_1, show nI (b + B.length) + 2 = nI (b + B.length + 2) from nI_add _ 2]
  have s5 : sm M [51] [] μ4 (jsI μ4 M 51 (nI (dn.length + 1))) := sm.sF (by decide)
  have v5 : jI (jsI μ4 M 51 (nI (dn.length + 1))) M 51 = nI (dn.length + 1) := by rw [jI_sI, if_pos ⟨rfl, rfl⟩]
  generalize jsI μ4 M 51 (nI (dn.length + 1)) = μ5 at s5 v5 ⊢
  refine g μ5 ((s4.wk (by decide) (by decide)).tr (s5.wk (by decide) (by decide))) ⟨by rw [v5]; simp, by simp; omega, by rw [s5.fI (by decide)]; exact p4.2.1, hbm, fun i hi => ?_⟩
  have hi : i < dn.length + 1 := by simpa using hi
  rw [getD_snoc]
  have k5 : ∀ i c, mPo M μ4 i (bm + B.length) c → mPo M μ5 i (bm + B.length) c := by
    intro i c hc
    unfold mPo
    rw [s5.aI (by decide) (by decide), s5.aI (by decide) (by decide), s5.aI (by decide) (by decide)]; exact hc
  by_cases z : i < dn.length
  · rw [if_pos z]
    exact k5 _ _ ((q5 i z).pa p4 (by omega))
  · have : i = dn.length := by omega
    rw [if_neg z, if_pos this, this]
    rw [← hB] at p4 ⊢
    rw [← hB] at k5
    exact k5 _ _ (mPo.new p4 hc.1)
theorem sp_l {M last : Nat} {x2 : Int32} {Q : Int32 → JM → Prop} (hL : last ≤ 300000) : ∀ (r : List Cl) (c : Cl) (dn : List Cl) (bm b fu : Nat) (μ : JM), MT M μ → (∀ d ∈ c :: r, good d) → mPq M μ dn bm → dn.length + r.length < 36 → Sg (jI μ (M + 31)) b (txB (c :: r)) → b + (txB (c :: r)).length = last → bm + (txB (c :: r)).length ≤ 8000 → (txB (c :: r)).length + 2 ≤ fu → (∀ ν bm2, sm M [51, 55] [35, 36, 37] μ ν → mPq M ν (dn ++ c :: r) bm2 → bm2 ≤ bm + (txB (c :: r)).length → Res (rExit M x2 ν) Q) → Res (fX11_rider_b65 fu M x2 (nI b) (nI last) (nI b) μ) Q := by
  intro r
  induction r with
  | nil =>
    intro c dn bm b fu μ h hg hQ hd hS hb hbm hfu hk
    have hc := hg c List.mem_cons_self
    have e0 : txB [c] = (cB (Cl.tks c)).1 := rfl
    rw [e0] at hS hb hbm hfu hk
    obtain ⟨f2, rfl⟩ : ∃ f2, fu = f2 + 1 + 1 + (cB (Cl.tks c)).1.length := ⟨fu - 2 - (cB (Cl.tks c)).1.length, by omega⟩
    have sc : fX11_rider_b65 (f2 + 1 + 1 + (cB (Cl.tks c)).1.length) M x2 (nI b) (nI last) (nI b) μ = fX11_rider_b65 (f2 + 1 + 1) M x2 (nI b) (nI last) (nI (b + (cB (Cl.tks c)).1.length)) μ := sp_scan (x2 := x2) (x4 := nI b) (b := b) (last := last) (t := []) (B := (cB (Cl.tks c)).1) h (by rw [List.append_nil]; exact hS) (by omega) hL (cB_no hc) (cB (Cl.tks c)).1.length 0 (f2 + 1 + 1) (by omega)
    rw [sc, fX11_rider_b65, hb, if_neg (Int32.not_lt.mpr (nI_le (Nat.le_refl _) (by omega))), if_pos (nI_le (Nat.le_refl _) (by omega)), ← hb]
    refine sp_part (t := []) h hc hQ (by omega) (by rw [List.append_nil]; exact hS) (by omega) hbm fun ν s1 q1 => ?_
    have hMν := s1.mt h
    rw [fX11_rider_b65, if_pos (Int32.not_le.mp (nI_ge (by omega) (by omega))), jck_of (by rw [hMν.1]; rfl)]
    exact hk ν _ s1 q1 (Nat.le_refl _)
  | cons d r ih =>
    intro c dn bm b fu μ h hg hQ hd hS hb hbm hfu hk
    have hc := hg c List.mem_cons_self
    have hd1 := hg d (List.mem_cons_of_mem _ List.mem_cons_self)
    have e0 := txB_cons (c := c) (r := r) hd1
    have el : (txB (c :: d :: r)).length = (cB (Cl.tks c)).1.length + 2 + (txB (d :: r)).length := by rw [e0]; simp; omega
    rw [el] at hb hbm hfu hk
    rw [e0] at hS
    simp only [List.length_cons] at hd
    obtain ⟨f2, rfl⟩ : ∃ f2, fu = f2 + 1 + 1 + (cB (Cl.tks c)).1.length := ⟨fu - 2 - (cB (Cl.tks c)).1.length, by omega⟩
    have sc : fX11_rider_b65 (f2 + 1 + 1 + (cB (Cl.tks c)).1.length) M x2 (nI b) (nI last) (nI b) μ = fX11_rider_b65 (f2 + 1 + 1) M x2 (nI b) (nI last) (nI (b + (cB (Cl.tks c)).1.length)) μ := sp_scan (x2 := x2) (x4 := nI b) (b := b) (last := last) (t := 59 :: 32 :: txB (d :: r)) (B := (cB (Cl.tks c)).1) h hS (by omega) hL (cB_no hc) (cB (Cl.tks c)).1.length 0 (f2 + 1 + 1) (by omega)
    have hB : ∀ i, i < 2 + (txB (d :: r)).length → jI μ (M + 31) (b + (cB (Cl.tks c)).1.length + i) = (59 :: 32 :: txB (d :: r)).getD i 0 := by
      intro i hi
      have := hS ((cB (Cl.tks c)).1.length + i) (by simp; omega)
      rw [← Nat.add_assoc] at this
      rw [this, List.getD_eq_getElem?_getD, List.getElem?_append_right (by omega), List.getD_eq_getElem?_getD]
      congr 2; omega
    have ev : jI μ (M + 31) (b + (cB (Cl.tks c)).1.length) = 59 := hB 0 (by omega)
    rw [sc, fX11_rider_b65, if_neg (Int32.not_lt.mpr (nI_le (by omega) (by omega))), if_neg (nI_ge (by omega) (by omega))]
    simp only [jck_true, jde_is, jlt_is, jcl_0, beq_self_eq_true, jT_sI, jT_sJ, jP_sI, jP_sJ, jJ_sI, jI_sJ, jZ_sI, jZ_sJ, h.1, mP_pool h, mT_pool h, jin_nI (show b + (cB (Cl.tks c)).1.length < 300000 by omega) (show 300000 < 2 ^ 31 by decide), nI_clamp (show b + (cB (Cl.tks c)).1.length < 2 ^ 31 by omega), ev]
    rw [if_pos trivial]
    refine sp_part (t := 59 :: 32 :: txB (d :: r)) h hc hQ (by omega) hS (by omega) (by omega) fun ν s1 q1 => ?_
    have hMν := s1.mt h
    have ev2 : jI ν (M + 31) (b + (cB (Cl.tks c)).1.length + 1) = 32 := by rw [s1.aI (by decide) (by decide), hB 1 (by omega)]; rfl
    rw [fX11_rider_b65, if_neg (Int32.not_lt.mpr (nI_le (by omega) (by omega))), if_neg (nI_ge (by omega) (by omega))]
    simp only [jck_true, jde_is, jlt_is, jcl_0, beq_self_eq_true, jT_sI, jT_sJ, jP_sI, jP_sJ, jJ_sI, jI_sJ, jZ_sI, jZ_sJ, hMν.1, mP_pool hMν, mT_pool hMν, jin_nI (show b + (cB (Cl.tks c)).1.length + 1 < 300000 by omega) (show 300000 < 2 ^ 31 by decide), nI_clamp (show b + (cB (Cl.tks c)).1.length + 1 < 2 ^ 31 by omega), ev2]
    rw [if_neg (by decide), fX11_rider_b129, nI_1]
    refine ih d (dn ++ [c]) (bm + (cB (Cl.tks c)).1.length) (b + (cB (Cl.tks c)).1.length + 1 + 1) f2 ν hMν (fun x hx => hg x (List.mem_cons_of_mem _ hx)) q1 (by simp; omega) (fun i hi => ?_) (by omega) (by omega) (by omega) (fun ρ bm2 s2 q2 hb2 => ?_)
    · rw [s1.aI (by decide) (by decide), show b + (cB (Cl.tks c)).1.length + 1 + 1 + i = b + (cB (Cl.tks c)).1.length + (i + 2) by omega, hB (i + 2) (by omega)]
      rfl
    · refine hk ρ bm2 (s1.tr s2) ?_ (by omega)
      rw [List.append_assoc] at q2; exact q2
