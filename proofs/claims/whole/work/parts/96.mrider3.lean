/-! the reference: rider: the new text -/
theorem txB_snoc : ∀ (cls : List Cl) (c : Cl), cls ≠ [] → (∀ d ∈ cls, good d) → good c → txB (cls ++ [c]) = txB cls ++ 59 :: 32 :: (cB (Cl.tks c)).1
  | [], c, h, _, _ => absurd rfl h
  | [d], c, _, hd, hc => by
    show txB (d :: c :: []) = _
    rw [txB_cons hc]; rfl
  | d :: e :: r, c, _, hd, hc => by
    have ih := txB_snoc (e :: r) c (by simp) (fun x hx => hd x (List.mem_cons_of_mem _ hx)) hc
    have he := hd e (List.mem_cons_of_mem _ List.mem_cons_self)
    show txB (d :: e :: (r ++ [c])) = _
    rw [txB_cons he, txB_cons he]
    have : txB (e :: (r ++ [c])) = txB (e :: r ++ [c]) := rfl
    rw [this, ih]; simp
def sepB (p : Nat) : List Int32 := if p = 0 then [] else [59, 32]
theorem txB_take {cls : List Cl} {p : Nat} (hg : ∀ d ∈ cls, good d) (hp : p < cls.length) : txB (cls.take (p + 1)) = txB (cls.take p) ++ sepB p ++ (cB (Cl.tks (cls.getD p cl0))).1 := by
  have hc : cls.getD p cl0 ∈ cls := by rw [List.getD_eq_getElem?_getD, List.getElem?_eq_getElem hp]; exact List.getElem_mem hp
  have e : cls.take (p + 1) = cls.take p ++ [cls.getD p cl0] := by
    rw [List.take_succ_eq_append_getElem hp]; congr 2; simp [List.getD, hp]
  rw [e]
  unfold sepB
  by_cases z : p = 0
  · subst z
    rw [if_pos rfl]
    show txB [_] = _
    simp [txB, jT2, cB]
  · rw [if_neg z, txB_snoc _ _ (by intro q; have := congrArg List.length q; rw [List.length_take, List.length_nil] at this; omega) (fun d hd => hg d (List.mem_of_mem_take hd)) (hg _ hc)]
    simp
theorem txB_mono {cls : List Cl} (hg : ∀ d ∈ cls, good d) : ∀ (n p : Nat), p + n ≤ cls.length → (txB (cls.take p)).length ≤ (txB (cls.take (p + n))).length
  | 0, p, _ => Nat.le_refl _
  | n + 1, p, h => by
    have ih := txB_mono hg n p (by omega)
    rw [show p + (n + 1) = (p + n) + 1 by omega, txB_take hg (by omega)]
    simp only [List.length_append]; omega
def rEnd (M : Nat) (x2 : Int32) (μ : JM) : JO Int32 := jcl (fX11_begins M μ) fun u91 μ92 => jck ((jT μ92 M).1 == 12) <| jcl (fX11_reads M μ92) fun r101 μ102 => if r101 = 0 then (some ((-2 : Int32), μ102, 0, 0)) else (jck ((jT μ102 M).1 == 12) <| jde (jP μ102 M 59) fun q112 => jck ((jT μ102 q112).1 == 101) <| jck (jin (jI μ102 M 58) (jT μ102 q112).2) <| jlt (jsI μ102 q112 ((jI μ102 M 58)).toNatClampNeg x2) fun μ116 => jde (jP μ116 M 50) fun q119 => jck ((jT μ102 q119).1 == 101) <| jck (jin x2 (jT μ102 q119).2) <| jde (jP μ116 M 60) fun q123 => jck ((jT μ102 q123).1 == 101) <| jck (jin (jI μ116 M 58) (jT μ102 q123).2) <| jlt (jsI μ116 q123 ((jI μ116 M 58)).toNatClampNeg (jI μ116 q119 (x2).toNatClampNeg)) fun μ127 => jcl (fX11_keeps M x2 μ127) fun r130 μ131 => jck ((jT μ131 M).1 == 12) <| jde (jP μ131 M 50) fun q140 => jck ((jT μ131 q140).1 == 101) <| jck (jin x2 (jT μ131 q140).2) <| jde (jP μ131 M 61) fun q144 => jck ((jT μ131 q144).1 == 101) <| jck (jin (jI μ131 M 58) (jT μ131 q144).2) <| jlt (jsI μ131 q144 ((jI μ131 M 58)).toNatClampNeg (jI μ131 q140 (x2).toNatClampNeg)) fun μ148 => jlt (jsI μ148 M 58 ((jI μ148 M 58) + (1 : Int32))) fun μ151 => some (r130, μ151, 0, 0))
theorem bt_in {M p o z : Nat} {x2 : Int32} {T B : List Int32} {rec158 : Nat → Int32 → Int32 → JM → JO Int32} (hp : p < 40) (hb : byt B) (ho : o + B.length ≤ 8000) (hz : T.length + B.length ≤ 2400) : ∀ (fu i : Nat) (μ : JM), MT M μ → jI μ (M + 36) p = nI B.length → jI μ (M + 35) p = nI o → Sg (jI μ (M + 37)) o B → jI μ M 12 = nI T.length → Sg (jI μ (M + 8)) 0 T → Sg (jI μ (M + 8)) T.length (B.take i) → i ≤ B.length → B.length - i < fu →
    ∃ ν, fX11_rider_b241 rec158 fu M x2 (nI p) (nI i) μ = rec158 M x2 (nI (p + 1)) ν ∧ sm M [12] [8] μ ν ∧ jI ν M 12 = nI (T ++ B).length ∧ Sg (jI ν (M + 8)) 0 (T ++ B) := by
  intro fu
  induction fu with
  | zero => intro i μ _ _ _ _ _ _ _ _ h; omega
  | succ fu ih =>
    intro i μ h h36 h35 hS h12 hT hs hi hf
    rw [fX11_rider_b241]
    simp only [jck_true, jde_is, jlt_is, jcl_0, beq_self_eq_true, jT_sI, jT_sJ, jP_sI, jP_sJ, jJ_sI, jI_sJ, jZ_sI, jZ_sJ, h.1, mP_partSize h, mT_partSize h, jin_nI hp (show 40 < 2 ^ 31 by decide), nI_clamp (show p < 2 ^ 31 by omega), h36]
    by_cases q : i = B.length
    · rw [if_pos (nI_le (by omega) (by omega)), h12, nI_add, nI_1]
      rw [q, List.take_length] at hs
      refine ⟨_, rfl, (sm.sF (by decide)), by rw [jI_sI, if_pos ⟨rfl, rfl⟩, List.length_append], fun j hj => ?_⟩
      rw [jI_sI, if_neg (by omega)]
      by_cases y : j < T.length
      · rw [get_app_l y]; exact hT j y
      · have hj : j < T.length + B.length := by simpa using hj
        have := hs (j - T.length) (by omega)
        rw [Nat.zero_add, show j = T.length + (j - T.length) by omega, this, List.getD_eq_getElem?_getD, List.getD_eq_getElem?_getD, List.getElem?_append_right (by omega)]
        congr 2; omega
    · have hi2 : i < B.length := by omega
      rw [if_neg (nI_ge hi2 (by omega))]
      simp only [jck_true, jde_is, jlt_is, jcl_0, beq_self_eq_true, jT_sI, jT_sJ, jP_sI, jP_sJ, jJ_sI, jI_sJ, jZ_sI, jZ_sJ, mP_partFrom h, mT_partFrom h, mP_bytes h, mT_bytes h, mP_text h, mT_text h, jin_nI hp (show 40 < 2 ^ 31 by decide), h35, h12, nI_add, jin_nI (show o + i < 8000 by omega) (show 8000 < 2 ^ 31 by decide), jin_nI (show T.length + i < 2400 by omega) (show 2400 < 2 ^ 31 by decide), nI_clamp (show p < 2 ^ 31 by omega), nI_clamp (show o + i < 2 ^ 31 by omega), nI_clamp (show T.length + i < 2 ^ 31 by omega), vp_byte, hS i hi2, hb.at hi2, nI_1]
      have hseg : Sg (jI (jsI μ (M + 8) (T.length + i) (B.getD i 0)) (M + 8)) T.length (B.take (i + 1)) := by
        rw [jI_at]; exact hs.step hi2
      have hT1 : Sg (jI (jsI μ (M + 8) (T.length + i) (B.getD i 0)) (M + 8)) 0 T := hT.eq fun j hj => by rw [jI_sI, if_neg (by omega)]
      have s1 : sm M [] [8] μ (jsI μ (M + 8) (T.length + i) (B.getD i 0)) := sm.sA (by decide) (by decide)
      generalize jsI μ (M + 8) (T.length + i) (B.getD i 0) = μ1 at hseg s1 hT1 ⊢
      obtain ⟨ν, g1, g2, g3⟩ := ih (i + 1) μ1 (s1.mt h) (by rw [s1.aI (by decide) (by decide)]; exact h36) (by rw [s1.aI (by decide) (by decide)]; exact h35) (by rw [s1.aI (by decide) (by decide)]; exact hS) ((s1.fI (by decide)).trans h12) hT1 hseg (by omega) (by omega)
      exact ⟨ν, g1, (s1.wk (by decide) (by decide)).tr g2, g3⟩
theorem bt_l {M bm : Nat} {x2 : Int32} {cls : List Cl} {μ0 : JM} {Q : Int32 → JM → Prop} (hg : ∀ d ∈ cls, good d) (h1 : (txB cls).length ≤ 900 → ∀ ν, sm M [12] [8] μ0 ν → mTx M ν (txB cls) → Res (rEnd M x2 ν) Q) (h2 : 900 < (txB cls).length → ∀ ν, sm M [12] [8] μ0 ν → Res (some ((-2 : Int32), ν, 0, 0)) Q) : ∀ (fu p : Nat) (μ : JM), MT M μ → sm M [12] [8] μ0 μ → mPq M μ cls bm → jI μ M 12 = nI (txB (cls.take p)).length → Sg (jI μ (M + 8)) 0 (txB (cls.take p)) → (txB (cls.take p)).length ≤ 900 → p ≤ cls.length → cls.length - p < fu → Res (fX11_rider_b158 fu M x2 (nI p) μ) Q := by
  intro fu
  induction fu with
  | zero => intro p μ _ _ _ _ _ _ _ h; omega
  | succ fu ih =>
    intro p μ h hs hQ h12 hT hl hp hf
    obtain ⟨q1, q2, q3, q4, q5⟩ := id hQ
    rw [fX11_rider_b158, jck_of (by rw [h.1]; rfl), q1]
    by_cases q : p = cls.length
    · rw [if_pos (nI_le (by omega) (by omega))]
      rw [q, List.take_length] at h12 hT hl
      exact h1 hl μ hs ⟨h12, hT, by omega⟩
    · have hp2 : p < cls.length := by omega
      rw [if_neg (nI_ge hp2 (by omega))]
      obtain ⟨o, o1, o2, o3, o4, o5⟩ := q5 p hp2
      have et := txB_take hg hp2
      have hc : cls.getD p cl0 ∈ cls := by rw [List.getD_eq_getElem?_getD, List.getElem?_eq_getElem hp2]; exact List.getElem_mem hp2
      have hby := good_byt (hg _ hc)
      generalize hB : (cB (Cl.tks (cls.getD p cl0))).1 = B at *
      simp only [jck_true, jde_is, jlt_is, jcl_0, beq_self_eq_true, jT_sI, jT_sJ, jP_sI, jP_sJ, jJ_sI, jI_sJ, jZ_sI, jZ_sJ, mP_partSize h, mT_partSize h, jin_nI (show p < 40 by omega) (show 40 < 2 ^ 31 by decide), nI_clamp (show p < 2 ^ 31 by omega), o2, h12, nI_add]
      have el : (txB (cls.take (p + 1))).length = (txB (cls.take p)).length + (sepB p).length + B.length := by rw [et, List.length_append, List.length_append]
      have hsl : (sepB p).length ≤ 2 := by unfold sepB; split <;> simp
      have b189 : ∀ z : Nat, z = (sepB p).length → Res (fX11_rider_b189 (fX11_rider_b158 fu) M x2 (nI p) (nI z) (nI ((txB (cls.take p)).length + B.length)) μ) Q := by
        intro z hz
        rw [fX11_rider_b189, nI_add]
        by_cases y : (txB (cls.take p)).length + B.length + z ≤ 900
        · rw [if_pos (show nI ((txB (cls.take p)).length + B.length + z) ≤ 900 from nI_le (b := 900) y (by omega))]
          -- the part itself
          have fin : ∀ (μ1 : JM) (T : List Int32), sm M [12] [8] μ μ1 → T = txB (cls.take p) ++ sepB p → jI μ1 M 12 = nI T.length → Sg (jI μ1 (M + 8)) 0 T → Res (fX11_rider_b238 (fX11_rider_b158 fu) M x2 (nI p) μ1) Q := by
            intro μ1 T s1 eT v12 vT
            rw [fX11_rider_b238]
            have hTl : T.length = (txB (cls.take p)).length + (sepB p).length := by rw [eT]; simp
            obtain ⟨ν, g1, g2, g3, g4⟩ := bt_in (z := 0) (o := o) (T := T) (B := B) (x2 := x2) (rec158 := fX11_rider_b158 fu) (show p < 40 by omega) hby (by omega) (by omega) jfuel 0 μ1 (s1.mt h) (by rw [s1.aI (by decide) (by decide)]; exact o2) (by rw [s1.aI (by decide) (by decide)]; exact o1) (by rw [s1.aI (by decide) (by decide)]; exact o4) v12 vT Sg.nil (by omega) (jfuel_gt (by omega))
            have g1' : fX11_rider_b241 (fX11_rider_b158 fu) jfuel M x2 (nI p) 0 μ1 = _ := g1
            rw [g1']
            have e2 : txB (cls.take (p + 1)) = T ++ B := by rw [et, eT]
            refine ih (p + 1) ν (g2.mt (s1.mt h)) (hs.tr (s1.tr g2)) (hQ.sm (s1.tr g2) (by decide) (by decide)) (by rw [e2]; exact g3) (by rw [e2]; exact g4) (by omega) (by omega) (by omega)
          by_cases z0 : p = 0
          · rw [if_pos (show nI p ≤ 0 from nI_le (b := 0) (by omega) (by omega))]
            have es : sepB p = [] := by unfold sepB; rw [if_pos z0]
            exact fin μ (txB (cls.take p)) sm.rf (by rw [es, List.append_nil]) h12 hT
          · rw [if_neg (show ¬ nI p ≤ 0 from nI_ge (a := 0) (by omega) (by omega))]
            have es : sepB p = [59, 32] := by unfold sepB; rw [if_neg z0]
            have n1 : vp_nar .byte (59 : Int32) = 59 := by rw [vp_byte]; decide
            have n2 : vp_nar .byte (32 : Int32) = 32 := by rw [vp_byte]; decide
            have r1 : ∀ k x, jI (jsI μ (M + 8) k x) M 12 = nI (txB (cls.take p)).length := fun k x => by rw [jI_sI, if_neg (by omega)]; exact h12
            have r2 : ∀ k x k2 x2, jI (jsI (jsI μ (M + 8) k x) (M + 8) k2 x2) M 12 = nI (txB (cls.take p)).length := fun k x k2 x2 => by rw [jI_sI, if_neg (by omega)]; exact r1 k x
            simp only [jck_true, jde_is, jlt_is, jcl_0, beq_self_eq_true, jT_sI, jT_sJ, jP_sI, jP_sJ, jJ_sI, jI_sJ, jZ_sI, jZ_sJ, h.1, mP_text h, mT_text h, h12, r1, r2, n1, n2, nI_1, jin_nI (show (txB (cls.take p)).length < 2400 by omega) (show 2400 < 2 ^ 31 by decide), jin_nI (show (txB (cls.take p)).length + 1 < 2400 by omega) (show 2400 < 2 ^ 31 by decide), nI_clamp (show (txB (cls.take p)).length < 2 ^ 31 by omega), nI_clamp (show (txB (cls.take p)).length + 1 < 2 ^ 31 by omega), show nI (txB (cls.take p)).length + 2 = nI ((txB (cls.take p)).length + 2) from nI_add _ 2]
            refine fin _ (txB (cls.take p) ++ [59, 32]) ((sm.sA (by decide) (by decide)).tr ((sm.sA (by decide) (by decide)).tr (sm.sF (by decide)))) (by rw [es]) (by rw [jI_sI, if_pos ⟨rfl, rfl⟩]; simp) (fun j hj => ?_)
            have hj : j < (txB (cls.take p)).length + 2 := by simpa using hj
            rw [jI_sI, if_neg (by omega), Nat.zero_add, jI_sI]
            by_cases w1 : j = (txB (cls.take p)).length + 1
            · rw [if_pos ⟨rfl, w1⟩, w1, List.getD_eq_getElem?_getD, List.getElem?_append_right (by omega), show (txB (cls.take p)).length + 1 - (txB (cls.take p)).length = 1 by omega]; rfl
            · rw [if_neg (fun t => w1 t.2), jI_sI]
              by_cases w2 : j = (txB (cls.take p)).length
              · rw [if_pos ⟨rfl, w2⟩, w2, List.getD_eq_getElem?_getD, List.getElem?_append_right (by omega), Nat.sub_self]; rfl
              · rw [if_neg (fun t => w2 t.2), get_app_l (by omega)]
                have := hT j (by omega)
                rwa [Nat.zero_add] at this
        · rw [if_neg (show ¬ nI ((txB (cls.take p)).length + B.length + z) ≤ 900 from nI_ge (a := 900) (by omega) (by omega))]
          refine h2 ?_ μ hs
          have := txB_mono hg (cls.length - (p + 1)) (p + 1) (by omega)
          rw [show p + 1 + (cls.length - (p + 1)) = cls.length by omega, List.take_length] at this
          omega
      by_cases z0 : p = 0
      · rw [if_pos (show nI p ≤ 0 from nI_le (b := 0) (by omega) (by omega))]
        exact b189 0 (by unfold sepB; rw [if_pos z0]; rfl)
      · rw [if_neg (show ¬ nI p ≤ 0 from nI_ge (a := 0) (by omega) (by omega))]
        exact b189 2 (by unfold sepB; rw [if_neg z0]; rfl)
