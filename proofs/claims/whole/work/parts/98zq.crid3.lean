/-! the class: the changes of a rider -/
def riQ (B z : Nat) (F P A : List Int64) (μ0 : JM) (l : List Int32) (j k v q : Nat) (S : Except Er (List Cl × Nat)) (r : Int32) (ν : JM) (c m : Nat) : Prop := c ≤ 4 * (12 - j) ∧ m ≤ 14 * (12 - j) + (900 - k) ∧ z ≤ jZ ν ∧ CT B ν ∧ cX2 B z F P A μ0 ν ∧ ((∃ e, S = .error e ∧ r = 0 ∧ cF B ν l e) ∨ (∃ y, S = .ok y ∧ r = 1 ∧ cL (B + 121) (jZ ν) false 36 ν v q y.1))
theorem isCh_t {c : Int64} : isCh c = true ↔ (c = -3015 ∨ c = -3016 ∨ c = -3017) := by
  unfold isCh
  rw [Bool.or_eq_true, Bool.or_eq_true, decide_eq_true_eq, decide_eq_true_eq, decide_eq_true_eq]
  constructor
  · rintro ((h | h) | h)
    · exact Or.inl h
    · exact Or.inr (Or.inl h)
    · exact Or.inr (Or.inr h)
  · rintro (h | h | h)
    · exact Or.inl (Or.inl h)
    · exact Or.inl (Or.inr h)
    · exact Or.inr h
theorem sCh1_no {C : Nat → Int64} {F P A : List Int64} {cls : List Cl} {k : Nat} (h : ¬ (C k = -3015 ∨ C k = -3016 ∨ C k = -3017)) : sCh1 C F P A cls k = .error (k, 0) := by
  unfold sCh1
  rw [if_neg (fun t => h (Or.inl t)), if_neg (fun t => h (Or.inr (Or.inl t))), if_neg (fun t => h (Or.inr (Or.inr t)))]
theorem cri_l {B z n v q : Nat} {l : List Int32} {F P A : List Int64} {μ0 : JM} (hz : B + 121 ≤ z) (hv : z ≤ v) (hq : z ≤ q) : ∀ (fu j fl k : Nat) (cls : List Cl) (μ : JM), z ≤ jZ μ → CT B μ → cX2 B z F P A μ0 μ → cL (B + 121) (jZ μ) false 36 μ v q cls → cls.length ≤ 24 + j → cAt B μ l n k → j ≤ 12 → 13 - j ≤ fl → 13 - j < fu → Rq (fX4_readRider_b4 fu (B + 18) (some v) 1 (nI j) μ) (riQ B z F P A μ0 l j k v q (ov (Cd l) k (sCh (Cd l) F P A fl j cls k))) := by
  intro fu
  induction fu with
  | zero => intro j fl k cls μ _ _ _ _ _ _ _ _ h; omega
  | succ fu ih =>
    intro j fl k cls μ hzj hC X hL hlen h hj hfl hf
    obtain ⟨fl, rfl⟩ : ∃ f, fl = f + 1 := ⟨fl - 1, by omega⟩
    obtain ⟨fu, rfl⟩ : ∃ f, fu = f + 1 := ⟨fu - 1, by omega⟩
    rw [fX4_readRider_b4, if_neg (show ¬ (12 : Int32) < nI j from nI_nlt (a := 12) hj (by decide)), if_neg (by decide)]
    simp only [jck_true, jde_is, jlt_is, jcl_0, beq_self_eq_true, jT_sI, jT_sJ, jP_sI, jP_sJ, jJ_sI, jI_sJ, jZ_sI, jZ_sJ, cT18 hC, cP18_0 hC, cT15 hC, c_token hC h, lg_cmp_0]
    rw [sCh]
    have b181 : ∀ (ν : JM) (x3 : Int32), fX4_readRider_b4 (fu + 1) (B + 18) (some v) 0 x3 ν = fX4_readRider_b181 (B + 18) ν := fun ν x3 => by
      rw [fX4_readRider_b4]
      by_cases c : (12 : Int32) < x3
      · rw [if_pos c]
      · rw [if_neg c, if_pos rfl]
    have fail : ∀ (d : Nat) (x : Int32), nI d = x → d ≤ 7 → ov (Cd l) k (if j = 12 then .error (k, if isCh (Cd l k) = true then 4 else 0) else eb (sCh1 (Cd l) F P A cls k) fun x => if Cd l x.2 = 0 then .ok x else eb (exC (Cd l) (-60) x.2) fun k2 => sCh (Cd l) F P A fl (j + 1) x.1 k2) = .error (k, fk (Cd l) k d) → Rq (jcl (fX7_fail (B + 15) x μ) fun r ν => jck (jbl r) <| some (r, ν, 0, 0)) (riQ B z F P A μ0 l j k v q (ov (Cd l) k (if j = 12 then .error (k, if isCh (Cd l k) = true then 4 else 0) else eb (sCh1 (Cd l) F P A cls k) fun x => if Cd l x.2 = 0 then .ok x else eb (exC (Cd l) (-60) x.2) fun k2 => sCh (Cd l) F P A fl (j + 1) x.1 k2))) := by
      intro d x hx hd es
      refine Rq.cl0 (c_fail (z := z) d x hx hd hC h) fun r ν ⟨e1, s1, f1⟩ => ?_
      subst e1
      rw [jck_of (by decide)]
      exact .ret ⟨by omega, by omega, by rw [s1.2]; exact hzj, s1.1.ct hC hz, X.cs s1.1 hz (fun i hi => by simpa using hi), Or.inl ⟨_, es, rfl, f1⟩⟩
    by_cases hk : Cd l k = -3015 ∨ Cd l k = -3016 ∨ Cd l k = -3017
    · have go : ∀ x : JO Int32, (if Cd l k = -3015 then x else if Cd l k = -3016 then x else if Cd l k = -3017 then x else (jcl (fX7_fail (B + 15) 0 μ) fun r ν => jck (jbl r) <| some (r, ν, 0, 0))) = x := fun x => by
        rcases hk with t | t | t
        · rw [if_pos t]
        · rw [if_neg (by rw [t]; decide), if_pos t]
        · rw [if_neg (by rw [t]; decide), if_neg (by rw [t]; decide), if_pos t]
      rw [go]
      by_cases j12 : j = 12
      · rw [fX4_readRider_b59, if_pos (show nI j = 12 by rw [j12]; rfl)]
        simp only [jck_true, jde_is, jlt_is, jcl_0, beq_self_eq_true, jT_sI, jT_sJ, jP_sI, jP_sJ, jJ_sI, jI_sJ, jZ_sI, jZ_sJ, cT18 hC, cP18_0 hC, cT15 hC]
        exact fail 4 4 rfl (by decide) (by rw [if_pos j12, isCh_t.mpr hk, if_pos rfl, ov_er])
      · rw [if_neg j12] at fail ⊢
        refine c_ch1 hz hzj hv hq hC X hL (by omega) h (by omega) hk ?_ ?_
        · intro ν e c m hc hm zj hC1 X1 es f
          rw [fX4_readRider_b134]
          simp only [jck_true, jde_is, jlt_is, jcl_0, beq_self_eq_true, jT_sI, jT_sJ, jP_sI, jP_sJ, jJ_sI, jI_sJ, jZ_sI, jZ_sJ, cT18 hC1, cP18_0 hC1, cT15 hC1]
          rw [if_neg f.2, fX4_readRider_b162, fX4_readRider_b163, if_pos rfl, fX4_readRider_b175, b181, fX4_readRider_b181]
          simp only [jck_true, jde_is, jlt_is, jcl_0, beq_self_eq_true, jT_sI, jT_sJ, jP_sI, jP_sJ, jJ_sI, jI_sJ, jZ_sI, jZ_sJ, cT18 hC1, cP18_0 hC1, cT15 hC1]
          rw [if_neg f.2]
          refine .ret ⟨by omega, by omega, zj, hC1, X1, Or.inl ⟨e, ?_, rfl, f⟩⟩
          rw [← eb_ov, es, eb_err]
        · intro ν y c m hc hm zj hC1 X1 hky es a1 L1 hl1
          have ky := a1.2.2.2
          have n9 := a1.1.2.1
          have sp : ov (Cd l) k (eb (sCh1 (Cd l) F P A cls k) fun x => if Cd l x.2 = 0 then .ok x else eb (exC (Cd l) (-60) x.2) fun k2 => sCh (Cd l) F P A fl (j + 1) x.1 k2) = ov (Cd l) y.2 (if Cd l y.2 = 0 then .ok y else eb (exC (Cd l) (-60) y.2) fun k2 => sCh (Cd l) F P A fl (j + 1) y.1 k2) := by
            rw [← eb_ov, es, eb_ov, eb_ok]
          rw [sp, fX4_readRider_b134]
          simp only [jck_true, jde_is, jlt_is, jcl_0, beq_self_eq_true, jT_sI, jT_sJ, jP_sI, jP_sJ, jJ_sI, jI_sJ, jZ_sI, jZ_sJ, cT18 hC1, cP18_0 hC1, cT15 hC1, c_token hC1 a1, lg_cmp_0]
          rw [if_pos a1.2.2.1]
          by_cases c60 : Cd l y.2 = -60
          · rw [if_pos c60, fX4_readRider_b163, if_neg (by decide)]
            simp only [jck_true, jde_is, jlt_is, jcl_0, beq_self_eq_true, jT_sI, jT_sJ, jP_sI, jP_sJ, jJ_sI, jI_sJ, jZ_sI, jZ_sJ, cT18 hC1, cP18_0 hC1, cT15 hC1]
            refine Rq.cl0 (c_step (z := jZ ν) hC1 a1 (by rw [c60]; decide) (by omega)) fun _ μ2 ⟨s2, a2⟩ => ?_
            rw [fX4_readRider_b175, nI_1]
            have hC2 := s2.1.ct hC1 (by omega)
            have L2 : cL (B + 121) (jZ μ2) false 36 μ2 v q y.1 := by rw [s2.2]; exact L1.ke s2.1 (by decide) (Nat.le_refl _) (Nat.le_refl _)
            have k2 := a2.2.2.2
            refine (ih (j + 1) fl (y.2 + 1) y.1 μ2 (by rw [s2.2]; exact zj) hC2 (X1.cs (s2.1.lo zj) hz (fun i hi => by simpa using hi)) L2 (by omega) a2 (by omega) (by omega) (by omega)).mono fun r ρ c2 m2 ⟨q1, q2, q3, q4, q5, q6⟩ => ?_
            rw [if_neg (by rw [c60]; decide), ov_exC (by decide), if_pos c60]
            exact ⟨by omega, by omega, q3, q4, q5, q6⟩
          · rw [if_neg c60, fX4_readRider_b162, fX4_readRider_b163, if_pos rfl, fX4_readRider_b175, b181, fX4_readRider_b181]
            simp only [jck_true, jde_is, jlt_is, jcl_0, beq_self_eq_true, jT_sI, jT_sJ, jP_sI, jP_sJ, jJ_sI, jI_sJ, jZ_sI, jZ_sJ, cT18 hC1, cP18_0 hC1, cT15 hC1]
            rw [if_pos a1.2.2.1]
            refine Rq.cl0 (c_takeEnd (z := z) hC1 a1 (by omega)) fun r μ2 ⟨s2, Q2⟩ => ?_
            rcases Q2 with ⟨e0, rfl, rfl⟩ | ⟨e0, rfl, f⟩
            · rw [if_neg (by decide), if_pos e0, ov_ne (by rw [e0]; decide)]
              exact .ret ⟨by omega, by omega, zj, hC1, X1, Or.inr ⟨y, rfl, rfl, L1⟩⟩
            · rw [if_pos rfl, if_neg e0, ov_exC (by decide), if_neg c60]
              exact .ret ⟨by omega, by omega, by rw [s2.2]; exact zj, s2.1.ct hC1 hz, X1.cs s2.1 hz (fun i hi => by simpa using hi), Or.inl ⟨_, rfl, rfl, f⟩⟩
    · rw [if_neg (fun t => hk (Or.inl t)), if_neg (fun t => hk (Or.inr (Or.inl t))), if_neg (fun t => hk (Or.inr (Or.inr t)))]
      refine fail 0 0 rfl (by decide) ?_
      by_cases j12 : j = 12
      · have : isCh (Cd l k) = false := by
          cases hq : isCh (Cd l k)
          · rfl
          · exact absurd (isCh_t.mp hq) hk
        rw [if_pos j12, this, if_neg (by decide), ov_er]
      · rw [if_neg j12, sCh1_no hk, eb_err, ov_er]
theorem c_readR {B z n v q : Nat} {l : List Int32} {F P A : List Int64} {cls : List Cl} {μ0 μ : JM} (hz : B + 121 ≤ z) (hv : z ≤ v) (hq : z ≤ q) (hzj : z ≤ jZ μ) (hC : CT B μ) (X : cX2 B z F P A μ0 μ) (hL : cL (B + 121) (jZ μ) false 36 μ v q cls) (hlen : cls.length ≤ 24) (h : cAt B μ l n 0) : Rq (fX4_readRider (B + 18) (some v) μ) (riQ B z F P A μ0 l 0 0 v q (sRid (Cd l) F P A cls)) :=
  cri_l hz hv hq jfuel 0 13 0 cls μ hzj hC X hL hlen h (by omega) (by omega) (jfuel_gt (by omega))
