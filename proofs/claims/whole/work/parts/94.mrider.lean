/-! the reference: changes -/
def mHc (M : Nat) (ν : JM) (l : List Int32) (P A : List Int64) (r : Int32) (x : Except Er (List Cl × Nat)) : Prop := mWl M ν 5 4 5 6 P ∧ mWl M ν 8 6 7 12 A ∧ jI ν M 56 = 0 ∧ match x with
  | .error f => r = 0 ∧ mBad M ν l f
  | .ok y => r = 1 ∧ MT M ν ∧ ∃ bm, mPq M ν y.1 bm
theorem ch_bad {M : Nat} {μ : JM} {l : List Int32} {P A : List Int64} {f : Er} (h : mBad M μ l f) (hP : mWl M μ 5 4 5 6 P) (hA : mWl M μ 8 6 7 12 A) : Res (fX11_changes_b146 M 0 μ) (fun r ν => sm M HF HA μ ν ∧ clsLow M μ ν ∧ mHc M ν l P A r (.error f)) := by
  rw [fX11_changes_b146, jck_of (by rw [h.1.1]; rfl), jlt_is, if_pos rfl]
  have s1 : sm M [56] [] μ (jsI μ M 56 0) := sm.sF (by decide)
  exact .ret ⟨s1.wk (by decide) (by decide), clsLow.sm s1 (by decide) (by decide), hP.sm s1 (by decide) (by decide) (by decide) (by decide) (by decide), hA.sm s1 (by decide) (by decide) (by decide) (by decide) (by decide), by rw [jI_sI, if_pos ⟨rfl, rfl⟩], rfl, h.sm s1 (by decide)⟩
theorem eraseLen {cls : List Cl} {p : Nat} : (cls.eraseIdx p).length ≤ cls.length := by
  rw [List.length_eraseIdx]; split <;> omega
theorem sCh1_len {C : Nat → Int64} {F P A : List Int64} {cls : List Cl} {k : Nat} {y : List Cl × Nat} (h : sCh1 C F P A cls k = .ok y) : y.1.length ≤ cls.length + 1 := by
  unfold sCh1 at h
  by_cases q1 : C k = -3015
  · rw [if_pos q1] at h
    obtain ⟨k1, -, h⟩ := eb_inv h
    obtain ⟨_, -, h⟩ := eb_inv h
    cases hl : lfnd cls (C k1) false with
    | none => rw [hl] at h; cases h
    | some p =>
      rw [hl] at h
      obtain ⟨k2, -, h⟩ := eb_inv h
      injection h with h
      rw [← h]
      have := eraseLen (cls := cls) (p := p)
      show (cls.eraseIdx p).length ≤ _; omega
  · rw [if_neg q1] at h
    by_cases q2 : C k = -3016
    · rw [if_pos q2] at h
      obtain ⟨k1, -, h⟩ := eb_inv h
      obtain ⟨z, -, h⟩ := eb_inv h
      cases hl : lfnd cls z.1.2.1 (isDf z.1) with
      | none => rw [hl] at h; cases h
      | some p =>
        rw [hl] at h
        injection h with h
        rw [← h]
        show (cls.set p z.1).length ≤ _
        rw [List.length_set]; omega
    · rw [if_neg q2] at h
      by_cases q3 : C k = -3017
      · rw [if_pos q3] at h
        obtain ⟨k1, -, h⟩ := eb_inv h
        obtain ⟨z, -, h⟩ := eb_inv h
        injection h with h
        rw [← h]
        show (cls ++ [z.1]).length ≤ _
        simp
      · rw [if_neg q3] at h; cases h
theorem ch_l {M : Nat} {l : List Int32} {F P A : List Int64} : ∀ (fu f2 n : Nat) (cls : List Cl) (k bm : Nat) (ts : List Int64) (μ : JM), mAt M μ l ts k → CI M μ l F [] false → jI μ M 56 = 0 → mPq M μ cls bm → bm ≤ 1900 + 2 * pl l k → cls.length ≤ 24 + n → n ≤ 12 → mWl M μ 5 4 5 6 P → mWl M μ 8 6 7 12 A → 13 ≤ n + f2 → 14 - n < fu →
    Res (fX11_changes_b25 fu M (nI n) 1 μ) (fun r ν => sm M HF HA μ ν ∧ clsLow M μ ν ∧ mHc M ν l P A r (sCh (Cd l) F P A f2 n cls k)) := by
  intro fu
  induction fu with
  | zero => intro f2 n cls k bm ts μ _ _ _ _ _ _ _ _ _ _ h; omega
  | succ fu ih =>
    intro f2 n cls k bm ts μ h hC h56 hQ hb hcl hn hP hA hf2 hfu
    obtain ⟨f2, rfl⟩ : ∃ m, f2 = m + 1 := ⟨f2 - 1, by omega⟩
    obtain ⟨h1, h2, h3⟩ := mA_ok h
    rw [fX11_changes_b25, if_neg (by decide), jck_of (by rw [h1.1]; rfl), sCh]
    have b64 : ∀ x : Int32, (x = if isCh (Cd l k) then 1 else 0) → Res (fX11_changes_b64 (fX11_changes_b25 fu) M (nI n) x μ) (fun r ν => sm M HF HA μ ν ∧ clsLow M μ ν ∧ mHc M ν l P A r (if n = 12 then .error (k, if isCh (Cd l k) then 4 else 0) else eb (sCh1 (Cd l) F P A cls k) fun x => if Cd l x.2 = 0 then .ok x else eb (exC (Cd l) (-60) x.2) fun k2 => sCh (Cd l) F P A f2 (n + 1) x.1 k2)) := by
      intro x hx
      rw [fX11_changes_b64]
      by_cases q : n = 12
      · rw [if_neg (Int32.not_lt.mpr (show (12 : Int32) ≤ nI n from nI_le (a := 12) (by omega) (by omega))), if_pos q]
        have b81 : ∀ (kd : Nat) (w : Int32), nI kd = w → kd ≤ 7 → Res (fX11_changes_b81 (fX11_changes_b25 fu) M (nI n) w (some M) μ) (fun r ν => sm M HF HA μ ν ∧ clsLow M μ ν ∧ mHc M ν l P A r (.error (k, kd))) := by
          intro kd w hw hk
          rw [fX11_changes_b81, jck_of (by rw [h1.1]; rfl), jde_is, jck_of (by rw [h1.1]; rfl)]
          refine st_fail kd w hw hk h (fun ν hs hb => ?_)
          have hMν := hs.mt h1
          rw [if_pos rfl, fX11_changes_b96, if_pos rfl, fX11_changes_b112, fX11_changes_b113, jck_of (by rw [hMν.1]; rfl), jlt_is, if_pos rfl]
          have s2 : sm M [56] [] ν (jsI ν M 56 0) := sm.sF (by decide)
          have S : sm M (56 :: TK) [9] μ (jsI ν M 56 0) := (hs.wk (by decide) (by decide)).tr (s2.wk (by decide) (by decide))
          exact (ch_bad (hb.sm s2 (by decide)) (hP.sm S (by decide) (by decide) (by decide) (by decide) (by decide)) (hA.sm S (by decide) (by decide) (by decide) (by decide) (by decide))).mono fun r ρ ⟨q1, q2, q3⟩ => ⟨(S.wk (by decide) (by decide)).tr q1, (clsLow.sm S (by decide) (by decide)).tr q2, q3⟩
        cases hi : isCh (Cd l k) with
        | false =>
          rw [hi] at hx
          rw [hx, if_pos (by decide)]
          exact b81 0 0 rfl (by omega)
        | true =>
          rw [hi] at hx
          rw [hx, if_neg (by decide)]
          exact b81 4 4 rfl (by omega)
      · rw [if_pos (Int32.not_le.mp (show ¬ (12 : Int32) ≤ nI n from nI_ge (b := 12) (by omega) (by omega))), if_neg q, fX11_changes_b91, fX11_changes_b96, if_neg (by decide), jck_of (by rw [h1.1]; rfl)]
        refine Res.cl (m_change h hC hQ (by omega) hb hP hA) fun r μ1 ⟨s1, c1, z1⟩ => ?_
        have hM1 := s1.mt h1
        obtain ⟨hP1, hA1, z1⟩ := z1
        have b113 : ∀ (x : Int32), fX11_changes_b113 (fX11_changes_b25 fu) M (nI n) x μ1 = (if x = 0 then fX11_changes_b146 M x (jsI μ1 M 56 0) else if jI (jsI μ1 M 56 0) M 14 = 0 then fX11_changes_b146 M x (jsI μ1 M 56 0) else jcl (fX11_expectsSign M 59 (jsI μ1 M 56 0)) fun r77 μ78 => fX11_changes_b25 fu M (nI n + 1) r77 μ78) := by
          intro x
          rw [fX11_changes_b113, jck_of (by rw [hM1.1]; rfl), jlt_is]
        have s2 : sm M [56] [] μ1 (jsI μ1 M 56 0) := sm.sF (by decide)
        have v2 : jI (jsI μ1 M 56 0) M 56 = 0 := by rw [jI_sI, if_pos ⟨rfl, rfl⟩]
        have S2 : sm M HF HA μ (jsI μ1 M 56 0) := s1.tr (s2.wk (by decide) (by decide))
        have L2 : clsLow M μ (jsI μ1 M 56 0) := c1.tr (clsLow.sm s2 (by decide) (by decide))
        have hP2 := hP1.sm s2 (by decide) (by decide) (by decide) (by decide) (by decide)
        have hA2 := hA1.sm s2 (by decide) (by decide) (by decide) (by decide) (by decide)
        generalize jsI μ1 M 56 0 = μ2 at b113 s2 v2 S2 L2 hP2 hA2
        cases hs : sCh1 (Cd l) F P A cls k with
        | error f =>
          rw [hs] at z1
          obtain ⟨rfl, z2⟩ := z1
          rw [if_pos rfl, fX11_changes_b112, b113, if_pos rfl, eb_err]
          exact (ch_bad (z2.sm s2 (by decide)) hP2 hA2).mono fun r ρ ⟨q1, q2, q3⟩ => ⟨S2.tr q1, L2.tr q2, q3⟩
        | ok y =>
          have hlen := sCh1_len hs
          rw [hs] at z1
          obtain ⟨rfl, z2, ⟨ts2, z3⟩, ⟨bm2, z4, z5⟩, z6⟩ := z1
          have hA3 := z3.sm s2 (by decide) (by decide)
          rw [if_neg (by decide), b113, if_neg (by decide), eb_ok]
          have hM2 := s2.mt hM1
          by_cases y0 : Cd l y.2 = 0
          · rw [if_pos ((tok_end hA3).mpr y0), if_pos y0, fX11_changes_b146, jck_of (by rw [hM2.1]; rfl), jlt_is, if_neg (by decide)]
            have s3 : sm M [56] [] μ2 (jsI μ2 M 56 0) := sm.sF (by decide)
            rw [s3.fI (by decide), (mA_ok hA3).2.1, if_pos rfl]
            exact .ret ⟨S2.tr (s3.wk (by decide) (by decide)), L2.tr (clsLow.sm s3 (by decide) (by decide)), hP2.sm s3 (by decide) (by decide) (by decide) (by decide) (by decide), hA2.sm s3 (by decide) (by decide) (by decide) (by decide) (by decide), by rw [jI_sI, if_pos ⟨rfl, rfl⟩], rfl, s3.mt hM2, ⟨bm2, (z4.sm s2 (by decide) (by decide)).sm s3 (by decide) (by decide)⟩⟩
          · rw [if_neg (fun t => y0 ((tok_end hA3).mp t)), if_neg y0]
            refine st_exS 59 (-60) 59 (by decide) rfl (by decide) hA3 (fun ν f hg hs hb => ?_) (fun μ3 hf3 s3 hA4 => ?_)
            · obtain ⟨f3, rfl⟩ : ∃ f3, fu = f3 + 1 := ⟨fu - 1, by omega⟩
              rw [hg, eb_err, fX11_changes_b25, if_pos rfl]
              exact (ch_bad hb (hP2.sm hs (by decide) (by decide) (by decide) (by decide) (by decide)) (hA2.sm hs (by decide) (by decide) (by decide) (by decide) (by decide))).mono fun r ρ ⟨q1, q2, q3⟩ => ⟨(S2.tr (hs.wk (by decide) (by decide))).tr q1, (L2.tr (clsLow.sm hs (by decide) (by decide))).tr q2, q3⟩
            · rw [hf3, eb_ok, nI_1]
              have pm : pl l y.2 ≤ pl l (y.2 + 1) := pl_mono2 (by omega)
              have S3 := S2.tr (s3.wk (by decide) (by decide))
              refine (ih f2 (n + 1) y.1 (y.2 + 1) bm2 _ μ3 hA4 ((z6.sm s2 (by decide) (by decide)).sm s3 (by decide) (by decide)) ((s3.fI (by decide)).trans v2) ((z4.sm s2 (by decide) (by decide)).sm s3 (by decide) (by decide)) (by omega) (by omega) (by omega) (hP2.sm s3 (by decide) (by decide) (by decide) (by decide) (by decide)) (hA2.sm s3 (by decide) (by decide) (by decide) (by decide) (by decide)) (by omega) (by omega)).mono fun r ρ ⟨q1, q2, q3⟩ => ⟨S3.tr q1, (L2.tr (clsLow.sm s3 (by decide) (by decide))).tr q2, q3⟩
    refine st_word 659105125 (-3015) 15 (by decide) (by decide) (by decide) h (fun y yT => ?_) (fun y => ?_)
    · rw [if_neg (by decide), fX11_changes_b59]
      exact b64 1 (by unfold isCh; simp [y])
    · rw [if_pos rfl, jck_of (by rw [h1.1]; rfl)]
      refine st_word 19512296549 (-3016) 16 (by decide) (by decide) (by decide) h (fun y2 yT => ?_) (fun y2 => ?_)
      · rw [if_neg (by decide), fX11_changes_b59]
        exact b64 1 (by unfold isCh; simp [y2])
      · rw [if_pos rfl, jck_of (by rw [h1.1]; rfl)]
        refine st_word 1156 (-3017) 17 (by decide) (by decide) (by decide) h (fun y3 yT => ?_) (fun y3 => ?_)
        · rw [if_neg (by decide), fX11_changes_b59]
          exact b64 1 (by unfold isCh; simp [y3])
        · rw [if_pos rfl]
          exact b64 0 (by unfold isCh; simp [y, y2, y3])
def CHF : List Nat := [13, 14, 15, 16, 17, 18, 20, 21, 5, 8, 29, 57, 51, 55, 56, 33]
theorem m_changes {M bm : Nat} {μ : JM} {l : List Int32} {F P A : List Int64} {cls : List Cl} (h : mBeg M μ l) (hF : mFa M μ F) (h56 : jI μ M 56 = 0) (hQ : mPq M μ cls bm) (hb : bm ≤ 1900) (hcl : cls.length ≤ 24) (hP : mWl M μ 5 4 5 6 P) (hA : mWl M μ 8 6 7 12 A) : Res (fX11_changes M μ) (fun r ν => sm M CHF HA μ ν ∧ clsLow M μ ν ∧ mHc M ν l P A r (sRid (Cd l) F P A cls)) := by
  have hM := h.mt
  rw [fX11_changes, jck_of (by rw [hM.1]; rfl), jlt_is, jlt_is]
  have s1 : sm M [29, 33] [] μ (jsI (jsI μ M 33 0) M 29 0) := (sm.sF (by decide)).tr (sm.sF (by decide))
  have v33 : jI (jsI (jsI μ M 33 0) M 29 0) M 33 = 0 := by rw [jI_sI, if_neg (by omega), jI_sI, if_pos ⟨rfl, rfl⟩]
  have v29 : jI (jsI (jsI μ M 33 0) M 29 0) M 29 = 0 := by rw [jI_sI, if_pos ⟨rfl, rfl⟩]
  generalize jsI (jsI μ M 33 0) M 29 0 = μ1 at s1 v33 v29 ⊢
  have hP1 := hP.sm s1 (by decide) (by decide) (by decide) (by decide) (by decide)
  have hA1 := hA.sm s1 (by decide) (by decide) (by decide) (by decide) (by decide)
  have L1 : clsLow M μ μ1 := clsLow.sm s1 (by decide) (by decide)
  unfold mBeg at h
  unfold sRid
  by_cases q : Cd l 0 = -2000
  · rw [if_pos q] at h
    have hbd := h.sm s1 (by decide)
    rw [if_neg hbd.2.2.1, if_pos q, fX11_changes_b24, jfuel_5, fX11_changes_b25, if_pos rfl]
    exact (ch_bad hbd hP1 hA1).mono fun r ν ⟨q1, q2, q3⟩ => ⟨(s1.wk (by decide) (by decide)).tr (q1.wk (by decide) (by decide)), L1.tr q2, q3⟩
  · rw [if_neg q] at h
    have hA0 := h.sm s1 (by decide) (by decide)
    rw [(mA_ok hA0).2.1, if_pos rfl, if_neg q, fX11_changes_b24]
    have hN : mNa M μ1 [] := ⟨v29, by simp, ⟨[], fun n hn => by simp at hn, fun w hw => by simp at hw, rfl⟩, fun n hn => by simp at hn⟩
    exact (ch_l (F := F) jfuel 13 0 cls 0 bm [] μ1 hA0 ⟨hF.sm s1 (by decide) (by decide), hN, v33⟩ ((s1.fI (by decide)).trans h56) (hQ.sm s1 (by decide) (by decide)) (by omega) (by omega) (by omega) hP1 hA1 (by omega) (jfuel_gt (by omega))).mono fun r ν ⟨q1, q2, q3⟩ => ⟨(s1.wk (by decide) (by decide)).tr (q1.wk (by decide) (by decide)), L1.tr q2, q3⟩
