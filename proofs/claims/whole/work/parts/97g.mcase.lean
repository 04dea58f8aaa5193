/-! the reference: CASES; world, isCase, isSo, clause, letter, holds, count -/
def hasC (v : CS) (c : Nat) : Bool := lb (v (c / 64)) (c % 64)
theorem lb_nat (x : Int64) (b : Nat) : lb x b = decide (x.toBitVec.toNat / 2 ^ b % 2 = 1) := by
  unfold lb
  rw [BitVec.getLsbD, Nat.testBit_eq_decide_div_mod_eq]
theorem lN_own (x : Int64) : lN x.toBitVec.toNat = x := by
  apply Int64.toBitVec_inj.1
  show BitVec.ofNat 64 x.toBitVec.toNat = x.toBitVec
  simp
theorem ush_bit (x : Int64) {b : Nat} (hb : b < 64) : (lg_cmp (jlushr x (nI b) &&& 1) 1 = 0) ↔ lb x b = true := by
  have e : jlushr x (nI b) &&& 1 = lN (x.toBitVec.toNat / 2 ^ b % 2) := by
    have := wb_bit (n := x.toBitVec.toNat) (k := b) x.toBitVec.isLt hb
    rw [lN_own] at this
    exact this
  rw [lg_cmp_eq, e, lb_nat, decide_eq_true_eq, show (1 : Int64) = lN 1 from rfl, fb_lN_inj (by omega) (by omega)]
theorem m_isIn {M c : Nat} {μ : JM} {W : CS} (h : MT M μ) (hW : mWo M μ W) (hc : c < 256) : fX11_isIn M (nI c) μ = some (if hasC W c then 1 else 0, μ, 0, 0) := by
  obtain ⟨d1, d2⟩ := div_b c hc
  have ci : c / 64 < 4 := by omega
  rw [fX11_isIn, d1, d2]
  simp only [jck_true, jde_is, jlt_is, jcl_0, beq_self_eq_true, jT_sI, jT_sJ, jP_sI, jP_sJ, jJ_sI, jI_sJ, jZ_sI, jZ_sJ, h.1, mP_world h, mT_world h, jin_nI ci (show 4 < 2 ^ 31 by decide), nI_clamp (show c / 64 < 2 ^ 31 by omega), hW _ ci]
  have := ush_bit (W (c / 64)) (show c % 64 < 64 by omega)
  unfold hasC
  by_cases q : lb (W (c / 64)) (c % 64) = true
  · rw [if_pos (this.mpr q), if_pos q]
  · rw [if_neg (fun z => q (this.mp z)), if_neg q]
theorem wm_l {M n : Nat} {μ : JM} {W : CS} (hn : n ≤ 8) (h : MT M μ) (h2 : jI μ M 2 = nI n) (hW : mWo M μ W) : ∀ (fu c : Nat), c ≤ 2 ^ n → 2 ^ n - c < fu → fX11_worldMany_b4 fu M (nI (fb_ct (hasC W) c)) (nI c) μ = some (nI (fb_ct (hasC W) (2 ^ n)), μ, 0, 0) := by
  have p2 : 2 ^ n ≤ 2 ^ 8 := Nat.pow_le_pow_right (by decide) hn
  intro fu
  induction fu with
  | zero => intro c _ h; omega
  | succ fu ih =>
    intro c hc hf
    rw [fX11_worldMany_b4]
    simp only [jck_true, jde_is, jlt_is, jcl_0, beq_self_eq_true, jT_sI, jT_sJ, jP_sI, jP_sJ, jJ_sI, jI_sJ, jZ_sI, jZ_sJ, h.1, h2]
    rw [if_neg (nI_pos (by omega)), shl_b n (by omega)]
    by_cases q : c = 2 ^ n
    · rw [if_pos (nI_le (by omega) (by omega)), q]
    · rw [if_neg (nI_ge (by omega) (by omega)), m_isIn h hW (by omega), jcl_0]
      have ct := fb_ct_succ (hasC W) c
      cases z : hasC W c with
      | false =>
        rw [z] at ct
        simp only [Bool.false_eq_true, if_false, if_true]
        rw [fX11_worldMany_b35, nI_1, show nI (fb_ct (hasC W) c) + 0 = nI (fb_ct (hasC W) (c + 1)) from by rw [ct]; simp]
        exact ih (c + 1) (by omega) (by omega)
      | true =>
        rw [z] at ct
        simp only [if_true]
        rw [if_neg (by decide), fX11_worldMany_b35, nI_1, nI_1, ← show fb_ct (hasC W) (c + 1) = fb_ct (hasC W) c + 1 from ct]
        exact ih (c + 1) (by omega) (by omega)
/-- what the spec keeps of the WORLD -/
def gW (s : SS) : Prop := ∀ c, c < 256 → (sF s = [] ∨ 2 ^ (sF s).length ≤ c) → hasC (sW s) c = false
theorem ct_cut {p : Nat → Bool} {a b : Nat} (h : a ≤ b) (hp : ∀ c, a ≤ c → c < b → p c = false) : fb_ct p b = fb_ct p a := by
  obtain ⟨d, rfl⟩ : ∃ d, b = a + d := ⟨b - a, by omega⟩
  rw [fb_ct_split]
  have : fb_ct (fun k => p (a + k)) d = 0 := fb_ct_zero.mpr fun k hk => hp _ (by omega) (by omega)
  omega
def cntW (s : SS) : Int32 := nI (fb_ct (hasC (sW s)) 256)
theorem m_worldMany {M : Nat} {μ : JM} {s : SS} (h : mSt M μ s) (hg : gW s) : fX11_worldMany M μ = some (cntW s, μ, 0, 0) := by
  have h1 := h.1
  rw [fX11_worldMany]
  unfold cntW
  by_cases hF : sF s = []
  · have fx := h.2.2.2.1
    unfold mFx at fx
    rw [if_pos hF] at fx
    rw [jfuel_5, fX11_worldMany_b4]
    simp only [jck_true, jde_is, jlt_is, jcl_0, beq_self_eq_true, jT_sI, jT_sJ, jP_sI, jP_sJ, jJ_sI, jI_sJ, jZ_sI, jZ_sJ, h1.1, fx.1]
    rw [if_pos (by decide), ct_cut (a := 0) (by omega) (fun c _ hc => hg c hc (Or.inl hF))]; rfl
  · obtain ⟨a1, a2, a3, a4⟩ := mFx.ne h.2.2.2.1 hF
    have hl := a1.2.1
    have p2 : 2 ^ (sF s).length ≤ 2 ^ 8 := Nat.pow_le_pow_right (by decide) hl
    have := wm_l hl h1 a1.1 h.2.2.2.2.2.2.2.2.2.2.1 jfuel 0 (Nat.zero_le _) (jfuel_gt (by omega))
    have this' : fX11_worldMany_b4 jfuel M 0 0 μ = _ := this
    rw [this', ct_cut (a := 2 ^ (sF s).length) (by omega) (fun c h1 h2 => hg c h2 (Or.inr h1))]
/-! world -/
def spWorld (s : SS) : Int32 × SS := if sF s = [] then (-1, wTp s []) else
  if Cd (sTp s) 0 = -2000 then (fltI (sTp s) (0, 1), wTp s []) else
  if Cd (sTp s) 0 = 0 then (cntW (wW (wTp s []) (allC (sF s).length)), wW (wTp s []) (allC (sF s).length)) else
  match sCon (Cd (sTp s)) (sF s) [] true 2000 0 with
  | .error e => (fltI (sTp s) e, wTp s [])
  | .ok v => if Cd (sTp s) v.2 = 0 then (cntW (wW (wTp s []) (fun i => v.1 i &&& allC (sF s).length i)), wW (wTp s []) (fun i => v.1 i &&& allC (sF s).length i)) else (fltI (sTp s) (v.2, 0), wTp s [])
theorem mSt_wo {M : Nat} {μ ν : JM} {s : SS} {W : CS} (h : mSt M μ s) (q : sm M [] [11] μ ν) (hW : mWo M ν W) : mSt M ν (wW s W) := by
  obtain ⟨h1, h2, h3, h4, h5, h6, h7, h8, h9, h10, h11, h12, h13, h14, h15⟩ := h
  exact ⟨q.mt h1, h2.sm q (by decide) (by decide), h3, h4.sm q (by decide) (by decide), h5.sm q (by decide) (by decide) (by decide) (by decide) (by decide), h6.sm q (by decide) (by decide) (by decide) (by decide) (by decide), h7.sm q (by decide) (by decide), h8.sm q (by decide) (clsLow.sm q (by decide) (by decide)), (q.fI (by decide)).trans h9, h10.sm q (by decide) (by decide), hW, h12.sm q (by decide) (by decide), h13.sm q (by decide) (by decide), (q.fI (by decide)).trans h14, (q.fI (by decide)).trans h15⟩
theorem wo_a {M : Nat} {W : CS} : ∀ (fu i : Nat) (μ : JM), MT M μ → i ≤ 4 → 4 - i < fu → (∀ j, j < 4 → jJ μ (M + 10) j = W j) → (∀ j, j < i → jJ μ (M + 11) j = W j) → ∃ ν, fX11_world_b39 fu M (nI i) μ = fX11_world_b141 M ν ∧ sm M [] [11] μ ν ∧ mWo M ν W := by
  intro fu
  induction fu with
  | zero => intro i μ _ _ h; omega
  | succ fu ih =>
    intro i μ h hi hf ha hp
    rw [fX11_world_b39]
    by_cases q : i = 4
    · subst q
      rw [if_pos (by decide)]
      exact ⟨μ, rfl, sm.rf, hp⟩
    · have i4 : i < 4 := by omega
      rw [if_neg (show ¬ (4 : Int32) ≤ nI i from nI_ge (b := 4) (by omega) (by decide))]
      simp only [jck_true, jde_is, jlt_is, jcl_0, beq_self_eq_true, jT_sI, jT_sJ, jP_sI, jP_sJ, jJ_sI, jI_sJ, jZ_sI, jZ_sJ, h.1, mP_all h, mT_all h, mP_world h, mT_world h, jin_nI i4 (show 4 < 2 ^ 31 by decide), nI_clamp (show i < 2 ^ 31 by omega), nI_1, ha i i4]
      have s1 : sm M [] [11] μ (jsJ μ (M + 11) i (W i)) := sm.sJ (by decide)
      obtain ⟨ν, g1, g2, g3⟩ := ih (i + 1) (jsJ μ (M + 11) i (W i)) (s1.mt h) (by omega) (by omega) (fun j hj => by rw [s1.aJ (by decide) (by decide)]; exact ha j hj) (fun j hj => by
        rw [jJ_sJ]
        by_cases z : j = i
        · rw [if_pos ⟨rfl, z⟩, z]
        · rw [if_neg (fun t => z t.2)]; exact hp j (by omega))
      exact ⟨ν, g1, s1.tr g2, g3⟩
theorem wo_n {M : Nat} {W : CS} : ∀ (fu i : Nat) (μ : JM), MT M μ → i ≤ 4 → 4 - i < fu → (∀ j, j < 4 → jJ μ (M + 16) j = W j) → (∀ j, j < i → jJ μ (M + 11) j = W j) → ∃ ν, fX11_world_b118 fu M (nI i) μ = fX11_world_b141 M ν ∧ sm M [] [11] μ ν ∧ mWo M ν W := by
  intro fu
  induction fu with
  | zero => intro i μ _ _ h; omega
  | succ fu ih =>
    intro i μ h hi hf ha hp
    rw [fX11_world_b118]
    by_cases q : i = 4
    · subst q
      rw [if_pos (by decide)]
      exact ⟨μ, rfl, sm.rf, hp⟩
    · have i4 : i < 4 := by omega
      rw [if_neg (show ¬ (4 : Int32) ≤ nI i from nI_ge (b := 4) (by omega) (by decide))]
      simp only [jck_true, jde_is, jlt_is, jcl_0, beq_self_eq_true, jT_sI, jT_sJ, jP_sI, jP_sJ, jJ_sI, jI_sJ, jZ_sI, jZ_sJ, h.1, mP_now h, mT_now h, mP_world h, mT_world h, jin_nI i4 (show 4 < 2 ^ 31 by decide), nI_clamp (show i < 2 ^ 31 by omega), nI_1, ha i i4]
      have s1 : sm M [] [11] μ (jsJ μ (M + 11) i (W i)) := sm.sJ (by decide)
      obtain ⟨ν, g1, g2, g3⟩ := ih (i + 1) (jsJ μ (M + 11) i (W i)) (s1.mt h) (by omega) (by omega) (fun j hj => by rw [s1.aJ (by decide) (by decide)]; exact ha j hj) (fun j hj => by
        rw [jJ_sJ]
        by_cases z : j = i
        · rw [if_pos ⟨rfl, z⟩, z]
        · rw [if_neg (fun t => z t.2)]; exact hp j (by omega))
      exact ⟨ν, g1, s1.tr g2, g3⟩
theorem gW_mask {s : SS} {v : CS} (hF : sF s ≠ []) (hl : (sF s).length ≤ 8) : gW (wW s (fun i => v i &&& allC (sF s).length i)) := by
  intro c hc h
  have h : sF s = [] ∨ 2 ^ (sF s).length ≤ c := h
  rcases h with h | h
  · exact absurd h hF
  · show lb (v (c / 64) &&& allC (sF s).length (c / 64)) (c % 64) = false
    rw [l_and, allC_b _ (by omega) _ (by omega) _ (by omega)]
    simp; intro _; omega
theorem m_world {M : Nat} {μ : JM} {s : SS} (h : mSt M μ s) : Res (fX11_world M μ) (fun r ν => r = (spWorld s).1 ∧ mSt M ν (spWorld s).2) := by
  have h1 := h.1
  rw [fX11_world, jck_of (by rw [h1.1]; rfl)]
  refine Res.cl (m_takesTape h1 h.2.1 h.2.2.1) fun _ μ1 ⟨s1, t1, b1⟩ => ?_
  have hM1 := b1.mt
  have base := m_takeBase h s1 t1
  rw [jck_of (by rw [hM1.1]; rfl)]
  unfold spWorld
  by_cases hF : sF s = []
  · have fx := base.2.2.2.1
    unfold mFx at fx
    rw [if_pos (show sF (wTp s []) = [] from hF)] at fx
    rw [fx.1, if_neg (by decide), if_pos hF]
    exact .ret ⟨rfl, base⟩
  · obtain ⟨a1, a2, a3, a4⟩ := mFx.ne base.2.2.2.1 hF
    have hl : (sF s).length ≤ 8 := a1.2.1
    have hF' : sF (wTp s []) ≠ [] := hF
    rw [if_pos a4, if_neg hF, jlt_is, jlt_is]
    have s2 : sm M [29, 33] [] μ1 (jsI (jsI μ1 M 33 1) M 29 0) := (sm.sF (by decide)).tr (sm.sF (by decide))
    have v33 : jI (jsI (jsI μ1 M 33 1) M 29 0) M 33 = 1 := by rw [jI_sI, if_neg (by omega), jI_sI, if_pos ⟨rfl, rfl⟩]
    have v29 : jI (jsI (jsI μ1 M 33 1) M 29 0) M 29 = 0 := by rw [jI_sI, if_pos ⟨rfl, rfl⟩]
    generalize jsI (jsI μ1 M 33 1) M 29 0 = μ2 at s2 v33 v29 ⊢
    have st2 := base.sm s2 (by decide) (by decide)
    have b2 := b1.sm s2 (by decide) (by decide)
    have hM2 := s2.mt hM1
    unfold mBeg at b2
    have fin : ∀ (ν ρ : JM) (W : CS), mSt M ν (wTp s []) → sm M [] [11] ν ρ → mWo M ρ (fun i => W i &&& allC (sF s).length i) → Res (fX11_world_b141 M ρ) (fun r ν => r = cntW (wW (wTp s []) (fun i => W i &&& allC (sF s).length i)) ∧ mSt M ν (wW (wTp s []) (fun i => W i &&& allC (sF s).length i))) := by
      intro ν ρ W hν sρ hW
      have st := mSt_wo hν sρ hW
      have hg : gW (wW (wTp s []) (fun i => W i &&& allC (sF s).length i)) := gW_mask (s := wTp s []) hF' hl
      rw [fX11_world_b141, jck_of (by rw [st.1.1]; rfl), m_worldMany st hg, jcl_0]
      exact .ret ⟨rfl, st⟩
    by_cases q : Cd (sTp s) 0 = -2000
    · rw [if_pos q] at b2
      rw [if_neg b2.2.2.1, if_pos q, fX11_world_b65, jck_of (by rw [hM2.1]; rfl), if_neg b2.2.2.1, fX11_world_b102, fX11_world_b103, if_pos rfl, jck_of (by rw [hM2.1]; rfl), b2.2.1]
      exact .ret ⟨rfl, st2⟩
    · rw [if_neg q] at b2
      rw [(mA_ok b2).2.1, if_pos rfl, if_neg q]
      by_cases z : Cd (sTp s) 0 = 0
      · rw [if_pos ((tok_end b2).mpr z), if_pos z]
        have e10 : ∀ j, j < 4 → jJ μ2 (M + 10) j = (-1) &&& allC (sF s).length j := fun j hj => by rw [s2.aJ (by decide) (by decide), lx_m1]; exact a2 j hj
        obtain ⟨ρ, g1, g2, g3⟩ := wo_a (W := fun i => (-1) &&& allC (sF s).length i) jfuel 0 μ2 hM2 (by omega) (jfuel_gt (by omega)) e10 (fun j hj => by omega)
        have g1' : fX11_world_b39 jfuel M 0 μ2 = _ := g1
        rw [g1']
        have := fin μ2 ρ (fun _ => -1) st2 g2 g3
        have em : (fun i => (-1 : Int64) &&& allC (sF s).length i) = allC (sF s).length := funext fun i => lx_m1 _
        rw [em] at this; exact this
      · rw [if_neg (fun t => z ((tok_end b2).mp t)), if_neg z, fX11_world_b65, jck_of (by rw [hM2.1]; rfl), (mA_ok b2).2.1, if_pos rfl]
        have hN : mNa M μ2 [] := ⟨v29, by simp, ⟨[], fun n hn => by simp at hn, fun w hw => by simp at hw, rfl⟩, fun n hn => by simp at hn⟩
        refine st_cond b2 (F := sF s) (N := []) (wh := true) ⟨a1.sm s2 (by decide) (by decide), hN, v33⟩ (fun ν f hf hs hb => ?_) (fun μ3 v hf s3 hk hA hNow => ?_)
        · rw [if_pos rfl, fX11_world_b102, fX11_world_b103, if_pos rfl, jck_of (by rw [hb.1.1]; rfl), hb.2.1, hf]
          exact .ret ⟨rfl, st2.sm hs (by decide) (by decide)⟩
        · have hM3 := s3.mt hM2
          have st3 := st2.sm s3 (by decide) (by decide)
          rw [if_neg (by decide), jck_of (by rw [hM3.1]; rfl), hf]
          dsimp only
          by_cases y : Cd (sTp s) v.2 = 0
          · rw [if_pos ((tok_end hA).mpr y), if_pos y, fX11_world_b98, fX11_world_b103, if_neg (by decide)]
            have e16 : ∀ j, j < 4 → jJ μ3 (M + 16) j = v.1 j &&& allC (sF s).length j := fun j hj => by
              rw [hNow j hj, s3.aJ (by decide) (by decide), s2.aJ (by decide) (by decide)]
              congr 1; exact a2 j hj
            obtain ⟨ρ, g1, g2, g3⟩ := wo_n (W := fun i => v.1 i &&& allC (sF s).length i) jfuel 0 μ3 hM3 (by omega) (jfuel_gt (by omega)) e16 (fun j hj => by omega)
            have g1' : fX11_world_b118 jfuel M 0 μ3 = _ := g1
            rw [g1']
            exact fin μ3 ρ v.1 st3 g2 g3
          · rw [if_neg (fun t => y ((tok_end hA).mp t)), if_neg y]
            refine st_fail 0 0 rfl (by decide) hA (fun ν hs hb => ?_)
            rw [if_pos rfl, fX11_world_b102, fX11_world_b103, if_pos rfl, jck_of (by rw [hb.1.1]; rfl), hb.2.1]
            exact .ret ⟨rfl, st3.sm hs (by decide) (by decide)⟩
