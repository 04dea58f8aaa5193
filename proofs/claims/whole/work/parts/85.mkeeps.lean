/-! the reference: becomes, keeps -/
theorem jI_off {μ : JM} {M j j2 b k : Nat} {x : Int32} (h : j ≠ j2) : jI (jsI μ (M + j) b x) (M + j2) k = jI μ (M + j2) k := by rw [jI_sI, if_neg (by omega)]
theorem isL_nb {c : Int32} (h : isL c = true) : nb c = c := by
  obtain ⟨m, m1, m2, rfl⟩ := isL_nat h
  exact nb_small (by omega)
theorem bc_ho {M a b : Nat} {x1 x2 : Int32} {rec14 : Nat → Int32 → Int32 → JM → JO Unit} {w : CS} (ha : a < 120) (hb : b < 120) (hab : a ≠ b) : ∀ (fu i : Nat) (μ : JM), MT M μ → i ≤ 4 → 4 - i < fu → mHo M μ a w → (∀ j, j < i → jJ μ (M + 30) (4 * b + j) = w j &&& jJ μ (M + 10) j) →
    ∃ ν, fX11_becomes_b185 rec14 fu M x1 x2 (nI a) (nI b) (nI i) μ = rec14 M x1 (x2 + 1) ν ∧ sm M [] [30] μ ν ∧ clsBut M μ ν b ∧ mHo M ν b w := by
  intro fu
  induction fu with
  | zero => intro i μ _ _ h; omega
  | succ fu ih =>
    intro i μ h hi hf hn hp
    rw [fX11_becomes_b185]
    by_cases q : i = 4
    · subst q
      rw [if_pos (by decide)]
      exact ⟨μ, rfl, sm.rf, clsBut.rf, hp⟩
    · have i4 : i < 4 := by omega
      rw [if_neg (show ¬ (4 : Int32) ≤ nI i from nI_ge (b := 4) (by omega) (by decide))]
      simp only [jck_true, jde_is, jlt_is, jcl_0, beq_self_eq_true, jT_sI, jT_sJ, jP_sI, jP_sJ, jJ_sI, jI_sJ, jZ_sI, jZ_sJ, h.1, mP_holding h, mT_holding h, ix4, jin_nI (show 4 * a + i < 480 by omega) (by decide), jin_nI (show 4 * b + i < 480 by omega) (by decide), nI_clamp (show 4 * a + i < 2 ^ 31 by omega), nI_clamp (show 4 * b + i < 2 ^ 31 by omega), nI_1, hn i i4]
      have ke : mHo M (jsJ μ (M + 30) (4 * b + i) (w i &&& jJ μ (M + 10) i)) a w := by
        intro j hj
        rw [jJ_sJ, if_neg (by omega), jJ_sJ, if_neg (by omega)]; exact hn j hj
      obtain ⟨s1, c1, v1⟩ := ho_step (M := M) (e := b) (μ := μ) (w i &&& jJ μ (M + 10) i) i4
      generalize jsJ μ (M + 30) (4 * b + i) (w i &&& jJ μ (M + 10) i) = μ1 at s1 c1 v1 ke ⊢
      have e10 : jJ μ1 (M + 10) = jJ μ (M + 10) := s1.aJ (by decide) (by decide)
      obtain ⟨ν, g1, g2, g3, g4⟩ := ih (i + 1) μ1 (s1.mt h) (by omega) (by omega) ke (fun j hj => by
        rw [v1 j (by omega), e10]
        by_cases z : j = i
        · rw [if_pos z, z]
        · rw [if_neg z]; exact hp j (by omega))
      exact ⟨ν, g1, s1.tr g2, c1.tr g3, g4⟩
theorem bc_la {M a b : Nat} {x1 x2 : Int32} {rec14 : Nat → Int32 → Int32 → JM → JO Unit} {w : List Int32} (ha : a < 120) (hb : b < 120) (hab : a ≠ b) (hw : wd w) : ∀ (fu i : Nat) (μ : JM), MT M μ → i ≤ 12 → 12 - i < fu → Sg (jI μ (M + 28)) (12 * a) w → (∀ j, j < i → j < w.length → jI μ (M + 28) (12 * b + j) = w.getD j 0) →
    ∃ ν, fX11_becomes_b144 rec14 fu M x1 x2 (nI a) (nI b) (nI i) μ = fX11_becomes_b185 rec14 jfuel M x1 x2 (nI a) (nI b) 0 ν ∧ sm M [] [28] μ ν ∧ clsBut M μ ν b ∧ Sg (jI ν (M + 28)) (12 * b) w := by
  have hw3 := hw.2.2
  intro fu
  induction fu with
  | zero => intro i μ _ _ h; omega
  | succ fu ih =>
    intro i μ h hi hf hn hp
    rw [fX11_becomes_b144]
    by_cases q : i = 12
    · subst q
      rw [if_pos (by decide)]
      exact ⟨μ, rfl, sm.rf, clsBut.rf, fun j hj => hp j (by omega) hj⟩
    · have i4 : i < 12 := by omega
      rw [if_neg (show ¬ (12 : Int32) ≤ nI i from nI_ge (b := 12) (by omega) (by decide))]
      have ix : ∀ d : Nat, (12 : Int32) * nI d + nI i = nI (12 * d + i) := fun d => by rw [show (12 : Int32) = nI 12 from rfl, pk_mul, nI_add]
      simp only [jck_true, jde_is, jlt_is, jcl_0, beq_self_eq_true, jT_sI, jT_sJ, jP_sI, jP_sJ, jJ_sI, jI_sJ, jZ_sI, jZ_sJ, h.1, mP_label h, mT_label h, ix, jin_nI (show 12 * a + i < 1440 by omega) (by decide), jin_nI (show 12 * b + i < 1440 by omega) (by decide), nI_clamp (show 12 * a + i < 2 ^ 31 by omega), nI_clamp (show 12 * b + i < 2 ^ 31 by omega), nI_1, vp_byte]
      have s1 : ∀ x, sm M [] [28] μ (jsI μ (M + 28) (12 * b + i) x) := fun x => sm.sA (by decide) (by decide)
      have c1 : ∀ x, clsBut M μ (jsI μ (M + 28) (12 * b + i) x) b := fun x => clsBut.setL i4
      obtain ⟨ν, g1, g2, g3, g4⟩ := ih (i + 1) (jsI μ (M + 28) (12 * b + i) (nb (jI μ (M + 28) (12 * a + i)))) ((s1 _).mt h) (by omega) (by omega) (hn.eq fun j hj => by rw [jI_sI, if_neg (by omega)]) (fun j hj hjw => by
        rw [jI_sI]
        by_cases z : j = i
        · subst z
          rw [if_pos ⟨rfl, rfl⟩, hn j hjw]
          exact isL_nb (hw.2.1 _ (getD_mem hjw))
        · rw [if_neg (by omega)]; exact hp j (by omega) hjw)
      exact ⟨ν, g1, (s1 _).tr g2, (c1 _).tr g3, g4⟩
theorem mCl.sm2 {M : Nat} {μ ν : JM} {e : Nat} {c : Cl} (h : mCl M μ e c) (hp : mCp M ν e c.1 c.2.2.1 c.2.2.2.1 c.2.2.2.2.1 c.2.2.2.2.2.1 (Cl.ovr c)) (hl : mLab M ν e c.2.1) (hh : mHo M ν e (Cl.cas c)) : mCl M ν e c := ⟨hp, hl, hh⟩
def BA : List Nat := [21, 22, 23, 24, 25, 26, 27, 28, 29, 30]
theorem bc_one {M k v fu : Nat} {c : Cl} {μ : JM} (hk : k < 24) (hv : v < 4) (h : MT M μ) (hc : mCl M μ (96 + k) c) (hn : nI k < jI μ (M + 20) v) :
    ∃ ν, fX11_becomes_b14 (fu + 1) M (nI v) (nI k) μ = fX11_becomes_b14 fu M (nI v) (nI (k + 1)) ν ∧ sm M [] BA μ ν ∧ clsBut M μ ν (24 * v + k) ∧ mCl M ν (24 * v + k) c := by
  have e96 : (96 : Int32) + nI k = nI (96 + k) := by rw [show (96 : Int32) = nI 96 from rfl, nI_add]
  have e24 : (24 : Int32) * nI v + nI k = nI (24 * v + k) := by rw [show (24 : Int32) = nI 24 from rfl, pk_mul, nI_add]
  have b120 : 24 * v + k < 120 := by omega
  rw [fX11_becomes_b14]
  obtain ⟨⟨c1, c2, c3, c4, c5, c6, c7⟩, ⟨w, w1, w2, w3, w4⟩, ch⟩ := id hc
  simp only [jck_true, jde_is, jlt_is, jcl_0, beq_self_eq_true, jT_sI, jT_sJ, jP_sI, jP_sJ, jJ_sI, jI_sJ, jZ_sI, jZ_sJ, h.1, mP_clauses h, mT_clauses h, mP_kind h, mT_kind h, mP_party h, mT_party h, mP_act h, mT_act h, mP_number h, mT_number h, mP_byWork h, mT_byWork h, mP_overMany h, mT_overMany h, mP_overBits h, mT_overBits h, mP_labelSize h, mT_labelSize h, e96, e24, jin_nI (show v < 5 by omega) (show 5 < 2 ^ 31 by decide), jin_nI (show 96 + k < 120 by omega) (show 120 < 2 ^ 31 by decide), jin_nI b120 (show 120 < 2 ^ 31 by decide), nI_clamp (show v < 2 ^ 31 by omega), nI_clamp (show 96 + k < 2 ^ 31 by omega), nI_clamp (show 24 * v + k < 2 ^ 31 by omega)]
  rw [if_neg (Int32.not_le.mpr hn)]
  simp (disch := decide) only [jI_off, c1, c2, c3, c4, c5, c6, c7, w3]
  generalize hμ1 : jsI (jsI (jsI (jsI (jsI (jsI (jsI (jsI μ (M + 21) (24 * v + k) c.1) (M + 22) (24 * v + k) c.2.2.1) (M + 23) (24 * v + k) c.2.2.2.1) (M + 24) (24 * v + k) c.2.2.2.2.1) (M + 25) (24 * v + k) c.2.2.2.2.2.1) (M + 26) (24 * v + k) (pcI (Cl.ovr c))) (M + 27) (24 * v + k) (Cl.ovr c)) (M + 29) (24 * v + k) (nI w.length) = μ1
  have s1 : sm M [] BA μ μ1 := by
    rw [← hμ1]
    exact (sm.sA (by decide) (by decide)).tr ((sm.sA (by decide) (by decide)).tr ((sm.sA (by decide) (by decide)).tr ((sm.sA (by decide) (by decide)).tr ((sm.sA (by decide) (by decide)).tr ((sm.sA (by decide) (by decide)).tr ((sm.sA (by decide) (by decide)).tr (sm.sA (by decide) (by decide))))))))
  have b1 : clsBut M μ μ1 (24 * v + k) := by
    rw [← hμ1]
    exact (clsBut.setI (by decide)).tr ((clsBut.setI (by decide)).tr ((clsBut.setI (by decide)).tr ((clsBut.setI (by decide)).tr ((clsBut.setI (by decide)).tr ((clsBut.setI (by decide)).tr ((clsBut.setI (by decide)).tr (clsBut.setI (by decide))))))))
  have p1 : mCp M μ1 (24 * v + k) c.1 c.2.2.1 c.2.2.2.1 c.2.2.2.2.1 c.2.2.2.2.2.1 (Cl.ovr c) := by
    rw [← hμ1]; unfold mCp
    refine ⟨?_, ?_, ?_, ?_, ?_, ?_, ?_⟩ <;> simp only [jI_sI] <;> simp
  have l1 : jI μ1 (M + 29) (24 * v + k) = nI w.length := by rw [← hμ1, jI_sI, if_pos ⟨rfl, rfl⟩]
  have hM1 := s1.mt h
  have a1 := b1 _ _ (show 96 + k ≠ 24 * v + k by omega) hc
  have w4' : Sg (jI μ1 (M + 28)) (12 * (96 + k)) w := by
    have : jI μ1 (M + 28) = jI μ (M + 28) := by
      rw [← hμ1]
      funext i
      simp (disch := decide) only [jI_off]
    rw [this]; exact w4
  obtain ⟨μ2, g1, g2, g3, g4⟩ := bc_la (x1 := nI v) (x2 := nI k) (rec14 := fX11_becomes_b14 fu) (show 96 + k < 120 by omega) b120 (by omega) w1 jfuel 0 μ1 hM1 (by omega) (jfuel_gt (by omega)) w4' (fun j hj => by omega)
  have g1' : fX11_becomes_b144 (fX11_becomes_b14 fu) jfuel M (nI v) (nI k) (nI (96 + k)) (nI (24 * v + k)) 0 μ1 = _ := g1
  rw [g1']
  have a2 := g3 _ _ (show 96 + k ≠ 24 * v + k by omega) a1
  obtain ⟨μ3, q1, q2, q3, q4⟩ := bc_ho (x1 := nI v) (x2 := nI k) (rec14 := fX11_becomes_b14 fu) (show 96 + k < 120 by omega) b120 (by omega) jfuel 0 μ2 (g2.mt hM1) (by omega) (jfuel_gt (by omega)) a2.2.2 (fun j hj => by omega)
  have q1' : fX11_becomes_b185 (fX11_becomes_b14 fu) jfuel M (nI v) (nI k) (nI (96 + k)) (nI (24 * v + k)) 0 μ2 = _ := q1
  rw [q1', nI_1]
  refine ⟨μ3, rfl, (s1.tr (g2.wk (by decide) (by decide))).tr (q2.wk (by decide) (by decide)), (b1.tr g3).tr q3, ?_, ⟨w, w1, w2, ?_, ?_⟩, q4⟩
  · unfold mCp
    rw [q2.aI (by decide) (by decide), q2.aI (by decide) (by decide), q2.aI (by decide) (by decide), q2.aI (by decide) (by decide), q2.aI (by decide) (by decide), q2.aI (by decide) (by decide), q2.aI (by decide) (by decide), g2.aI (by decide) (by decide), g2.aI (by decide) (by decide), g2.aI (by decide) (by decide), g2.aI (by decide) (by decide), g2.aI (by decide) (by decide), g2.aI (by decide) (by decide), g2.aI (by decide) (by decide)]
    exact p1
  · rw [q2.aI (by decide) (by decide), g2.aI (by decide) (by decide)]; exact l1
  · rw [q2.aI (by decide) (by decide)]; exact g4
/-- the rows of the other versions are kept -/
def clsV (M : Nat) (μ ν : JM) (v : Nat) : Prop := ∀ f c, (f < 24 * v ∨ 24 * v + 24 ≤ f) → mCl M μ f c → mCl M ν f c
theorem bc_l {M v : Nat} {cls : List Cl} (hv : v < 4) (hn : cls.length ≤ 24) : ∀ (fu k : Nat) (μ : JM), MT M μ → k ≤ cls.length → cls.length - k < fu → jI μ (M + 20) v = nI cls.length → mCls M μ 96 cls → (∀ i, i < k → mCl M μ (24 * v + i) (cls.getD i cl0)) →
    Res (fX11_becomes_b14 fu M (nI v) (nI k) μ) (fun _ ν => sm M [] BA μ ν ∧ clsV M μ ν v ∧ mCls M ν (24 * v) cls) := by
  intro fu
  induction fu with
  | zero => intro k μ _ _ h; omega
  | succ fu ih =>
    intro k μ h hk hf h20 hK hD
    by_cases q : k = cls.length
    · subst q
      rw [fX11_becomes_b14]
      simp only [jck_true, jde_is, jlt_is, jcl_0, beq_self_eq_true, jT_sI, jT_sJ, jP_sI, jP_sJ, jJ_sI, jI_sJ, jZ_sI, jZ_sJ, h.1, mP_clauses h, mT_clauses h, jin_nI (show v < 5 by omega) (show 5 < 2 ^ 31 by decide), nI_clamp (show v < 2 ^ 31 by omega), h20]
      rw [if_pos (nI_le (by omega) (by omega))]
      exact .ret ⟨sm.rf, fun _ _ _ z => z, hD⟩
    · have hk2 : k < cls.length := by omega
      obtain ⟨μ1, g1, g2, g3, g4⟩ := bc_one (M := M) (v := v) (fu := fu) (by omega) hv h (hK k hk2) (by rw [h20]; exact Int32.not_le.mp (nI_ge hk2 (by omega)))
      rw [g1]
      refine (ih (k + 1) μ1 (g2.mt h) (by omega) (by omega) (by rw [g2.aI (by decide) (by decide)]; exact h20) (hK.but g3 (Or.inl (by omega))) (fun i hi => ?_)).mono ?_
      · by_cases z : i = k
        · subst z; exact g4
        · exact g3 _ _ (by omega) (hD i (by omega))
      · rintro _ ν ⟨q1, q2, q3⟩
        exact ⟨g2.tr q1, fun f c hf hc => q2 f c hf (g3 f c (by omega) hc), q3⟩
theorem m_becomes {M v : Nat} {cls : List Cl} {μ : JM} (hv : v < 4) (hn : cls.length ≤ 24) (h : MT M μ) (h20 : jI μ (M + 20) 4 = nI cls.length) (hK : mCls M μ 96 cls) : Res (fX11_becomes M (nI v) μ) (fun _ ν => sm M [] (20 :: BA) μ ν ∧ clsV M μ ν v ∧ mCls M ν (24 * v) cls ∧ (∀ u, jI ν (M + 20) u = if u = v then nI cls.length else jI μ (M + 20) u)) := by
  rw [fX11_becomes]
  have c4 : ((4 : Int32)).toNatClampNeg = 4 := by decide
  simp only [jck_true, jde_is, jlt_is, jcl_0, beq_self_eq_true, jT_sI, jT_sJ, jP_sI, jP_sJ, jJ_sI, jI_sJ, jZ_sI, jZ_sJ, h.1, mP_clauses h, mT_clauses h, jck_of (show jin 4 5 = true by decide), jin_nI (show v < 5 by omega) (show 5 < 2 ^ 31 by decide), nI_clamp (show v < 2 ^ 31 by omega), c4, h20]
  have s1 : sm M [] [20] μ (jsI μ (M + 20) v (nI cls.length)) := sm.sA (by decide) (by decide)
  have v1 : ∀ u, jI (jsI μ (M + 20) v (nI cls.length)) (M + 20) u = if u = v then nI cls.length else jI μ (M + 20) u := by
    intro u
    rw [jI_sI]
    by_cases z : u = v
    · rw [if_pos ⟨rfl, z⟩, if_pos z]
    · rw [if_neg (fun y => z y.2), if_neg z]
  generalize jsI μ (M + 20) v (nI cls.length) = μ1 at s1 v1 ⊢
  refine (bc_l hv hn jfuel 0 μ1 (s1.mt h) (by omega) (jfuel_gt (by omega)) (by rw [v1, if_pos rfl]) (fun i hi => (hK i hi).sm s1 (by decide)) (fun i hi => by omega)).mono ?_
  rintro _ ν ⟨q1, q2, q3⟩
  exact ⟨(s1.wk (by decide) (by decide)).tr (q1.wk (by decide) (by decide)), fun f c hf hc => q2 f c hf (hc.sm s1 (by decide)), q3, fun u => by rw [q1.aI (by decide) (by decide)]; exact v1 u⟩
