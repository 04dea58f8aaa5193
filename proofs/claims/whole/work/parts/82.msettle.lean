/-! from where clauses are met to where they hold -/
def hfold (k : Nat) (v : CS) : List Cl → List CS → CS
  | x :: r, h :: hs => hfold k (if isDf x = false ∧ bt (Cl.ovr x) k = true then (fun i => v i &&& (h i ^^^ (-1))) else v) r hs
  | _, _ => v
def stl (k : Nat) : List Cl → List CS
  | [] => []
  | c :: r => (if isDf c then Cl.cas c else hfold k (Cl.cas c) r (stl (k + 1) r)) :: stl (k + 1) r
def setC (c : Cl) (h : CS) : Cl := (c.1, c.2.1, c.2.2.1, c.2.2.2.1, c.2.2.2.2.1, c.2.2.2.2.2.1, c.2.2.2.2.2.2.1, h, c.2.2.2.2.2.2.2.2)
def stlC (cls : List Cl) : List Cl := List.zipWith setC cls (stl 0 cls)
theorem stl_len : ∀ (cls : List Cl) (k : Nat), (stl k cls).length = cls.length
  | [], _ => rfl
  | c :: r, k => by rw [stl, List.length_cons, List.length_cons, stl_len r]
theorem stl_drop : ∀ (cls : List Cl) (k m : Nat), (stl k cls).drop m = stl (k + m) (cls.drop m)
  | [], k, m => by simp [stl]
  | c :: r, k, 0 => rfl
  | c :: r, k, m + 1 => by rw [stl, List.drop_succ_cons, List.drop_succ_cons, stl_drop r, show k + 1 + m = k + (m + 1) by omega]
theorem drop_getD {α : Type} {l : List α} {d : α} {n : Nat} (h : n < l.length) : l.drop n = l.getD n d :: l.drop (n + 1) := by
  rw [List.drop_eq_getElem_cons h]; congr 1; simp [List.getD, h]
def S0 (cls : List Cl) (i : Nat) : CS := (stl 0 cls).getD i (fun _ => 0)
theorem S0_is {cls : List Cl} {k : Nat} (h : k < cls.length) : S0 cls k = if isDf (cls.getD k cl0) then Cl.cas (cls.getD k cl0) else hfold k (Cl.cas (cls.getD k cl0)) (cls.drop (k + 1)) ((stl 0 cls).drop (k + 1)) := by
  have h1 := stl_drop cls 0 k
  rw [drop_getD (d := cl0) h, stl, Nat.zero_add] at h1
  have h2 : (stl 0 cls).drop k = S0 cls k :: (stl 0 cls).drop (k + 1) := drop_getD (by rw [stl_len]; exact h)
  rw [h2] at h1
  injection h1 with h3 h4
  rw [h3, h4]
theorem stlC_len (cls : List Cl) : (stlC cls).length = cls.length := by unfold stlC; rw [List.length_zipWith, stl_len]; omega
theorem stlC_get {cls : List Cl} {k : Nat} (h : k < cls.length) : (stlC cls).getD k cl0 = setC (cls.getD k cl0) (S0 cls k) := by
  have h2 : k < (stl 0 cls).length := by rw [stl_len]; exact h
  unfold stlC S0
  simp [List.getD, List.getElem?_zipWith, h, h2]
theorem isDf_t {c : Cl} : isDf c = true ↔ c.1 = 0 := by unfold isDf; exact decide_eq_true_iff
theorem isDf_f {c : Cl} : isDf c = false ↔ ¬ c.1 = 0 := by unfold isDf; exact decide_eq_false_iff_not
/-! the reference settles -/
theorem set_in {M a b : Nat} {g w : CS} {x3 x5 x7 : Int32} {rec126 : Nat → Int32 → Int32 → JM → JO Int32} {rec144 : Nat → Int32 → Int32 → Int32 → Int32 → JM → JO Int32} (ha : a < 120) (hb : b < 120) (hab : a ≠ b) : ∀ (fu i : Nat) (μ : JM), MT M μ → i ≤ 4 → 4 - i < fu → mHo M μ b w → (∀ j, j < 4 → jJ μ (M + 30) (4 * a + j) = (if j < i then g j &&& (w j ^^^ (-1)) else g j) &&& jJ μ (M + 10) j) →
    ∃ ν, fX11_reads_b198 rec126 rec144 fu M x3 x5 (nI a) x7 (nI b) (nI i) μ = rec144 M x3 x5 (nI a) (x7 + 1) ν ∧ sm M [] [30] μ ν ∧ clsBut M μ ν a ∧ (∀ e v, e ≠ a → mHo M μ e v → mHo M ν e v) ∧ mHo M ν a (fun i => g i &&& (w i ^^^ (-1))) := by
  intro fu
  induction fu with
  | zero => intro i μ _ _ h; omega
  | succ fu ih =>
    intro i μ h hi hf hn hp
    rw [fX11_reads_b198]
    by_cases q : i = 4
    · subst q
      rw [if_pos (by decide), fX11_reads_b241]
      exact ⟨μ, rfl, sm.rf, clsBut.rf, fun _ _ _ z => z, fun j hj => by rw [hp j hj, if_pos hj]⟩
    · have i4 : i < 4 := by omega
      rw [if_neg (show ¬ (4 : Int32) ≤ nI i from nI_ge (b := 4) (by omega) (by decide))]
      simp only [jck_true, jde_is, jlt_is, jcl_0, beq_self_eq_true, jT_sI, jT_sJ, jP_sI, jP_sJ, jJ_sI, jI_sJ, jZ_sI, jZ_sJ, h.1, mP_holding h, mT_holding h, ix4, jin_nI (show 4 * a + i < 480 by omega) (by decide), jin_nI (show 4 * b + i < 480 by omega) (by decide), nI_clamp (show 4 * a + i < 2 ^ 31 by omega), nI_clamp (show 4 * b + i < 2 ^ 31 by omega), nI_1]
      have hv : jJ μ (M + 30) (4 * a + i) &&& (jJ μ (M + 30) (4 * b + i) ^^^ (-1)) = (g i &&& (w i ^^^ (-1))) &&& jJ μ (M + 10) i := by
        rw [hp i i4, if_neg (by omega), hn i i4, lx_andn]
      rw [hv]
      have ke : ∀ e v x, e ≠ a → mHo M μ e v → mHo M (jsJ μ (M + 30) (4 * a + i) x) e v := by
        intro e v x he hm j hj
        rw [jJ_sJ, if_neg (by omega), jJ_sJ, if_neg (by omega)]; exact hm j hj
      obtain ⟨s1, c1, v1⟩ := ho_step (M := M) (e := a) (μ := μ) ((g i &&& (w i ^^^ (-1))) &&& jJ μ (M + 10) i) i4
      have ke1 := fun e v he hm => ke e v ((g i &&& (w i ^^^ (-1))) &&& jJ μ (M + 10) i) he hm
      generalize jsJ μ (M + 30) (4 * a + i) ((g i &&& (w i ^^^ (-1))) &&& jJ μ (M + 10) i) = μ1 at s1 c1 v1 ke1 ⊢
      have e10 : jJ μ1 (M + 10) = jJ μ (M + 10) := s1.aJ (by decide) (by decide)
      obtain ⟨ν, g1, g2, g3, g5, g4⟩ := ih (i + 1) μ1 (s1.mt h) (by omega) (by omega) (ke1 b w (fun z => hab z.symm) hn) (fun j hj => by
        rw [v1 j (by omega), e10]
        by_cases z : j = i
        · rw [if_pos z, z, if_pos (by omega)]
        · rw [if_neg z, hp j hj]
          by_cases y : j < i
          · rw [if_pos y, if_pos (by omega)]
          · rw [if_neg y, if_neg (by omega)])
      exact ⟨ν, g1, s1.tr g2, c1.tr g3, fun e v he hm => g5 e v he (ke1 e v he hm), g4⟩
theorem set_j {M k : Nat} {cls : List Cl} {rec126 : Nat → Int32 → Int32 → JM → JO Int32} (hn : cls.length ≤ 24) (hk : k < cls.length) (hd : isDf (cls.getD k cl0) = false) : ∀ (fu j : Nat) (v : CS) (μ : JM), MT M μ → k < j → j ≤ cls.length → cls.length - j < fu → (∀ i, i < cls.length → jI μ (M + 21) (96 + i) = (cls.getD i cl0).1 ∧ jI μ (M + 27) (96 + i) = Cl.ovr (cls.getD i cl0)) → (∀ i, k < i → i < cls.length → mHo M μ (96 + i) (S0 cls i)) → mHo M μ (96 + k) v →
    ∃ ν, fX11_reads_b144 rec126 fu M (nI cls.length) (nI k) (nI (96 + k)) (nI j) μ = rec126 M (nI cls.length) (nI k + (-1)) ν ∧ sm M [] [30] μ ν ∧ clsBut M μ ν (96 + k) ∧ mHo M ν (96 + k) (hfold k v (cls.drop j) ((stl 0 cls).drop j)) := by
  intro fu
  induction fu with
  | zero => intro j v μ _ _ _ h; omega
  | succ fu ih =>
    intro j v μ h hkj hj hf hr hS hv
    rw [fX11_reads_b144]
    by_cases q : j = cls.length
    · rw [if_pos (nI_le (by omega) (by omega)), fX11_reads_b247]
      refine ⟨μ, rfl, sm.rf, clsBut.rf, ?_⟩
      rw [q, List.drop_length, hfold]
      · exact hv
      · intro x r h hs e; cases e
    · have hj2 : j < cls.length := by omega
      have hj3 : j < (stl 0 cls).length := by rw [stl_len]; exact hj2
      rw [if_neg (nI_ge hj2 (by omega))]
      have e96 : (96 : Int32) + nI j = nI (96 + j) := by rw [show (96 : Int32) = nI 96 from rfl, nI_add]
      have rk := (hr k hk).1
      have kk : ¬ (cls.getD k cl0).1 = 0 := isDf_f.mp hd
      simp only [jck_true, jde_is, jlt_is, jcl_0, beq_self_eq_true, jT_sI, jT_sJ, jP_sI, jP_sJ, jJ_sI, jI_sJ, jZ_sI, jZ_sJ, h.1, mP_kind h, mT_kind h, mP_overBits h, mT_overBits h, jin_nI (show 96 + k < 120 by omega) (show 120 < 2 ^ 31 by decide), jin_nI (show 96 + j < 120 by omega) (show 120 < 2 ^ 31 by decide), nI_clamp (show 96 + k < 2 ^ 31 by omega), nI_clamp (show 96 + j < 2 ^ 31 by omega), e96, rk, (hr j hj2).1, (hr j hj2).2]
      rw [if_neg kk, drop_getD (d := cl0) hj2, drop_getD (d := fun _ => 0) hj3, hfold]
      have nxt : ∀ (μ1 : JM) (v1 : CS), sm M [] [30] μ μ1 → clsBut M μ μ1 (96 + k) → (∀ e w, e ≠ 96 + k → mHo M μ e w → mHo M μ1 e w) → mHo M μ1 (96 + k) v1 → ∃ ν, fX11_reads_b144 rec126 fu M (nI cls.length) (nI k) (nI (96 + k)) (nI (j + 1)) μ1 = rec126 M (nI cls.length) (nI k + (-1)) ν ∧ sm M [] [30] μ ν ∧ clsBut M μ ν (96 + k) ∧ mHo M ν (96 + k) (hfold k v1 (cls.drop (j + 1)) ((stl 0 cls).drop (j + 1))) := by
        intro μ1 v1 s1 c1 k1 hv1
        obtain ⟨ν, g1, g2, g3, g4⟩ := ih (j + 1) v1 μ1 (s1.mt h) (by omega) (by omega) (by omega) (fun i hi => by rw [s1.aI (by decide) (by decide), s1.aI (by decide) (by decide)]; exact hr i hi) (fun i h1 h2 => k1 _ _ (by omega) (hS i h1 h2)) hv1
        exact ⟨ν, g1, s1.tr g2, c1.tr g3, g4⟩
      have skip : ¬ (isDf (cls.getD j cl0) = false ∧ bt (Cl.ovr (cls.getD j cl0)) k = true) → ∃ ν, fX11_reads_b241 rec126 (fX11_reads_b144 rec126 fu) M (nI cls.length) (nI k) (nI (96 + k)) (nI j) μ = rec126 M (nI cls.length) (nI k + (-1)) ν ∧ sm M [] [30] μ ν ∧ clsBut M μ ν (96 + k) ∧ mHo M ν (96 + k) (hfold k (if isDf (cls.getD j cl0) = false ∧ bt (Cl.ovr (cls.getD j cl0)) k = true then (fun i => v i &&& ((stl 0 cls).getD j (fun _ => 0) i ^^^ (-1))) else v) (cls.drop (j + 1)) ((stl 0 cls).drop (j + 1))) := by
        intro z
        rw [if_neg z, fX11_reads_b241, nI_1]
        exact nxt μ v sm.rf clsBut.rf (fun _ _ _ y => y) hv
      by_cases y1 : (cls.getD j cl0).1 = 0
      · rw [if_pos y1]
        exact skip (fun z => isDf_f.mp z.1 y1)
      · rw [if_neg y1]
        by_cases y2 : jshr (Cl.ovr (cls.getD j cl0)) (nI k) &&& 1 = 0
        · rw [if_pos y2]
          exact skip (fun z => by rw [(b_test (by omega)).mp y2] at z; exact absurd z.2 (by decide))
        · rw [if_neg y2]
          have y3 : isDf (cls.getD j cl0) = false ∧ bt (Cl.ovr (cls.getD j cl0)) k = true := by
            refine ⟨isDf_f.mpr y1, ?_⟩
            cases t : bt (Cl.ovr (cls.getD j cl0)) k with
            | true => rfl
            | false => exact absurd ((b_test (by omega)).mpr t) y2
          rw [if_pos y3]
          obtain ⟨μ1, g1, g2, g3, g5, g4⟩ := set_in (M := M) (g := v) (w := S0 cls j) (x3 := nI cls.length) (x5 := nI k) (x7 := nI j) (rec126 := rec126) (rec144 := fX11_reads_b144 rec126 fu) (show 96 + k < 120 by omega) (show 96 + j < 120 by omega) (by omega) jfuel 0 μ h (by omega) (jfuel_gt (by omega)) (hS j hkj hj2) (fun i hi => by rw [if_neg (by omega)]; exact hv i hi)
          rw [show (0 : Int32) = nI 0 from rfl, g1, nI_1]
          exact nxt μ1 _ g2 g3 g5 g4
theorem set_k {M : Nat} {cls : List Cl} (hn : cls.length ≤ 24) : ∀ (fu m : Nat) (μ : JM), MT M μ → m ≤ cls.length → m < fu → (∀ i, i < cls.length → mCl M μ (96 + i) (if i < m then cls.getD i cl0 else setC (cls.getD i cl0) (S0 cls i))) →
    Res (fX11_reads_b126 fu M (nI cls.length) (nI m + (-1)) μ) (fun r ν => r = 1 ∧ sm M [] [30] μ ν ∧ (∀ f c, f < 96 → mCl M μ f c → mCl M ν f c) ∧ mCls M ν 96 (stlC cls)) := by
  intro fu
  induction fu with
  | zero => intro m μ _ _ h; omega
  | succ fu ih =>
    intro m μ h hm hf hr
    rw [fX11_reads_b126]
    cases m with
    | zero =>
      rw [if_pos (by decide)]
      refine .ret ⟨rfl, sm.rf, fun _ _ _ z => z, fun i hi => ?_⟩
      rw [stlC_len] at hi
      have := hr i hi
      rw [if_neg (by omega)] at this
      rw [stlC_get hi]; exact this
    | succ k =>
      have e1 : nI (k + 1) + (-1) = nI k := by rw [← nI_1, Int32.add_assoc, show (1 : Int32) + (-1) = 0 from by decide, Int32.add_zero]
      rw [e1, if_neg (nI_pos (by omega)), show (96 : Int32) + nI k = nI (96 + k) by rw [show (96 : Int32) = nI 96 from rfl, nI_add], nI_1]
      have hk : k < cls.length := by omega
      have rows : ∀ i, i < cls.length → jI μ (M + 21) (96 + i) = (cls.getD i cl0).1 ∧ jI μ (M + 27) (96 + i) = Cl.ovr (cls.getD i cl0) := by
        intro i hi
        have := hr i hi
        split at this
        · exact ⟨this.1.1, this.1.2.2.2.2.2.2⟩
        · exact ⟨this.1.1, this.1.2.2.2.2.2.2⟩
      have hrk := hr k hk
      rw [if_pos (by omega)] at hrk
      have fin : ∀ μ1, sm M [] [30] μ μ1 → clsBut M μ μ1 (96 + k) → mHo M μ1 (96 + k) (S0 cls k) → Res (fX11_reads_b126 fu M (nI cls.length) (nI k + (-1)) μ1) (fun r ν => r = 1 ∧ sm M [] [30] μ ν ∧ (∀ f c, f < 96 → mCl M μ f c → mCl M ν f c) ∧ mCls M ν 96 (stlC cls)) := by
        intro μ1 s1 c1 h1
        refine (ih k μ1 (s1.mt h) (by omega) (by omega) (fun i hi => ?_)).mono ?_
        · by_cases z : i = k
          · subst z
            rw [if_neg (by omega)]
            refine ⟨?_, mLab_sm2 hrk.2.1 s1 (by decide) (by decide), h1⟩
            unfold mCp
            rw [s1.aI (by decide) (by decide), s1.aI (by decide) (by decide), s1.aI (by decide) (by decide), s1.aI (by decide) (by decide), s1.aI (by decide) (by decide), s1.aI (by decide) (by decide), s1.aI (by decide) (by decide)]
            exact hrk.1
          · have := c1 _ _ (show 96 + i ≠ 96 + k by omega) (hr i hi)
            by_cases y : i < k
            · rw [if_pos (by omega)] at this; rw [if_pos y]; exact this
            · rw [if_neg (by omega)] at this; rw [if_neg y]; exact this
        · rintro r ν ⟨q1, q2, q3, q4⟩
          exact ⟨q1, s1.tr q2, fun f c hf hc => q3 f c hf (c1 f c (by omega) hc), q4⟩
      by_cases hd : isDf (cls.getD k cl0) = true
      · have : fX11_reads_b144 (fX11_reads_b126 fu) jfuel M (nI cls.length) (nI k) (nI (96 + k)) (nI (k + 1)) μ = fX11_reads_b126 fu M (nI cls.length) (nI k + (-1)) μ := by
          rw [jfuel_5, fX11_reads_b144]
          by_cases q : k + 1 = cls.length
          · rw [if_pos (nI_le (by omega) (by omega)), fX11_reads_b247]
          · rw [if_neg (nI_ge (by omega) (by omega))]
            have rk := (rows k hk).1
            have kz : (cls.getD k cl0).1 = 0 := isDf_t.mp hd
            simp only [jck_true, jde_is, jlt_is, jcl_0, beq_self_eq_true, jT_sI, jT_sJ, jP_sI, jP_sJ, jJ_sI, jI_sJ, jZ_sI, jZ_sJ, h.1, mP_kind h, mT_kind h, jin_nI (show 96 + k < 120 by omega) (show 120 < 2 ^ 31 by decide), nI_clamp (show 96 + k < 2 ^ 31 by omega), rk]
            rw [if_pos kz, fX11_reads_b247]
        rw [this]
        refine fin μ sm.rf clsBut.rf ?_
        rw [S0_is hk, if_pos hd]; exact hrk.2.2
      · have hd : isDf (cls.getD k cl0) = false := by simpa using hd
        obtain ⟨μ1, g1, g2, g3, g4⟩ := set_j (rec126 := fX11_reads_b126 fu) hn hk hd jfuel (k + 1) (Cl.cas (cls.getD k cl0)) μ h (by omega) (by omega) (jfuel_gt (by omega)) rows (fun i h1 h2 => by
          have := hr i h2
          rw [if_neg (by omega)] at this
          exact this.2.2) hrk.2.2
        rw [g1]
        refine fin μ1 g2 g3 ?_
        rw [S0_is hk, if_neg (by rw [hd]; decide)]; exact g4
