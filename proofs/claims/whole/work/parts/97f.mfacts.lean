/-! SPEC and reference: facts -/
def sFa (C : Nat → Int64) : Nat → List Int64 → Nat → Except Er (List Int64)
  | 0, _, k => .error (k, 0)
  | n + 1, F, k => if C k = 0 ∧ F ≠ [] then .ok F else eb (nmC C k) fun _ => if (F.idxOf? (C k)).isSome = true then .error (k, 2) else if F.length = 8 then .error (k, 6) else eb (tk C k) fun k2 => sFa C n (F ++ [C k]) k2
def sFacts (C : Nat → Int64) : Except Er (List Int64) := if C 0 = -2000 then .error (0, 1) else sFa C 10 [] 0
def spFacts (s : SS) : Int32 × SS := if sF s = [] then (match sFacts (Cd (sTp s)) with
    | .error e => (fltI (sTp s) e, wTp s [])
    | .ok F => (nI F.length, wF (wTp s []) F (allC F.length))) else (-1, wTp s [])
theorem fa_l {M : Nat} {l : List Int32} {Q : Int32 → JM → Prop} {μ0 : JM} (hQ1 : ∀ F ν, sm M TK [2, 3, 9] μ0 ν → mW ν (M + 2) (M + 3) F → F.length ≤ 8 → F ≠ [] → Q (nI F.length) ν → True) : ∀ (fu n : Nat) (F : List Int64) (k : Nat) (ts : List Int64) (μ : JM), mAt M μ l ts k → sm M TK [2, 3, 9] μ0 μ → mW μ (M + 2) (M + 3) F → F.length ≤ 8 → 10 ≤ F.length + n → 10 - F.length < fu →
    (∀ f ν, sFa (Cd l) n F k = .error f → sm M TK [2, 3, 9] μ0 ν → mBad M ν l f → Res (some (((-2 : Int32) - (jI ν M 18)), ν, 0, 0)) Q) → (∀ F2 ν, sFa (Cd l) n F k = .ok F2 → sm M TK [2, 3, 9] μ0 ν → MT M ν → mW ν (M + 2) (M + 3) F2 → F2.length ≤ 8 → F2 ≠ [] → Res (fX11_facts_b134 M (nI F2.length) 1 ν) Q) → Res (fX11_facts_b28 fu M (nI F.length) 1 μ) Q := by
  intro fu
  induction fu with
  | zero => intro n F k ts μ _ _ _ _ _ h; omega
  | succ fu ih =>
    intro n F k ts μ h hs hW hF hn hf q0 q1
    obtain ⟨n, rfl⟩ : ∃ m, n = m + 1 := ⟨n - 1, by omega⟩
    obtain ⟨h1, h2, h3⟩ := mA_ok h
    have ed := tok_end h
    rw [sFa] at q0 q1
    rw [fX11_facts_b28, if_neg (by decide), jck_of (by rw [h1.1]; rfl)]
    have bad : ∀ f ν, mBad M ν l f → (∀ ν2, ν2 = ν → Res (some (((-2 : Int32) - (jI ν2 M 18)), ν2, 0, 0)) Q) → Res (fX11_facts_b101 (fX11_facts_b28 fu) M (nI F.length) ν) Q := by
      intro f ν hb hr
      rw [fX11_facts_b101, fX11_facts_b102, if_pos rfl, fX11_facts_b134, if_pos rfl, jck_of (by rw [hb.1.1]; rfl)]
      exact hr ν rfl
    have b43 : ¬ (Cd l k = 0 ∧ F ≠ []) → Res (fX11_facts_b43 (fX11_facts_b28 fu) M (nI F.length) μ) Q := by
      intro nz
      rw [if_neg nz] at q0
      simp only [if_neg nz] at q1
      rw [fX11_facts_b43, jck_of (by rw [h1.1]; rfl)]
      refine st_name h (fun ν f hg hsn hb => ?_) (fun he hc => ?_)
      · rw [if_pos rfl]
        refine bad f ν hb fun ν2 e => ?_
        rw [e]
        exact q0 f ν (by rw [hg]; rfl) (hs.tr (hsn.wk (by decide) (by decide))) hb
      · rw [if_neg (by decide), jck_of (by rw [h1.1]; rfl), mP_factName h1, mP_factSize h1]
        rw [he] at q0 q1
        simp only [eb_ok] at q0 q1
        rw [mA_find h hc (A := M + 2) (S := M + 3) (by rw [mT_factName h1]) (by rw [mT_factName h1]; simp; omega) (by rw [mT_factName h1]; decide) (by rw [mT_factSize h1]) (by rw [mT_factSize h1]; simp; omega) (by rw [mT_factSize h1]; decide) hW (by omega), jcl_0]
        rcases ixC_lt (cs := F) (c := Cd l k) (by omega) with ⟨i, f1, f2, f3, f4, f5⟩ | ⟨f1, f2⟩
        · rw [if_neg f4, jck_of (by rw [h1.1]; rfl)]
          refine st_fail 2 2 rfl (by decide) h (fun ν hsn hb => ?_)
          rw [if_pos rfl]
          refine bad _ ν hb fun ν2 e => ?_
          rw [e]
          exact q0 (k, 2) ν (by rw [f1]; rfl) (hs.tr (hsn.wk (by decide) (by decide))) hb
        · rw [f2, if_pos (by decide), fX11_facts_b78]
          rw [f1] at q0
          simp only [f1] at q1
          simp only [Option.isSome_none, Bool.false_eq_true, if_false] at q0 q1
          by_cases z : F.length = 8
          · rw [if_neg (by rw [z]; decide), jck_of (by rw [h1.1]; rfl)]
            rw [if_pos z] at q0
            refine st_fail 6 6 rfl (by decide) h (fun ν hsn hb => ?_)
            rw [if_pos rfl]
            refine bad _ ν hb fun ν2 e => ?_
            rw [e]
            exact q0 (k, 6) ν rfl (hs.tr (hsn.wk (by decide) (by decide))) hb
          · rw [if_pos (Int32.not_le.mp (show ¬ (8 : Int32) ≤ nI F.length from nI_ge (b := 8) (by omega) (by omega)))]
            rw [if_neg z] at q0
            simp only [if_neg z] at q1
            rw [fX11_facts_b97, fX11_facts_b102, if_neg (by decide), jck_of (by rw [h1.1]; rfl), mP_factName h1, mP_factSize h1]
            obtain ⟨μ1, e1, e2, e3⟩ := m_nameC (mx := 9) h hc (a := 2) (s := 3) (by decide) (by decide) (by decide) (by decide) (by decide) (mT_factName h1) (mT_factSize h1) (by omega) (by decide) hW
            have hM1 := e2.mt h1
            rw [e1, jcl_0, jck_of (by rw [hM1.1]; rfl)]
            have S1 : sm M TK [2, 3, 9] μ0 μ1 := hs.tr (e2.wk (by decide) (by decide))
            refine st_take (h.sm e2 (by decide) (by decide)) (isT_free hc) (fun ν f hg hsn hb => ?_) (fun μ2 hg s2 hA2 => ?_)
            · obtain ⟨f3, rfl⟩ : ∃ f3, fu = f3 + 1 := ⟨fu - 1, by omega⟩
              rw [fX11_facts_b28, if_pos rfl, fX11_facts_b134, if_pos rfl, jck_of (by rw [hb.1.1]; rfl)]
              exact q0 f ν (by rw [hg]; rfl) (S1.tr (hsn.wk (by decide) (by decide))) hb
            · rw [hg] at q0 q1
              simp only [eb_ok] at q0 q1
              have el : nI F.length + 1 = nI (F ++ [Cd l k]).length := by rw [nI_1]; simp
              rw [el]
              exact ih n (F ++ [Cd l k]) (k + 1) _ μ2 hA2 (S1.tr (s2.wk (by decide) (by decide))) (e3.sm s2 (by decide) (by decide) (by decide) (by decide)) (by simp; omega) (by simp; omega) (by simp; omega) q0 q1
    by_cases z : Cd l k = 0
    · rw [if_pos (ed.mpr z)]
      by_cases y : F = []
      · rw [if_pos (by rw [y]; rfl)]
        exact b43 (fun t => t.2 y)
      · have : F.length ≠ 0 := fun t => y (List.length_eq_zero_iff.mp t)
        rw [if_neg (by rw [show (0 : Int32) = nI 0 from rfl, nI_eq (by omega) (by omega)]; exact this)]
        exact q1 F μ (by rw [if_pos ⟨z, y⟩]) hs h1 hW hF y
    · rw [if_neg (fun t => z (ed.mp t))]
      exact b43 (fun t => z t.1)
/-! the sets of CASES -/
theorem shl_b : ∀ n, n < 9 → jshl 1 (nI n) = nI (2 ^ n) := by decide +kernel
theorem lshl_b : ∀ b, b < 64 → ∀ j, j < 64 → lb (jlshl 1 (nI b)) j = decide (j = b) := by decide +kernel
theorem fcs_b : ∀ f, f < 8 → ∀ i, i < 4 → ∀ b, b < 64 → lb (fcs f i) b = decide ((64 * i + b) / 2 ^ f % 2 = 1) := by decide +kernel
theorem bit_b : ∀ c, c < 256 → ∀ f, f < 8 → (decide (jshr (nI c) (nI f) &&& 1 = 1)) = decide (c / 2 ^ f % 2 = 1) := by decide +kernel
theorem div_b : ∀ c, c < 256 → nI c / 64 = nI (c / 64) ∧ jrem (nI c) 64 = nI (c % 64) := by decide +kernel
/-- all[] and world[] -/
theorem al_in {M n k : Nat} {rec153 : Nat → Int32 → Int32 → JM → JO Int32} (hn : n ≤ 8) (hk : k < 4) : ∀ (fu b : Nat) (μ : JM), MT M μ → b ≤ 64 → 64 - b < fu → (∀ j, j < 64 → lb (jJ μ (M + 10) k) j = (decide (j < b) && decide (64 * k + j < 2 ^ n))) →
    ∃ ν, fX11_facts_b168 rec153 fu M (nI n) (nI k) (nI b) μ = rec153 M (nI n) (nI (k + 1)) ν ∧ sm M [] [10, 11] μ ν ∧ jJ ν (M + 10) k = allC n k ∧ jJ ν (M + 11) k = allC n k ∧ ∀ i, i ≠ k → jJ ν (M + 10) i = jJ μ (M + 10) i ∧ jJ ν (M + 11) i = jJ μ (M + 11) i := by
  intro fu
  induction fu with
  | zero => intro b μ _ _ h; omega
  | succ fu ih =>
    intro b μ h hb hf hp
    rw [fX11_facts_b168]
    by_cases q : b = 64
    · subst q
      rw [if_pos (by decide)]
      simp only [jck_true, jde_is, jlt_is, jcl_0, beq_self_eq_true, jT_sI, jT_sJ, jP_sI, jP_sJ, jJ_sI, jI_sJ, jZ_sI, jZ_sJ, h.1, mP_all h, mT_all h, mP_world h, mT_world h, jin_nI hk (show 4 < 2 ^ 31 by decide), nI_clamp (show k < 2 ^ 31 by omega), nI_1]
      have e : jJ μ (M + 10) k = allC n k := l_ext fun j hj => by rw [hp j hj, allC_b n (by omega) k hk j hj]; simp [hj]
      refine ⟨_, rfl, sm.sJ (by decide), by rw [jJ_sJ, if_neg (by omega)]; exact e, by rw [jJ_sJ, if_pos ⟨rfl, rfl⟩]; exact e, fun i hi => ⟨by rw [jJ_sJ, if_neg (by omega)], by rw [jJ_sJ, if_neg (by omega)]⟩⟩
    · have b64 : b < 64 := by omega
      rw [if_neg (show ¬ (64 : Int32) ≤ nI b from nI_ge (b := 64) (by omega) (by decide)), shl_b n (by omega), show (64 : Int32) * nI k + nI b = nI (64 * k + b) from by rw [show (64 : Int32) = nI 64 from rfl, pk_mul, nI_add]]
      have p2 : 2 ^ n ≤ 2 ^ 8 := Nat.pow_le_pow_right (by decide) hn
      by_cases z : 64 * k + b < 2 ^ n
      · rw [if_neg (nI_ge z (by omega))]
        simp only [jck_true, jde_is, jlt_is, jcl_0, beq_self_eq_true, jT_sI, jT_sJ, jP_sI, jP_sJ, jJ_sI, jI_sJ, jZ_sI, jZ_sJ, h.1, mP_all h, mT_all h, jin_nI hk (show 4 < 2 ^ 31 by decide), nI_clamp (show k < 2 ^ 31 by omega), fX11_facts_b201, nI_1]
        have s1 : sm M [] [10, 11] μ (jsJ μ (M + 10) k (jJ μ (M + 10) k ||| jlshl 1 (nI b))) := sm.sJ (by decide)
        have v1 : ∀ i, jJ (jsJ μ (M + 10) k (jJ μ (M + 10) k ||| jlshl 1 (nI b))) (M + 10) i = if i = k then jJ μ (M + 10) k ||| jlshl 1 (nI b) else jJ μ (M + 10) i := by
          intro i
          rw [jJ_sJ]
          by_cases y : i = k
          · rw [if_pos ⟨rfl, y⟩, if_pos y]
          · rw [if_neg (fun t => y t.2), if_neg y]
        have w1 : jJ (jsJ μ (M + 10) k (jJ μ (M + 10) k ||| jlshl 1 (nI b))) (M + 11) = jJ μ (M + 11) := jJ_sJ_ne (by omega)
        generalize jsJ μ (M + 10) k (jJ μ (M + 10) k ||| jlshl 1 (nI b)) = μ1 at s1 v1 w1 ⊢
        obtain ⟨ν, g1, g2, g3, g4, g5⟩ := ih (b + 1) μ1 (s1.mt h) (by omega) (by omega) (fun j hj => by
          rw [v1, if_pos rfl, l_or, hp j hj, lshl_b b b64 j hj]
          by_cases y : j = b
          · subst y; simp [z]
          · by_cases w : j < b
            · simp [w, show j < b + 1 by omega, y]
            · simp [w, show ¬ j < b + 1 by omega, y])
        refine ⟨ν, g1, s1.tr g2, g3, g4, fun i hi => ?_⟩
        obtain ⟨a1, a2⟩ := g5 i hi
        exact ⟨by rw [a1, v1, if_neg hi], by rw [a2, w1]⟩
      · rw [if_pos (nI_le (by omega) (by omega)), fX11_facts_b201, nI_1]
        exact ih (b + 1) μ h (by omega) (by omega) (fun j hj => by
          rw [hp j hj]
          by_cases y : j = b
          · subst y; simp [z]
          · by_cases w : j < b
            · simp [w, show j < b + 1 by omega]
            · simp [w, show ¬ j < b + 1 by omega])
theorem al_l {M n : Nat} {Q : Int32 → JM → Prop} {μ0 : JM} (hn : n ≤ 8) (hQ : ∀ ν, sm M [] [10, 11] μ0 ν → (∀ i, i < 4 → jJ ν (M + 10) i = allC n i ∧ jJ ν (M + 11) i = allC n i) → Res (fX11_facts_b227 jfuel M (nI n) 0 ν) Q) : ∀ (fu k : Nat) (μ : JM), MT M μ → k ≤ 4 → 4 - k < fu → sm M [] [10, 11] μ0 μ → (∀ i, i < k → jJ μ (M + 10) i = allC n i ∧ jJ μ (M + 11) i = allC n i) → Res (fX11_facts_b153 fu M (nI n) (nI k) μ) Q := by
  intro fu
  induction fu with
  | zero => intro k μ _ _ h; omega
  | succ fu ih =>
    intro k μ h hk hf hs hp
    rw [fX11_facts_b153]
    by_cases q : k = 4
    · subst q
      rw [if_pos (by decide)]
      exact hQ μ hs hp
    · have k4 : k < 4 := by omega
      rw [if_neg (show ¬ (4 : Int32) ≤ nI k from nI_ge (b := 4) (by omega) (by decide))]
      simp only [jck_true, jde_is, jlt_is, jcl_0, beq_self_eq_true, jT_sI, jT_sJ, jP_sI, jP_sJ, jJ_sI, jI_sJ, jZ_sI, jZ_sJ, h.1, mP_all h, mT_all h, jin_nI k4 (show 4 < 2 ^ 31 by decide), nI_clamp (show k < 2 ^ 31 by omega)]
      have s1 : sm M [] [10, 11] μ (jsJ μ (M + 10) k 0) := sm.sJ (by decide)
      have v1 : ∀ i, i ≠ k → jJ (jsJ μ (M + 10) k 0) (M + 10) i = jJ μ (M + 10) i := fun i hi => by rw [jJ_sJ, if_neg (fun t => hi t.2)]
      have u1 : jJ (jsJ μ (M + 10) k 0) (M + 10) k = 0 := by rw [jJ_sJ, if_pos ⟨rfl, rfl⟩]
      have w1 : jJ (jsJ μ (M + 10) k 0) (M + 11) = jJ μ (M + 11) := jJ_sJ_ne (by omega)
      generalize jsJ μ (M + 10) k 0 = μ1 at s1 v1 u1 w1 ⊢
      obtain ⟨ν, g1, g2, g3, g4, g5⟩ := al_in (rec153 := fX11_facts_b153 fu) hn k4 jfuel 0 μ1 (s1.mt h) (by omega) (jfuel_gt (by omega)) (fun j hj => by rw [u1, l_0]; simp)
      have g1' : fX11_facts_b168 (fX11_facts_b153 fu) jfuel M (nI n) (nI k) 0 μ1 = _ := g1
      rw [g1']
      refine ih (k + 1) ν (g2.mt (s1.mt h)) (by omega) (by omega) (hs.tr (s1.tr g2)) (fun i hi => ?_)
      by_cases y : i = k
      · subst y; exact ⟨g3, g4⟩
      · obtain ⟨a1, a2⟩ := g5 i y
        rw [a1, a2, v1 i y, w1]; exact hp i (by omega)
theorem fs_in {M n f : Nat} {rec227 : Nat → Int32 → Int32 → JM → JO Int32} (hn : n ≤ 8) (hf : f < n) : ∀ (fu c : Nat) (μ : JM), MT M μ → c ≤ 2 ^ n → 2 ^ n - c < fu → (∀ i, i < 4 → ∀ j, j < 64 → lb (jJ μ (M + 12) (4 * f + i)) j = (decide (64 * i + j < c) && decide ((64 * i + j) / 2 ^ f % 2 = 1))) →
    ∃ ν, fX11_facts_b235 rec227 fu M (nI n) (nI f) (nI c) μ = rec227 M (nI n) (nI (f + 1)) ν ∧ sm M [] [12] μ ν ∧ (∀ i, i < 4 → jJ ν (M + 12) (4 * f + i) = fcs f i &&& allC n i) ∧ ∀ k, (k < 4 * f ∨ 4 * f + 4 ≤ k) → jJ ν (M + 12) k = jJ μ (M + 12) k := by
  have p2 : 2 ^ n ≤ 2 ^ 8 := Nat.pow_le_pow_right (by decide) hn
  intro fu
  induction fu with
  | zero => intro c μ _ _ h; omega
  | succ fu ih =>
    intro c μ h hc hfu hp
    rw [fX11_facts_b235, shl_b n (by omega)]
    by_cases q : c = 2 ^ n
    · rw [if_pos (nI_le (by omega) (by omega)), nI_1]
      refine ⟨μ, rfl, sm.rf, fun i hi => l_ext fun j hj => ?_, fun _ _ => rfl⟩
      rw [hp i hi j hj, l_and, fcs_b f (by omega) i hi j hj, allC_b n (by omega) i hi j hj, q, Bool.and_comm]
    · have c2 : c < 2 ^ n := by omega
      rw [if_neg (nI_ge c2 (by omega))]
      have hbit := bit_b c (by omega) f (by omega)
      obtain ⟨d1, d2⟩ := div_b c (by omega)
      by_cases z : c / 2 ^ f % 2 = 1
      · have z2 : jshr (nI c) (nI f) &&& 1 = 1 := by rw [decide_eq_true z] at hbit; exact of_decide_eq_true hbit
        have ci : c / 64 < 4 := by omega
        rw [if_pos z2, d1, d2, ix4]
        simp only [jck_true, jde_is, jlt_is, jcl_0, beq_self_eq_true, jT_sI, jT_sJ, jP_sI, jP_sJ, jJ_sI, jI_sJ, jZ_sI, jZ_sJ, h.1, mP_factSet h, mT_factSet h, jin_nI (show 4 * f + c / 64 < 32 by omega) (show 32 < 2 ^ 31 by decide), nI_clamp (show 4 * f + c / 64 < 2 ^ 31 by omega), fX11_facts_b277, nI_1]
        have s1 : sm M [] [12] μ (jsJ μ (M + 12) (4 * f + c / 64) (jJ μ (M + 12) (4 * f + c / 64) ||| jlshl 1 (nI (c % 64)))) := sm.sJ (by decide)
        have v1 : ∀ k, jJ (jsJ μ (M + 12) (4 * f + c / 64) (jJ μ (M + 12) (4 * f + c / 64) ||| jlshl 1 (nI (c % 64)))) (M + 12) k = if k = 4 * f + c / 64 then jJ μ (M + 12) (4 * f + c / 64) ||| jlshl 1 (nI (c % 64)) else jJ μ (M + 12) k := by
          intro k
          rw [jJ_sJ]
          by_cases y : k = 4 * f + c / 64
          · rw [if_pos ⟨rfl, y⟩, if_pos y]
          · rw [if_neg (fun t => y t.2), if_neg y]
        generalize jsJ μ (M + 12) (4 * f + c / 64) (jJ μ (M + 12) (4 * f + c / 64) ||| jlshl 1 (nI (c % 64))) = μ1 at s1 v1 ⊢
        obtain ⟨ν, g1, g2, g3, g4⟩ := ih (c + 1) μ1 (s1.mt h) (by omega) (by omega) (fun i hi j hj => by
          rw [v1]
          by_cases y : i = c / 64
          · rw [if_pos (by omega), l_or, lshl_b (c % 64) (by omega) j hj, ← y, hp i hi j hj]
            by_cases w : j = c % 64
            · have : 64 * i + j = c := by omega
              rw [this]; simp [w, z]
            · by_cases w2 : 64 * i + j < c
              · simp [w, w2, show 64 * i + j < c + 1 by omega]
              · simp [w, w2, show ¬ 64 * i + j < c + 1 by omega]
          · rw [if_neg (by omega), hp i hi j hj]
            by_cases w2 : 64 * i + j < c
            · simp [w2, show 64 * i + j < c + 1 by omega]
            · simp [w2, show ¬ 64 * i + j < c + 1 by omega])
        exact ⟨ν, g1, s1.tr g2, g3, fun k hk => by rw [g4 k hk, v1, if_neg (by omega)]⟩
      · have z2 : ¬ jshr (nI c) (nI f) &&& 1 = 1 := fun t => by rw [decide_eq_true t] at hbit; exact z (of_decide_eq_true hbit.symm)
        rw [if_neg z2, fX11_facts_b277, nI_1]
        exact ih (c + 1) μ h (by omega) (by omega) (fun i hi j hj => by
          rw [hp i hi j hj]
          by_cases w : 64 * i + j = c
          · rw [w]; simp [z]
          · by_cases w2 : 64 * i + j < c
            · simp [w2, show 64 * i + j < c + 1 by omega]
            · simp [w2, show ¬ 64 * i + j < c + 1 by omega])
theorem fs_l {M n : Nat} {μ0 : JM} (hn : n ≤ 8) : ∀ (fu f : Nat) (μ : JM), MT M μ → f ≤ n → n - f < fu → sm M [] [12] μ0 μ → (∀ g, g < f → ∀ i, i < 4 → jJ μ (M + 12) (4 * g + i) = fcs g i &&& allC n i) → (∀ k, 4 * f ≤ k → k < 32 → jJ μ (M + 12) k = 0) →
    Res (fX11_facts_b227 fu M (nI n) (nI f) μ) (fun r ν => r = nI n ∧ sm M [] [12] μ0 ν ∧ ∀ g, g < n → ∀ i, i < 4 → jJ ν (M + 12) (4 * g + i) = fcs g i &&& allC n i) := by
  intro fu
  induction fu with
  | zero => intro f μ _ _ h; omega
  | succ fu ih =>
    intro f μ h hf hfu hs hp hz
    rw [fX11_facts_b227]
    by_cases q : f = n
    · rw [if_pos (nI_le (by omega) (by omega))]
      subst q
      exact .ret ⟨rfl, hs, hp⟩
    · rw [if_neg (nI_ge (by omega) (by omega))]
      have p2 : 2 ^ n ≤ 2 ^ 8 := Nat.pow_le_pow_right (by decide) hn
      obtain ⟨ν, g1, g2, g3, g4⟩ := fs_in (rec227 := fX11_facts_b227 fu) hn (show f < n by omega) jfuel 0 μ h (Nat.zero_le _) (jfuel_gt (by omega)) (fun i hi j hj => by rw [hz (4 * f + i) (by omega) (by omega), l_0]; simp)
      have g1' : fX11_facts_b235 (fX11_facts_b227 fu) jfuel M (nI n) (nI f) 0 μ = _ := g1
      rw [g1']
      refine ih (f + 1) ν (g2.mt h) (by omega) (by omega) (hs.tr g2) (fun g hg i hi => ?_) (fun k h1 h2 => by rw [g4 k (by omega)]; exact hz k (by omega) h2)
      by_cases y : g = f
      · subst y; exact g3 i hi
      · rw [g4 _ (by omega)]; exact hp g (by omega) i hi
theorem m_facts {M : Nat} {μ : JM} {s : SS} (h : mSt M μ s) (hG : gTx s) : Res (fX11_facts M μ) (fun r ν => r = (spFacts s).1 ∧ mSt M ν (spFacts s).2) := by
  have h1 := h.1
  rw [fX11_facts, jck_of (by rw [h1.1]; rfl)]
  refine Res.cl (m_takesTape h1 h.2.1 h.2.2.1) fun _ μ1 ⟨s1, t1, b1⟩ => ?_
  have hM1 := b1.mt
  have base := m_takeBase h s1 t1
  rw [jck_of (by rw [hM1.1]; rfl)]
  unfold spFacts
  by_cases hF : sF s = []
  · have fx := base.2.2.2.1
    unfold mFx at fx
    rw [if_pos (show sF (wTp s []) = [] from hF)] at fx
    rw [fx.1, if_pos (by decide), if_pos hF]
    have res : ∀ ν, sm M TK [2, 3, 9] μ1 ν → mSt M ν (wTp s []) := by
      intro ν sν
      obtain ⟨k1, k2, k3, k4, k5, k6, k7, k8, k9, k10, k11, k12, k13, k14, k15⟩ := base
      refine ⟨sν.mt k1, k2.sm sν (by decide) (by decide), k3, ?_, k5.sm sν (by decide) (by decide) (by decide) (by decide) (by decide), k6.sm sν (by decide) (by decide) (by decide) (by decide) (by decide), k7.sm sν (by decide) (by decide), k8.sm sν (by decide) (clsLow.sm sν (by decide) (by decide)), (sν.fI (by decide)).trans k9, k10.sm sν (by decide) (by decide), k11.sm sν (by decide), k12.sm sν (by decide) (by decide), k13.sm sν (by decide) (by decide), (sν.fI (by decide)).trans k14, (sν.fI (by decide)).trans k15⟩
      unfold mFx
      rw [if_pos (show sF (wTp s []) = [] from hF)]
      exact ⟨(sν.fI (by decide)).trans fx.1, by rw [sν.aJ (by decide) (by decide)]; exact fx.2⟩
    unfold mBeg at b1
    unfold sFacts
    by_cases q : Cd (sTp s) 0 = -2000
    · rw [if_pos q] at b1
      rw [if_neg b1.2.2.1, if_pos q, fX11_facts_b27, jfuel_5, fX11_facts_b28, if_pos rfl, fX11_facts_b134, if_pos rfl, jck_of (by rw [hM1.1]; rfl), b1.2.1]
      exact .ret ⟨rfl, base⟩
    · rw [if_neg q] at b1
      rw [(mA_ok b1).2.1, if_pos rfl, if_neg q, fX11_facts_b27]
      have w0 : mW μ1 (M + 2) (M + 3) [] := ⟨[], fun n hn => by simp at hn, fun w hw => by simp at hw, rfl⟩
      refine fa_l (M := M) (l := sTp s) (μ0 := μ1) (fun _ _ _ _ _ _ _ => trivial) jfuel 10 [] 0 [] μ1 b1 sm.rf w0 (by simp) (by simp) (jfuel_gt (by simp)) (fun f ν hf sν hb => ?_) (fun F ν hf sν hM hW hl hne => ?_)
      · rw [hf, hb.2.1]
        exact .ret ⟨rfl, res ν sν⟩
      · rw [hf, fX11_facts_b134, if_neg (by decide), jck_of (by rw [hM.1]; rfl), jlt_is]
        have s2 : sm M [2] [] ν (jsI ν M 2 (nI F.length)) := sm.sF (by decide)
        have v2 : jI (jsI ν M 2 (nI F.length)) M 2 = nI F.length := by rw [jI_sI, if_pos ⟨rfl, rfl⟩]
        generalize jsI ν M 2 (nI F.length) = μ2 at s2 v2 ⊢
        have hM2 := s2.mt hM
        refine al_l (M := M) (n := F.length) (μ0 := μ2) hl (fun μ3 s3 e3 => ?_) jfuel 0 μ2 hM2 (by omega) (jfuel_gt (by omega)) sm.rf (fun i hi => by omega)
        have z12 : ∀ k, k < 32 → jJ μ3 (M + 12) k = 0 := fun k hk => by rw [s3.aJ (by decide) (by decide), s2.aJ (by decide) (by decide), sν.aJ (by decide) (by decide)]; exact fx.2 k hk
        refine (fs_l (M := M) (n := F.length) (μ0 := μ3) hl jfuel 0 μ3 (s3.mt hM2) (by omega) (jfuel_gt (by omega)) sm.rf (fun g hg => by omega) (fun k _ hk => z12 k hk)).mono ?_
        rintro r μ4 ⟨r1, s4, r2⟩
        have S : sm M (2 :: TK) [2, 3, 9, 10, 11, 12] μ1 μ4 := (sν.wk (by decide) (by decide)).tr ((s2.wk (by decide) (by decide)).tr ((s3.wk (by decide) (by decide)).tr (s4.wk (by decide) (by decide))))
        obtain ⟨k1, k2, k3, k4, k5, k6, k7, k8, k9, k10, k11, k12, k13, k14, k15⟩ := base
        have e10 : ∀ i, i < 4 → jJ μ4 (M + 10) i = allC F.length i := fun i hi => by rw [s4.aJ (by decide) (by decide)]; exact (e3 i hi).1
        refine ⟨r1, S.mt k1, k2.sm S (by decide) (by decide), k3, ?_, k5.sm S (by decide) (by decide) (by decide) (by decide) (by decide), k6.sm S (by decide) (by decide) (by decide) (by decide) (by decide), k7.sm S (by decide) (by decide), ?_, (S.fI (by decide)).trans k9, k10.sm S (by decide) (by decide), ?_, k12.sm S (by decide) (by decide), k13.sm S (by decide) (by decide), (S.fI (by decide)).trans k14, (S.fI (by decide)).trans k15⟩
        · show mFx M μ4 F
          unfold mFx
          rw [if_neg hne]
          have S3 : sm M [2] [10, 11, 12] ν μ4 := (s2.wk (by decide) (by decide)).tr ((s3.wk (by decide) (by decide)).tr (s4.wk (by decide) (by decide)))
          refine ⟨⟨by rw [s4.fI (by decide), s3.fI (by decide), v2], hl, hW.sm S3 (by decide) (by decide) (by decide) (by decide), fun f hf i hi => ?_⟩, e10⟩
          rw [r2 f hf i hi, e10 i hi]
        · intro v hv
          have nV : sV s v = none := by
            cases hV : sV s v with
            | none => rfl
            | some t => exact absurd hF (hG.2 v hv (by rw [hV]; simp))
          have := (k8 v hv).1
          refine ⟨?_, fun t ht => ?_⟩
          · rw [S.aI (by decide) (by decide)]; exact this
          · have ht : sV s v = some t := ht
            rw [nV] at ht; cases ht
        · intro i hi
          show jJ μ4 (M + 11) i = allC F.length i
          rw [s4.aJ (by decide) (by decide)]; exact (e3 i hi).2
  · obtain ⟨a1, a2, a3, a4⟩ := mFx.ne base.2.2.2.1 hF
    rw [if_neg a3, if_neg hF]
    exact .ret ⟨rfl, base⟩
