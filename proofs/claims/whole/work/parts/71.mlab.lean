/-! RESULTS: a call goes through at no cost, and then this holds -/
def Res {α : Type} (x : JO α) (Q : α → JM → Prop) : Prop := ∃ r ν, x = some (r, ν, 0, 0) ∧ Q r ν
theorem Res.ret {α : Type} {r : α} {μ : JM} {Q : α → JM → Prop} (h : Q r μ) : Res (some (r, μ, 0, 0)) Q := ⟨r, μ, rfl, h⟩
theorem Res.cl {α β : Type} {x : JO α} {P : α → JM → Prop} {f : α → JM → JO β} {Q : β → JM → Prop} (h : Res x P) (g : ∀ r ν, P r ν → Res (f r ν) Q) : Res (jcl x f) Q := by
  obtain ⟨r, ν, e, hp⟩ := h
  rw [e, jcl_0]; exact g r ν hp
theorem Res.mono {α : Type} {x : JO α} {P Q : α → JM → Prop} (h : Res x P) (g : ∀ r ν, P r ν → Q r ν) : Res x Q := by
  obtain ⟨r, ν, e, hp⟩ := h
  exact ⟨r, ν, e, g r ν hp⟩
theorem Res.ck {α : Type} {c : Bool} {x : JO α} {Q : α → JM → Prop} (h : c = true) (g : Res x Q) : Res (jck c x) Q := by rw [h]; exact g
/-- the steps, with what comes behind them -/
theorem st_take {β : Type} {M : Nat} {μ : JM} {l : List Int32} {ts : List Int64} {k : Nat} {f : Int32 → JM → JO β} {Q : β → JM → Prop} (h : mAt M μ l ts k) (hT : isT (Cd l k)) (g0 : ∀ ν e, tk (Cd l) k = .error e → sm M TK [9] μ ν → mBad M ν l e → Res (f 0 ν) Q) (g1 : ∀ ν, tk (Cd l) k = .ok (k + 1) → sm M TK [9] μ ν → mAt M ν l (ts ++ sl (Cd l) k (k + 1)) (k + 1) → Res (f 1 ν) Q) : Res (jcl (fX11_takes M μ) f) Q := by
  obtain ⟨r, ν, e1, e2, e3⟩ := mA_take h hT
  rw [e1, jcl_0]
  cases hs : tk (Cd l) k with
  | error e =>
    rw [hs] at e3
    obtain ⟨rfl, e4⟩ := e3
    exact g0 ν e hs e2 e4
  | ok k2 =>
    rw [hs] at e3
    obtain ⟨rfl, e4, e5⟩ := e3
    have hk : k2 = k + 1 := by
      unfold tk at hs; split at hs
      · cases hs
      · injection hs with hs; exact hs.symm
    subst hk
    exact g1 ν hs e2 e5
theorem st_exW {β : Type} {M : Nat} {μ : JM} {l : List Int32} {ts : List Int64} {k : Nat} {f : Int32 → JM → JO β} {Q : β → JM → Prop} (w c : Int64) (i : Nat) (hi : i < 18) (hw : lN (oursN.getD i 0) = w) (hc : -3000 - lN i = c) (h : mAt M μ l ts k) (g0 : ∀ ν e, exC (Cd l) c k = .error e → sm M TK [9] μ ν → mBad M ν l e → Res (f 0 ν) Q) (g1 : ∀ ν, exC (Cd l) c k = .ok (k + 1) → sm M TK [9] μ ν → mAt M ν l (ts ++ sl (Cd l) k (k + 1)) (k + 1) → Res (f 1 ν) Q) : Res (jcl (fX11_expects M w μ) f) Q := by
  obtain ⟨r, ν, e1, e2, e3⟩ := mA_exW h i hi
  rw [hw] at e1; rw [hc] at e3
  rw [e1, jcl_0]
  cases hs : exC (Cd l) c k with
  | error e =>
    rw [hs] at e3
    obtain ⟨rfl, e4⟩ := e3
    exact g0 ν e hs e2 e4
  | ok k2 =>
    rw [hs] at e3
    obtain ⟨rfl, e4, e5⟩ := e3
    have hk : k2 = k + 1 := by
      unfold exC tk at hs; split at hs
      · split at hs
        · cases hs
        · injection hs with hs; exact hs.symm
      · cases hs
    subst hk
    exact g1 ν hs e2 e5
theorem st_exS {β : Type} {M : Nat} {μ : JM} {l : List Int32} {ts : List Int64} {k : Nat} {f : Int32 → JM → JO β} {Q : β → JM → Prop} (w : Int32) (c : Int64) (v : Nat) (hv : v = 58 ∨ v = 59 ∨ v = 40 ∨ v = 41) (hw : nI v = w) (hc : -1 - lN v = c) (h : mAt M μ l ts k) (g0 : ∀ ν e, exC (Cd l) c k = .error e → sm M TK [9] μ ν → mBad M ν l e → Res (f 0 ν) Q) (g1 : ∀ ν, exC (Cd l) c k = .ok (k + 1) → sm M TK [9] μ ν → mAt M ν l (ts ++ sl (Cd l) k (k + 1)) (k + 1) → Res (f 1 ν) Q) : Res (jcl (fX11_expectsSign M w μ) f) Q := by
  obtain ⟨r, ν, e1, e2, e3⟩ := mA_exS h v hv
  rw [hw] at e1; rw [hc] at e3
  rw [e1, jcl_0]
  cases hs : exC (Cd l) c k with
  | error e =>
    rw [hs] at e3
    obtain ⟨rfl, e4⟩ := e3
    exact g0 ν e hs e2 e4
  | ok k2 =>
    rw [hs] at e3
    obtain ⟨rfl, e4, e5⟩ := e3
    have hk : k2 = k + 1 := by
      unfold exC tk at hs; split at hs
      · split at hs
        · cases hs
        · injection hs with hs; exact hs.symm
      · cases hs
    subst hk
    exact g1 ν hs e2 e5
theorem st_name {β : Type} {M : Nat} {μ : JM} {l : List Int32} {ts : List Int64} {k : Nat} {f : Int32 → JM → JO β} {Q : β → JM → Prop} (h : mAt M μ l ts k) (g0 : ∀ ν e, nmC (Cd l) k = .error e → sm M TK [9] μ ν → mBad M ν l e → Res (f 0 ν) Q) (g1 : nmC (Cd l) k = .ok () → 0 < Cd l k → Res (f 1 μ) Q) : Res (jcl (fX11_isName M μ) f) Q := by
  obtain ⟨r, ν, e1, e2, e3⟩ := mA_isName h
  rw [e1, jcl_0]
  cases hs : nmC (Cd l) k with
  | error e =>
    rw [hs] at e3
    obtain ⟨rfl, e4⟩ := e3
    exact g0 ν e hs e2 e4
  | ok u =>
    rw [hs] at e3
    obtain ⟨rfl, rfl⟩ := e3
    refine g1 hs ?_
    unfold nmC at hs
    split at hs
    · assumption
    · split at hs <;> cases hs
theorem st_fail {β : Type} {M : Nat} {μ : JM} {l : List Int32} {ts : List Int64} {k : Nat} {f : Int32 → JM → JO β} {Q : β → JM → Prop} (kd : Nat) (w : Int32) (hw : nI kd = w) (hk : kd ≤ 7) (h : mAt M μ l ts k) (g : ∀ ν, sm M TK [9] μ ν → mBad M ν l (k, kd) → Res (f 0 ν) Q) : Res (jcl (fX11_fails M w (jI μ M 15) μ) f) Q := by
  obtain ⟨ν, e1, e2, e3⟩ := mA_fail h kd hk
  rw [hw] at e1
  rw [e1, jcl_0]; exact g ν e2 e3
theorem st_word {β : Type} {M : Nat} {μ : JM} {l : List Int32} {ts : List Int64} {k : Nat} {f : Int32 → JM → JO β} {Q : β → JM → Prop} (w c : Int64) (i : Nat) (hi : i < 18) (hw : lN (oursN.getD i 0) = w) (hc : -3000 - lN i = c) (h : mAt M μ l ts k) (g1 : Cd l k = c → isT (Cd l k) → Res (f 1 μ) Q) (g0 : Cd l k ≠ c → Res (f 0 μ) Q) : Res (jcl (fX11_isWord M w μ) f) Q := by
  have e := mA_isWord h i hi
  rw [hw, hc] at e
  rw [e, jcl_0]
  by_cases q : Cd l k = c
  · rw [if_pos q]; exact g1 q (isT_own hi (by rw [hc]; exact q))
  · rw [if_neg q]; exact g0 q
/-! the reference: keepsLabel, labelled -/
theorem kl_l {M e : Nat} {l : List Int32} {j : Nat} (he : e < 120) : ∀ (fu k : Nat) (μ : JM), mWd M μ l j → k ≤ (hw (l.drop j)).length → Sg (jI μ (M + 28)) (12 * e) ((hw (l.drop j)).take k) → (hw (l.drop j)).length - k < fu →
    ∃ ν, fX11_keepsLabel_b12 fu M (nI e) (nI k) μ = some ((), ν, 0, 0) ∧ smI (wNm (M + 28) (M + 29) e) μ ν ∧ Sg (jI ν (M + 28)) (12 * e) (hw (l.drop j)) ∧ (∀ i, jI ν (M + 29) i = jI μ (M + 29) i) := by
  intro fu
  induction fu with
  | zero => intro k μ _ _ _ q; omega
  | succ fu ih =>
    intro k μ h hk hs hf
    obtain ⟨g1, g2, g3⟩ := h.len
    obtain ⟨h1, h2, h3, h4, h5⟩ := id h
    have k5 := h3.2.2.2.2.1
    have k3 := h3.2.2.1
    have hl := h2.2.2
    have hle := hdLen_le (l.drop j)
    rw [List.length_drop] at hle
    have hjl := h3.1
    rw [fX11_keepsLabel_b12]
    simp only [jck_true, beq_self_eq_true, h1.1, k5, g1]
    by_cases q : k = (hw (l.drop j)).length
    · rw [if_pos (nI_le (by omega) (by omega))]
      rw [q, List.take_length] at hs
      exact ⟨μ, rfl, smI.rf, hs, fun _ => rfl⟩
    · have hk2 : k < (hw (l.drop j)).length := by omega
      rw [if_neg (nI_ge (by omega) (by omega))]
      have e12 : (12 : Int32) * nI e + nI k = nI (12 * e + k) := by rw [show (12 : Int32) = nI 12 from rfl, pk_mul, nI_add]
      have hjk : j + k < l.length := by omega
      simp only [jde_is, jlt_is, beq_self_eq_true, jck_true, e12, mP_text h1, mT_text h1, mP_label h1, mT_label h1, jin_nI (show 12 * e + k < 1440 by omega) (by decide), k3, nI_add, jin_nI (show j + k < 2400 by omega) (by decide), nI_clamp (show 12 * e + k < 2 ^ 31 by omega), nI_clamp (show j + k < 2 ^ 31 by omega), h2.at hjk, vp_byte, nI_1]
      have hm : (hw (l.drop j)).getD k 0 ∈ hw (l.drop j) := by
        rw [List.getD_eq_getElem?_getD, List.getElem?_eq_getElem hk2]; exact List.getElem_mem hk2
      obtain ⟨m, m1, m2, m3⟩ := isL_nat (tw_all (p := isL) (l := l.drop j) _ hm)
      rw [hw_get hk2, m3, nb_small (by omega)]
      have s1 : smI (wNm (M + 28) (M + 29) e) μ (jsI μ (M + 28) (12 * e + k) (nI m)) := smI.set (Or.inr ⟨rfl, by omega, by omega⟩)
      have hseg : Sg (jI (jsI μ (M + 28) (12 * e + k) (nI m)) (M + 28)) (12 * e) ((hw (l.drop j)).take (k + 1)) := by
        have := hs.snoc (v := nI m)
        rw [List.length_take, Nat.min_eq_left (by omega)] at this
        rw [jI_at]
        have e : (hw (l.drop j)).take (k + 1) = (hw (l.drop j)).take k ++ [nI m] := by
          rw [List.take_succ_eq_append_getElem hk2]
          congr 2
          rw [← m3]; simp [List.getD, hk2]
        rw [e]; exact this
      obtain ⟨ν, e1, e2, e3, e4⟩ := ih (k + 1) (jsI μ (M + 28) (12 * e + k) (nI m)) (h.keep s1 (fun k q1 q2 => by unfold wNm; omega) (fun i => by unfold wNm; omega)) (by omega) hseg (by omega)
      refine ⟨ν, e1, s1.tr e2, e3, fun i => ?_⟩
      rw [e4 i, jI_sI, if_neg (by omega)]
theorem wNm.sm {M e a s : Nat} {μ ν : JM} (h : smI (wNm (M + a) (M + s) e) μ ν) (ha : a ≠ 0) (hs : s ≠ 0) : sm M [] [a, s] μ ν := by
  refine ⟨h.1, h.2.1, h.2.2.1, fun k hk => h.2.2.2.2 M k (by unfold wNm; omega), fun x h1 h2 => ⟨funext fun k => h.2.2.2.2 x k ?_, by rw [h.2.2.2.1]⟩⟩
  have q1 := h2 a (by simp)
  have q2 := h2 s (by simp)
  unfold wNm; omega
theorem wNm.cls {M e : Nat} {μ ν : JM} (h : smI (wNm (M + 28) (M + 29) e) μ ν) : clsBut M μ ν e := by
  intro f c hf ⟨h1, ⟨w, w1, w2, w3, w4⟩, h3⟩
  have k : ∀ j, j ≠ 28 → jI ν (M + j) f = jI μ (M + j) f := fun j hj => h.2.2.2.2 _ _ (by unfold wNm; omega)
  refine ⟨?_, ⟨w, w1, w2, by rw [k 29 (by decide)]; exact w3, w4.eq fun i hi => h.2.2.2.2 _ _ ?_⟩, ?_⟩
  · unfold mCp; rw [k _ (by decide), k _ (by decide), k _ (by decide), k _ (by decide), k _ (by decide), k _ (by decide), k _ (by decide)]; exact h1
  · have := w1.2.2; unfold wNm; omega
  · unfold mHo; rw [h.2.2.2.1]; exact h3
theorem m_keepsLabel {M e : Nat} {μ : JM} {l : List Int32} {ts : List Int64} {k : Nat} (h : mAt M μ l ts k) (hc : 0 < Cd l k) (he : e < 120) : ∃ ν, fX11_keepsLabel M (nI e) μ = some ((), ν, 0, 0) ∧ sm M [] [28, 29] μ ν ∧ clsBut M μ ν e ∧ mLab M ν e (Cd l k) := by
  obtain ⟨h1, h2, h3⟩ := h.wd hc
  obtain ⟨g1, g2, g3⟩ := h1.len
  have k5 := h1.2.2.1.2.2.2.2.1
  rw [fX11_keepsLabel]
  simp only [jck_true, beq_self_eq_true, h1.1.1, jde_is, jlt_is, mP_labelSize h1.1, mT_labelSize h1.1, jin_nI (show e < 120 from he) (by decide), nI_clamp (show e < 2 ^ 31 by omega), k5, g1]
  have s1 : smI (wNm (M + 28) (M + 29) e) μ (jsI μ (M + 29) e (nI (hw (l.drop (pl l k))).length)) := smI.set (Or.inl ⟨rfl, rfl⟩)
  obtain ⟨ν, e1, e2, e3, e4⟩ := kl_l (e := e) he jfuel 0 _ (h1.keep s1 (fun k q1 q2 => by unfold wNm; omega) (fun i => by unfold wNm; omega)) (by omega) (by intro i hi; simp at hi) (jfuel_gt (by omega))
  refine ⟨ν, e1, wNm.sm (s1.tr e2) (by decide) (by decide), wNm.cls (s1.tr e2), ⟨_, h2, h3, ?_, e3⟩⟩
  rw [e4, jI_sI, if_pos ⟨rfl, rfl⟩]
