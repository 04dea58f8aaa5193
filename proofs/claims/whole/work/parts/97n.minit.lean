/-! results with bounds: cells and slots that are made -/
def Rb {α : Type} (x : JO α) (C N : Nat) (Q : α → JM → Prop) : Prop := ∃ r ν c n, x = some (r, ν, c, n) ∧ c ≤ C ∧ n ≤ N ∧ Q r ν
theorem Rb.ret {α : Type} {r : α} {μ : JM} {C N : Nat} {Q : α → JM → Prop} (h : Q r μ) : Rb (some (r, μ, 0, 0)) C N Q := ⟨r, μ, 0, 0, rfl, Nat.zero_le _, Nat.zero_le _, h⟩
theorem Rb.mono {α : Type} {x : JO α} {C N C2 N2 : Nat} {P Q : α → JM → Prop} (h : Rb x C N P) (hC : C ≤ C2) (hN : N ≤ N2) (g : ∀ r ν, P r ν → Q r ν) : Rb x C2 N2 Q := by
  obtain ⟨r, ν, c, n, e, h1, h2, hp⟩ := h
  exact ⟨r, ν, c, n, e, by omega, by omega, g r ν hp⟩
theorem Rb.ck {α : Type} {c : Bool} {x : JO α} {C N : Nat} {Q : α → JM → Prop} (h : c = true) (g : Rb x C N Q) : Rb (jck c x) C N Q := by rw [h]; exact g
theorem Rb.cl {α β : Type} {x : JO α} {C1 N1 C2 N2 C N : Nat} {P : α → JM → Prop} {f : α → JM → JO β} {Q : β → JM → Prop} (h : Rb x C1 N1 P) (hC : C1 + C2 ≤ C) (hN : N1 + N2 ≤ N) (g : ∀ r ν, P r ν → Rb (f r ν) C2 N2 Q) : Rb (jcl x f) C N Q := by
  obtain ⟨r, ν, c, n, e, h1, h2, hp⟩ := h
  obtain ⟨r2, ν2, c2, n2, e2, h3, h4, hq⟩ := g r ν hp
  refine ⟨r2, ν2, c + c2, n + n2, ?_, by omega, by omega, hq⟩
  rw [e]; simp only [jcl, e2]
theorem Rb.cl0 {α β : Type} {x : JO α} {C N : Nat} {P : α → JM → Prop} {f : α → JM → JO β} {Q : β → JM → Prop} (h : Res x P) (g : ∀ r ν, P r ν → Rb (f r ν) C N Q) : Rb (jcl x f) C N Q := by
  obtain ⟨r, ν, e, hp⟩ := h
  rw [e, jcl_0]; exact g r ν hp
theorem Res.rb {α : Type} {x : JO α} {C N : Nat} {Q : α → JM → Prop} (h : Res x Q) : Rb x C N Q := by
  obtain ⟨r, ν, e, hq⟩ := h
  exact ⟨r, ν, 0, 0, e, Nat.zero_le _, Nat.zero_le _, hq⟩
/-! a new reference: its arrays, one behind the other -/
def sameC (μ ν : JM) (a : Nat) : Prop := jT ν a = jT μ a ∧ jI ν a = jI μ a ∧ jJ ν a = jJ μ a ∧ jP ν a = jP μ a
def ISt (M : Nat) (μ0 : JM) (g : Nat → Int32) (μ : JM) (es : List (Nat × Nat × Nat)) : Prop := jZ μ = M + 1 + es.length ∧ (jT μ M).1 = 12 ∧ (∀ i, i < es.length → jP μ M (es.getD i (0, 0, 0)).1 = some (M + 1 + i) ∧ jT μ (M + 1 + i) = (es.getD i (0, 0, 0)).2 ∧ (∀ k, jI μ (M + 1 + i) k = 0) ∧ ∀ k, jJ μ (M + 1 + i) k = 0) ∧ (∀ k q, jP μ M k = some q → M ≤ q ∧ q ≤ M + es.length) ∧ (∀ k, jI μ M k = g k) ∧ ∀ a, a < M → sameC μ0 μ a
theorem ISt.step {M t n f : Nat} {μ0 μ : JM} {g : Nat → Int32} {es : List (Nat × Nat × Nat)} (h : ISt M μ0 g μ es) (hf : ∀ e ∈ es, e.1 ≠ f) : ISt M μ0 g (jsP (jnew μ t n) M f (some (jZ μ))) (es ++ [(f, t, n)]) := by
  obtain ⟨h1, h2, h3, h4, h5, h6⟩ := h
  have zz : μ.1 = M + 1 + es.length := h1
  have jTn : ∀ a, jT (jsP (jnew μ t n) M f (some (jZ μ))) a = if a = M + 1 + es.length then (t, n) else jT μ a := by
    intro a
    simp only [jT, jsP, jnew, va_up, zz]
  have jIn : ∀ a, jI (jsP (jnew μ t n) M f (some (jZ μ))) a = if a = M + 1 + es.length then (fun _ => 0) else jI μ a := by
    intro a
    simp only [jI, jsP, jnew, va_up, zz]
  have jJn : ∀ a, jJ (jsP (jnew μ t n) M f (some (jZ μ))) a = if a = M + 1 + es.length then (fun _ => 0) else jJ μ a := by
    intro a
    simp only [jJ, jsP, jnew, va_up, zz]
  have jPa : ∀ a, a < M → jP (jsP (jnew μ t n) M f (some (jZ μ))) a = jP μ a := by
    intro a ha
    rw [jP_sP_ne (by omega)]
    simp only [jP, jnew, va_up, zz]
    rw [if_neg (by omega)]
  have jPn : ∀ k, jP (jsP (jnew μ t n) M f (some (jZ μ))) M k = if k = f then some (M + 1 + es.length) else jP μ M k := by
    intro k
    rw [jP_sP]
    by_cases q : k = f
    · rw [if_pos ⟨rfl, q⟩, if_pos q, h1]
    · rw [if_neg (fun z => q z.2), if_neg q]
      simp only [jP, jnew, va_up, zz]
      rw [if_neg (by omega)]
  refine ⟨?_, by rw [jTn, if_neg (by omega)]; exact h2, fun i hi => ?_, fun k q hk => ?_, fun k => by rw [jIn, if_neg (by omega)]; exact h5 k, fun a ha => ?_⟩
  · rw [List.length_append, List.length_singleton]
    show μ.1 + 1 = _
    omega
  · have hi : i < es.length + 1 := by simpa using hi
    rw [jPn, jTn, jIn, jJn]
    by_cases q : i = es.length
    · have e : (es ++ [(f, t, n)]).getD i (0, 0, 0) = (f, t, n) := by rw [q]; simp [List.getD]
      rw [e, q, if_pos rfl, if_pos rfl, if_pos rfl, if_pos rfl]
      exact ⟨rfl, rfl, fun _ => rfl, fun _ => rfl⟩
    · have hi2 : i < es.length := by omega
      have e : (es ++ [(f, t, n)]).getD i (0, 0, 0) = es.getD i (0, 0, 0) := by simp [List.getD, List.getElem?_append_left hi2]
      have hm : es.getD i (0, 0, 0) ∈ es := by rw [List.getD_eq_getElem?_getD, List.getElem?_eq_getElem hi2]; exact List.getElem_mem hi2
      rw [e, if_neg (hf _ hm), if_neg (by omega), if_neg (by omega), if_neg (by omega)]
      exact h3 i hi2
  · rw [jPn] at hk
    rw [List.length_append, List.length_singleton]
    split at hk
    · injection hk with hk; omega
    · have := h4 k q hk; omega
  · obtain ⟨a1, a2, a3, a4⟩ := h6 a ha
    exact ⟨by rw [jTn, if_neg (by omega)]; exact a1, by rw [jIn, if_neg (by omega)]; exact a2, by rw [jJn, if_neg (by omega)]; exact a3, by rw [jPa a ha]; exact a4⟩
theorem nwI {β : Type} {M t n f C N : Nat} {μ0 μ : JM} {g : Nat → Int32} {es : List (Nat × Nat × Nat)} {K : JM → JO β} {Q : β → JM → Prop} (h : ISt M μ0 g μ es) (hf : ∀ e ∈ es, e.1 ≠ f) (hC : 1 ≤ C) (hN : n ≤ N) (k : ∀ ν, ISt M μ0 g ν (es ++ [(f, t, n)]) → Rb (K ν) (C - 1) (N - n) Q) : Rb (jnw μ t n fun q μ2 => jck ((jT μ2 M).1 == 12) <| jlt (jsP μ2 M f (some q)) K) C N Q := by
  obtain ⟨r, ν, c, m, e, h1, h2, q⟩ := k _ (h.step (t := t) (n := n) hf)
  refine ⟨r, ν, 1 + c, n + m, ?_, by omega, by omega, q⟩
  have zz : μ.1 = M + 1 + es.length := h.1
  have e12 : (jT (jnew μ t n) M).1 = 12 := by
    simp only [jT, jnew, va_up]
    rw [if_neg (by omega)]; exact h.2.1
  unfold jnw
  simp only [jcl, jlt_is]
  rw [jck_of (by rw [e12]; rfl), e]
theorem sfI {β : Type} {M k C N : Nat} {v : Int32} {μ0 μ : JM} {g : Nat → Int32} {es : List (Nat × Nat × Nat)} {K : JM → JO β} {Q : β → JM → Prop} (h : ISt M μ0 g μ es) (kk : ∀ ν, ISt M μ0 (fun j => if j = k then v else g j) ν es → Rb (K ν) C N Q) : Rb (jlt (jsI μ M k v) K) C N Q := by
  refine kk _ ?_
  obtain ⟨h1, h2, h3, h4, h5, h6⟩ := h
  refine ⟨h1, h2, fun i hi => ?_, h4, fun j => ?_, fun a ha => ?_⟩
  · rw [jI_sI_ne (by omega)]; exact h3 i hi
  · rw [jI_sI, h5]
    show _ = if j = k then v else g j
    by_cases q : j = k
    · rw [if_pos ⟨rfl, q⟩, if_pos q]
    · rw [if_neg (fun z => q z.2), if_neg q]
  · obtain ⟨a1, a2, a3, a4⟩ := h6 a ha
    exact ⟨a1, by rw [jI_sI_ne (by omega)]; exact a2, a3, a4⟩
def PR (M : Nat) (p : Option Nat) : Prop := ∀ q, p = some q → M ≤ q ∧ q ≤ M + 44
def QT (M : Nat) (μ : JM) : Prop := ∀ k, PR M (jP μ M k)
def s0 : SS := ([], [], [], [], [], fun _ => none, [], fun _ => 0, [], fun _ => false, -1, -1)
def mes : List (Nat × Nat × Nat) := [(0, 100, 900), (3, 100, 108), (4, 101, 9), (6, 100, 84), (7, 101, 7), (9, 100, 156), (10, 101, 13), (11, 100, 2400), (19, 100, 4000), (22, 102, 4), (23, 102, 4), (24, 102, 32), (25, 102, 48), (26, 102, 48), (27, 101, 12), (28, 102, 4), (30, 100, 300), (31, 101, 25), (32, 102, 100), (34, 101, 5), (35, 101, 120), (36, 101, 120), (37, 101, 120), (38, 101, 120), (39, 101, 120), (40, 101, 120), (41, 101, 120), (42, 100, 1440), (43, 101, 120), (44, 102, 480), (45, 100, 300000), (46, 101, 600), (47, 101, 600), (50, 101, 4), (52, 101, 40), (53, 101, 40), (54, 100, 8000), (59, 101, 600), (60, 101, 600), (61, 101, 600), (62, 100, 2400), (64, 101, 24), (66, 101, 24), (69, 103, 10000)]
theorem ct_0 : ∀ n, fb_ct (fun _ => false) n = 0
  | 0 => rfl
  | n + 1 => by rw [fb_ct_succ, ct_0 n]; rfl
theorem mes_ok : ∀ i, i < 44 → mtab.getD i (0, 0, 0, 0) = ((mes.getD i (0, 0, 0)).1, i + 1, (mes.getD i (0, 0, 0)).2) := by decide
theorem i_mt {M : Nat} {μ0 μ : JM} {g : Nat → Int32} (h : ISt M μ0 g μ mes) : MT M μ := by
  refine ⟨h.2.1, fun e he => ?_⟩
  obtain ⟨i, hi, rfl⟩ := List.getElem_of_mem he
  have hi44 : i < 44 := hi
  have e := mes_ok i hi44
  rw [List.getD_eq_getElem?_getD, List.getElem?_eq_getElem hi, Option.getD_some] at e
  obtain ⟨h1, h2, -⟩ := h.2.2.1 i hi44
  rw [e]
  show jP μ M (mes.getD i (0, 0, 0)).1 = some (M + (i + 1)) ∧ jT μ (M + (i + 1)) = (mes.getD i (0, 0, 0)).2
  rw [show M + (i + 1) = M + 1 + i by omega]
  exact ⟨h1, h2⟩
theorem m_new {M : Nat} {μ0 μ : JM} (h : ISt M μ0 (fun _ => 0) μ []) : Rb (fX11_init M μ) 44 400000 (fun _ ν => mSt M ν s0 ∧ QT M ν ∧ jZ ν = M + 45 ∧ ∀ a, a < M → sameC μ0 ν a) := by
  unfold fX11_init
  refine nwI h (by decide) (by decide) (by decide) fun _ h => ?_
  refine sfI h fun _ h => ?_
  refine nwI h (by decide) (by decide) (by decide) fun _ h => ?_
  refine nwI h (by decide) (by decide) (by decide) fun _ h => ?_
  refine nwI h (by decide) (by decide) (by decide) fun _ h => ?_
  refine nwI h (by decide) (by decide) (by decide) fun _ h => ?_
  refine nwI h (by decide) (by decide) (by decide) fun _ h => ?_
  refine nwI h (by decide) (by decide) (by decide) fun _ h => ?_
  refine nwI h (by decide) (by decide) (by decide) fun _ h => ?_
  refine nwI h (by decide) (by decide) (by decide) fun _ h => ?_
  refine nwI h (by decide) (by decide) (by decide) fun _ h => ?_
  refine nwI h (by decide) (by decide) (by decide) fun _ h => ?_
  refine nwI h (by decide) (by decide) (by decide) fun _ h => ?_
  refine nwI h (by decide) (by decide) (by decide) fun _ h => ?_
  refine nwI h (by decide) (by decide) (by decide) fun _ h => ?_
  refine nwI h (by decide) (by decide) (by decide) fun _ h => ?_
  refine nwI h (by decide) (by decide) (by decide) fun _ h => ?_
  refine nwI h (by decide) (by decide) (by decide) fun _ h => ?_
  refine nwI h (by decide) (by decide) (by decide) fun _ h => ?_
  refine nwI h (by decide) (by decide) (by decide) fun _ h => ?_
  refine nwI h (by decide) (by decide) (by decide) fun _ h => ?_
  refine nwI h (by decide) (by decide) (by decide) fun _ h => ?_
  refine nwI h (by decide) (by decide) (by decide) fun _ h => ?_
  refine nwI h (by decide) (by decide) (by decide) fun _ h => ?_
  refine nwI h (by decide) (by decide) (by decide) fun _ h => ?_
  refine nwI h (by decide) (by decide) (by decide) fun _ h => ?_
  refine nwI h (by decide) (by decide) (by decide) fun _ h => ?_
  refine nwI h (by decide) (by decide) (by decide) fun _ h => ?_
  refine nwI h (by decide) (by decide) (by decide) fun _ h => ?_
  refine nwI h (by decide) (by decide) (by decide) fun _ h => ?_
  refine nwI h (by decide) (by decide) (by decide) fun _ h => ?_
  refine nwI h (by decide) (by decide) (by decide) fun _ h => ?_
  refine nwI h (by decide) (by decide) (by decide) fun _ h => ?_
  refine nwI h (by decide) (by decide) (by decide) fun _ h => ?_
  refine nwI h (by decide) (by decide) (by decide) fun _ h => ?_
  refine nwI h (by decide) (by decide) (by decide) fun _ h => ?_
  refine nwI h (by decide) (by decide) (by decide) fun _ h => ?_
  refine nwI h (by decide) (by decide) (by decide) fun _ h => ?_
  refine nwI h (by decide) (by decide) (by decide) fun _ h => ?_
  refine nwI h (by decide) (by decide) (by decide) fun _ h => ?_
  refine nwI h (by decide) (by decide) (by decide) fun _ h => ?_
  refine nwI h (by decide) (by decide) (by decide) fun _ h => ?_
  refine nwI h (by decide) (by decide) (by decide) fun _ h => ?_
  refine nwI h (by decide) (by decide) (by decide) fun _ h => ?_
  refine sfI h fun _ h => ?_
  refine sfI h fun _ h => ?_
  refine nwI h (by decide) (by decide) (by decide) fun μ h => ?_
  have h : ISt M μ0 _ μ mes := h
  have hM := i_mt h
  obtain ⟨h1, h2, h3, h4, h5, h6⟩ := h
  obtain ⟨f, hf⟩ : ∃ f, jfuel = f + 1 + 1 + 1 + 1 + 1 := ⟨999995, rfl⟩
  rw [hf]
  have st : ∀ (fu i : Nat) (μ : JM), MT M μ → i < 4 → fX11_init_b383 (fu + 1) M (nI i) μ = fX11_init_b383 fu M (nI (i + 1)) (jsI μ (M + 34) i (-1)) := by
    intro fu i μ hM hi
    rw [fX11_init_b383, if_neg (show ¬ (4 : Int32) ≤ nI i from nI_ge (b := 4) hi (by decide))]
    simp only [jck_true, jde_is, jlt_is, jcl_0, beq_self_eq_true, jT_sI, jT_sJ, jP_sI, jP_sJ, jJ_sI, jI_sJ, jZ_sI, jZ_sJ, hM.1, mP_version hM, mT_version hM, jin_nI hi (by decide), nI_clamp (show i < 2 ^ 31 by omega), nI_1]
  have m1 : ∀ {μ : JM} {a k : Nat} {v : Int32}, MT M μ → MT M (jsI μ a k v) := fun h => h.of rfl rfl
  rw [show (0 : Int32) = nI 0 from rfl, st _ 0 _ hM (by decide), st _ 1 _ (m1 hM) (by decide), st _ 2 _ (m1 (m1 hM)) (by decide), st _ 3 _ (m1 (m1 (m1 hM))) (by decide), fX11_init_b383, if_pos (by decide)]
  refine .ret ?_
  have i34 : ∀ k, jI μ (M + 34) k = 0 := fun k => (h3 33 (by decide)).2.2.1 k
  have gz : ∀ (x : Nat → Int32) k, ((∀ j, x j = 0) : Prop) → x k = 0 := fun x k z => z k
  have e34 : ∀ v, v < 4 → jI (jsI (jsI (jsI (jsI μ (M + 34) 0 (-1)) (M + 34) 1 (-1)) (M + 34) 2 (-1)) (M + 34) 3 (-1)) (M + 34) v = -1 := by
    intro v hv
    rw [jI_sI, jI_sI, jI_sI, jI_sI]
    have : v = 0 ∨ v = 1 ∨ v = 2 ∨ v = 3 := by omega
    rcases this with rfl | rfl | rfl | rfl <;> simp
  have eI : ∀ a, a ≠ M + 34 → jI (jsI (jsI (jsI (jsI μ (M + 34) 0 (-1)) (M + 34) 1 (-1)) (M + 34) 2 (-1)) (M + 34) 3 (-1)) a = jI μ a := by
    intro a ha
    rw [jI_sI_ne ha, jI_sI_ne ha, jI_sI_ne ha, jI_sI_ne ha]
  have eT : jT (jsI (jsI (jsI (jsI μ (M + 34) 0 (-1)) (M + 34) 1 (-1)) (M + 34) 2 (-1)) (M + 34) 3 (-1)) = jT μ := rfl
  have eP : jP (jsI (jsI (jsI (jsI μ (M + 34) 0 (-1)) (M + 34) 1 (-1)) (M + 34) 2 (-1)) (M + 34) 3 (-1)) = jP μ := rfl
  have eJ : jJ (jsI (jsI (jsI (jsI μ (M + 34) 0 (-1)) (M + 34) 1 (-1)) (M + 34) 2 (-1)) (M + 34) 3 (-1)) = jJ μ := rfl
  have eZ : jZ (jsI (jsI (jsI (jsI μ (M + 34) 0 (-1)) (M + 34) 1 (-1)) (M + 34) 2 (-1)) (M + 34) 3 (-1)) = jZ μ := rfl
  generalize jsI (jsI (jsI (jsI μ (M + 34) 0 (-1)) (M + 34) 1 (-1)) (M + 34) 2 (-1)) (M + 34) 3 (-1) = ν at *
  have iM : ∀ k, jI ν M k = jI μ M k := fun k => by rw [eI M (by omega)]
  refine ⟨⟨hM.of eT eP, ⟨by rw [iM, h5]; decide, fun i hi => absurd hi (by simp [sTp, s0]), by decide⟩, nil_byt, ?_, ⟨by rw [iM, h5]; decide, by decide, ⟨[], fun i hi => absurd hi (by simp), fun w hw => (by cases hw), rfl⟩⟩, ⟨by rw [iM, h5]; decide, by decide, ⟨[], fun i hi => absurd hi (by simp), fun w hw => (by cases hw), rfl⟩⟩, ⟨by rw [iM, h5]; decide, by rw [iM, h5]; decide, by decide, fun t ht => absurd ht (by simp [s0, sTx])⟩, fun v hv => ⟨by rw [e34 v hv]; rfl, fun t ht => by cases ht⟩, by rw [iM, h5]; decide, ⟨by rw [iM, h5]; decide, by decide, fun t ht => absurd ht (by simp [s0, sR])⟩, fun i hi => by rw [eJ]; exact (h3 10 (by decide)).2.2.2 i, ⟨by rw [iM, h5]; decide, fun i hi => absurd hi (by simp [sO, s0]), by decide, nil_byt⟩, ⟨?_, fun d hd => ?_⟩, by rw [iM, h5]; decide, by rw [iM, h5]; decide⟩, ?_, by rw [eZ]; exact h1, fun a ha => ?_⟩
  · unfold mFx
    rw [if_pos (show sF s0 = [] from rfl)]
    exact ⟨by rw [iM, h5]; decide, fun i hi => by rw [eJ]; exact (h3 11 (by decide)).2.2.2 i⟩
  · rw [iM, h5, show sFr s0 = fun _ => false from rfl, ct_0]; decide
  · rw [eI _ (by omega), show sFr s0 d = false from rfl]
    exact (h3 43 (by decide)).2.2.1 d
  · intro k q hk
    rw [eP] at hk
    exact h4 k q hk
  · obtain ⟨a1, a2, a3, a4⟩ := h6 a ha
    exact ⟨by rw [eT]; exact a1, by rw [eI a (by omega)]; exact a2, by rw [eJ]; exact a3, by rw [eP]; exact a4⟩
