/-! the reference: differs -/
def difP (s : SS) (t t2 : Nat) (c : Nat) : Bool := hasC (sW s) c && decide (kys c (txA s t) [] ≠ kys c (txA s t2) [])
def spDiffers (v w : Int32) (s : SS) : Int32 × SS := (match vAt s v with
  | none => -2
  | some t => match vAt s w with
    | none => -2
    | some t2 => lst (difP s t t2) (nCs s) 0, s)
theorem df_cp {M u u2 n : Nat} {L : List Int32} {rec21 : Nat → Int32 → Int32 → Int32 → JM → JO Int32} : ∀ (fu i : Nat) (μ : JM), MT M μ → mFd M μ L → i ≤ L.length → L.length - i < fu → (∀ j, j < i → jI μ (M + 43) j = L.getD j 0) →
    ∃ ν, fX11_differs_b57 rec21 fu M (nI u) (nI u2) (nI n) (nI L.length) (nI i) μ = (jcl (fX11_finds M (nI u2) (nI n) ν) fun u48 μ49 => jck ((jT μ49 M).1 == 12) <| if nI L.length = (jI μ49 M 65) then (fX11_differs_b104 rec21 M (nI u) (nI u2) (nI n) (nI L.length) (1 : Int32) μ49) else (fX11_differs_b104 rec21 M (nI u) (nI u2) (nI n) (nI L.length) (0 : Int32) μ49)) ∧ sm M [] [43] μ ν ∧ ∀ j, j < L.length → jI ν (M + 43) j = L.getD j 0 := by
  intro fu
  induction fu with
  | zero => intro i μ _ _ _ h; omega
  | succ fu ih =>
    intro i μ h hL hi hf hp
    obtain ⟨l1, l2, l3⟩ := id hL
    rw [fX11_differs_b57]
    by_cases q : i = L.length
    · rw [if_pos (nI_le (by omega) (by omega)), jck_of (by rw [h.1]; rfl)]
      subst q
      exact ⟨μ, rfl, sm.rf, hp⟩
    · have hi2 : i < L.length := by omega
      rw [if_neg (nI_ge hi2 (by omega))]
      simp only [jck_true, jde_is, jlt_is, jcl_0, beq_self_eq_true, jT_sI, jT_sJ, jP_sI, jP_sJ, jJ_sI, jI_sJ, jZ_sI, jZ_sJ, h.1, mP_found h, mT_found h, mP_kept h, mT_kept h, jin_nI (show i < 24 by omega) (show 24 < 2 ^ 31 by decide), nI_clamp (show i < 2 ^ 31 by omega), l3 i hi2, nI_1]
      have s1 : sm M [] [43] μ (jsI μ (M + 43) i (L.getD i 0)) := sm.sA (by decide) (by decide)
      obtain ⟨ν, g1, g2, g3⟩ := ih (i + 1) _ (s1.mt h) ⟨(s1.fI (by decide)).trans l1, l2, fun j hj => by rw [s1.aI (by decide) (by decide)]; exact l3 j hj⟩ (by omega) (by omega) (fun j hj => by
        rw [jI_sI]
        by_cases z : j = i
        · rw [if_pos ⟨rfl, z⟩, z]
        · rw [if_neg (fun t => z t.2)]; exact hp j (by omega))
      exact ⟨ν, g1, s1.tr g2, g3⟩
theorem df_eq {M u u2 n : Nat} {L L2 : List Int32} {rec21 : Nat → Int32 → Int32 → Int32 → JM → JO Int32} {μ : JM} (h : MT M μ) (hL : L.length ≤ 24) (hk : ∀ j, j < L.length → jI μ (M + 43) j = L.getD j 0) (h2 : mFd M μ L2) (hl : L.length = L2.length) : ∀ (fu i : Nat), i ≤ L.length → L.length - i + 1 < fu → (∀ j, j < i → L.getD j 0 = L2.getD j 0) →
    fX11_differs_b109 rec21 fu M (nI u) (nI u2) (nI n) (nI L.length) 1 (nI i) μ = if L = L2 then rec21 M (nI u) (nI u2) (nI (n + 1)) μ else some (nI n, μ, 0, 0) := by
  obtain ⟨f1, f2, f3⟩ := h2
  intro fu
  induction fu with
  | zero => intro i _ h; omega
  | succ fu ih =>
    intro i hi hf hp
    rw [fX11_differs_b109, if_neg (by decide)]
    by_cases q : i = L.length
    · rw [if_pos (nI_le (by omega) (by omega)), fX11_differs_b151, if_neg (by decide), fX11_differs_b158, nI_1, if_pos (list_ext hl (fun j hj => hp j (by omega)))]
    · have hi2 : i < L.length := by omega
      rw [if_neg (nI_ge hi2 (by omega))]
      simp only [jck_true, jde_is, jlt_is, jcl_0, beq_self_eq_true, jT_sI, jT_sJ, jP_sI, jP_sJ, jJ_sI, jI_sJ, jZ_sI, jZ_sJ, h.1, mP_found h, mT_found h, mP_kept h, mT_kept h, jin_nI (show i < 24 by omega) (show 24 < 2 ^ 31 by decide), nI_clamp (show i < 2 ^ 31 by omega), hk i hi2, f3 i (by omega)]
      by_cases c : L.getD i 0 = L2.getD i 0
      · rw [if_pos c, fX11_differs_b143, nI_1]
        exact ih (i + 1) (by omega) (by omega) (fun j hj => by
          by_cases e : j = i
          · rw [e]; exact c
          · exact hp j (by omega))
      · rw [if_neg c, fX11_differs_b143, nI_1]
        obtain ⟨f3, rfl⟩ : ∃ f3, fu = f3 + 1 := ⟨fu - 1, by omega⟩
        rw [fX11_differs_b109, if_pos rfl, fX11_differs_b151, if_pos rfl, if_neg (fun e => c (by rw [e]))]
theorem m_differs {M : Nat} {μ : JM} {s : SS} (v w : Int32) (h : mSt M μ s) (hT : (sTx s).length < 600) (hG : gTx s) : Res (fX11_differs M v w μ) (fun r ν => r = (spDiffers v w s).1 ∧ mSt M ν (spDiffers v w s).2) := by
  have h1 := h.1
  rw [fX11_differs, jck_of (by rw [h1.1]; rfl), m_isVersion v h hT, jcl_0]
  unfold spDiffers
  cases hv : vAt s v with
  | none => exact .ret ⟨rfl, h⟩
  | some t =>
    obtain ⟨u, rfl, hu, hV⟩ := vAt_some hv
    have hF : sF s ≠ [] := hG.2 u hu (by rw [hV]; simp)
    rw [Option.isSome_some, if_pos rfl, if_neg (by decide), jck_of (by rw [h1.1]; rfl), m_isVersion w h hT, jcl_0]
    dsimp only
    cases hw : vAt s w with
    | none => exact .ret ⟨rfl, h⟩
    | some t2 =>
      obtain ⟨u2, rfl, hu2, hV2⟩ := vAt_some hw
      rw [Option.isSome_some, if_pos rfl, if_neg (by decide)]
      have key : ∀ (fu d n : Nat) (μ : JM), mSt M μ s → n + d = nCs s → d < fu → Res (fX11_differs_b21 fu M (nI u) (nI u2) (nI n) μ) (fun r ν => r = lst (difP s t t2) d n ∧ mSt M ν s) := by
        intro fu
        induction fu with
        | zero => intro d n μ _ _ h; omega
        | succ fu ih =>
          intro d n μ h hnd hd
          have h1 := h.1
          obtain ⟨n1, n2⟩ := nCs_le h hF
          rw [fX11_differs_b21, jck_of (by rw [h1.1]; rfl), n2]
          cases d with
          | zero => rw [if_pos (nI_le (by omega) (by omega))]; exact .ret ⟨rfl, h⟩
          | succ d =>
            have hn : n < nCs s := by omega
            rw [if_neg (nI_ge hn (by omega)), m_isIn h1 h.2.2.2.2.2.2.2.2.2.2.1 (by omega), jcl_0, lst]
            by_cases z : hasC (sW s) n = true
            · rw [if_pos z, if_neg (by decide), jck_of (by rw [h1.1]; rfl)]
              refine Res.cl (m_finds h hu hV hF hn) fun _ μ1 ⟨s1, f1⟩ => ?_
              have hM1 := s1.mt h1
              have st1 := h.sm s1 (by decide) (by decide)
              have l24 := f1.2.1
              rw [jck_of (by rw [hM1.1]; rfl), f1.1]
              obtain ⟨μ2, g1, g2, g3⟩ := df_cp (u := u) (u2 := u2) (n := n) (rec21 := fX11_differs_b21 fu) jfuel 0 μ1 hM1 f1 (by omega) (jfuel_gt (by omega)) (fun j hj => by omega)
              have g1' : fX11_differs_b57 (fX11_differs_b21 fu) jfuel M (nI u) (nI u2) (nI n) (nI (kys n (txA s t) []).length) 0 μ1 = _ := g1
              rw [g1']
              have st2 := st1.sm g2 (by decide) (by decide)
              refine Res.cl (m_finds st2 hu2 hV2 hF hn) fun _ μ3 ⟨s3, f3⟩ => ?_
              have st3 := st2.sm s3 (by decide) (by decide)
              have hM3 := st3.1
              have l24' := f3.2.1
              have hk3 : ∀ j, j < (kys n (txA s t) []).length → jI μ3 (M + 43) j = (kys n (txA s t) []).getD j 0 := fun j hj => by rw [s3.aI (by decide) (by decide)]; exact g3 j hj
              have eg : difP s t t2 n = decide (kys n (txA s t) [] ≠ kys n (txA s t2) []) := by unfold difP; rw [z, Bool.true_and]
              rw [jck_of (by rw [hM3.1]; rfl), f3.1, eg]
              generalize kys n (txA s t) [] = L at *
              generalize kys n (txA s t2) [] = L2 at *
              by_cases y : L.length = L2.length
              · rw [if_pos (by rw [y]), fX11_differs_b104]
                have de := df_eq (u := u) (u2 := u2) (n := n) (rec21 := fX11_differs_b21 fu) hM3 l24 hk3 f3 y jfuel 0 (by omega) (jfuel_gt (by omega)) (fun j hj => by omega)
                have de' : fX11_differs_b109 (fX11_differs_b21 fu) jfuel M (nI u) (nI u2) (nI n) (nI L.length) 1 0 μ3 = _ := de
                rw [de']
                by_cases x : L = L2
                · rw [if_pos x, if_neg (by simp [x])]
                  exact ih d (n + 1) μ3 st3 (by omega) (by omega)
                · rw [if_neg x, if_pos (by simp [x])]
                  exact .ret ⟨rfl, st3⟩
              · rw [if_neg (fun e => y ((nI_eq (by omega) (by omega)).mp e)), fX11_differs_b104, jfuel_5, fX11_differs_b109, if_pos rfl, fX11_differs_b151, if_pos rfl, if_pos (by
                  rw [decide_eq_true_eq]; exact fun e => y (by rw [e]))]
                exact .ret ⟨rfl, st3⟩
            · have eg : difP s t t2 n = false := by unfold difP; simp [z]
              rw [if_neg z, if_pos rfl, fX11_differs_b158, nI_1, eg, if_neg (by decide)]
              exact ih d (n + 1) μ h (by omega) (by omega)
      exact key jfuel (nCs s) 0 μ h (by omega) (jfuel_gt (by have := (nCs_le h hF).1; omega))
