/-! one call of the law, and all of them -/
theorem Rq.ite {α : Type} {p : Prop} [Decidable p] {x y : JO α} {Q : α → JM → Nat → Nat → Prop} (h1 : p → Rq x Q) (h2 : ¬ p → Rq y Q) : Rq (if p then x else y) Q := by
  by_cases q : p
  · rw [if_pos q]; exact h1 q
  · rw [if_neg q]; exact h2 q
theorem Rq.de {α : Type} {a : Nat} {f : Nat → JO α} {Q : α → JM → Nat → Nat → Prop} (h : Rq (f a) Q) : Rq (jde (some a) f) Q := h
theorem Rq.ii {α : Type} {r : Int32} {x y : JO α} {Q : α → JM → Nat → Nat → Prop} (h : Rq x Q) : Rq (if r = r then x else y) Q := by rw [if_pos rfl]; exact h
theorem law_step {xs : Nat → Int32} {LL B k fu : Nat} {x3 : Int32} {μ : JM} {s : SS} {Q : Unit → JM → Nat → Nat → Prop} (j0 : jin x3 LL = true) (j1 : jin (x3 + 1) LL = true) (j2 : jin (x3 + 2) LL = true) (j3 : jin (x3 + 3) LL = true) (j4 : jin (x3 + 4) LL = true) (j5 : jin (x3 + 5) LL = true) (hs : ¬ nI LL - 6 < x3) (h : JS B μ s) (hG : GI s k) (hk : k + 1 ≤ 512)
    (go : ∀ c m ρ s2, c ≤ 153 → m ≤ 2500 → JS B ρ s2 → GI s2 (k + 1) → Rq (fL_law_b885 xs LL (fL_law_b18 xs LL fu) (some B) (some (B + 76)) x3 ρ) (fun r ν c2 m2 => Q r ν (c + c2) (m + m2))) : Rq (fL_law_b18 xs LL (fu + 1) (some B) (some (B + 76)) x3 μ) Q := by
  have jd := h.gb
  have gT : gTx s := hG.tx jd
  have hT : (sTx s).length < 600 := by have := hG.2.2.2.2.2.2.1; omega
  have hR : (sR s).length < 256 := by have := hG.2.2.2.2.2.2.2.1.1; omega
  have hO : byt (sO s) := h.2.1.2.2.2.2.2.2.2.2.2.2.2.1.2.2.2
  have room : ∀ s2, GI s2 (k + 1) → ptS (sTx s2) ≤ 300000 := fun s2 g => by
    obtain ⟨p, w, p1, -⟩ := g.2.2.2.2.2.2.2.2
    omega
  have t11 : ((jT μ B).1 == 11) = true := by rw [cT0 h.1.1]; rfl
  rw [fL_law_b18, if_neg hs]
  refine Rq.ck j0 ?_
  refine Rq.ite (fun _ => ?_) (fun _ => ?_)
  · show Rq _ Q
    refine Rq.ck j1 ?_
    refine Rq.ck j2 ?_
    refine Rq.ck j3 ?_
    refine Rq.ck j4 ?_
    refine Rq.ck j5 ?_
    refine Rq.de (Rq.ck t11 ?_)
    refine pair h (c_feed _ _ _ _ _ h.1 ) fun ν c m hc hm _ hS hM hq => ?_
    refine Rq.ck j1 ?_
    refine Rq.ck j2 ?_
    refine Rq.ck j3 ?_
    refine Rq.ck j4 ?_
    refine Rq.ck j5 ?_
    refine Rq.de (Rq.ck (by rw [hM.1.1]; rfl) ?_)
    refine pairM hS hq (m_feedS _ _ _ _ _ hM ) (o_fX11_feed hq) fun ρ hJ => Rq.ii ?_
    exact go c m ρ _ (by omega) (by omega) hJ (GI_feed _ _ _ _ _ hG jd)
  refine Rq.ite (fun _ => ?_) (fun _ => ?_)
  · show Rq _ Q
    refine Rq.ck j1 ?_
    refine Rq.de (Rq.ck t11 ?_)
    refine pair h (c_end _ h.1 ) fun ν c m hc hm _ hS hM hq => ?_
    refine Rq.ck j1 ?_
    refine Rq.de (Rq.ck (by rw [hM.1.1]; rfl) ?_)
    refine pairM hS hq (m_end _ hM ) (o_fX11_end hq) fun ρ hJ => Rq.ii ?_
    exact go c m ρ _ (by omega) (by omega) hJ (GI_end _ hG jd)
  refine Rq.ite (fun _ => ?_) (fun _ => ?_)
  · show Rq _ Q
    refine Rq.de (Rq.ck t11 ?_)
    refine pair h (c_facts h.1 ) fun ν c m hc hm _ hS hM hq => ?_
    refine Rq.de (Rq.ck (by rw [hM.1.1]; rfl) ?_)
    refine pairM hS hq (m_facts hM gT) (o_fX11_facts hq) fun ρ hJ => Rq.ii ?_
    exact go c m ρ _ (by omega) (by omega) hJ (GI_facts hG jd)
  refine Rq.ite (fun _ => ?_) (fun _ => ?_)
  · show Rq _ Q
    refine Rq.ck j1 ?_
    refine Rq.de (Rq.ck t11 ?_)
    refine pair h (c_version _ h.1 ) fun ν c m hc hm _ hS hM hq => ?_
    refine Rq.ck j1 ?_
    refine Rq.de (Rq.ck (by rw [hM.1.1]; rfl) ?_)
    refine pairM hS hq (m_version _ hM hT (room _ (GI_version _ hG jd))) (o_fX11_version hq) fun ρ hJ => Rq.ii ?_
    exact go c m ρ _ (by omega) (by omega) hJ (GI_version _ hG jd)
  refine Rq.ite (fun _ => ?_) (fun _ => ?_)
  · show Rq _ Q
    refine Rq.ck j1 ?_
    refine Rq.ck j2 ?_
    refine Rq.de (Rq.ck t11 ?_)
    refine pair h (c_rider _ _ h.1 hR (hG.1.m jd.1 jd.2.1)) fun ν c m hc hm _ hS hM hq => ?_
    refine Rq.ck j1 ?_
    refine Rq.ck j2 ?_
    refine Rq.de (Rq.ck (by rw [hM.1.1]; rfl) ?_)
    refine pairM hS hq (m_rider _ _ hM hT (by omega) gT (room _ (GI_rider _ _ hG jd))) (o_fX11_rider hq) fun ρ hJ => Rq.ii ?_
    exact go c m ρ _ (by omega) (by omega) hJ (GI_rider _ _ hG jd)
  refine Rq.ite (fun _ => ?_) (fun _ => ?_)
  · show Rq _ Q
    refine Rq.de (Rq.ck t11 ?_)
    refine pair h (c_takeOff h.1 hG.2.2.1 hT) fun ν c m hc hm _ hS hM hq => ?_
    refine Rq.de (Rq.ck (by rw [hM.1.1]; rfl) ?_)
    refine pairM hS hq (m_takeOff hM hT gT hG.1.rd hG.2.2.1) (o_fX11_takeOff hq) fun ρ hJ => Rq.ii ?_
    exact go c m ρ _ (by omega) (by omega) hJ (GI_takeOff hG jd)
  refine Rq.ite (fun _ => ?_) (fun _ => ?_)
  · show Rq _ Q
    refine Rq.de (Rq.ck t11 ?_)
    refine pair h (c_world h.1 ) fun ν c m hc hm _ hS hM hq => ?_
    refine Rq.de (Rq.ck (by rw [hM.1.1]; rfl) ?_)
    refine pairM hS hq (m_world hM ) (o_fX11_world hq) fun ρ hJ => Rq.ii ?_
    exact go c m ρ _ (by omega) (by omega) hJ (GI_world hG jd)
  refine Rq.ite (fun _ => ?_) (fun _ => ?_)
  · show Rq _ Q
    refine Rq.ck j1 ?_
    refine Rq.de (Rq.ck t11 ?_)
    refine pair h (c_write _ h.1 hG.1.v) fun ν c m hc hm _ hS hM hq => ?_
    refine Rq.ck j1 ?_
    refine Rq.de (Rq.ck (by rw [hM.1.1]; rfl) ?_)
    refine pairM hS hq (m_write _ hM hT) (o_fX11_write hq) fun ρ hJ => Rq.ii ?_
    exact go c m ρ _ (by omega) (by omega) hJ (GI_write _ hG jd)
  refine Rq.ite (fun _ => ?_) (fun _ => ?_)
  · show Rq _ Q
    refine Rq.ck j1 ?_
    refine Rq.de (Rq.ck t11 ?_)
    refine pair h (c_octet _ h.1 hG.2.2.2.2.1) fun ν c m hc hm _ hS hM hq => ?_
    refine Rq.ck j1 ?_
    refine Rq.de (Rq.ck (by rw [hM.1.1]; rfl) ?_)
    refine pairM hS hq (m_octet _ hM ) (o_fX11_octet hq) fun ρ hJ => Rq.ii ?_
    exact go c m ρ _ (by omega) (by omega) hJ (hG.up)
  refine Rq.ite (fun _ => ?_) (fun _ => ?_)
  · show Rq _ Q
    refine Rq.de (Rq.ck t11 ?_)
    refine pair h (c_back h.1 hO) fun ν c m hc hm _ hS hM hq => ?_
    refine Rq.de (Rq.ck (by rw [hM.1.1]; rfl) ?_)
    refine pairM hS hq (m_back hM ) (o_fX11_back hq) fun ρ hJ => Rq.ii ?_
    exact go c m ρ _ (by omega) (by omega) hJ (GI_back hG jd)
  refine Rq.ite (fun _ => ?_) (fun _ => ?_)
  · show Rq _ Q
    refine Rq.ck j1 ?_
    refine Rq.ck j2 ?_
    refine Rq.ck j3 ?_
    refine Rq.de (Rq.ck t11 ?_)
    refine pair h (c_clauseQ _ _ _ h.1 hG.1.n) fun ν c m hc hm _ hS hM hq => ?_
    refine Rq.ck j1 ?_
    refine Rq.ck j2 ?_
    refine Rq.ck j3 ?_
    refine Rq.de (Rq.ck (by rw [hM.1.1]; rfl) ?_)
    refine pairM hS hq (m_clauseQ _ _ _ hM hT) (o_fX11_clause_ hq) fun ρ hJ => Rq.ii ?_
    exact go c m ρ _ (by omega) (by omega) hJ (hG.up)
  refine Rq.ite (fun _ => ?_) (fun _ => ?_)
  · show Rq _ Q
    refine Rq.ck j1 ?_
    refine Rq.ck j2 ?_
    refine Rq.ck j3 ?_
    refine Rq.de (Rq.ck t11 ?_)
    refine pair h (c_letter _ _ _ h.1 hG.1.n) fun ν c m hc hm _ hS hM hq => ?_
    refine Rq.ck j1 ?_
    refine Rq.ck j2 ?_
    refine Rq.ck j3 ?_
    refine Rq.de (Rq.ck (by rw [hM.1.1]; rfl) ?_)
    refine pairM hS hq (m_letter _ _ _ hM hT) (o_fX11_letter hq) fun ρ hJ => Rq.ii ?_
    exact go c m ρ _ (by omega) (by omega) hJ (hG.up)
  refine Rq.ite (fun _ => ?_) (fun _ => ?_)
  · show Rq _ Q
    refine Rq.ck j1 ?_
    refine Rq.ck j2 ?_
    refine Rq.ck j3 ?_
    refine Rq.de (Rq.ck t11 ?_)
    refine pair h (c_holds _ _ _ h.1 ) fun ν c m hc hm _ hS hM hq => ?_
    refine Rq.ck j1 ?_
    refine Rq.ck j2 ?_
    refine Rq.ck j3 ?_
    refine Rq.de (Rq.ck (by rw [hM.1.1]; rfl) ?_)
    refine pairM hS hq (m_holds _ _ _ hM hT) (o_fX11_holds hq) fun ρ hJ => Rq.ii ?_
    exact go c m ρ _ (by omega) (by omega) hJ (hG.up)
  refine Rq.ite (fun _ => ?_) (fun _ => ?_)
  · show Rq _ Q
    refine Rq.ck j1 ?_
    refine Rq.ck j2 ?_
    refine Rq.de (Rq.ck t11 ?_)
    refine pair h (c_outcomes _ _ h.1 hG.1.k) fun ν c m hc hm _ hS hM hq => ?_
    refine Rq.ck j1 ?_
    refine Rq.ck j2 ?_
    refine Rq.de (Rq.ck (by rw [hM.1.1]; rfl) ?_)
    refine pairM hS hq (m_outcomes _ _ hM hT) (o_fX11_outcomes hq) fun ρ hJ => Rq.ii ?_
    exact go c m ρ _ (by omega) (by omega) hJ (hG.up)
  refine Rq.ite (fun _ => ?_) (fun _ => ?_)
  · show Rq _ Q
    refine Rq.ck j1 ?_
    refine Rq.ck j2 ?_
    refine Rq.ck j3 ?_
    refine Rq.ck j4 ?_
    refine Rq.de (Rq.ck t11 ?_)
    refine pair h (c_outcome _ _ _ _ h.1 hG.1.k) fun ν c m hc hm _ hS hM hq => ?_
    refine Rq.ck j1 ?_
    refine Rq.ck j2 ?_
    refine Rq.ck j3 ?_
    refine Rq.ck j4 ?_
    refine Rq.de (Rq.ck (by rw [hM.1.1]; rfl) ?_)
    refine pairM hS hq (m_outcome _ _ _ _ hM hT) (o_fX11_outcome hq) fun ρ hJ => Rq.ii ?_
    exact go c m ρ _ (by omega) (by omega) hJ (hG.up)
  refine Rq.ite (fun _ => ?_) (fun _ => ?_)
  · show Rq _ Q
    refine Rq.ck j1 ?_
    refine Rq.ck j2 ?_
    refine Rq.de (Rq.ck t11 ?_)
    refine pair h (c_differs _ _ h.1 hG.2.2.2.1 hG.1.k) fun ν c m hc hm _ hS hM hq => ?_
    refine Rq.ck j1 ?_
    refine Rq.ck j2 ?_
    refine Rq.de (Rq.ck (by rw [hM.1.1]; rfl) ?_)
    refine pairM hS hq (m_differs _ _ hM hT gT) (o_fX11_differs hq) fun ρ hJ => Rq.ii ?_
    exact go c m ρ _ (by omega) (by omega) hJ (hG.up)
  refine Rq.ite (fun _ => ?_) (fun _ => ?_)
  · show Rq _ Q
    refine Rq.ck j1 ?_
    refine Rq.ck j2 ?_
    refine Rq.ck j3 ?_
    refine Rq.ck j4 ?_
    refine Rq.de (Rq.ck t11 ?_)
    refine pair h (c_changed _ _ _ _ h.1 hG.2.2.2.1) fun ν c m hc hm _ hS hM hq => ?_
    refine Rq.ck j1 ?_
    refine Rq.ck j2 ?_
    refine Rq.ck j3 ?_
    refine Rq.ck j4 ?_
    refine Rq.de (Rq.ck (by rw [hM.1.1]; rfl) ?_)
    refine pairM hS hq (m_changed _ _ _ _ hM hT gT) (o_fX11_changed hq) fun ρ hJ => Rq.ii ?_
    exact go c m ρ _ (by omega) (by omega) hJ (hG.up)
  refine Rq.ite (fun _ => ?_) (fun _ => ?_)
  · show Rq _ Q
    refine Rq.ck j1 ?_
    refine Rq.de (Rq.ck t11 ?_)
    refine pair h (c_quarrel _ h.1 hG.2.2.2.1) fun ν c m hc hm _ hS hM hq => ?_
    refine Rq.ck j1 ?_
    refine Rq.de (Rq.ck (by rw [hM.1.1]; rfl) ?_)
    refine pairM hS hq (m_quarrel _ hM hT gT) (o_fX11_quarrel hq) fun ρ hJ => Rq.ii ?_
    exact go c m ρ _ (by omega) (by omega) hJ (GI_quarrel _ hG )
  refine Rq.ite (fun _ => ?_) (fun _ => ?_)
  · show Rq _ Q
    refine Rq.ck j1 ?_
    refine Rq.de (Rq.ck t11 ?_)
    refine pair h (c_quarreling _ h.1 ) fun ν c m hc hm _ hS hM hq => ?_
    refine Rq.ck j1 ?_
    refine Rq.de (Rq.ck (by rw [hM.1.1]; rfl) ?_)
    refine pairM hS hq (m_quarreling _ hM ) (o_fX11_quarreling hq) fun ρ hJ => Rq.ii ?_
    exact go c m ρ _ (by omega) (by omega) hJ (hG.up)
  refine Rq.ite (fun _ => ?_) (fun _ => ?_)
  · show Rq _ Q
    refine Rq.ck j1 ?_
    refine Rq.ck j2 ?_
    refine Rq.de (Rq.ck t11 ?_)
    refine pair h (c_gap _ _ h.1 hG.2.2.2.1) fun ν c m hc hm _ hS hM hq => ?_
    refine Rq.ck j1 ?_
    refine Rq.ck j2 ?_
    refine Rq.de (Rq.ck (by rw [hM.1.1]; rfl) ?_)
    refine pairM hS hq (m_gap _ _ hM hT gT) (o_fX11_gap hq) fun ρ hJ => Rq.ii ?_
    exact go c m ρ _ (by omega) (by omega) hJ (hG.up)
  refine Rq.ite (fun _ => ?_) (fun _ => ?_)
  · refine Rq.ck j1 (Rq.ck j2 ?_)
    have key : ∀ (is : Bool) (x0 : Int32), x0 = (if is then 1 else 0) → (is = true ↔ ¬ xs (x3 + 2).toNatClampNeg = 0) → Rq (fL_law_b779 xs LL (fL_law_b18 xs LL fu) (some B) (some (B + 76)) x3 x0 (xs (x3 + 1).toNatClampNeg) (some B) μ) Q := by
      intro is x0 e0 hi
      subst e0
      rw [fL_law_b779]
      refine Rq.de (Rq.ck t11 ?_)
      refine pair h (c_free _ is h.1) fun ν c m hc hm _ hS hM hq => ?_
      refine Rq.ck j1 (Rq.ck j2 ?_)
      have t2 : ∀ x0 : Int32, x0 = (if is then 1 else 0) → Rq (fL_law_b801 xs LL (fL_law_b18 xs LL fu) (some B) (some (B + 76)) x3 x0 (xs (x3 + 1).toNatClampNeg) (some (B + 76)) (spFree (xs (x3 + 1).toNatClampNeg) is s).1 ν) (fun r2 ρ c2 m2 => Q r2 ρ (c + c2) (m + m2)) := by
        intro x0 e0
        subst e0
        rw [fL_law_b801]
        refine Rq.de (Rq.ck (by rw [hM.1.1]; rfl) ?_)
        refine pairM hS hq (m_free _ is hM) (o_fX11_free hq) fun ρ hJ => Rq.ii ?_
        exact go c m ρ _ (by omega) (by omega) hJ (GI_free _ _ hG)
      refine Rq.ite (fun z => t2 _ ?_) (fun z => t2 _ ?_)
      · cases is with
        | false => rfl
        | true => exact absurd z (hi.mp rfl)
      · cases is with
        | true => rfl
        | false => exact absurd (hi.mpr z) (by decide)
    exact Rq.ite (fun z => key false _ rfl ⟨fun q => absurd q (by decide), fun q => absurd z q⟩) (fun z => key true _ rfl ⟨fun _ => z, fun _ => rfl⟩)
  refine Rq.ite (fun _ => ?_) (fun _ => ?_)
  · show Rq _ Q
    refine Rq.ck j1 ?_
    refine Rq.ck j2 ?_
    refine Rq.ck j3 ?_
    refine Rq.ck j4 ?_
    refine Rq.de (Rq.ck t11 ?_)
    refine pair h (c_due _ _ _ _ h.1 hG.1.k) fun ν c m hc hm _ hS hM hq => ?_
    refine Rq.ck j1 ?_
    refine Rq.ck j2 ?_
    refine Rq.ck j3 ?_
    refine Rq.ck j4 ?_
    refine Rq.de (Rq.ck (by rw [hM.1.1]; rfl) ?_)
    refine pairM hS hq (m_due _ _ _ _ hM hT) (o_fX11_due hq) fun ρ hJ => Rq.ii ?_
    exact go c m ρ _ (by omega) (by omega) hJ (hG.up)
  refine Rq.ite (fun _ => ?_) (fun _ => ?_)
  · show Rq _ Q
    refine Rq.ck j1 ?_
    refine Rq.de (Rq.ck t11 ?_)
    refine pair h (c_count _ h.1 ) fun ν c m hc hm _ hS hM hq => ?_
    refine Rq.ck j1 ?_
    refine Rq.de (Rq.ck (by rw [hM.1.1]; rfl) ?_)
    refine pairM hS hq (m_count _ hM hT hG.2.2.2.1) (o_fX11_count hq) fun ρ hJ => Rq.ii ?_
    exact go c m ρ _ (by omega) (by omega) hJ (hG.up)
  exact (go 0 0 μ s (by omega) (by omega) h hG.up).mono fun r ν c m q => by rw [Nat.zero_add, Nat.zero_add] at q; exact q
theorem law_l {xs : Nat → Int32} {LL B : Nat} (hL : LL ≤ 3072) : ∀ (fu k : Nat) (μ : JM) (s : SS), JS B μ s → GI s k → k ≤ 512 → 512 - k < fu → Rq (fL_law_b18 xs LL fu (some B) (some (B + 76)) (nI (6 * k)) μ) (fun _ _ c m => c ≤ 153 * (512 - k) ∧ m ≤ 2500 * (512 - k)) := by
  intro fu
  induction fu with
  | zero => intro k μ s _ _ _ h; omega
  | succ fu ih =>
    intro k μ s h hG hk hf
    by_cases hs : nI LL - 6 < nI (6 * k)
    · rw [fL_law_b18, if_pos hs]
      exact Rq.ret ⟨Nat.zero_le _, Nat.zero_le _⟩
    · have hLk : 6 * k + 6 ≤ LL := by
        refine Nat.le_of_not_lt fun z => hs ?_
        have e6 : (6 : Int32).toInt = 6 := by decide
        rw [fa_lt, fb_subI (by rw [nI_toInt (by omega), e6]; omega) (by rw [nI_toInt (by omega), e6]; omega), nI_toInt (by omega), nI_toInt (by omega), e6]
        omega
      have hj : ∀ i : Nat, i < 6 → jin (nI (6 * k) + nI i) LL = true := fun i hi => by
        rw [nI_add]; exact jin_nI (by omega) (by omega)
      refine law_step (k := k) (s := s) (jin_nI (by omega) (by omega)) (hj 1 (by omega)) (hj 2 (by omega)) (hj 3 (by omega)) (hj 4 (by omega)) (hj 5 (by omega)) hs h hG (by omega) fun c m ρ s2 hc hm hJ hG2 => ?_
      rw [fL_law_b885, show nI (6 * k) + (6 : Int32) = nI (6 * (k + 1)) from by rw [show (6 : Int32) = nI 6 from rfl, nI_add]; congr 1]
      exact (ih (k + 1) ρ s2 hJ hG2 (by omega) (by omega)).mono fun r ν c2 m2 q => by
        have := q.1; have := q.2
        constructor <;> omega
/-- the pure statement -/
theorem pure_all (b LL : Nat) (xs : Nat → Int32) (hL : LL ≤ 3072) : ∃ (ν : JM) (c m : Nat), fL_law xs LL (jM0 b) = some ((), ν, c, m) ∧ c ≤ 600000 ∧ m ≤ 7302250 := by
  have key : Rq (fL_law xs LL (jM0 b)) (fun _ _ c m => c ≤ 600000 ∧ m ≤ 7302250) := by
    rw [fL_law]
    refine both_new (K := fun q1 q19 μ29 => fL_law_b18 xs LL jfuel (some q1) (some q19) (0 : Int32) μ29) fun ν hc hm hq hz c0 m0 h1 h2 => ?_
    refine (law_l hL jfuel 0 ν s0 ⟨hc, hm, hq⟩ GI.s0 (by omega) (jfuel_gt (by omega))).mono fun r ρ c m q => ?_
    have := q.1; have := q.2
    constructor <;> omega
  obtain ⟨r, ν, c, m, e, h1, h2⟩ := key
  exact ⟨ν, c, m, e, h1, h2⟩
