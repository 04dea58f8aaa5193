/-! the class: a new set of cases; gap -/
def lo (z : Nat) (μ ν : JM) : Prop := (∀ x, x < z → sameC μ ν x) ∧ jZ ν = jZ μ
theorem lo.rf {z : Nat} {μ : JM} : lo z μ μ := ⟨fun _ _ => sameC.rf, rfl⟩
theorem lo.tr {z : Nat} {μ ν ρ : JM} (h : lo z μ ν) (g : lo z ν ρ) : lo z μ ρ := ⟨fun x hx => (h.1 x hx).tr (g.1 x hx), g.2.trans h.2⟩
theorem lo.s4 {z : Nat} {μ : JM} {q : Nat} {v : CS} (h : z ≤ q) : lo z μ (s4 μ q v) := ⟨fun x hx => ⟨rfl, rfl, jJ_s4_ne (by omega), rfl⟩, rfl⟩
theorem lo.cl {B z v q : Nat} {μ ν : JM} {cls : List Cl} (h : lo z μ ν) (cl : cL (B + 121) z true 24 μ v q cls) : cL (B + 121) z true 24 ν v q cls := cl.kp fun x _ h2 => h.1 x h2
theorem CAS.s4 {μ : JM} {a q b : Nat} {v : CS} (h : CAS μ a q) : CAS (s4 μ b v) a q := h
theorem lb_or (x y : Int64) (i : Nat) : lb (x ||| y) i = (lb x i || lb y i) := by unfold lb; rw [Int64.toBitVec_or, BitVec.getLsbD_or]
theorem lb_and (x y : Int64) (i : Nat) : lb (x &&& y) i = (lb x i && lb y i) := by unfold lb; rw [Int64.toBitVec_and, BitVec.getLsbD_and]
theorem lb_xor (x y : Int64) (i : Nat) : lb (x ^^^ y) i = (lb x i ^^ lb y i) := by unfold lb; rw [Int64.toBitVec_xor, BitVec.getLsbD_xor]
theorem lb_m1 : ∀ i, i < 64 → lb (-1) i = true := by decide +kernel
theorem lb_not (x : Int64) {i : Nat} (h : i < 64) : lb (x ^^^ (-1)) i = !lb x i := by rw [lb_xor, lb_m1 i h, Bool.xor_true]
theorem ha_s4 {μ : JM} {q c : Nat} {v : CS} (hc : c < 256) : hasC (jJ (s4 μ q v) q) c = hasC v c := by
  unfold hasC; rw [jJ_s4 (show c / 64 < 4 by omega)]
theorem hasC_cg {v w : CS} {c : Nat} (hc : c < 256) (h : ∀ i, i < 4 → v i = w i) : hasC v c = hasC w c := by unfold hasC; rw [h _ (show c / 64 < 4 by omega)]
theorem Rq.nc {β : Type} {μ : JM} {f : Nat → JM → JO β} {Q : β → JM → Nat → Nat → Prop} (h : ∀ ν, (∀ x, x < jZ μ → sameC μ ν x) → jZ ν = jZ μ + 2 → CAS ν (jZ μ) (jZ μ + 1) → (∀ i, jJ ν (jZ μ + 1) i = 0) → Rq (f (jZ μ) ν) (fun r ρ c m => Q r ρ (2 + c) (5 + m))) : Rq (jnwo μ 2 1 fun q μ2 => jcl (fX1_init q μ2) fun _ μ3 => f q μ3) Q := by
  refine Rq.nwo ?_
  have Z1 : jZ (jnew μ 2 0) = jZ μ + 1 := jZ_nw
  have e : fX1_init (jZ μ) (jnew μ 2 0) = some ((), jsP (jnew (jnew μ 2 0) 102 4) (jZ μ) 0 (some (jZ μ + 1)), 1, 4) := by
    unfold fX1_init jnw
    simp only [jcl, jlt_is, Z1]
    rw [jck_of (by rw [jT_nw, if_neg (by omega), jT_nw, if_pos rfl]; rfl)]
  refine Rq.eq e ?_
  refine (h _ (fun x hx => ?_) ?_ ⟨?_, ?_, ?_⟩ fun i => ?_).mono fun r ν c m q => ?_
  · refine ⟨?_, ?_, ?_, ?_⟩
    · rw [jT_sP, jT_nw, if_neg (by omega), jT_nw, if_neg (by omega)]
    · rw [jI_sP, jI_nw, if_neg (by omega), jI_nw, if_neg (by omega)]
    · rw [jJ_sP, jJ_nw, if_neg (by omega), jJ_nw, if_neg (by omega)]
    · rw [jP_sP_ne (by omega), jP_nw, if_neg (by omega), jP_nw, if_neg (by omega)]
  · rw [jZ_sP, jZ_nw, jZ_nw]
  · rw [jT_sP, jT_nw, if_neg (by omega), jT_nw, if_pos rfl]
  · rw [jP_sP, if_pos ⟨rfl, rfl⟩]
  · rw [jT_sP, jT_nw, if_pos (by omega)]
  · rw [jJ_sP, jJ_nw, if_pos (by omega)]
  · rw [show 1 + (1 + c) = 2 + c by omega, show 1 + (4 + m) = 5 + m by omega]; exact q
theorem cQ.lo {B C N : Nat} {μ ν : JM} {s : SS} {y : Int32 × SS} {r : Int32} {c m : Nat} (h : cSt B μ s) (hy : y.2 = s) (hr : r = y.1) (l : ∀ x, x < jZ μ → sameC μ ν x) (hz : jZ μ ≤ jZ ν) (hc : c ≤ C) (hm : m ≤ N) : cQ B C N μ y r ν c m := by
  have hB := h.1.2.2
  have k : cs B (jZ μ) [] μ ν := same_cs l rfl hz
  exact ⟨hc, hm, hr, by rw [hy]; exact h.kr k.tocr (by decide) (by decide) (by rw [k.iI (by omega) (by decide)]; exact h.2.1.2.2.2.2), k.km hB hB (by decide)⟩
theorem lst_ext {p p' : Nat → Bool} : ∀ (d c : Nat), (∀ j, j < d → p (c + j) = p' (c + j)) → lst p d c = lst p' d c
  | 0, _, _ => rfl
  | d + 1, c, h => by
    have h0 := h 0 (by omega)
    rw [Nat.add_zero] at h0
    have ih := lst_ext (p := p) (p' := p') d (c + 1) (fun j hj => by rw [show c + 1 + j = c + (j + 1) by omega]; exact h (j + 1) (by omega))
    rw [lst, lst, h0, ih]
theorem lst_none {p : Nat → Bool} : ∀ (d c : Nat), (∀ j, j < d → p (c + j) = false) → lst p d c = -1
  | 0, _, _ => rfl
  | d + 1, c, h => by
    have h0 := h 0 (by omega)
    rw [Nat.add_zero] at h0
    rw [lst, h0, if_neg (by decide), lst_none d (c + 1) (fun j hj => by rw [show c + 1 + j = c + (j + 1) by omega]; exact h (j + 1) (by omega))]
theorem lst_tail {p : Nat → Bool} : ∀ (n d c : Nat), (∀ j, n ≤ j → j < n + d → p (c + j) = false) → lst p (n + d) c = lst p n c
  | 0, d, c, h => by rw [Nat.zero_add, lst_none d c (fun j hj => h j (by omega) (by omega))]; rfl
  | n + 1, d, c, h => by rw [show n + 1 + d = (n + d) + 1 by omega, lst, lst, lst_tail n d (c + 1) (fun j h1 h2 => by rw [show c + 1 + j = c + (j + 1) by omega]; exact h (j + 1) (by omega) (by omega))]
theorem nCs_256 {B : Nat} {μ : JM} {s : SS} (h : cSt B μ s) : nCs s ≤ 256 := by
  have hl : (sF s).length ≤ 8 := h.2.1.2.1.2.1
  exact Nat.pow_le_pow_right (n := 2) (by decide) hl
theorem lst_w {B : Nat} {μ : JM} {s : SS} {p p' : Nat → Bool} (h : cSt B μ s) (hw : gW s) (hp : ∀ c, c < 256 → p c = (p' c && hasC (sW s) c)) : lst p 256 0 = lst (fun c => hasC (sW s) c && p' c) (nCs s) 0 := by
  have hn := nCs_256 h
  rw [lst_ext 256 0 (p' := fun c => hasC (sW s) c && p' c) (fun j hj => by rw [Nat.zero_add, hp j hj, Bool.and_comm])]
  obtain ⟨d, hd⟩ : ∃ d, 256 = nCs s + d := ⟨256 - nCs s, by omega⟩
  rw [hd]
  refine lst_tail _ _ _ fun j h1 h2 => ?_
  rw [Nat.zero_add]
  rw [hw j (by omega) (Or.inr h1), Bool.false_and]
theorem ao_l {B z v q a b : Nat} {x : Int32} {cls : List Cl} (ha : z ≤ b) : ∀ (fu k : Nat) (μ : JM), cL (B + 121) z true 24 μ v q cls → CAS μ a b → k ≤ cls.length → cls.length - k < fu → ∃ ν, fX8_addOwing_b2 fu v x (some a) (nI k) μ = some ((), ν, 0, 0) ∧ lo z μ ν ∧ CAS ν a b ∧ ∀ c, c < 256 → hasC (jJ ν b) c = (hasC (jJ μ b) c || (cls.drop k).any (fun y => decide (y.1 = 1) && decide (y.2.2.2.1 = x) && hasC (Cl.cas y) c)) := by
  intro fu
  induction fu with
  | zero => intro k μ _ _ _ q; omega
  | succ fu ih =>
    intro k μ cl hA hk hf
    have h24 := cl.2.2.2.2.1
    rw [fX8_addOwing_b2]
    simp only [jck_true, jde_is, jlt_is, jcl_0, beq_self_eq_true, jT_sI, jT_sJ, jP_sI, jP_sJ, jJ_sI, jI_sJ, jZ_sI, jZ_sJ, cl.2.2.1, cl.2.2.2.1]
    by_cases c : k = cls.length
    · rw [if_pos (nI_le (by omega) (by omega)), c, List.drop_length]
      exact ⟨μ, rfl, lo.rf, hA, fun c _ => by rw [List.any_nil, Bool.or_false]⟩
    · have hk2 : k < cls.length := by omega
      rw [if_neg (nI_ge hk2 (by omega)), drop_getD (d := cl0) hk2]
      obtain ⟨e, e1, E⟩ := cl.2.2.2.2.2.2.2 k hk2
      obtain ⟨qq, bb, tt, e2, e3, e4, -, a5, a6, -, a8, a9, -, -, -, a13⟩ := id E
      simp only [jck_true, jde_is, jlt_is, jcl_0, beq_self_eq_true, jT_sI, jT_sJ, jP_sI, jP_sJ, jJ_sI, jI_sJ, jZ_sI, jZ_sJ, cl.2.2.2.2.2.1, cl.2.2.2.2.2.2.1, jin_nI (show k < 24 by omega) (by decide), nI_clamp (show k < 2 ^ 31 by omega), e1, a5, a6, (a13 rfl).2.1, fX8_addOwing_b49, nI_1]
      have no : ¬ ((cls.getD k cl0).1 = 1 ∧ (cls.getD k cl0).2.2.2.1 = x) → ∃ ν, fX8_addOwing_b2 fu v x (some a) (nI (k + 1)) μ = some ((), ν, 0, 0) ∧ lo z μ ν ∧ CAS ν a b ∧ ∀ c, c < 256 → hasC (jJ ν b) c = (hasC (jJ μ b) c || (cls.getD k cl0 :: cls.drop (k + 1)).any (fun y => decide (y.1 = 1) && decide (y.2.2.2.1 = x) && hasC (Cl.cas y) c)) := by
        intro w
        obtain ⟨ν, g1, g2, g3, g4⟩ := ih (k + 1) μ cl hA (by omega) (by omega)
        refine ⟨ν, g1, g2, g3, fun c hc => ?_⟩
        rw [g4 c hc, List.any_cons]
        have : (decide ((cls.getD k cl0).1 = 1) && decide ((cls.getD k cl0).2.2.2.1 = x)) = false := by rw [← Bool.decide_and, decide_eq_false w]
        rw [this, Bool.false_and, Bool.false_or]
      by_cases q1 : (cls.getD k cl0).1 = 1
      · by_cases q2 : (cls.getD k cl0).2.2.2.1 = x
        · rw [if_pos q1, if_pos q2]
          simp only [jck_true, jde_is, jlt_is, jcl_0, beq_self_eq_true, jT_sI, jT_sJ, jP_sI, jP_sJ, jJ_sI, jI_sJ, jZ_sI, jZ_sJ, hA.1, a8, c_or hA a9]
          have l1 : lo z μ (s4 μ b (fun i => jJ μ b i ||| jJ μ bb i)) := lo.s4 ha
          obtain ⟨ν, g1, g2, g3, g4⟩ := ih (k + 1) _ (l1.cl cl) hA.s4 (by omega) (by omega)
          refine ⟨ν, g1, l1.tr g2, g3, fun c hc => ?_⟩
          rw [g4 c hc, ha_s4 hc, List.any_cons, decide_eq_true q1, decide_eq_true q2, Bool.true_and, Bool.true_and, ← Bool.or_assoc]
          congr 1
          unfold hasC
          rw [lb_or, (a13 rfl).2.2.2.2.2 _ (show c / 64 < 4 by omega)]
        · rw [if_pos q1, if_neg q2]
          exact no (fun z => q2 z.2)
      · rw [if_neg q1]
        exact no (fun z => q1 z.1)
theorem nn_of {a : Int32} (h : 0 ≤ a) (g : a < 0) : False := by
  have h1 := Int32.le_iff_toInt_le.mp h
  have h2 := Int32.lt_iff_toInt_lt.mp g
  omega
theorem c_gap {B : Nat} {μ : JM} {s : SS} (v a : Int32) (h : cSt B μ s) (hw : gW s) : Rq (fX10_gap B v a μ) (cQ B 2 5 μ (spGap v a s)) := by
  have hC := h.1
  have hB := hC.2.2
  have y1 : (spGap v a s).1 = (match vAt s v with
  | none => -2
  | some t => match inR a (sA s).length with
    | none => -2
    | some _ => lst (gapP s t a) (nCs s) 0) := rfl
  have y2 : (spGap v a s).2 = s := rfl
  have hA : cW B 13 12 μ (sA s) := h.2.1.2.2.2.1
  obtain ⟨va, h1, h2, h3⟩ := c_vAt h
  have ok : ∀ r, r = (spGap v a s).1 → Rq (some (r, μ, 0, 0)) (cQ B 2 5 μ (spGap v a s)) := fun r hr => .ret (cQ.lo h rfl hr (fun _ _ => sameC.rf) (Nat.le_refl _) (by decide) (by decide))
  generalize spGap v a s = y at ok y1 y2 ⊢
  unfold fX10_gap
  rw [jck_of (by rw [cT0 hC]; rfl), h3 v, jcl_0]
  cases hv : vAt s v with
  | none => rw [hv] at y1; exact ok _ y1.symm
  | some t =>
    rw [hv] at y1
    have ht := h2 v t hv
    obtain ⟨q, cl, -⟩ := h1 t ht
    simp only [Option.map_some]
    rw [if_neg (by intro e; cases e)]
    dsimp only at y1
    by_cases q0 : a < 0
    · rw [if_pos q0]
      have : inR a (sA s).length = none := by unfold inR; rw [if_neg (fun z => nn_of z.1 q0)]
      rw [this] at y1; exact ok _ y1.symm
    · rw [if_neg q0]
      obtain ⟨j, hj, rfl⟩ := nI_of q0
      simp only [jck_true, jde_is, jlt_is, jcl_0, beq_self_eq_true, jT_sI, jT_sJ, jP_sI, jP_sJ, jJ_sI, jI_sJ, jZ_sI, jZ_sJ, cT0 hC, cP0_5 hC, cT13 hC, hA.1]
      have hl := hA.2.1
      by_cases q1 : j < (sA s).length
      · rw [if_pos (nI_lt q1 (by omega))]
        have : inR (nI j) (sA s).length = some j := by unfold inR; rw [nI_clamp hj, if_pos ⟨nI_pos' hj, q1⟩]
        rw [this] at y1
        dsimp only at y1
        refine Rq.nc fun ν l0 z0 hA0 n0 => ?_
        have cl1 : cL (B + 121) (jZ μ) true 24 ν (va t) q (txA s t) := cl.kp fun x _ h2 => l0 x h2
        obtain ⟨μ2, g1, g2, g3, g4⟩ := ao_l (x := nI j) (a := jZ μ) (b := jZ μ + 1) (by omega) jfuel 0 ν cl1 hA0 (Nat.zero_le _) (jfuel_gt (by have := cl.2.2.2.2.1; omega))
        have g1' : fX8_addOwing (va t) (nI j) (some (jZ μ)) ν = _ := g1
        simp only [jck_true, jde_is, jlt_is, jcl_0, beq_self_eq_true, jT_sI, jT_sJ, jP_sI, jP_sJ, jJ_sI, jI_sJ, jZ_sI, jZ_sJ, cl1.2.2.1, g1', g3.1, c_flip g3]
        have cs1 : cs B (jZ μ) [] μ μ2 := same_cs (fun x hx => (l0 x hx).tr (g2.1 x hx)) rfl (by rw [g2.2, z0]; omega)
        have hC2 := cs1.ct hC hB
        have e72 : ∀ i, i < 4 → jJ μ2 (B + 72) i = sW s i := fun i hi => by rw [cs1.iJ (by omega) (by decide)]; exact h.2.2.2.2.2.2.1 i hi
        have hC3 : CT B (s4 μ2 (jZ μ + 1) (fun i => jJ μ2 (jZ μ + 1) i ^^^ (-1))) := (cs.z4 (as := []) (show B + 121 ≤ jZ μ + 1 by omega)).ct hC2 (Nat.le_refl _)
        simp only [jck_true, jde_is, jlt_is, jcl_0, beq_self_eq_true, jT_sI, jT_sJ, jP_sI, jP_sJ, jJ_sI, jI_sJ, jZ_sI, jZ_sJ, jT_s4, jP_s4, g3.1, cT0 hC2, cP0_10 hC2, c_and g3.s4 (ca_w hC3)]
        have hA4 : CAS (s4 (s4 μ2 (jZ μ + 1) (fun i => jJ μ2 (jZ μ + 1) i ^^^ (-1))) (jZ μ + 1) (fun i => jJ (s4 μ2 (jZ μ + 1) (fun i => jJ μ2 (jZ μ + 1) i ^^^ (-1))) (jZ μ + 1) i &&& jJ (s4 μ2 (jZ μ + 1) (fun i => jJ μ2 (jZ μ + 1) i ^^^ (-1))) (B + 72) i)) (jZ μ) (jZ μ + 1) := g3
        rw [c_least hA4 (fun i _ => rfl), jcl_0]
        refine .ret (cQ.lo h y2 ?_ (fun x hx => ?_) ?_ (by omega) (by omega))
        · rw [y1]
          refine (lst_w h hw (p' := fun c => (txA s t).all (fun x => !(decide (x.1 = 1) && decide (x.2.2.2.1 = nI j) && hasC (Cl.cas x) c))) fun c hc => ?_)
          have e0 : hasC (jJ ν (jZ μ + 1)) c = false := by unfold hasC; rw [n0]; unfold lb; simp
          rw [ha_s4 hc]
          unfold hasC
          dsimp only
          rw [lb_and, jJ_s4 (show c / 64 < 4 by omega), lb_not _ (show c % 64 < 64 by omega), jJ_s4_ne (by omega), e72 _ (by omega)]
          have g5 := g4 c hc
          rw [e0, Bool.false_or, List.drop_zero] at g5
          unfold hasC at g5
          rw [g5]
          congr 1
          rw [List.not_any_eq_all_not]
        · exact ((l0 x hx).tr (g2.1 x hx)).tr ⟨rfl, rfl, by rw [jJ_s4_ne (by omega), jJ_s4_ne (by omega)], rfl⟩
        · rw [jZ_s4, jZ_s4, g2.2, z0]; omega
      · rw [if_neg (nI_nlt (by omega) hj)]
        have : inR (nI j) (sA s).length = none := by unfold inR; rw [nI_clamp hj, if_neg (fun z => q1 z.2)]
        rw [this] at y1; exact ok _ y1.symm
