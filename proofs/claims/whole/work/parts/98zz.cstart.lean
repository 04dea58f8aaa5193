/-! both are made -/
theorem ck_all : ∀ e ∈ ckin, (ckin.getD e.1 (0, 0, 0)).2 = e.2 ∧ e.1 < 76 := by decide +kernel
theorem cp_all : ∀ e ∈ cptr, ((PS3.find? (fun x => x.1 == e.1 && x.2.1 == e.2.1)).map (fun x => x.2.2)) = some e.2.2 ∧ e.1 < 76 := by decide +kernel
theorem st_new {B : Nat} {μ0 ν0 ν1 ν : JM} {c1 : Nat → Int32} {c2 : Nat → Int64} (r : RM B μ0 76 PS3 c1 c2 ν0) (l1 : c1 1 = nI 18) (l2 : ∀ j, j < 18 → c2 j = langC.getD j 0) (h1 : ν1 = jsI (jsI ν0 B 15 (-1)) B 16 (-1)) (H : ∀ a, a < B + 76 → sameC ν1 ν a) (hz : jZ ν = B + 121) : cSt B ν s0 := by
  obtain ⟨z, a1, a2, a3, a4, a5⟩ := r
  have oT : ∀ i, i < 76 → jT ν (B + i) = (ckin.getD i (0, 0, 0)).2 := fun i hi => by rw [(H (B + i) (by omega)).1, h1]; exact a2 i hi
  have oP : ∀ i k, i < 76 → jP ν (B + i) k = (PS3.find? (fun e => e.1 == i && e.2.1 == k)).map (fun e => B + e.2.2) := fun i k hi => by rw [(H (B + i) (by omega)).2.2.2, h1]; exact a3 i k hi
  have oI : ∀ i, i < 76 → 0 < i → jI ν (B + i) = if i = 1 then c1 else fun _ => 0 := fun i hi h0 => by rw [(H (B + i) (by omega)).2.1, h1, jI_sI_ne (by omega), jI_sI_ne (by omega)]; exact a4 i hi
  have oJ : ∀ i, i < 76 → jJ ν (B + i) = if i = 2 then c2 else fun _ => 0 := fun i hi => by rw [(H (B + i) (by omega)).2.2.1, h1]; exact a5 i hi
  have o0 : ∀ k, jI ν B k = if k = 16 then -1 else if k = 15 then -1 else 0 := fun k => by
    rw [(H B (by omega)).2.1, h1, jI_sI, jI_sI]
    have e : jI ν0 B k = 0 := by
      have := a4 0 (by omega)
      rw [Nat.add_zero] at this
      rw [this, if_neg (by decide)]
    simp only [true_and, e]
  have hC : CT B ν := ⟨fun e he => by obtain ⟨q1, q2⟩ := ck_all e he; rw [oT e.1 q2, q1], fun e he => by
    obtain ⟨q1, q2⟩ := cp_all e he
    rw [oP e.1 e.2.1 q2]
    cases hf : PS3.find? (fun x => x.1 == e.1 && x.2.1 == e.2.1) with
    | none => rw [hf] at q1; cases q1
    | some x => rw [hf] at q1; injection q1 with q1; exact congrArg (fun n => some (B + n)) q1, by omega⟩
  have l18 : langC.length = 18 := by decide
  have w0 : ∀ i mx, 2 < i → i < 76 → cW B i mx ν [] := fun i mx h0 hi => ⟨by rw [oI i hi (by omega), if_neg (by omega)]; rfl, Nat.zero_le _, fun j hj => absurd hj (by simp)⟩
  have s0' : ∀ i room, 2 < i → i < 76 → cS B i room ν [] := fun i room h0 hi => ⟨by rw [oI i hi (by omega), if_neg (by omega)]; rfl, by decide, fun j hj => absurd hj (by simp)⟩
  refine ⟨hC, ⟨⟨?_, by rw [l18]; exact Nat.le_refl _, fun j hj => ?_⟩, w0 9 8 (by omega) (by omega), w0 11 6 (by omega) (by omega), w0 13 12 (by omega) (by omega), ?_⟩, ⟨s0' 3 900 (by omega) (by omega), Nat.zero_le _, fun x hx => by cases hx⟩, ⟨s0' 5 1800 (by omega) (by omega), Nat.zero_le _⟩, ⟨fun _ => 0, fun t ht => absurd ht (Nat.not_lt_zero _), fun v hv => ⟨?_, fun t ht => by cases ht⟩, fun i hi => absurd hi (Nat.not_lt_zero _)⟩, ⟨?_, ?_, Nat.zero_le _, ?_, ?_⟩, fun i hi => ?_, ?_, fun d hd => ?_⟩
  · rw [oI 1 (by omega) (by omega), if_pos rfl, l18]; exact l1
  · rw [l18] at hj
    rw [oJ 2 (by omega), if_pos rfl]; exact l2 j hj
  · rw [oI 66 (by omega) (by omega), if_neg (by decide)]
  · rw [oP 69 v (by omega)]
    have : ∀ v, v < 4 → PS3.find? (fun e => e.1 == 69 && e.2.1 == v) = none := by decide +kernel
    rw [this v hv]; rfl
  · rw [o0]; rfl
  · rw [o0]; rfl
  · rw [o0]; rfl
  · rw [o0]; rfl
  · rw [oJ 72 (by omega), if_neg (by decide)]; rfl
  · rw [oI 73 (by omega) (by omega), if_neg (by decide)]
    show (0 : Int32) = nI (fb_ct (fun _ => false) 10000)
    rw [ct_0]; rfl
  · rw [oJ 74 (by omega), if_neg (by decide)]
    show lb 0 (d % 64) = false
    unfold lb; simp
theorem both_new {μ : JM} {β : Type} {K : Nat → Nat → JM → JO β} {Q : β → JM → Nat → Nat → Prop} (g : ∀ ν, cSt (jZ μ) ν s0 → mSt (jZ μ + 76) ν s0 → QT (jZ μ + 76) ν → jZ ν = jZ μ + 121 → ∀ c0 m0, c0 ≤ 121 → m0 ≤ 410000 → Rq (K (jZ μ) (jZ μ + 76) ν) (fun r ρ c m => Q r ρ (c0 + c) (m0 + m))) : Rq (jnwo μ 11 17 fun q1 μ2 => jcl (fX10_init q1 μ2) fun _ μ11 => jnwo μ11 12 71 fun q19 μ20 => jcl (fX11_init q19 μ20) fun _ μ29 => K q1 q19 μ29) Q := by
  refine Rq.nwo ?_
  refine Rq.cl c_new fun _ ν1 c m ⟨e1, e2, c1, c2, ν0, r, l1, l2, h1⟩ => ?_
  refine Rq.nwo ?_
  have z1 : jZ ν1 = jZ μ + 76 := by rw [h1]; exact r.1
  rw [z1]
  have I : ISt (jZ μ + 76) ν1 (fun _ => 0) (jnew ν1 12 0) [] := by
    refine ⟨by rw [jZ_nw, z1]; rfl, by rw [jT_nw, if_pos (by omega)], fun i hi => absurd hi (Nat.not_lt_zero _), fun k q h => ?_, fun k => ?_, fun a ha => ?_⟩
    · rw [jP_nw, if_pos (by omega)] at h; cases h
    · rw [jI_nw, if_pos (by omega)]
    · exact ⟨by rw [jT_nw, if_neg (by omega)], by rw [jI_nw, if_neg (by omega)], by rw [jJ_nw, if_neg (by omega)], by rw [jP_nw, if_neg (by omega)]⟩
  refine Rq.cl (m_new I).rq fun _ ν c' m' ⟨b1, b2, M1, M2, M3, M4⟩ => ?_
  have zz : jZ ν = jZ μ + 121 := by rw [M3]
  refine (g ν (st_new r l1 l2 h1 M4 zz) M1 M2 zz (1 + (75 + (1 + c'))) (17 + (m + (71 + m'))) (by omega) (by omega)).mono fun x ρ c3 m3 q => ?_
  subst e1
  rw [show 1 + (75 + (1 + (c' + c3))) = 1 + (75 + (1 + c')) + c3 by omega, show 17 + (m + (71 + (m' + m3))) = 17 + (m + (71 + m')) + m3 by omega]
  exact q
