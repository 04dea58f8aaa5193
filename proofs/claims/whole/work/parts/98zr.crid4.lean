/-! the class: what a rider needs -/
theorem cTw.sa {B : Nat} {μ ν : JM} {s : SS} {va : Nat → Nat} (h : cTw B μ s va) (hz : jZ μ ≤ jZ ν) (H : ∀ x, B + 121 ≤ x → x < jZ μ → sameC μ ν x) (h69 : jP ν (B + 69) = jP μ (B + 69)) (h70 : ∀ i, i < (sR s).length → jP ν (B + 70) i = jP μ (B + 70) i) : cTw B ν s va := by
  obtain ⟨h1, h2, h3⟩ := h
  refine ⟨fun t ht => ?_, fun v hv => by rw [h69]; exact h2 v hv, fun i hi => ?_⟩
  · obtain ⟨q, c1, c2⟩ := h1 t ht
    exact ⟨q, (c1.kp H).wk (Nat.le_refl _) hz, by rw [(H _ c1.1.1 c1.1.2).2.1]; exact c2⟩
  · obtain ⟨⟨a, a1, a2, a3, a4, a5, a6⟩, b⟩ := h3 i hi
    obtain ⟨d1, d2, d3, d4⟩ := H a a2.1 a2.2
    rw [h70 i hi]
    exact ⟨⟨a, a1, ⟨a2.1, Nat.lt_of_lt_of_le a2.2 hz⟩, by rw [d1]; exact a3, by rw [d2]; exact a4, by rw [d4]; exact a5, by rw [d2]; exact a6⟩, b⟩
theorem cTw.new {B z u : Nat} {ν : JM} {s : SS} {va : Nat → Nat} {cls : List Cl} {P A : List Int64} (h : cTw B ν s va) (hn : cVr B (jZ ν) ν z cls (sTx s).length) : cTw B (jsP ν (B + 69) u (some z)) (wTx s P A cls u) (fun t => if t = (sTx s).length then z else va t) := by
  obtain ⟨h1, h2, h3⟩ := h
  have eT : sTx (wTx s P A cls u) = sTx s ++ [cls] := rfl
  have eR : sR (wTx s P A cls u) = sR s := rfl
  have eV : ∀ v, sV (wTx s P A cls u) v = if v = u then some (sTx s).length else sV s v := fun v => rfl
  have eA : ∀ t, t < (sTx s).length → txA (wTx s P A cls u) t = txA s t := fun t ht => by unfold txA; rw [eT]; simp [List.getD, List.getElem?_append_left ht]
  have mp : ∀ (o : Option Nat), (∀ t, o = some t → t < (sTx s).length) → o.map (fun t => if t = (sTx s).length then z else va t) = o.map va := by
    intro o ho
    cases o with
    | none => rfl
    | some t => have := ho t rfl; simp only [Option.map_some]; rw [if_neg (by omega)]
  have D : ∀ x, x ≠ B + 69 → sameC ν (jsP ν (B + 69) u (some z)) x := fun x hx => sameC.sP hx
  have kV : ∀ a c t, cVr B (jZ ν) ν a c t → cVr B (jZ ν) (jsP ν (B + 69) u (some z)) a c t := by
    rintro a c t ⟨q, k1, k2⟩
    exact ⟨q, k1.kp fun x q1 q2 => D x (by omega), k2⟩
  refine ⟨fun t ht => ?_, fun v hv => ?_, fun i hi => ?_⟩
  · rw [eT, List.length_append, List.length_singleton] at ht
    show cVr B (jZ ν) _ (if t = (sTx s).length then z else va t) _ t
    by_cases c : t = (sTx s).length
    · rw [if_pos c]
      have : txA (wTx s P A cls u) t = cls := by unfold txA; rw [eT, c]; simp [List.getD]
      rw [this, c]; exact kV _ _ _ hn
    · rw [if_neg c, eA t (by omega)]
      exact kV _ _ _ (h1 t (by omega))
  · rw [jP_sP, eV, eT, List.length_append, List.length_singleton]
    by_cases c : v = u
    · rw [if_pos ⟨rfl, c⟩, if_pos c]
      refine ⟨by simp, fun t ht => by injection ht; omega⟩
    · rw [if_neg (fun t => c t.2), if_neg c, mp _ (h2 v hv).2]
      exact ⟨(h2 v hv).1, fun t ht => by have := (h2 v hv).2 t ht; omega⟩
  · rw [eR] at hi ⊢
    obtain ⟨⟨a, a1, a2, a3, a4, a5, a6⟩, b⟩ := h3 i hi
    rw [jP_sP_ne (by omega), eT, List.length_append, List.length_singleton]
    obtain ⟨d1, d2, d3, d4⟩ := D a (by omega)
    exact ⟨⟨a, a1, a2, by rw [d1]; exact a3, by rw [d2]; exact a4, by rw [d4, mp _ b]; exact a5, by rw [d2]; exact a6⟩, fun t ht => by have := b t ht; omega⟩
theorem cTw.addR {B r u ser : Nat} {o : Option Nat} {ρ : JM} {s : SS} {va : Nat → Nat} (h : cTw B ρ s va) (hr : jP ρ (B + 70) (sR s).length = some r) (h1 : B + 121 ≤ r ∧ r < jZ ρ) (h2 : (jT ρ r).1 = 6) (h3 : jI ρ r 0 = nI u) (h4 : jP ρ r 1 = o.map va) (h5 : jI ρ r 2 = nI ser) (ho : ∀ t, o = some t → t < (sTx s).length) : cTV B ρ (wR s (sR s ++ [(u, o, ser)])) := by
  refine ⟨va, h.1, h.2.1, fun i hi => ?_⟩
  have eR : sR (wR s (sR s ++ [(u, o, ser)])) = sR s ++ [(u, o, ser)] := rfl
  rw [eR, List.length_append, List.length_singleton] at hi
  rw [eR]
  by_cases c : i = (sR s).length
  · have : (sR s ++ [(u, o, ser)]).getD i (0, none, 0) = (u, o, ser) := by rw [c]; simp [List.getD]
    rw [this, c]
    exact ⟨⟨r, hr, h1, h2, h3, h4, h5⟩, ho⟩
  · have hi2 : i < (sR s).length := by omega
    have : (sR s ++ [(u, o, ser)]).getD i (0, none, 0) = (sR s).getD i (0, none, 0) := by simp [List.getD, List.getElem?_append_left hi2]
    rw [this]
    exact h.2.2 i hi2
theorem c_newV {B : Nat} {μ : JM} (hB : B + 121 ≤ jZ μ) : ∃ ν, fX8_init (jZ μ) 36 (-1) (jnew μ 9 0) = some ((), ν, 1, 36) ∧ jZ ν = jZ μ + 2 ∧ (∀ x, x < jZ μ → sameC μ ν x) ∧ cL (B + 121) (jZ ν) false 36 ν (jZ μ) (jZ μ + 1) [] := by
  have m36 : jmax (36 : Int32) 0 = 36 := by decide
  have c36 : (36 : Int32).toNatClampNeg = 36 := by decide
  have Z1 : jZ (jnew μ 9 0) = jZ μ + 1 := jZ_nw
  unfold fX8_init
  rw [m36, c36, jck_of (by decide), jck_of (by decide)]
  unfold jnw
  simp only [jcl, jlt_is, Z1]
  have T2 : jT (jnew (jnew μ 9 0) 105 36) (jZ μ) = (9, 0) := by rw [jT_nw, if_neg (by omega), jT_nw, if_pos rfl]
  rw [jck_of (by rw [T2]; rfl)]
  have Zf : jZ (jsI (jsP (jnew (jnew μ 9 0) 105 36) (jZ μ) 0 (some (jZ μ + 1))) (jZ μ) 1 (-1)) = jZ μ + 2 := by rw [jZ_sI, jZ_sP, jZ_nw, jZ_nw]
  refine ⟨_, rfl, Zf, fun x hx => ⟨?_, ?_, ?_, ?_⟩, ⟨hB, by rw [Zf]; omega⟩, ⟨by omega, by rw [Zf]; omega⟩, ?_, ?_, by simp, ?_, ?_, fun i hi => absurd hi (by simp)⟩
  · rw [jT_sI, jT_sP, jT_nw, if_neg (by omega), jT_nw, if_neg (by omega)]
  · rw [jI_sI_ne (by omega), jI_sP, jI_nw, if_neg (by omega), jI_nw, if_neg (by omega)]
  · rw [jJ_sI, jJ_sP, jJ_nw, if_neg (by omega), jJ_nw, if_neg (by omega)]
  · rw [jP_sI, jP_sP_ne (by omega), jP_nw, if_neg (by omega), jP_nw, if_neg (by omega)]
  · rw [jT_sI, jT_sP, T2]
  · rw [jI_sI, if_neg (by omega), jI_sP, jI_nw, if_neg (by omega), jI_nw, if_pos rfl]; rfl
  · rw [jP_sI, jP_sP, if_pos ⟨rfl, rfl⟩]
  · rw [jT_sI, jT_sP, jT_nw, if_pos (by omega)]
