/-! the class: rider, once the new text is read -/
theorem c_ridTail {B u zv : Nat} {μ : JM} {s : SS} {cls : List Cl} {P A : List Int64} (hC : CT B μ) (g2 : cLang B μ) (g3 : cW B 9 8 μ (sF s)) (w1 : cW B 11 6 μ P) (w2 : cW B 13 12 μ A) (h66 : jI μ (B + 66) 0 = 0) (g4 : cTp B μ s) (g5 : cOu B μ s) (g6 : cTV B μ s) (g7 : cNu B μ s) (g8 : cWo B μ s) (g9 : cCa B μ s) (V : cVr B (jZ μ) μ zv cls (sTx s).length) (hu : u < 4) (hR : (sR s).length < 256) : Rq (jck ((jT μ B).1 == 11) <| jlt (jsI μ B 13 ((jI μ B 13) + (1 : Int32))) fun μ124 => jnwo μ124 6 3 fun q127 μ128 => jck ((jT μ128 B).1 == 11) <| jde (jP μ128 B 8) fun q137 => jck ((jT μ128 q137).1 == 106) <| jck (jin (nI u) (jT μ128 q137).2) <| jde (some zv) fun q141 => jck ((jT μ128 q141).1 == 9) <| jcl (fX5_init q127 (nI u) (jP μ128 q137 ((nI u)).toNatClampNeg) (jI μ128 q141 1) μ128) fun u144 μ145 => jde (jP μ124 B 9) fun q153 => jck ((jT μ145 q153).1 == 107) <| jck (jin (jI μ124 B 14) (jT μ145 q153).2) <| jck ((jT μ145 q127).1 == 6) <| jlt (jsP μ145 q153 ((jI μ124 B 14)).toNatClampNeg (some q127)) fun μ158 => jck ((jT μ145 B).1 == 11) <| jlt (jsI μ158 B 14 ((jI μ158 B 14) + (1 : Int32))) fun μ162 => jde (jP μ162 B 8) fun q165 => jck ((jT μ145 q165).1 == 106) <| jck (jin (nI u) (jT μ145 q165).2) <| jck (jkd μ145 (some zv) 9) <| jlt (jsP μ162 q165 ((nI u)).toNatClampNeg (some zv)) fun μ170 => jck ((jT μ145 q141).1 == 9) <| some ((jI μ170 q141 2), μ170, 0, 0)) (cQ B 1 3 μ (nI cls.length, wR (wTx s P A cls u) (sR s ++ [(u, sV s u, (sTx s).length)]))) := by
  have hB := hC.2.2
  obtain ⟨n1, n2, n3, n4, n5⟩ := g7
  obtain ⟨qv, cl, ser⟩ := id V
  obtain ⟨va, hva⟩ : ∃ va, cTw B μ s va := g6
  rw [jck_of (by rw [cT0 hC]; rfl), n1, nI_1]
  simp only [jlt_is]
  -- texts + 1
  have sA : cs B (jZ μ) [0] μ (jsI μ B 13 (nI ((sTx s).length + 1))) := cs.sI (i := 0) (by decide)
  have NA : ∀ k, jI (jsI μ B 13 (nI ((sTx s).length + 1))) B k = if k = 13 then nI ((sTx s).length + 1) else jI μ B k := fun k => by
    rw [jI_sI]
    by_cases c : k = 13
    · rw [if_pos ⟨rfl, c⟩, if_pos c]
    · rw [if_neg (fun t => c t.2), if_neg c]
  have oA : ∀ x, x ≠ B → sameC μ (jsI μ B 13 (nI ((sTx s).length + 1))) x := fun x hx => sameC.sI hx
  have ZA : jZ (jsI μ B 13 (nI ((sTx s).length + 1))) = jZ μ := rfl
  generalize jsI μ B 13 (nI ((sTx s).length + 1)) = μA at sA NA oA ZA ⊢
  have hCA := sA.ct hC hB
  refine Rq.nwo ?_
  have oB : ∀ x, x < jZ μA → sameC μA (jnew μA 6 0) x := fun x hx => ⟨by rw [jT_nw, if_neg (by omega)], by rw [jI_nw, if_neg (by omega)], by rw [jJ_nw, if_neg (by omega)], by rw [jP_nw, if_neg (by omega)]⟩
  have sB : cs B (jZ μ) [0] μ (jnew μA 6 0) := sA.tr (cs.nw (by omega))
  have TB : jT (jnew μA 6 0) (jZ μA) = (6, 0) := by rw [jT_nw, if_pos rfl]
  have ZB : jZ (jnew μA 6 0) = jZ μ + 1 := by rw [jZ_nw, ZA]
  have hCB := sB.ct hC hB
  generalize jnew μA 6 0 = μB at oB sB TB ZB hCB ⊢
  rw [ZA] at TB oB ⊢
  have o2 : ∀ x, x < jZ μ → x ≠ B → sameC μ μB x := fun x h1 h2 => (oA x h2).tr (oB x h1)
  have zvl : zv < jZ μ := cl.1.2
  have zvB : zv ≠ B := by have := cl.1.1; omega
  have v69 : jP μB (B + 69) u = (sV s u).map va := by rw [sB.iP (by omega)]; exact (hva.2.1 u hu).1
  have t9 : (jT μB zv).1 = 9 := by rw [(o2 zv zvl zvB).1]; exact cl.2.2.1
  have i1 : jI μB zv 1 = nI (sTx s).length := by rw [(o2 zv zvl zvB).2.1]; exact ser
  have i14 : jI μA B 14 = nI (sR s).length := by rw [NA, if_neg (by decide)]; exact n2
  simp only [jck_true, jde_is, jlt_is, jcl_0, beq_self_eq_true, jT_sI, jT_sJ, jP_sI, jP_sJ, jJ_sI, jI_sJ, jZ_sI, jZ_sJ, cT0 hCB, cP0_8 hCB, cT69 hCB, jin_nI hu (show 4 < 2 ^ 31 by decide), nI_clamp (show u < 2 ^ 31 by omega), t9, v69, i1]
  unfold fX5_init
  simp only [jck_true, jde_is, jlt_is, jcl_0, beq_self_eq_true, jT_sI, jT_sJ, jP_sI, jP_sJ, jJ_sI, jI_sJ, jZ_sI, jZ_sJ, TB, jT_sP]
  have oC : ∀ x, x ≠ jZ μ → sameC μB (jsI (jsP (jsI μB (jZ μ) 0 (nI u)) (jZ μ) 1 ((sV s u).map va)) (jZ μ) 2 (nI (sTx s).length)) x := fun x hx => ((sameC.sI hx).tr (sameC.sP hx)).tr (sameC.sI hx)
  have r0 : jI (jsI (jsP (jsI μB (jZ μ) 0 (nI u)) (jZ μ) 1 ((sV s u).map va)) (jZ μ) 2 (nI (sTx s).length)) (jZ μ) 0 = nI u := by rw [jI_sI, if_neg (by omega), jI_sP, jI_sI, if_pos ⟨rfl, rfl⟩]
  have r1 : jP (jsI (jsP (jsI μB (jZ μ) 0 (nI u)) (jZ μ) 1 ((sV s u).map va)) (jZ μ) 2 (nI (sTx s).length)) (jZ μ) 1 = (sV s u).map va := by rw [jP_sI, jP_sP, if_pos ⟨rfl, rfl⟩]
  have r2 : jI (jsI (jsP (jsI μB (jZ μ) 0 (nI u)) (jZ μ) 1 ((sV s u).map va)) (jZ μ) 2 (nI (sTx s).length)) (jZ μ) 2 = nI (sTx s).length := by rw [jI_sI, if_pos ⟨rfl, rfl⟩]
  have TC : jT (jsI (jsP (jsI μB (jZ μ) 0 (nI u)) (jZ μ) 1 ((sV s u).map va)) (jZ μ) 2 (nI (sTx s).length)) = jT μB := rfl
  have ZC : jZ (jsI (jsP (jsI μB (jZ μ) 0 (nI u)) (jZ μ) 1 ((sV s u).map va)) (jZ μ) 2 (nI (sTx s).length)) = jZ μB := rfl
  rw [← TC] at TB t9 ⊢
  generalize jsI (jsP (jsI μB (jZ μ) 0 (nI u)) (jZ μ) 1 ((sV s u).map va)) (jZ μ) 2 (nI (sTx s).length) = μC at oC r0 r1 r2 TC ZC TB t9 ⊢
  have sC : cs B (jZ μ) [0] μ μC := ⟨by rw [ZC, ZB]; omega, fun a ha => by rw [TC]; exact sB.2.1 a ha, fun a ha => ((oC a (by omega)).2.2.2).trans (sB.2.2.1 a ha), fun a ha h => ⟨((oC a (by omega)).2.1).trans (sB.2.2.2 a ha h).1, ((oC a (by omega)).2.2.1).trans (sB.2.2.2 a ha h).2⟩⟩
  have hCC := sC.ct hC hB
  have NC : ∀ k, jI μC B k = if k = 13 then nI ((sTx s).length + 1) else jI μ B k := fun k => by
    rw [(oC B (by omega)).2.1, (oB B (by omega)).2.1]; exact NA k
  have e14 : jI (jsP μC (B + 70) (sR s).length (some (jZ μ))) B 14 = nI (sR s).length := by
    show jI μC B 14 = _
    rw [NC, if_neg (by decide)]; exact n2
  have hCD : CT B (jsI (jsP μC (B + 70) (sR s).length (some (jZ μ))) B 14 (nI ((sR s).length + 1))) := ⟨(ct_p (k := (sR s).length) (x := 70) (v := some (jZ μ)) hCC (by decide)).1, (ct_p (k := (sR s).length) (x := 70) (v := some (jZ μ)) hCC (by decide)).2.1, hCC.2.2⟩
  simp only [jck_true, jde_is, jlt_is, jcl_0, beq_self_eq_true, jT_sI, jT_sJ, jP_sI, jP_sJ, jJ_sI, jI_sJ, jZ_sI, jZ_sJ, cP0_9 hCA, cT0 hCC, cT70 hCC, TB, t9, i14, jin_nI hR (show 256 < 2 ^ 31 by decide), nI_clamp (show (sR s).length < 2 ^ 31 by omega), e14, nI_1, cP0_8 hCD, cT69 hCC, jin_nI hu (show 4 < 2 ^ 31 by decide), jkd]
  have e8 : jP (jsP μC (B + 70) (sR s).length (some (jZ μ))) B 8 = some (B + 69) := cP0_8 hCD
  simp only [jck_true, jde_is, jlt_is, jcl_0, beq_self_eq_true, jT_sI, jT_sJ, jP_sI, jP_sJ, jJ_sI, jI_sJ, jZ_sI, jZ_sJ, e8, cT69 hCC, jin_nI hu (show 4 < 2 ^ 31 by decide)]
  -- the memory at the end
  have sI : cs B (jZ μ) [0] μ (jsI μC B 14 (nI ((sR s).length + 1))) := sC.tr (cs.sI (i := 0) (by decide))
  have NI : ∀ k, jI (jsI μC B 14 (nI ((sR s).length + 1))) B k = if k = 14 then nI ((sR s).length + 1) else if k = 13 then nI ((sTx s).length + 1) else jI μ B k := fun k => by
    rw [jI_sI]
    by_cases c : k = 14
    · rw [if_pos ⟨rfl, c⟩, if_pos c]
    · rw [if_neg (fun t => c t.2), if_neg c]; exact NC k
  obtain ⟨μD, hD⟩ : ∃ μD, μD = jsI (jsP μC (B + 70) (sR s).length (some (jZ μ))) B 14 (nI ((sR s).length + 1)) := ⟨_, rfl⟩
  have DI : jI μD = jI (jsI μC B 14 (nI ((sR s).length + 1))) := by rw [hD]; rfl
  have DJ : jJ μD = jJ (jsI μC B 14 (nI ((sR s).length + 1))) := by rw [hD]; rfl
  have DT : jT μD = jT μC := by rw [hD]; rfl
  have DZ : jZ μD = jZ μ + 1 := by rw [hD]; show jZ μC = _; rw [ZC, ZB]
  have DP : ∀ x, jP μD x = jP (jsP μC (B + 70) (sR s).length (some (jZ μ))) x := fun x => by rw [hD]; rfl
  have oD : ∀ x, x ≠ B → x ≠ B + 70 → sameC μC μD x := fun x h1 h2 => ⟨by rw [DT], by rw [DI, jI_sI_ne h1], by rw [DJ]; rfl, by rw [DP, jP_sP_ne h2]⟩
  rw [← hD] at hCD ⊢
  generalize jsI μC B 14 (nI ((sR s).length + 1)) = μI at sI NI DI DJ
  have oX : ∀ x, B + 121 ≤ x → x < jZ μ → sameC μ μD x := fun x h1 h2 => ((o2 x h2 (by omega)).tr (oC x (by omega))).tr (oD x (by omega) (by omega))
  have TW : cTw B μD s va := hva.sa (by rw [DZ]; omega) oX (by rw [DP, jP_sP_ne (by omega)]; exact sC.iP (by omega)) (fun i hi => by rw [DP, jP_sP, if_neg (fun z => by have := z.2; omega), sC.iP (by omega)])
  have VD : cVr B (jZ μD) μD zv cls (sTx s).length := ⟨qv, (cl.kp oX).wk (Nat.le_refl _) (by rw [DZ]; omega), by rw [(oX zv cl.1.1 zvl).2.1]; exact ser⟩
  have TN := TW.new (u := u) (P := P) (A := A) VD
  have i2 : jI (jsP μD (B + 69) u (some zv)) zv 2 = nI cls.length := by
    show jI μD zv 2 = _
    rw [(oX zv cl.1.1 zvl).2.1]; exact cl.2.2.2.1
  rw [i2]
  have mp : (sV s u).map (fun t => if t = (sTx s).length then zv else va t) = (sV s u).map va := by
    cases ho : sV s u with
    | none => rfl
    | some t => have := (hva.2.1 u hu).2 t ho; simp only [Option.map_some]; rw [if_neg (by omega)]
  have TR : cTV B (jsP μD (B + 69) u (some zv)) (wR (wTx s P A cls u) (sR s ++ [(u, sV s u, (sTx s).length)])) := by
    refine TN.addR (r := jZ μ) ?_ ⟨hB, by show jZ μ < jZ μD; rw [DZ]; omega⟩ ?_ ?_ ?_ ?_ ?_
    · show jP (jsP μD (B + 69) u (some zv)) (B + 70) (sR s).length = some (jZ μ)
      rw [jP_sP_ne (by omega), DP, jP_sP, if_pos ⟨rfl, rfl⟩]
    · show (jT μD (jZ μ)).1 = 6
      rw [DT, TB]
    · show jI μD (jZ μ) 0 = _
      rw [(oD (jZ μ) (by omega) (by omega)).2.1]; exact r0
    · rw [jP_sP_ne (by omega), (oD (jZ μ) (by omega) (by omega)).2.2.2, r1, mp]
    · show jI μD (jZ μ) 2 = _
      rw [(oD (jZ μ) (by omega) (by omega)).2.1]; exact r2
    · intro t ht
      show t < (sTx s ++ [cls]).length
      have := (hva.2.1 u hu).2 t ht
      rw [List.length_append, List.length_singleton]; omega
  have kk : kM B μ (jsP μD (B + 69) u (some zv)) := ⟨by show jZ μ ≤ jZ μD; rw [DZ]; omega, fun i hi => ((o2 _ (by omega) (by omega)).tr (oC _ (by omega))).tr ((oD _ (by omega) (by omega)).tr (sameC.sP (by omega)))⟩
  refine .ret ⟨by omega, by omega, rfl, ⟨ct_p hCD (by decide), ?_, ?_, ?_, TR, ?_, ?_, ?_⟩, kk⟩
  · have c1 : cLang B μI := cW.ke g2 sI (by omega) (by decide) (by decide)
    have c9 := g3.ke sI (by omega) (by decide) (by decide)
    have c11 := w1.ke sI (by omega) (by decide) (by decide)
    have c13 := w2.ke sI (by omega) (by decide) (by decide)
    have c66 : jI μI (B + 66) 0 = 0 := by rw [sI.iI (by omega) (by decide)]; exact h66
    show cWd B μD _
    unfold cWd cLang cW at *
    rw [DI, DJ]
    exact ⟨c1, c9, c11, c13, c66⟩
  · have c := g4.kr sI.tocr hB (by decide) (by decide)
    show cTp B μD s
    unfold cTp cS at *
    rw [DI]; exact c
  · have c := g5.kr sI.tocr hB (by decide) (by decide)
    show cOu B μD s
    unfold cOu cS at *
    rw [DI]; exact c
  · show cNu B μD _
    unfold cNu
    rw [DI, NI, NI, NI, NI, if_neg (by decide), if_pos rfl, if_pos rfl, if_neg (by decide), if_neg (by decide), if_neg (by decide), if_neg (by decide)]
    refine ⟨?_, ?_, ?_, n4, n5⟩
    · show _ = nI (sTx s ++ [cls]).length
      rw [List.length_append, List.length_singleton]
    · show _ = nI (sR s ++ [(u, sV s u, (sTx s).length)]).length
      rw [List.length_append, List.length_singleton]
    · show (sR s ++ [(u, sV s u, (sTx s).length)]).length ≤ 256
      rw [List.length_append, List.length_singleton]; omega
  · have c := g8.kr sI.tocr hB (by decide)
    show cWo B μD s
    unfold cWo at *
    rw [DJ]; exact c
  · have c := g9.kr sI.tocr hB (by decide) (by decide)
    show cCa B μD s
    unfold cCa at *
    rw [DI, DJ]; exact c
