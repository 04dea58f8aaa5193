/-! the class: a VERSION is read -/
theorem c_readV {B n : Nat} {μ : JM} {l : List Int32} {F P A : List Int64} (x1 : Int32) (hC : CT B μ) (hF : cW B 9 8 μ F) (hP : cW B 11 6 μ P) (hA : cW B 13 12 μ A) (h66 : jI μ (B + 66) 0 = 0) (h : cAt B μ l n 0) : Rq (fX4_readVersion (B + 18) x1 μ) (fun r ν c m => c ≤ 102 ∧ m ≤ 1300 ∧ cr B (jZ μ) RDM μ ν ∧ jI ν (B + 66) 0 = 0 ∧ ((∃ e, sRead (Cd l) F P A = .error e ∧ r = none ∧ cF B ν l e ∧ cW B 11 6 ν P ∧ cW B 13 12 ν A) ∨ (∃ y, sRead (Cd l) F P A = .ok y ∧ r = some (jZ μ) ∧ cW B 11 6 ν y.2.1 ∧ cW B 13 12 ν y.2.2.1 ∧ dL (jZ μ) x1 ν (stlC y.1) ∧ jZ μ + 2 + 4 * y.1.length ≤ jZ ν))) := by
  have hB := hC.2.2
  have hn := h.1.2.1
  unfold fX4_readVersion
  simp only [jck_true, jde_is, jlt_is, jcl_0, beq_self_eq_true, jT_sI, jT_sJ, jP_sI, jP_sJ, jJ_sI, jI_sJ, jZ_sI, jZ_sJ, cT18 hC, cP18_2 hC, cT11 hC, cP18_3 hC, cT13 hC, hP.1, hA.1]
  refine Rq.nwo ?_
  unfold fX8_init
  have e24 : jmax 24 0 = 24 := by decide
  rw [e24, jck_of (by decide), jck_of (by decide), show ((24 : Int32)).toNatClampNeg = 24 from by decide]
  obtain ⟨z, hz⟩ : ∃ z, z = jZ μ := ⟨_, rfl⟩
  rw [← hz] at hB ⊢
  unfold jnw
  have T0 : jT (jnew (jnew μ 9 0) 105 24) z = (9, 0) := by rw [jT_nw, if_neg (by rw [jZ_nw]; omega), jT_nw, if_pos hz]
  simp only [jcl, jlt_is]
  rw [jck_of (by rw [T0]; rfl)]
  dsimp only
  have Z1 : jZ (jnew μ 9 0) = z + 1 := by rw [jZ_nw, hz]
  rw [Z1]
  have lo : ∀ x, x < z → sameC μ (jsI (jsP (jnew (jnew μ 9 0) 105 24) z 0 (some (z + 1))) z 1 x1) x := fun x hx => by
    refine ⟨?_, ?_, ?_, ?_⟩
    · rw [jT_sI, jT_sP, jT_nw, if_neg (by rw [jZ_nw]; omega), jT_nw, if_neg (by omega)]
    · rw [jI_sI_ne (by omega), jI_sP, jI_nw, if_neg (by rw [jZ_nw]; omega), jI_nw, if_neg (by omega)]
    · rw [jJ_sI, jJ_sP, jJ_nw, if_neg (by rw [jZ_nw]; omega), jJ_nw, if_neg (by omega)]
    · rw [jP_sI, jP_sP_ne (by omega), jP_nw, if_neg (by rw [jZ_nw]; omega), jP_nw, if_neg (by omega)]
  have Z2 : jZ (jsI (jsP (jnew (jnew μ 9 0) 105 24) z 0 (some (z + 1))) z 1 x1) = z + 2 := by show jZ (jnew (jnew μ 9 0) 105 24) = _; rw [jZ_nw, Z1]
  have D : dL z x1 (jsI (jsP (jnew (jnew μ 9 0) 105 24) z 0 (some (z + 1))) z 1 x1) [] := by
    refine ⟨by rw [jT_sI, jT_sP, T0], by rw [jI_sI, if_pos ⟨rfl, rfl⟩], ?_, by rw [jP_sI, jP_sP, if_pos ⟨rfl, rfl⟩], ?_, by decide, fun i hi => absurd hi (by simp)⟩
    · rw [jI_sI, if_neg (by omega), jI_sP, jI_nw, if_neg (by rw [jZ_nw]; omega), jI_nw, if_pos hz]; rfl
    · rw [jT_sI, jT_sP, jT_nw, if_pos (by rw [Z1])]
  generalize jsI (jsP (jnew (jnew μ 9 0) 105 24) z 0 (some (z + 1))) z 1 x1 = μ1 at lo Z2 D ⊢
  have s1 : cs B z RDM μ μ1 := same_cs lo hz (by omega)
  have hC1 := s1.ct hC (by omega)
  have wl1 : ∀ (i mx : Nat) (Q : List Int64), i < 100 → cW B i mx μ Q → cW B i mx μ1 Q := fun i mx Q h1 w => ⟨by rw [(lo (B + i) (by omega)).2.1]; exact w.1, w.2.1, by rw [(lo (B + (i + 1)) (by omega)).2.2.1]; exact w.2.2⟩
  obtain ⟨r, ν, c, m, e, v1, v2, v3, v4, v5⟩ := c_ver_l (z := z) (l := l) (F := F) (ser := x1) (P0 := P) (A0 := A) (by omega) jfuel 0 26 0 [] P A μ1 hC1 (wl1 9 8 F (by decide) hF) (wl1 11 6 P (by decide) hP) (wl1 13 12 A (by decide) hA) (by rw [(lo (B + 66) (by omega)).2.1]; exact h66) (h.sm2 lo (by omega)) D (by rw [Z2]; rfl) rfl (by omega) (fun j hj => absurd hj (by simp)) (List.prefix_refl _) (List.prefix_refl _) (jfuel_gt (by omega)) (by omega)
  have e : fX4_readVersion_b34 jfuel (B + 18) (nI P.length) (nI A.length) (some z) 1 0 μ1 = some (r, ν, c, m) := e
  rw [e]
  refine ⟨r, ν, _, _, rfl, by omega, by omega, s1.tocr.tr v3, v4, ?_⟩
  have es : sRead (Cd l) F P A = ov (Cd l) 0 (sVer (Cd l) F 26 [] P A 0) := rfl
  rw [es]; exact v5
/-! letters of a word -/
theorem shr32 {n i : Nat} (hn : n < 2 ^ 60) (hi : i < 12) : jlshr (lN n) (nI i * 5) = lN (n / 32 ^ i) := by
  unfold jlshr
  have e : nI i * 5 = nI (5 * i) := by rw [Int32.mul_comm]; exact pk_mul 5 i
  rw [e, wb_c (5 * i) (by omega), pf_shr (d := 5 * i) ?_ (by omega), Nat.pow_mul]
  show ((BitVec.ofNat 64 (5 * i)).smod 64).toNat = 5 * i
  rw [wb_sm (5 * i) (by omega), BitVec.toNat_ofNat, Nat.mod_eq_of_lt (by omega)]
theorem wlf_0 (f : Nat) : wlf f 0 = [] := by cases f <;> simp [wlf]
theorem lc_l {n : Nat} {μ : JM} (hn : n < 2 ^ 60) : ∀ (fu i x : Nat), i ≤ 12 → 12 - i < fu → fX9_letterCount_b4 fu (lN n) (nI x) (nI i) μ = some (nI (x + (wlf (12 - i) (n / 32 ^ i)).length), μ, 0, 0) := by
  intro fu
  induction fu with
  | zero => intro i x _ q; omega
  | succ fu ih =>
    intro i x hi hf
    rw [fX9_letterCount_b4]
    by_cases q : i = 12
    · subst q
      rw [if_pos (by decide)]; rfl
    · rw [if_neg (show ¬ (12 : Int32) ≤ nI i from nI_ge (b := 12) (by omega) (by decide)), shr32 hn (by omega)]
      simp only [lg_cmp_0]
      have hq : n / 32 ^ (i + 1) = n / 32 ^ i / 32 := by rw [Nat.pow_succ, Nat.div_div_eq_div_mul]
      have hlt : n / 32 ^ i < 2 ^ 60 := Nat.lt_of_le_of_lt (Nat.div_le_self _ _) hn
      obtain ⟨f, hf2⟩ : ∃ f, 12 - i = f + 1 := ⟨11 - i, by omega⟩
      rw [hf2, wlf]
      by_cases c : n / 32 ^ i = 0
      · rw [if_pos (by rw [c]; rfl), if_pos c, fX9_letterCount_b23, nI_1, ih (i + 1) x (by omega) (by omega), hq, c, Nat.zero_div, wlf_0]
      · rw [if_neg (show ¬ lN (n / 32 ^ i) = 0 from fun e => c ((fb_lN_inj (b := 0) (by omega) (by decide)).mp e)), if_neg c, fX9_letterCount_b23, nI_1, nI_1, ih (i + 1) (x + 1) (by omega) (by omega), hq, show 12 - (i + 1) = f by omega]
        simp only [List.length_append, List.length_singleton]
        congr 3; omega
theorem c_letterCount {n : Nat} {μ : JM} (hn : n < 2 ^ 60) : fX9_letterCount (lN n) μ = some (nI (wl n).length, μ, 0, 0) := by
  unfold fX9_letterCount
  have := lc_l (μ := μ) hn jfuel 0 0 (by omega) (jfuel_gt (by omega))
  rw [Nat.pow_zero, Nat.div_one, Nat.zero_add] at this
  exact this
theorem wlf_len : ∀ (f n : Nat), (wlf f n).length ≤ f
  | 0, n => by simp [wlf]
  | f + 1, n => by
    rw [wlf]
    have := wlf_len f (n / 32)
    split
    · simp
    · simp; omega
theorem wlf_get : ∀ (f n i : Nat), i < (wlf f n).length → (wlf f n).getD i 0 = nI (96 + n / 32 ^ ((wlf f n).length - 1 - i) % 32)
  | 0, n, i, h => by simp [wlf] at h
  | f + 1, n, i, h => by
    rw [wlf] at h ⊢
    by_cases c : n = 0
    · rw [if_pos c] at h; simp at h
    · rw [if_neg c] at h ⊢
      simp only [List.length_append, List.length_singleton] at h ⊢
      by_cases e : i = (wlf f (n / 32)).length
      · rw [e, show (wlf f (n / 32)).length + 1 - 1 - (wlf f (n / 32)).length = 0 by omega, Nat.pow_zero, Nat.div_one]
        simp [List.getD]
      · have hi : i < (wlf f (n / 32)).length := by omega
        have := wlf_get f (n / 32) i hi
        rw [show (wlf f (n / 32)).length + 1 - 1 - i = ((wlf f (n / 32)).length - 1 - i) + 1 by omega, Nat.pow_succ, Nat.mul_comm, ← Nat.div_div_eq_div_mul, ← this]
        simp [List.getD, List.getElem?_append_left hi]
theorem c_letterAt {n i : Nat} {μ : JM} (hn : n < 2 ^ 60) (hi : i < (wl n).length) : fX9_letterAt (lN n) (nI i) μ = some ((wl n).getD i 0, μ, 0, 0) := by
  have hl := wlf_len 12 n
  have hl : (wl n).length ≤ 12 := hl
  unfold fX9_letterAt
  rw [c_letterCount hn, jcl_0, if_neg (nI_pos (by omega)), if_pos (nI_lt hi (by omega))]
  have e1 : nI (wl n).length - 1 - nI i = nI ((wl n).length - 1 - i) := by
    rw [show (1 : Int32) = nI 1 from rfl, pk_sub (by omega), pk_sub (by omega)]
  have e2 := wlf_get 12 n i hi
  have e2 : (wl n).getD i 0 = nI (96 + n / 32 ^ ((wl n).length - 1 - i) % 32) := e2
  rw [e1, shr32 hn (by omega), e2]
  generalize n / 32 ^ ((wl n).length - 1 - i) = q
  have e3 : lN q &&& 31 = lN (q % 32) := by
    rw [wb_mod q]
    have := wb_mask (n := q % 2 ^ 64) (k := 5) (Nat.mod_lt _ (by decide)) (by decide)
    rw [show (31 : Int64) = lN (2 ^ 5 - 1) from rfl, this]
    congr 1; omega
  have e4 : (lN (q % 32)).toInt32 = nI (q % 32) := by
    have : ∀ v, v < 32 → (lN v).toInt32 = nI v := by decide +kernel
    exact this _ (Nat.mod_lt _ (by decide))
  rw [e3, e4, show (96 : Int32) = nI 96 from rfl, nI_add]
theorem c_letterAt2 {n : Nat} {x : Int32} {μ : JM} (hn : n < 2 ^ 60) : fX9_letterAt (lN n) x μ = some (match inR x (wl n).length with | none => -1 | some i => (wl n).getD i 0, μ, 0, 0) := by
  have hl : (wl n).length ≤ 12 := wlf_len 12 n
  cases hx : inR x (wl n).length with
  | some k =>
    obtain ⟨rfl, hk⟩ := inR_some hx
    exact c_letterAt hn hk
  | none =>
    unfold fX9_letterAt
    rw [c_letterCount hn, jcl_0]
    by_cases q : x < 0
    · rw [if_pos q]
    · rw [if_neg q]
      obtain ⟨j, hj, rfl⟩ := nI_of q
      have : ¬ j < (wl n).length := by
        intro t
        unfold inR at hx
        rw [if_pos ⟨nI_pos' hj, by rw [nI_clamp hj]; exact t⟩] at hx
        cases hx
      rw [if_neg (nI_nlt (by omega) hj)]
