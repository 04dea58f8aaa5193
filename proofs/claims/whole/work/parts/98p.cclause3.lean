/-! the class: readSince, readClause -/
def Rq {α : Type} (x : JO α) (Q : α → JM → Nat → Nat → Prop) : Prop := ∃ r ν c m, x = some (r, ν, c, m) ∧ Q r ν c m
theorem Rq.ret {α : Type} {r : α} {μ : JM} {Q : α → JM → Nat → Nat → Prop} (h : Q r μ 0 0) : Rq (some (r, μ, 0, 0)) Q := ⟨r, μ, 0, 0, rfl, h⟩
theorem Rq.mono {α : Type} {x : JO α} {P Q : α → JM → Nat → Nat → Prop} (h : Rq x P) (g : ∀ r ν c m, P r ν c m → Q r ν c m) : Rq x Q := by
  obtain ⟨r, ν, c, m, e, hp⟩ := h
  exact ⟨r, ν, c, m, e, g r ν c m hp⟩
theorem Rq.ck {α : Type} {c : Bool} {x : JO α} {Q : α → JM → Nat → Nat → Prop} (h : c = true) (g : Rq x Q) : Rq (jck c x) Q := by rw [h]; exact g
theorem Rq.cl {α β : Type} {x : JO α} {P : α → JM → Nat → Nat → Prop} {f : α → JM → JO β} {Q : β → JM → Nat → Nat → Prop} (h : Rq x P) (g : ∀ r ν c m, P r ν c m → Rq (f r ν) (fun r2 ν2 c2 m2 => Q r2 ν2 (c + c2) (m + m2))) : Rq (jcl x f) Q := by
  obtain ⟨r, ν, c, m, e, hp⟩ := h
  obtain ⟨r2, ν2, c2, m2, e2, hq⟩ := g r ν c m hp
  exact ⟨r2, ν2, c + c2, m + m2, by rw [e]; simp only [jcl, e2], hq⟩
theorem Rq.cl0 {α β : Type} {x : JO α} {P : α → JM → Prop} {f : α → JM → JO β} {Q : β → JM → Nat → Nat → Prop} (h : Res x P) (g : ∀ r ν, P r ν → Rq (f r ν) Q) : Rq (jcl x f) Q := by
  obtain ⟨r, ν, e, hp⟩ := h
  rw [e, jcl_0]; exact g r ν hp
theorem Rq.nw {β : Type} {μ : JM} {t n : Nat} {f : Nat → JM → JO β} {Q : β → JM → Nat → Nat → Prop} (h : Rq (f (jZ μ) (jnew μ t n)) (fun r ν c m => Q r ν (1 + c) (n + m))) : Rq (jnw μ t n f) Q := by
  obtain ⟨r, ν, c, m, e, q⟩ := h
  exact ⟨r, ν, 1 + c, n + m, by unfold jnw; simp only [jcl, e], q⟩
theorem Rq.nwo {β : Type} {μ : JM} {t n : Nat} {f : Nat → JM → JO β} {Q : β → JM → Nat → Nat → Prop} (h : Rq (f (jZ μ) (jnew μ t 0)) (fun r ν c m => Q r ν (1 + c) (n + m))) : Rq (jnwo μ t n f) Q := by
  obtain ⟨r, ν, c, m, e, q⟩ := h
  exact ⟨r, ν, 1 + c, n + m, by unfold jnwo; simp only [jcl, e], q⟩
theorem Rb.rq {α : Type} {x : JO α} {C N : Nat} {Q : α → JM → Prop} (h : Rb x C N Q) : Rq x (fun r ν c m => c ≤ C ∧ m ≤ N ∧ Q r ν) := h
theorem sl_len (C : Nat → Int64) (s k : Nat) : (sl C s k).length = k - s := by simp [sl]
theorem sl_get (C : Nat → Int64) {s k j : Nat} (h : j < k - s) : (sl C s k).getD j 0 = C (s + j) := by
  unfold sl
  simp [List.getD, List.getElem?_range', h]
/-- places are no nearer than tokens, and further behind a word of the language -/
theorem ours_two : ∀ x ∈ oursN, 32 ≤ x := by decide
theorem hd_two {l : List Int32} (h : tcode l ≤ -3000) : 2 ≤ hdLen l := by
  have h1 := (fa_le64 _ _).mp h
  have e1 : (-3000 : Int64).toInt = -3000 := by decide
  rw [e1] at h1
  rcases tcode_cases l with ⟨e, e2⟩ | ⟨c, r, e1, e2, e3, i, e4, e5, e6, e7⟩ | ⟨c, r, e1, e2, e3, e4, e5, e6, e7, e8⟩ | ⟨c, r, e1, e2, e3, e4, v, e5, e6, e7, e8⟩ | ⟨c, r, e1, e2, e3, v, e4, e5, e6, e7⟩ | ⟨c, r, e1, e2, e3⟩
  · rw [e2] at h1; exact absurd h1 (by decide)
  · rw [e1, hdLen_w e2, ← e1]
    by_cases q : 2 ≤ (hw l).length
    · exact q
    · exfalso
      have hm : oursN.getD i 0 ∈ oursN := by
        rw [List.getD_eq_getElem?_getD, List.getElem?_eq_getElem (show i < oursN.length from e4)]; exact List.getElem_mem _
      have h32 := ours_two _ hm
      rw [e5] at h32
      have hl : (hw l).length = 1 := by
        have : 1 ≤ (hw l).length := by rw [e1, hw_cons e2]; simp
        omega
      have := foldl_lt (hw_all (l := l)) 0 1 (by omega)
      rw [hl] at this
      unfold wnat at h32
      omega
  · rw [e6] at h1; omega
  · rw [e8] at h1; omega
  · rw [e7] at h1; omega
  · rw [e3] at h1; exact absurd h1 (by decide)
theorem pl_ge {l : List Int32} {n : Nat} (ht : ∀ k, k < n → pl l k < l.length) : ∀ k, k ≤ n → k ≤ pl l k
  | 0, _ => by omega
  | k + 1, h => by
    have h1 := pl_ge ht k (by omega)
    have h2 := pl_step (l := l) (k := k)
    have h3 := ht k (by omega)
    have hd : l.drop (pl l k) = l.getD (pl l k) 0 :: l.drop (pl l k + 1) := drop_getD h3
    have h4 : 1 ≤ hdLen (l.drop (pl l k)) := by rw [hd]; exact hdLen_pos _ _
    omega
theorem pl_gt {l : List Int32} {n j : Nat} (ht : ∀ k, k < n → pl l k < l.length) (hc : Cd l j ≤ -3000) (hj : j < n) : ∀ d, j + 1 + d ≤ n → j + 1 + d < pl l (j + 1 + d)
  | 0, h => by
    have h1 := pl_ge ht j (by omega)
    have h2 := pl_step (l := l) (k := j)
    have h3 := hd_two hc
    show j + 1 < pl l (j + 1)
    omega
  | d + 1, h => by
    have h1 := pl_gt ht hc hj d (by omega)
    have h2 := pl_step (l := l) (k := j + 1 + d)
    have h3 := ht (j + 1 + d) (by omega)
    have hd : l.drop (pl l (j + 1 + d)) = l.getD (pl l (j + 1 + d)) 0 :: l.drop (pl l (j + 1 + d) + 1) := drop_getD h3
    have h4 : 1 ≤ hdLen (l.drop (pl l (j + 1 + d))) := by rw [hd]; exact hdLen_pos _ _
    show j + 1 + (d + 1) < pl l (j + 1 + d + 1)
    omega
theorem cAt.lt9 {B n k j : Nat} {μ : JM} {l : List Int32} (h : cAt B μ l n k) (hc : Cd l j ≤ -3000) (hj : j + 1 ≤ k) : k < 900 := by
  obtain ⟨⟨a1, a2, a3, a4, a5, a6, a7⟩, -, -, hk⟩ := h
  have := pl_gt (fun m hm => (a4 m hm).1) hc (by omega) (k - (j + 1)) (by omega)
  rw [show j + 1 + (k - (j + 1)) = k by omega] at this
  have := pl_le l k
  omega
theorem c_since {B n k s : Nat} {μ : JM} {l : List Int32} (hC : CT B μ) (h : cAt B μ l n k) (hs : s ≤ k) (h9 : k < 900) : ∃ ν, fX7_readSince (B + 15) (nI s) μ = some (some (jZ μ), ν, 1, k - s) ∧ jZ ν = jZ μ + 1 ∧ (∀ x, x < jZ μ → sameC μ ν x) ∧ jT ν (jZ μ) = (102, k - s) ∧ ∀ j, j < k - s → jJ ν (jZ μ) j = Cd l (s + j) := by
  obtain ⟨⟨a1, a2, a3, a4, a5, a6, a7⟩, h4, h5, hk⟩ := h
  have hB : B + 121 ≤ jZ μ := hC.2.2
  have e1 : nI k - nI s = nI (k - s) := pk_sub hs
  have em : jmin (nI s) (nI k) = nI s := by unfold jmin; rw [if_neg (nI_nlt hs (by omega))]
  have e9 : (900 : Int32) = nI 900 := rfl
  have b10 : ∃ ν, fJ7_copyOfRange_23910_b10 (some (B + 16)) (nI s) (nI k) μ = some (some (jZ μ), ν, 1, k - s) ∧ jZ ν = jZ μ + 1 ∧ (∀ x, x < jZ μ → sameC μ ν x) ∧ jT ν (jZ μ) = (102, k - s) ∧ ∀ j, j < k - s → jJ ν (jZ μ) j = Cd l (s + j) := by
    have t16 : jT (jnew μ 102 (k - s)) (B + 16) = (102, 900) := by rw [jT_nw, if_neg (by omega)]; exact cT16 hC
    have tZ : jT (jnew μ 102 (k - s)) (jZ μ) = (102, k - s) := by rw [jT_nw, if_pos rfl]
    have e2 : jmin (nI 900 - nI s) (nI (k - s)) = nI (k - s) := by
      rw [pk_sub (by omega)]; unfold jmin; rw [if_pos (nI_lt (by omega) (by omega))]
    refine ⟨jcp (jnew μ 102 (k - s)) (jZ μ) (B + 16) s 0 (k - s), ?_, rfl, fun x hx => ⟨?_, ?_, ?_, ?_⟩, tZ, fun j hj => ?_⟩
    · unfold fJ7_copyOfRange_23910_b10 fJ7_copyOfRangeLong_23910 fJ7_checkLength_df160
      rw [if_pos (nI_le hs (by omega))]
      have c1 : (0 : Int32).toNatClampNeg = 0 := by decide
      simp only [jcl_0, e1, jnw]
      rw [jck_of (decide_eq_true (nI_pos (by omega))), jck_of (decide_eq_true (by rw [nI_clamp (by omega)]; omega)), nI_clamp (show k - s < 2 ^ 31 by omega)]
      simp only [jcl, jde_is, t16, tZ, beq_self_eq_true, jck_true, e2, nI_clamp (show k - s < 2 ^ 31 by omega), nI_clamp (show s < 2 ^ 31 by omega), c1, jlt_is]
      rw [jck_of (decide_eq_true (nI_pos (by omega))), jck_of (by decide), jck_of (decide_eq_true (nI_pos (by omega))), jck_of (decide_eq_true (by omega)), jck_of (decide_eq_true (by omega))]
      rfl
    · show jT (jnew μ 102 (k - s)) x = _
      rw [jT_nw, if_neg (by omega)]
    · show jI (jnew μ 102 (k - s)) x = _
      rw [jI_nw, if_neg (by omega)]
    · show va_up (jJ (jnew μ 102 (k - s))) (jZ μ) _ x = _
      unfold va_up
      rw [if_neg (by omega), jJ_nw, if_neg (by omega)]
    · show jP (jnew μ 102 (k - s)) x = _
      rw [jP_nw, if_neg (by omega)]
    · show va_up (jJ (jnew μ 102 (k - s))) (jZ μ) (va_cpy (jJ (jnew μ 102 (k - s)) (B + 16)) (jJ (jnew μ 102 (k - s)) (jZ μ)) s 0 (k - s)) (jZ μ) j = _
      unfold va_up va_cpy
      rw [if_pos rfl, if_pos ⟨by omega, by omega⟩, jJ_nw, if_neg (by omega), (a4 (s + (j - 0)) (by omega)).2]
      congr 1
  unfold fX7_readSince
  rw [jck_of (by rw [cT15 hC]; rfl), cP15_1 hC, h4, em]
  have e0 : fJ7_copyOfRange_23910 (some (B + 16)) (nI s) (nI k) μ = fJ7_copyOfRange_23910_b10 (some (B + 16)) (nI s) (nI k) μ := by
    unfold fJ7_copyOfRange_23910
    by_cases q : nI s = 0
    · rw [if_pos q]
      simp only [jde_is, cT16 hC, beq_self_eq_true, jck_true]
      rw [if_neg (fun e => by have := (nI_eq (by omega) (by omega)).mp e; omega)]
    · rw [if_neg q]
  rw [e0]
  obtain ⟨ν, e, hh⟩ := b10
  exact ⟨ν, by rw [e]; rfl, hh⟩
