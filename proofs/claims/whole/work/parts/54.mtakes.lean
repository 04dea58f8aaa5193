/-! the reference: isOwn, isSign, puts, takes -/
def own (l : List Int32) : Bool := decide ((tcode l).toInt ≤ -3000)
theorem own_of {l : List Int32} {i : Nat} (hi : i < 18) (h : tcode l = -3000 - lN i) : own l = true := by
  have hit : (-3000 - lN i).toInt = -3000 - (i : Int) := sub_toI (-3000) (by decide) (by omega) (by omega) (by omega)
  unfold own; rw [h, hit]; simp; omega
theorem own_is {l : List Int32} (h : own l = true) : ∃ i, i < 18 ∧ tcode l = -3000 - lN i := by
  unfold own at h
  simp only [decide_eq_true_eq] at h
  rcases tcode_cases l with ⟨e1, e2⟩ | ⟨c, r, e1, e2, e3, i2, e4, e5, e6, e7⟩ | ⟨c, r, e1, e2, e3, e4, e5, e6, e7, e8⟩ | ⟨c, r, e1, e2, e3, e4, v, e5, e6, e7, e8⟩ | ⟨c, r, e1, e2, e3, v, e4, e5, e6, e7⟩ | ⟨c, r, e1, e2, e3⟩
  · rw [e2] at h; exact absurd h (by decide)
  · exact ⟨i2, e4, e6⟩
  · rw [e6] at h; omega
  · rw [e8] at h; omega
  · rw [e7] at h; omega
  · rw [e3] at h; exact absurd h (by decide)
set_option maxRecDepth 100000 in
theorem m_isOwn {M j : Nat} {μ : JM} {l : List Int32} (h : MT M μ) (ht : mTx M μ l) (hk : mLk M μ l j) : fX11_isOwn M μ = some (if own (l.drop j) then 1 else 0, μ, 0, 0) := by
  have w := m_isWord h ht hk
  have w0 : fX11_isWord M (139666885 : Int64) μ = some (if tcode (l.drop j) = -3000 - lN 0 then 1 else 0, μ, 0, 0) := w 0 (by decide)
  have w1 : fX11_isWord M (51 : Int64) μ = some (if tcode (l.drop j) = -3000 - lN 1 then 1 else 0, μ, 0, 0) := w 1 (by decide)
  have w2 : fX11_isWord M (153241 : Int64) μ = some (if tcode (l.drop j) = -3000 - lN 2 then 1 else 0, μ, 0, 0) := w 2 (by decide)
  have w3 : fX11_isWord M (19176724 : Int64) μ = some (if tcode (l.drop j) = -3000 - lN 3 then 1 else 0, μ, 0, 0) := w 3 (by decide)
  have w4 : fX11_isWord M (2094 : Int64) μ = some (if tcode (l.drop j) = -3000 - lN 4 then 1 else 0, μ, 0, 0) := w 4 (by decide)
  have w5 : fX11_isWord M (655 : Int64) μ = some (if tcode (l.drop j) = -3000 - lN 5 then 1 else 0, μ, 0, 0) := w 5 (by decide)
  have w6 : fX11_isWord M (89 : Int64) μ = some (if tcode (l.drop j) = -3000 - lN 6 then 1 else 0, μ, 0, 0) := w 6 (by decide)
  have w7 : fX11_isWord M (132915 : Int64) μ = some (if tcode (l.drop j) = -3000 - lN 7 then 1 else 0, μ, 0, 0) := w 7 (by decide)
  have w8 : fX11_isWord M (806995756851 : Int64) μ = some (if tcode (l.drop j) = -3000 - lN 8 then 1 else 0, μ, 0, 0) := w 8 (by decide)
  have w9 : fX11_isWord M (294 : Int64) μ = some (if tcode (l.drop j) = -3000 - lN 9 then 1 else 0, μ, 0, 0) := w 9 (by decide)
  have w10 : fX11_isWord M (719722099 : Int64) μ = some (if tcode (l.drop j) = -3000 - lN 10 then 1 else 0, μ, 0, 0) := w 10 (by decide)
  have w11 : fX11_isWord M (514226 : Int64) μ = some (if tcode (l.drop j) = -3000 - lN 11 then 1 else 0, μ, 0, 0) := w 11 (by decide)
  have w12 : fX11_isWord M (1476 : Int64) μ = some (if tcode (l.drop j) = -3000 - lN 12 then 1 else 0, μ, 0, 0) := w 12 (by decide)
  have w13 : fX11_isWord M (498 : Int64) μ = some (if tcode (l.drop j) = -3000 - lN 13 then 1 else 0, μ, 0, 0) := w 13 (by decide)
  have w14 : fX11_isWord M (14836 : Int64) μ = some (if tcode (l.drop j) = -3000 - lN 14 then 1 else 0, μ, 0, 0) := w 14 (by decide)
  have w15 : fX11_isWord M (659105125 : Int64) μ = some (if tcode (l.drop j) = -3000 - lN 15 then 1 else 0, μ, 0, 0) := w 15 (by decide)
  have w16 : fX11_isWord M (19512296549 : Int64) μ = some (if tcode (l.drop j) = -3000 - lN 16 then 1 else 0, μ, 0, 0) := w 16 (by decide)
  have w17 : fX11_isWord M (1156 : Int64) μ = some (if tcode (l.drop j) = -3000 - lN 17 then 1 else 0, μ, 0, 0) := w 17 (by decide)
  rw [fX11_isOwn]
  simp only [jck_true, beq_self_eq_true, h.1, jcl_0, w0, w1, w2, w3, w4, w5, w6, w7, w8, w9, w10, w11, w12, w13, w14, w15, w16, w17]
  by_cases p0 : tcode (l.drop j) = -3000 - lN 0
  · rw [if_pos p0, if_neg (by decide), if_pos (own_of (by decide) p0)]
  rw [if_neg p0, if_pos rfl]
  by_cases p1 : tcode (l.drop j) = -3000 - lN 1
  · rw [if_pos p1, if_neg (by decide), if_pos (own_of (by decide) p1)]
  rw [if_neg p1, if_pos rfl]
  by_cases p2 : tcode (l.drop j) = -3000 - lN 2
  · rw [if_pos p2, if_neg (by decide), if_pos (own_of (by decide) p2)]
  rw [if_neg p2, if_pos rfl]
  by_cases p3 : tcode (l.drop j) = -3000 - lN 3
  · rw [if_pos p3, if_neg (by decide), if_pos (own_of (by decide) p3)]
  rw [if_neg p3, if_pos rfl]
  by_cases p4 : tcode (l.drop j) = -3000 - lN 4
  · rw [if_pos p4, if_neg (by decide), if_pos (own_of (by decide) p4)]
  rw [if_neg p4, if_pos rfl]
  by_cases p5 : tcode (l.drop j) = -3000 - lN 5
  · rw [if_pos p5, if_neg (by decide), if_pos (own_of (by decide) p5)]
  rw [if_neg p5, if_pos rfl]
  by_cases p6 : tcode (l.drop j) = -3000 - lN 6
  · rw [if_pos p6, if_neg (by decide), if_pos (own_of (by decide) p6)]
  rw [if_neg p6, if_pos rfl]
  by_cases p7 : tcode (l.drop j) = -3000 - lN 7
  · rw [if_pos p7, if_neg (by decide), if_pos (own_of (by decide) p7)]
  rw [if_neg p7, if_pos rfl]
  by_cases p8 : tcode (l.drop j) = -3000 - lN 8
  · rw [if_pos p8, if_neg (by decide), if_pos (own_of (by decide) p8)]
  rw [if_neg p8, if_pos rfl]
  by_cases p9 : tcode (l.drop j) = -3000 - lN 9
  · rw [if_pos p9, if_neg (by decide), if_pos (own_of (by decide) p9)]
  rw [if_neg p9, if_pos rfl]
  by_cases p10 : tcode (l.drop j) = -3000 - lN 10
  · rw [if_pos p10, if_neg (by decide), if_pos (own_of (by decide) p10)]
  rw [if_neg p10, if_pos rfl]
  by_cases p11 : tcode (l.drop j) = -3000 - lN 11
  · rw [if_pos p11, if_neg (by decide), if_pos (own_of (by decide) p11)]
  rw [if_neg p11, if_pos rfl]
  by_cases p12 : tcode (l.drop j) = -3000 - lN 12
  · rw [if_pos p12, if_neg (by decide), if_pos (own_of (by decide) p12)]
  rw [if_neg p12, if_pos rfl]
  by_cases p13 : tcode (l.drop j) = -3000 - lN 13
  · rw [if_pos p13, if_neg (by decide), if_pos (own_of (by decide) p13)]
  rw [if_neg p13, if_pos rfl]
  by_cases p14 : tcode (l.drop j) = -3000 - lN 14
  · rw [if_pos p14, if_neg (by decide), if_pos (own_of (by decide) p14)]
  rw [if_neg p14, if_pos rfl]
  by_cases p15 : tcode (l.drop j) = -3000 - lN 15
  · rw [if_pos p15, if_neg (by decide), if_pos (own_of (by decide) p15)]
  rw [if_neg p15, if_pos rfl]
  by_cases p16 : tcode (l.drop j) = -3000 - lN 16
  · rw [if_pos p16, if_neg (by decide), if_pos (own_of (by decide) p16)]
  rw [if_neg p16, if_pos rfl]
  by_cases p17 : tcode (l.drop j) = -3000 - lN 17
  · rw [if_pos p17, if_neg (by decide), if_pos (own_of (by decide) p17)]
  rw [if_neg p17, if_pos rfl]
  rw [if_neg]
  intro q
  obtain ⟨i, hi, e⟩ := own_is q
  have hc : i = 0 ∨ i = 1 ∨ i = 2 ∨ i = 3 ∨ i = 4 ∨ i = 5 ∨ i = 6 ∨ i = 7 ∨ i = 8 ∨ i = 9 ∨ i = 10 ∨ i = 11 ∨ i = 12 ∨ i = 13 ∨ i = 14 ∨ i = 15 ∨ i = 16 ∨ i = 17 := by omega
  rcases hc with rfl | rfl | rfl | rfl | rfl | rfl | rfl | rfl | rfl | rfl | rfl | rfl | rfl | rfl | rfl | rfl | rfl | rfl <;> contradiction
theorem m_isSign {M j : Nat} {μ : JM} {l : List Int32} (h : MT M μ) (hk : mLk M μ l j) (c : Int32) : fX11_isSign M c μ = some (if tokc (l.drop j) = 3 ∧ tokv (l.drop j) = c then 1 else 0, μ, 0, 0) := by
  obtain ⟨k1, k2, k3, k4, k5, k6, k7⟩ := id hk
  rw [fX11_isSign]
  simp only [jck_true, beq_self_eq_true, h.1, k6, k7]
  by_cases q1 : tokc (l.drop j) = 3
  · rw [if_pos q1]
    by_cases q2 : tokv (l.drop j) = c
    · rw [if_pos q2, if_pos ⟨q1, q2⟩]
    · rw [if_neg q2, if_neg (fun z => q2 z.2)]
  · rw [if_neg q1, if_neg (fun z => q1 z.1)]
/-- the canonical text that is written -/
def mCn (M : Nat) (μ : JM) (cb : List Int32) : Prop := jI μ M 20 = nI cb.length ∧ Sg (jI μ (M + 9)) 0 cb ∧ cb.length ≤ 4000
def wCn (M : Nat) (a k : Nat) : Prop := (a = M ∧ k = 20) ∨ a = M + 9
theorem nb_small {m : Nat} (h : m < 128) : nb (nI m) = nI m := fa_byte_small h
theorem m_puts {M : Nat} {μ : JM} {cb : List Int32} (x : Int32) (h : MT M μ) (hc : mCn M μ cb) (hl : cb.length < 4000) : ∃ ν, fX11_puts M x μ = some ((), ν, 0, 0) ∧ smI (wCn M) μ ν ∧ mCn M ν (cb ++ [nb x]) := by
  obtain ⟨h1, h2, h3⟩ := hc
  refine ⟨jsI (jsI μ (M + 9) cb.length (nb x)) M 20 (nI (cb.length + 1)), ?_, (smI.set (Or.inr rfl)).tr (smI.set (Or.inl ⟨rfl, rfl⟩)), ?_, ?_, ?_⟩
  · rw [fX11_puts]
    simp only [jck_true, jde_is, jlt_is, jcl_0, beq_self_eq_true, jT_sI, jT_sJ, jP_sI, jP_sJ, jJ_sI, jI_sJ, jZ_sI, jZ_sJ, h.1, mP_canon h, mT_canon h, h1, jin_nI hl (by decide), nI_clamp (show cb.length < 2 ^ 31 by omega), vp_byte, nb_b8]
    have e : jI (jsI μ (M + 9) cb.length (nb x)) M 20 = nI cb.length := by rw [jI_sI, if_neg (by omega), h1]
    rw [e, nI_1]
  · rw [jI_sI, if_pos ⟨rfl, rfl⟩]; simp
  · have := h2.snoc (v := nb x)
    refine this.eq fun i _ => ?_
    rw [jI_sI, if_neg (by omega), jI_at]; simp
  · simp; omega
