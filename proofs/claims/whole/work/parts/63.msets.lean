/-! the reference: opens, joins, ors -/
theorem ix4 (d k : Nat) : (4 : Int32) * nI d + nI k = nI (4 * d + k) := by rw [show (4 : Int32) = nI 4 from rfl, pk_mul, nI_add]
/-- row d of the stack of sets -/
def mRow (M : Nat) (μ : JM) (d : Nat) (n : Nat) (o a : CS) : Prop := jI μ (M + 15) d = nI n ∧ ∀ i, i < 4 → jJ μ (M + 13) (4 * d + i) = o i ∧ jJ μ (M + 14) (4 * d + i) = a i
def rowsBut (M : Nat) (μ ν : JM) (d : Nat) : Prop := ∀ e n o a, e ≠ d → mRow M μ e n o a → mRow M ν e n o a
theorem opens_l {M d : Nat} (hd : d < 12) : ∀ (fu i : Nat) (μ : JM), MT M μ → i ≤ 4 → 4 - i < fu → (∀ e, e < i → jJ μ (M + 13) (4 * d + e) = 0 ∧ jJ μ (M + 14) (4 * d + e) = jJ μ (M + 10) e) →
    ∃ ν, fX11_opens_b2 fu M (nI d) (nI i) μ = some ((), ν, 0, 0) ∧ sm M [] [13, 14, 15] μ ν ∧ mRow M ν d 0 (fun _ => 0) (jJ μ (M + 10)) ∧ rowsBut M μ ν d := by
  intro fu
  induction fu with
  | zero => intro i μ _ _ h; omega
  | succ fu ih =>
    intro i μ h hi hf hp
    rw [fX11_opens_b2]
    by_cases q : i = 4
    · subst q
      rw [if_pos (by decide)]
      simp only [jck_true, jde_is, jlt_is, jcl_0, beq_self_eq_true, jT_sI, jT_sJ, jP_sI, jP_sJ, jJ_sI, jI_sJ, jZ_sI, jZ_sJ, h.1, mP_nots h, mT_nots h, jin_nI (show d < 12 from hd) (by decide), nI_clamp (show d < 2 ^ 31 by omega)]
      refine ⟨_, rfl, sm.sA (by decide) (by decide), ⟨by rw [jI_sI, if_pos ⟨rfl, rfl⟩]; rfl, fun e he => hp e he⟩, fun e n o a he hr => ⟨by rw [jI_sI, if_neg (by omega)]; exact hr.1, hr.2⟩⟩
    · rw [if_neg (show ¬ (4 : Int32) ≤ nI i from nI_ge (b := 4) (by omega) (by decide))]
      simp only [jck_true, jde_is, jlt_is, jcl_0, beq_self_eq_true, jT_sI, jT_sJ, jP_sI, jP_sJ, jJ_sI, jI_sJ, jZ_sI, jZ_sJ, h.1, mP_orSet h, mT_orSet h, mP_andSet h, mT_andSet h, mP_all h, mT_all h, ix4, jin_nI (show 4 * d + i < 48 by omega) (by decide), jin_nI (show i < 4 by omega) (by decide), nI_clamp (show 4 * d + i < 2 ^ 31 by omega), nI_clamp (show i < 2 ^ 31 by omega), nI_1]
      generalize hμ : jsJ (jsJ μ (M + 13) (4 * d + i) 0) (M + 14) (4 * d + i) (jJ (jsJ μ (M + 13) (4 * d + i) 0) (M + 10) i) = μ1
      have s1 : sm M [] [13, 14, 15] μ μ1 := by rw [← hμ]; exact (sm.sJ (by decide)).tr (sm.sJ (by decide))
      have e10 : jJ μ1 (M + 10) = jJ μ (M + 10) := s1.aJ (by decide) (by decide)
      obtain ⟨ν, e1, e2, e3, e4⟩ := ih (i + 1) μ1 (s1.mt h) (by omega) (by omega) (fun e he => by
        rw [← hμ]; simp only [jJ_sJ]
        by_cases z : e = i
        · subst z; simp
        · have := hp e (by omega)
          simp only [show ¬ (4 * d + e = 4 * d + i) by omega, and_false, if_false]
          simpa using this)
      rw [e10] at e3
      refine ⟨ν, e1, s1.tr e2, e3, fun e n o a he hr => e4 e n o a he ⟨?_, fun j hj => ?_⟩⟩
      · rw [← hμ]; exact hr.1
      · have := hr.2 j hj
        rw [← hμ]; simp only [jJ_sJ]
        rw [if_neg (by omega), if_neg (by omega), if_neg (by omega), if_neg (by omega)]; exact this
theorem m_opens {M d : Nat} {μ : JM} (hd : d < 12) (h : MT M μ) : ∃ ν, fX11_opens M (nI d) μ = some ((), ν, 0, 0) ∧ sm M [] [13, 14, 15] μ ν ∧ mRow M ν d 0 (fun _ => 0) (jJ μ (M + 10)) ∧ rowsBut M μ ν d := by
  rw [fX11_opens]
  exact opens_l hd jfuel 0 μ h (by omega) (jfuel_gt (by omega)) (fun e he => by omega)
/-- one row's turn of joins -/
def jnv (n : Nat) (v a : Int64) : Int64 := if n % 2 = 1 then (v ^^^ (-1)) &&& a else v
theorem odd_n {n : Nat} (h : n < 1000) : (jrem (nI n) 2 = 1) ↔ n % 2 = 1 := by
  have : jrem (nI n) (nI 2) = nI (n % 2) := pk_rem (d := 2) (by omega) (by omega) (by omega)
  rw [show (2 : Int32) = nI 2 from rfl, this, show (1 : Int32) = nI 1 from rfl, nI_eq (by omega) (by omega)]
theorem joins_l {M d n : Nat} {o g : CS} (hd : d < 12) (hn : n < 1000) : ∀ (fu i : Nat) (μ : JM), MT M μ → i ≤ 4 → 4 - i < fu → mRow M μ d n o (fun e => if e < i then g e &&& jnv n (jJ μ (M + 16) e) (jJ μ (M + 10) e) else g e) →
    ∃ ν, fX11_joins_b2 fu M (nI d) (nI i) μ = some ((), ν, 0, 0) ∧ sm M [] [14, 15] μ ν ∧ mRow M ν d 0 o (fun e => g e &&& jnv n (jJ μ (M + 16) e) (jJ μ (M + 10) e)) ∧ rowsBut M μ ν d := by
  intro fu
  induction fu with
  | zero => intro i μ _ _ h; omega
  | succ fu ih =>
    intro i μ h hi hf hr
    rw [fX11_joins_b2]
    by_cases q : i = 4
    · subst q
      rw [if_pos (by decide)]
      simp only [jck_true, jde_is, jlt_is, jcl_0, beq_self_eq_true, jT_sI, jT_sJ, jP_sI, jP_sJ, jJ_sI, jI_sJ, jZ_sI, jZ_sJ, h.1, mP_nots h, mT_nots h, jin_nI (show d < 12 from hd) (by decide), nI_clamp (show d < 2 ^ 31 by omega)]
      refine ⟨_, rfl, sm.sA (by decide) (by decide), ⟨by rw [jI_sI, if_pos ⟨rfl, rfl⟩]; rfl, fun e he => ?_⟩, fun e n o a he hr => ⟨by rw [jI_sI, if_neg (by omega)]; exact hr.1, hr.2⟩⟩
      have := hr.2 e he
      dsimp only at this; rw [if_pos he] at this; exact this
    · have i4 : i < 4 := by omega
      rw [if_neg (show ¬ (4 : Int32) ≤ nI i from nI_ge (b := 4) (by omega) (by decide))]
      simp only [jck_true, jde_is, jlt_is, jcl_0, beq_self_eq_true, jT_sI, jT_sJ, jP_sI, jP_sJ, jJ_sI, jI_sJ, jZ_sI, jZ_sJ, h.1, mP_nots h, mT_nots h, mP_now h, mT_now h, mP_all h, mT_all h, ix4, jin_nI (show d < 12 from hd) (by decide), jin_nI i4 (show 4 < 2 ^ 31 by decide), nI_clamp (show d < 2 ^ 31 by omega), nI_clamp (show i < 2 ^ 31 by omega), hr.1, odd_n hn]
      have hv : ∀ s : Int64, fX11_joins_b45 (fX11_joins_b2 fu) M (nI d) (nI i) s μ = fX11_joins_b2 fu M (nI d) (nI (i + 1)) (jsJ μ (M + 14) (4 * d + i) (g i &&& s)) := by
        intro s
        rw [fX11_joins_b45]
        have := (hr.2 i i4).2
        dsimp only at this; rw [if_neg (by omega)] at this
        simp only [jck_true, jde_is, jlt_is, jcl_0, beq_self_eq_true, jT_sI, jT_sJ, jP_sI, jP_sJ, jJ_sI, jI_sJ, jZ_sI, jZ_sJ, h.1, mP_andSet h, mT_andSet h, ix4, jin_nI (show 4 * d + i < 48 by omega) (by decide), nI_clamp (show 4 * d + i < 2 ^ 31 by omega), nI_1, this]
      have hv2 : (if n % 2 = 1 then fX11_joins_b45 (fX11_joins_b2 fu) M (nI d) (nI i) ((jJ μ (M + 16) i ^^^ (-1)) &&& jJ μ (M + 10) i) μ else fX11_joins_b45 (fX11_joins_b2 fu) M (nI d) (nI i) (jJ μ (M + 16) i) μ) = fX11_joins_b2 fu M (nI d) (nI (i + 1)) (jsJ μ (M + 14) (4 * d + i) (g i &&& jnv n (jJ μ (M + 16) i) (jJ μ (M + 10) i))) := by
        unfold jnv; split <;> rw [hv]
      rw [hv2]
      generalize hμ : jsJ μ (M + 14) (4 * d + i) (g i &&& jnv n (jJ μ (M + 16) i) (jJ μ (M + 10) i)) = μ1
      have s1 : sm M [] [14, 15] μ μ1 := by rw [← hμ]; exact sm.sJ (by decide)
      have e10 : jJ μ1 (M + 10) = jJ μ (M + 10) := s1.aJ (by decide) (by decide)
      have e16 : jJ μ1 (M + 16) = jJ μ (M + 16) := s1.aJ (by decide) (by decide)
      have e13 : jJ μ1 (M + 13) = jJ μ (M + 13) := s1.aJ (by decide) (by decide)
      obtain ⟨ν, e1, e2, e3, e4⟩ := ih (i + 1) μ1 (s1.mt h) (by omega) (by omega) (by
        rw [e10, e16]
        refine ⟨by rw [← hμ]; exact hr.1, fun e he => ⟨by rw [e13]; exact (hr.2 e he).1, ?_⟩⟩
        rw [← hμ, jJ_sJ]
        dsimp only
        by_cases z : e = i
        · subst z; rw [if_pos ⟨rfl, rfl⟩, if_pos (by omega)]
        · rw [if_neg (by omega), (hr.2 e he).2]
          dsimp only
          by_cases y : e < i
          · rw [if_pos y, if_pos (by omega)]
          · rw [if_neg y, if_neg (by omega)])
      rw [e10, e16] at e3
      refine ⟨ν, e1, s1.tr e2, e3, fun e n o a he hr2 => e4 e n o a he ⟨by rw [← hμ]; exact hr2.1, fun j hj => ⟨by rw [e13]; exact (hr2.2 j hj).1, ?_⟩⟩⟩
      rw [← hμ, jJ_sJ, if_neg (by omega)]; exact (hr2.2 j hj).2
theorem m_joins {M d n : Nat} {o g : CS} {μ : JM} (hd : d < 12) (hn : n < 1000) (h : MT M μ) (hr : mRow M μ d n o g) : ∃ ν, fX11_joins M (nI d) μ = some ((), ν, 0, 0) ∧ sm M [] [14, 15] μ ν ∧ mRow M ν d 0 o (fun e => g e &&& jnv n (jJ μ (M + 16) e) (jJ μ (M + 10) e)) ∧ rowsBut M μ ν d := by
  rw [fX11_joins]
  exact joins_l hd hn jfuel 0 μ h (by omega) (jfuel_gt (by omega)) (by simpa using hr)
theorem ors_l {M d n : Nat} {o g : CS} (hd : d < 12) : ∀ (fu i : Nat) (μ : JM), MT M μ → i ≤ 4 → 4 - i < fu → mRow M μ d n (fun e => if e < i then o e ||| g e else o e) (fun e => if e < i then jJ μ (M + 10) e else g e) →
    ∃ ν, fX11_ors_b2 fu M (nI d) (nI i) μ = some ((), ν, 0, 0) ∧ sm M [] [13, 14] μ ν ∧ mRow M ν d n (fun e => o e ||| g e) (jJ μ (M + 10)) ∧ rowsBut M μ ν d := by
  intro fu
  induction fu with
  | zero => intro i μ _ _ h; omega
  | succ fu ih =>
    intro i μ h hi hf hr
    rw [fX11_ors_b2]
    by_cases q : i = 4
    · subst q
      rw [if_pos (by decide)]
      refine ⟨_, rfl, sm.rf, ⟨hr.1, fun e he => ?_⟩, fun e n o a he hr => hr⟩
      have := hr.2 e he
      dsimp only at this; rw [if_pos he, if_pos he] at this; exact this
    · have i4 : i < 4 := by omega
      have ho := (hr.2 i i4).1
      have hg := (hr.2 i i4).2
      dsimp only at ho hg; rw [if_neg (by omega)] at ho hg
      rw [if_neg (show ¬ (4 : Int32) ≤ nI i from nI_ge (b := 4) (by omega) (by decide))]
      simp only [jck_true, jde_is, jlt_is, jcl_0, beq_self_eq_true, jT_sI, jT_sJ, jP_sI, jP_sJ, jJ_sI, jI_sJ, jZ_sI, jZ_sJ, h.1, mP_orSet h, mT_orSet h, mP_andSet h, mT_andSet h, mP_all h, mT_all h, ix4, jin_nI i4 (show 4 < 2 ^ 31 by decide), jin_nI (show 4 * d + i < 48 by omega) (by decide), nI_clamp (show 4 * d + i < 2 ^ 31 by omega), nI_clamp (show i < 2 ^ 31 by omega), ho, hg, nI_1]
      generalize hμ : jsJ (jsJ μ (M + 13) (4 * d + i) (o i ||| g i)) (M + 14) (4 * d + i) (jJ (jsJ μ (M + 13) (4 * d + i) (o i ||| g i)) (M + 10) i) = μ1
      have s1 : sm M [] [13, 14] μ μ1 := by rw [← hμ]; exact (sm.sJ (by decide)).tr (sm.sJ (by decide))
      have e10 : jJ μ1 (M + 10) = jJ μ (M + 10) := s1.aJ (by decide) (by decide)
      obtain ⟨ν, e1, e2, e3, e4⟩ := ih (i + 1) μ1 (s1.mt h) (by omega) (by omega) (by
        rw [e10]
        refine ⟨by rw [← hμ]; exact hr.1, fun e he => ?_⟩
        rw [← hμ]; simp only [jJ_sJ]
        by_cases z : e = i
        · subst z; simp
        · have := hr.2 e he
          by_cases y : e < i
          · simp only [if_pos y, show ¬ (4 * d + e = 4 * d + i) by omega, and_false, if_false, if_pos (show e < i + 1 by omega)] at this ⊢; exact this
          · simp only [if_neg y, show ¬ (4 * d + e = 4 * d + i) by omega, and_false, if_false, if_neg (show ¬ e < i + 1 by omega)] at this ⊢; exact this)
      rw [e10] at e3
      refine ⟨ν, e1, s1.tr e2, e3, fun e n o a he hr2 => e4 e n o a he ⟨by rw [← hμ]; exact hr2.1, fun j hj => ?_⟩⟩
      have := hr2.2 j hj
      rw [← hμ]; simp only [jJ_sJ]
      rw [if_neg (by omega), if_neg (by omega), if_neg (by omega), if_neg (by omega)]; exact this
theorem m_ors {M d n : Nat} {o g : CS} {μ : JM} (hd : d < 12) (h : MT M μ) (hr : mRow M μ d n o g) : ∃ ν, fX11_ors M (nI d) μ = some ((), ν, 0, 0) ∧ sm M [] [13, 14] μ ν ∧ mRow M ν d n (fun e => o e ||| g e) (jJ μ (M + 10)) ∧ rowsBut M μ ν d := by
  rw [fX11_ors]
  exact ors_l hd jfuel 0 μ h (by omega) (jfuel_gt (by omega)) (by simpa using hr)
