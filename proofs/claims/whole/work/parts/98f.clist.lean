/-! the class: CLAUSES and lists of them; all their cells lie from lo to hi -/
def cE (lo hi : Nat) (full : Bool) (μ : JM) (a : Nat) (c : Cl) : Prop := ∃ q b t, (lo ≤ a ∧ a < hi) ∧ (lo ≤ q ∧ q < hi) ∧ (lo ≤ b ∧ b < hi) ∧ (lo ≤ t ∧ t < hi ∧ t ≠ b) ∧ (jT μ a).1 = 3 ∧ jI μ a 0 = c.1 ∧ jJ μ a 1 = c.2.1 ∧ jP μ a 8 = some q ∧ CAS μ q b ∧ jP μ a 7 = some t ∧ jT μ t = (102, (Cl.tks c).length) ∧ (∀ j, j < (Cl.tks c).length → jJ μ t j = (Cl.tks c).getD j 0) ∧ (full = true → jI μ a 2 = c.2.2.1 ∧ jI μ a 3 = c.2.2.2.1 ∧ jI μ a 4 = c.2.2.2.2.1 ∧ jI μ a 5 = c.2.2.2.2.2.1 ∧ jI μ a 6 = Cl.ovr c ∧ ∀ i, i < 4 → jJ μ b i = Cl.cas c i)
def cL (lo hi : Nat) (full : Bool) (cap : Nat) (μ : JM) (v q : Nat) (cls : List Cl) : Prop := (lo ≤ v ∧ v < hi) ∧ (lo ≤ q ∧ q < hi) ∧ (jT μ v).1 = 9 ∧ jI μ v 2 = nI cls.length ∧ cls.length ≤ cap ∧ jP μ v 0 = some q ∧ jT μ q = (105, cap) ∧ ∀ i, i < cls.length → ∃ a, jP μ q i = some a ∧ cE lo hi full μ a (cls.getD i cl0)
theorem cE.kp {lo hi : Nat} {full : Bool} {μ ν : JM} {a : Nat} {c : Cl} (h : cE lo hi full μ a c) (H : ∀ x, lo ≤ x → x < hi → ¬ (jT μ x).1 = 9 → ¬ (jT μ x).1 = 105 → sameC μ ν x) : cE lo hi full ν a c := by
  obtain ⟨q, b, t, h1, h2, h3, h4, h5, h6, h7, h8, ⟨g1, g2, g3⟩, h10, h11, h12, h13⟩ := h
  obtain ⟨a1, a2, a3, a4⟩ := H a h1.1 h1.2 (by rw [h5]; decide) (by rw [h5]; decide)
  obtain ⟨q1, q2, q3, q4⟩ := H q h2.1 h2.2 (by rw [g1]; decide) (by rw [g1]; decide)
  obtain ⟨b1, b2, b3, b4⟩ := H b h3.1 h3.2 (by rw [g3]; decide) (by rw [g3]; decide)
  obtain ⟨t1, t2, t3, t4⟩ := H t h4.1 h4.2.1 (by rw [h11]; show ¬ (102 : Nat) = 9; decide) (by rw [h11]; show ¬ (102 : Nat) = 105; decide)
  exact ⟨q, b, t, h1, h2, h3, h4, by rw [a1]; exact h5, by rw [a2]; exact h6, by rw [a3]; exact h7, by rw [a4]; exact h8, ⟨by rw [q1]; exact g1, by rw [q4]; exact g2, by rw [b1]; exact g3⟩, by rw [a4]; exact h10, by rw [t1]; exact h11, by rw [t3]; exact h12, by rw [a2, b3]; exact h13⟩
theorem cE.wk {lo hi lo2 hi2 : Nat} {full : Bool} {μ : JM} {a : Nat} {c : Cl} (h : cE lo hi full μ a c) (h1 : lo2 ≤ lo) (h2 : hi ≤ hi2) : cE lo2 hi2 full μ a c := by
  obtain ⟨q, b, t, a1, a2, a3, a4, h⟩ := h
  exact ⟨q, b, t, by omega, by omega, by omega, by omega, h⟩
theorem cE.half {lo hi : Nat} {full : Bool} {μ : JM} {a : Nat} {c : Cl} (h : cE lo hi full μ a c) : cE lo hi false μ a c := by
  obtain ⟨q, b, t, a1, a2, a3, a4, a5, a6, a7, a8, a9, a10, a11, a12, a13⟩ := h
  exact ⟨q, b, t, a1, a2, a3, a4, a5, a6, a7, a8, a9, a10, a11, a12, fun z => by cases z⟩
theorem cL.kp {lo hi : Nat} {full : Bool} {cap : Nat} {μ ν : JM} {v q : Nat} {cls : List Cl} (h : cL lo hi full cap μ v q cls) (H : ∀ x, lo ≤ x → x < hi → sameC μ ν x) : cL lo hi full cap ν v q cls := by
  obtain ⟨h1, h2, h3, h4, h5, h6, h7, h8⟩ := h
  obtain ⟨a1, a2, a3, a4⟩ := H v h1.1 h1.2
  obtain ⟨q1, q2, q3, q4⟩ := H q h2.1 h2.2
  refine ⟨h1, h2, by rw [a1]; exact h3, by rw [a2]; exact h4, h5, by rw [a4]; exact h6, by rw [q1]; exact h7, fun i hi => ?_⟩
  obtain ⟨a, e1, e2⟩ := h8 i hi
  exact ⟨a, by rw [q4]; exact e1, e2.kp fun x k1 k2 _ _ => H x k1 k2⟩
theorem cL.wk {lo hi lo2 hi2 : Nat} {full : Bool} {cap : Nat} {μ : JM} {v q : Nat} {cls : List Cl} (h : cL lo hi full cap μ v q cls) (h1 : lo2 ≤ lo) (h2 : hi ≤ hi2) : cL lo2 hi2 full cap μ v q cls := by
  obtain ⟨a1, a2, a3, a4, a5, a6, a7, a8⟩ := h
  refine ⟨by omega, by omega, a3, a4, a5, a6, a7, fun i hi => ?_⟩
  obtain ⟨a, e1, e2⟩ := a8 i hi
  exact ⟨a, e1, e2.wk h1 h2⟩
theorem cs.dyn {B z : Nat} {as : List Nat} {μ ν : JM} (s : cs B z as μ ν) (ha : ∀ i ∈ as, i < 121) (hz : z ≤ jZ μ) : ∀ x, B + 121 ≤ x → x < z → sameC μ ν x := fun x h1 h2 => ⟨s.2.1 x (by omega), (s.2.2.2 x h2 (fun i hi => by have := ha i hi; omega)).1, (s.2.2.2 x h2 (fun i hi => by have := ha i hi; omega)).2, s.2.2.1 x h2⟩
theorem cL.ke {B z hi : Nat} {as : List Nat} {full : Bool} {cap : Nat} {μ ν : JM} {v q : Nat} {cls : List Cl} (h : cL (B + 121) hi full cap μ v q cls) (s : cs B z as μ ν) (ha : ∀ i ∈ as, i < 121) (hz : z ≤ jZ μ) (hh : hi ≤ z) : cL (B + 121) hi full cap ν v q cls := h.kp fun x h1 h2 => s.dyn ha hz x h1 (by omega)
theorem bi_eq {x3 : Int32} {d : Bool} (hd : x3 = if d then 1 else 0) (e : Bool) : ((if e then 1 else 0) = x3) ↔ e = d := by
  subst hd; cases e <;> cases d <;> decide
theorem lf_l {lo hi : Nat} {full : Bool} {cap : Nat} {μ : JM} {v q : Nat} {cls : List Cl} {y : Int64} {d : Bool} {x3 : Int32} (hd : x3 = if d then 1 else 0) (h : cL lo hi full cap μ v q cls) (hc : cap ≤ 1000) : ∀ (fu n : Nat), n ≤ cls.length → cls.length - n < fu → fX8_find_b3 fu v y x3 (nI n) μ = some (oI n (lfnd (cls.drop n) y d), μ, 0, 0) := by
  obtain ⟨h1, h2, h3, h4, h5, h6, h7, h8⟩ := h
  intro fu
  induction fu with
  | zero => intro n _ q; omega
  | succ fu ih =>
    intro n hn hf
    rw [fX8_find_b3]
    simp only [jck_true, jde_is, jlt_is, jcl_0, beq_self_eq_true, jT_sI, jT_sJ, jP_sI, jP_sJ, jJ_sI, jI_sJ, jZ_sI, jZ_sJ, h3, h4]
    by_cases q : n = cls.length
    · rw [if_pos (nI_le (by omega) (by omega)), q, List.drop_length]; rfl
    · have hn2 : n < cls.length := by omega
      rw [if_neg (nI_ge hn2 (by omega))]
      obtain ⟨a, e1, q2, b, t, -, -, -, -, a5, a6, a7, -⟩ := h8 n hn2
      simp only [jck_true, jde_is, jlt_is, jcl_0, beq_self_eq_true, jT_sI, jT_sJ, jP_sI, jP_sJ, jJ_sI, jI_sJ, jZ_sI, jZ_sJ, h6, h7, jin_nI (show n < cap by omega) (by omega), nI_clamp (show n < 2 ^ 31 by omega), e1, a5, a6, a7, lg_cmp_0]
      have nx : fX8_find_b52 (fX8_find_b3 fu) v y x3 (nI n) μ = some (oI (n + 1) (lfnd (cls.drop (n + 1)) y d), μ, 0, 0) := by
        rw [fX8_find_b52, nI_1]; exact ih (n + 1) (by omega) (by omega)
      unfold lfnd at nx ⊢
      rw [drop_getD (d := cl0) hn2, List.findIdx?_cons]
      have no : ¬ ((decide ((cls.getD n cl0).2.1 = y) && (isDf (cls.getD n cl0) == d)) = true) → some (oI (n + 1) ((cls.drop (n + 1)).findIdx? (fun x => decide (x.2.1 = y) && (isDf x == d))), μ, 0, 0) = (some (oI n (if (decide ((cls.getD n cl0).2.1 = y) && (isDf (cls.getD n cl0) == d)) = true then some 0 else Option.map (fun i => i + 1) ((cls.drop (n + 1)).findIdx? (fun x => decide (x.2.1 = y) && (isDf x == d)))), μ, 0, 0) : JO Int32) := by
        intro z; rw [if_neg z, oI_map]
      by_cases u : (cls.getD n cl0).2.1 = y
      · rw [if_pos u]
        have key : ∀ s0, s0 = (if isDf (cls.getD n cl0) then (1 : Int32) else 0) → fX8_find_b45 (fX8_find_b3 fu) v y x3 (nI n) s0 μ = some (oI n (if (decide ((cls.getD n cl0).2.1 = y) && (isDf (cls.getD n cl0) == d)) = true then some 0 else Option.map (fun i => i + 1) ((cls.drop (n + 1)).findIdx? (fun x => decide (x.2.1 = y) && (isDf x == d)))), μ, 0, 0) := by
          intro s0 hs
          rw [fX8_find_b45, hs]
          by_cases w : isDf (cls.getD n cl0) = d
          · rw [if_pos ((bi_eq hd _).mpr w), if_pos (by rw [decide_eq_true u, w]; simp)]; rfl
          · rw [if_neg (fun z => w ((bi_eq hd _).mp z)), nx]
            exact no (by rw [decide_eq_true u]; simpa using w)
        by_cases w : (cls.getD n cl0).1 = 0
        · rw [if_pos w]; exact key 1 (by rw [isDf_t.mpr w]; rfl)
        · rw [if_neg w]; exact key 0 (by rw [isDf_f.mpr w]; rfl)
      · rw [if_neg u, nx]
        exact no (by rw [decide_eq_false u]; simp)
theorem c_lfind {lo hi : Nat} {full : Bool} {cap : Nat} {μ : JM} {v q : Nat} {cls : List Cl} {y : Int64} (d : Bool) (x3 : Int32) (hd : x3 = if d then 1 else 0) (h : cL lo hi full cap μ v q cls) (hc : cap ≤ 1000) : fX8_find v y x3 μ = some (oI 0 (lfnd cls y d), μ, 0, 0) := by
  unfold fX8_find
  have := lf_l (y := y) hd h hc jfuel 0 (by omega) (jfuel_gt (by have := h.2.2.2.2.1; omega))
  rw [List.drop_zero] at this
  exact this
theorem c_lat {lo hi : Nat} {full : Bool} {cap : Nat} {μ : JM} {v q : Nat} {cls : List Cl} {x : Int32} (h : cL lo hi full cap μ v q cls) (hc : cap ≤ 1000) : fX8_at v x μ = some (match inR x cls.length with | none => none | some i => jP μ q i, μ, 0, 0) := by
  obtain ⟨h1, h2, h3, h4, h5, h6, h7, h8⟩ := h
  unfold fX8_at
  cases hx : inR x cls.length with
  | some k =>
    obtain ⟨rfl, hk⟩ := inR_some hx
    rw [if_neg (nI_pos (by omega))]
    simp only [jck_true, jde_is, jlt_is, jcl_0, beq_self_eq_true, jT_sI, jT_sJ, jP_sI, jP_sJ, jJ_sI, jI_sJ, jZ_sI, jZ_sJ, h3, h4]
    rw [if_pos (nI_lt hk (by omega))]
    simp only [jck_true, jde_is, jlt_is, jcl_0, beq_self_eq_true, jT_sI, jT_sJ, jP_sI, jP_sJ, jJ_sI, jI_sJ, jZ_sI, jZ_sJ, h6, h7, jin_nI (show k < cap by omega) (by omega), nI_clamp (show k < 2 ^ 31 by omega)]
  | none =>
    by_cases q : x < 0
    · rw [if_pos q]
    · rw [if_neg q]
      obtain ⟨j, hj, rfl⟩ := nI_of q
      have : ¬ j < cls.length := by
        intro t
        unfold inR at hx
        rw [if_pos ⟨nI_pos' hj, by rw [nI_clamp hj]; exact t⟩] at hx
        cases hx
      simp only [jck_true, jde_is, jlt_is, jcl_0, beq_self_eq_true, jT_sI, jT_sJ, jP_sI, jP_sJ, jJ_sI, jI_sJ, jZ_sI, jZ_sJ, h3, h4]
      rw [if_neg (nI_nlt (by omega) hj)]
theorem inR_oI {o : Option Nat} {n : Nat} (hn : n < 2 ^ 31) (h : ∀ i, o = some i → i < n) : inR (oI 0 o) n = o := by
  cases o with
  | none => unfold oI inR; rw [if_neg]; exact fun z => absurd z.1 (by decide)
  | some i =>
    have := h i rfl
    simp only [oI, Nat.zero_add, inR]
    rw [nI_clamp (by omega), if_pos ⟨nI_pos' (by omega), this⟩]
/-- find, then at -/
theorem c_lfa {lo hi : Nat} {full : Bool} {cap : Nat} {μ : JM} {v q : Nat} {cls : List Cl} {y : Int64} {d : Bool} (h : cL lo hi full cap μ v q cls) (hc : cap ≤ 1000) : fX8_at v (oI 0 (lfnd cls y d)) μ = some (match lfnd cls y d with | none => none | some i => jP μ q i, μ, 0, 0) := by
  rw [c_lat h hc, inR_oI (by have := h.2.2.2.2.1; omega) (fun i hi => lfnd_lt hi)]
theorem sameC.rf {μ : JM} {a : Nat} : sameC μ μ a := ⟨rfl, rfl, rfl, rfl⟩
theorem sameC.tr {μ ν ρ : JM} {a : Nat} (h : sameC μ ν a) (g : sameC ν ρ a) : sameC μ ρ a := ⟨g.1.trans h.1, g.2.1.trans h.2.1, g.2.2.1.trans h.2.2.1, g.2.2.2.trans h.2.2.2⟩
theorem sameC.sI {μ : JM} {a x k : Nat} {v : Int32} (h : x ≠ a) : sameC μ (jsI μ a k v) x := ⟨rfl, jI_sI_ne h, rfl, rfl⟩
theorem sameC.sP {μ : JM} {a x k : Nat} {v : Option Nat} (h : x ≠ a) : sameC μ (jsP μ a k v) x := ⟨rfl, rfl, rfl, jP_sP_ne h⟩
theorem sameC.sJ {μ : JM} {a x k : Nat} {v : Int64} (h : x ≠ a) : sameC μ (jsJ μ a k v) x := ⟨rfl, rfl, jJ_sJ_ne h, rfl⟩
theorem c_ladd {B z lo hi : Nat} {as : List Nat} {full : Bool} {cap : Nat} {μ : JM} {v q a : Nat} {cls : List Cl} {c : Cl} (h : cL lo hi full cap μ v q cls) (hc : cap ≤ 1000) (hl : cls.length < cap) (ha : cE lo hi full μ a c) (hv : z ≤ v) (hq : z ≤ q) : Res (fX8_add v (some a) μ) (fun _ ν => cs B z as μ ν ∧ jZ ν = jZ μ ∧ (∀ x, x ≠ v → x ≠ q → sameC μ ν x) ∧ jI ν v 1 = jI μ v 1 ∧ cL lo hi full cap ν v q (cls ++ [c])) := by
  obtain ⟨h1, h2, h3, h4, h5, h6, h7, h8⟩ := h
  have hvq : v ≠ q := by intro e; rw [e, h7] at h3; exact absurd h3 (show ¬ (105 : Nat) = 9 by decide)
  have ka : (jT μ a).1 = 3 := by obtain ⟨_, _, _, -, -, -, -, e, -⟩ := ha; exact e
  unfold fX8_add
  rw [if_neg (by intro e; cases e)]
  simp only [jck_true, jde_is, jlt_is, jcl_0, beq_self_eq_true, jT_sI, jT_sJ, jP_sI, jP_sJ, jJ_sI, jI_sJ, jZ_sI, jZ_sJ, h3, h4, h6, h7]
  rw [if_neg (nI_ge hl (by omega))]
  simp only [jck_true, jde_is, jlt_is, jcl_0, beq_self_eq_true, jT_sI, jT_sJ, jP_sI, jP_sJ, jJ_sI, jI_sJ, jZ_sI, jZ_sJ, jin_nI hl (by omega), nI_clamp (show cls.length < 2 ^ 31 by omega), jkd, ka]
  have e4 : jI (jsP μ q cls.length (some a)) v 2 = nI cls.length := h4
  rw [e4, nI_1]
  have hk : ∀ x, x ≠ v → x ≠ q → sameC μ (jsI (jsP μ q cls.length (some a)) v 2 (nI (cls.length + 1))) x := fun x q1 q2 => (sameC.sP q2).tr (sameC.sI q1)
  have kp : ∀ b d, cE lo hi full μ b d → cE lo hi full (jsI (jsP μ q cls.length (some a)) v 2 (nI (cls.length + 1))) b d := fun b d hb => hb.kp fun x _ _ k1 k2 => hk x (fun e => k1 (by rw [e]; exact h3)) (fun e => k2 (by rw [e, h7]))
  refine .ret ⟨(cs.zP hq).tr (cs.zI hv), rfl, hk, ?_, h1, h2, h3, ?_, by simp; omega, ?_, h7, fun i hi => ?_⟩
  · rw [jI_sI, if_neg (by omega)]; rfl
  · rw [jI_sI, if_pos ⟨rfl, rfl⟩]; simp
  · rw [jP_sI, jP_sP_ne hvq]; exact h6
  · rw [jP_sI, jP_sP]
    by_cases e : i = cls.length
    · rw [if_pos ⟨rfl, e⟩]
      refine ⟨a, rfl, ?_⟩
      have : (cls ++ [c]).getD i cl0 = c := by rw [e]; simp [List.getD]
      rw [this]; exact kp a c ha
    · have hi2 : i < cls.length := by simp at hi; omega
      rw [if_neg (fun t => e t.2)]
      obtain ⟨x, e1, e2⟩ := h8 i hi2
      have : (cls ++ [c]).getD i cl0 = cls.getD i cl0 := by simp [List.getD, List.getElem?_append_left hi2]
      rw [this]
      exact ⟨x, e1, kp x _ e2⟩
theorem c_lrepl {B z lo hi k : Nat} {as : List Nat} {full : Bool} {cap : Nat} {μ : JM} {v q a : Nat} {cls : List Cl} {c : Cl} (h : cL lo hi full cap μ v q cls) (hc : cap ≤ 1000) (hl : k < cls.length) (ha : cE lo hi full μ a c) (hv : z ≤ v) (hq : z ≤ q) : Res (fX8_replace v (nI k) (some a) μ) (fun _ ν => cs B z as μ ν ∧ jZ ν = jZ μ ∧ (∀ x, x ≠ v → x ≠ q → sameC μ ν x) ∧ cL lo hi full cap ν v q (cls.set k c)) := by
  obtain ⟨h1, h2, h3, h4, h5, h6, h7, h8⟩ := h
  have hvq : v ≠ q := by intro e; rw [e, h7] at h3; exact absurd h3 (show ¬ (105 : Nat) = 9 by decide)
  have ka : (jT μ a).1 = 3 := by obtain ⟨_, _, _, -, -, -, -, e, -⟩ := ha; exact e
  unfold fX8_replace
  rw [if_neg (nI_pos (by omega))]
  simp only [jck_true, jde_is, jlt_is, jcl_0, beq_self_eq_true, jT_sI, jT_sJ, jP_sI, jP_sJ, jJ_sI, jI_sJ, jZ_sI, jZ_sJ, h3, h4]
  rw [if_neg (nI_ge hl (by omega)), if_neg (by intro e; cases e)]
  simp only [jck_true, jde_is, jlt_is, jcl_0, beq_self_eq_true, jT_sI, jT_sJ, jP_sI, jP_sJ, jJ_sI, jI_sJ, jZ_sI, jZ_sJ, h6, h7, jin_nI (show k < cap by omega) (by omega), nI_clamp (show k < 2 ^ 31 by omega), jkd, ka]
  have hk : ∀ x, x ≠ v → x ≠ q → sameC μ (jsP μ q k (some a)) x := fun x q1 q2 => sameC.sP q2
  have kp : ∀ b d, cE lo hi full μ b d → cE lo hi full (jsP μ q k (some a)) b d := fun b d hb => hb.kp fun x _ _ k1 k2 => hk x (fun e => k1 (by rw [e]; exact h3)) (fun e => k2 (by rw [e, h7]))
  refine .ret ⟨cs.zP hq, rfl, hk, h1, h2, h3, by rw [List.length_set]; exact h4, by rw [List.length_set]; exact h5, ?_, h7, fun i hi => ?_⟩
  · rw [jP_sP_ne hvq]; exact h6
  · rw [List.length_set] at hi
    rw [jP_sP]
    by_cases e : i = k
    · rw [if_pos ⟨rfl, e⟩]
      refine ⟨a, rfl, ?_⟩
      have : (cls.set k c).getD i cl0 = c := by rw [e]; simp [List.getD, hl]
      rw [this]; exact kp a c ha
    · rw [if_neg (fun t => e t.2)]
      obtain ⟨x, e1, e2⟩ := h8 i hi
      have : (cls.set k c).getD i cl0 = cls.getD i cl0 := by simp [List.getD, List.getElem?_set, show ¬ k = i from fun t => e t.symm]
      rw [this]
      exact ⟨x, e1, kp x _ e2⟩
