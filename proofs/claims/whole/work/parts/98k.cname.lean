/-! the class: Reader, names and numbers -/
def RDL : List Nat := [15, 19, 66, 68, 23, 25, 27, 29, 31, 33, 35, 37, 39, 41, 43, 45, 47, 49, 51, 53, 55, 57, 59, 61, 63, 65, 11, 12, 13, 14]
theorem rdl_lt : ∀ i ∈ RDL, i < 121 := by decide
theorem cda_rdl : ∀ i ∈ CDA, i ∈ RDL := by decide
def rEn (B hi z : Nat) (μ : JM) (md v q cap : Nat) (cls : List Cl) (F : List Int64) : Prop := CT B μ ∧ cW B 9 8 μ F ∧ jI μ (B + 18) 5 = nI md ∧ md ≤ 2 ∧ jP μ (B + 18) 6 = some v ∧ cL (B + 121) hi (decide (md = 0)) cap μ v q cls ∧ cap ≤ 1000 ∧ hi ≤ z ∧ z ≤ jZ μ ∧ B + 121 ≤ z ∧ jI μ (B + 66) 0 = 0
theorem rEn.ke {B hi z : Nat} {μ ν : JM} {md v q cap : Nat} {cls : List Cl} {F : List Int64} {as : List Nat} (h : rEn B hi z μ md v q cap cls F) (s : cs B z as μ ν) (ha : ∀ i ∈ as, i ∈ RDL) (h66 : jI ν (B + 66) 0 = jI μ (B + 66) 0) : rEn B hi z ν md v q cap cls F := by
  obtain ⟨h1, h2, h3, h4, h5, h6, h7, h8, h9, h10, h11⟩ := h
  have no : ∀ i, i ∉ RDL → i ∉ as := fun i hi q => hi (ha i q)
  exact ⟨s.ct h1 h10, h2.ke s (by omega) (no 9 (by decide)) (no 10 (by decide)), by rw [s.iI (by omega) (no 18 (by decide))]; exact h3, h4, by rw [s.iP (by omega)]; exact h5, h6.ke s (fun i hi => rdl_lt i (ha i hi)) h9 h8, h7, h8, Nat.le_trans h9 s.1, h10, h66.trans h11⟩
theorem rEn.k15 {B hi z : Nat} {μ ν : JM} {md v q cap : Nat} {cls : List Cl} {F : List Int64} (h : rEn B hi z μ md v q cap cls F) (s : cs B z [15] μ ν) : rEn B hi z ν md v q cap cls F := h.ke s (by decide) (by rw [s.iI (by have := h.2.2.2.2.2.2.2.2.2.1; omega) (by decide)])
theorem rEn.kcc {B hi z : Nat} {μ ν : JM} {md v q cap : Nat} {cls : List Cl} {F : List Int64} (h : rEn B hi z μ md v q cap cls F) (s : cc B z μ ν) : rEn B hi z ν md v q cap cls F := h.ke s.1 cda_rdl s.2.1
theorem rEn.ce {B hi z : Nat} {μ : JM} {md v q cap : Nat} {cls : List Cl} {F : List Int64} (h : rEn B hi z μ md v q cap cls F) : cEn B hi (jZ μ) μ (decide (md = 0)) (some v) F (dfs (decide (md = 0)) cls) := by
  obtain ⟨h1, h2, h3, h4, h5, h6, h7, h8, h9, h10, h11⟩ := h
  exact ⟨h1, h2, ⟨q, cap, cls, h6, h7, fun w => by unfold dfs; rw [w]; rfl⟩, by omega, Nat.le_refl _, by omega⟩
/-- a CLAUSE that is being read, at a -/
def cX (μ : JM) (a : Nat) (kd : Int32) (nm : Int64) (p ac nu wk o : Int32) : Prop := (jT μ a).1 = 3 ∧ jP μ a 8 = some (a + 1) ∧ CAS μ (a + 1) (a + 2) ∧ jI μ a 0 = kd ∧ jJ μ a 1 = nm ∧ jI μ a 2 = p ∧ jI μ a 3 = ac ∧ jI μ a 4 = nu ∧ jI μ a 5 = wk ∧ jI μ a 6 = o
theorem cX.ke {B z a : Nat} {μ ν : JM} {kd : Int32} {nm : Int64} {p ac nu wk o : Int32} {as : List Nat} (h : cX μ a kd nm p ac nu wk o) (s : cs B z as μ ν) (ha : ∀ i ∈ as, i < 121) (hz : z ≤ jZ μ) (h1 : B + 121 ≤ a) (h2 : a + 3 ≤ z) : cX ν a kd nm p ac nu wk o := by
  obtain ⟨a1, a2, a3, a4⟩ := s.dyn ha hz a h1 (by omega)
  obtain ⟨b1, b2, b3, b4⟩ := s.dyn ha hz (a + 1) (by omega) (by omega)
  obtain ⟨c1, c2, c3, c4⟩ := s.dyn ha hz (a + 2) (by omega) (by omega)
  obtain ⟨g1, g2, ⟨g3, g4, g5⟩, g6⟩ := h
  refine ⟨by rw [a1]; exact g1, by rw [a4]; exact g2, ⟨by rw [b1]; exact g3, by rw [b4]; exact g4, by rw [c1]; exact g5⟩, ?_⟩
  rw [a2, a3]; exact g6
theorem c_fl {B n k z : Nat} {μ : JM} {l : List Int32} (d : Nat) (w : Int32) (hw : nI d = w) (hd : d ≤ 7) (hC : CT B μ) (h : cAt B μ l n k) : Res (jcl (fX7_fail (B + 15) w μ) fun r ν => jck (jbl r) <| some (r, ν, 0, 0)) (fun x ν => x = 0 ∧ cn B z [15] μ ν ∧ cF B ν l (k, fk (Cd l) k d)) := by
  refine Res.cl (c_fail (z := z) d w hw hd hC h) fun x ν ⟨e1, s1, f1⟩ => ?_
  subst e1
  exact .ck (by decide) (.ret ⟨rfl, s1, f1⟩)
def sNm (C : Nat → Int64) (F : List Int64) (md : Nat) (cls : List Cl) (df : Bool) (k : Nat) : Except Er Unit := eb (nmC C k) fun _ => if md = 0 ∧ ((df = true ∧ (F.idxOf? (C k)).isSome = true) ∨ (lfnd cls (C k) df).isSome = true) then .error (k, 2) else if md = 2 ∧ lfnd cls (C k) df = none then .error (k, 3) else if md = 0 ∧ 24 ≤ cls.length then .error (k, 4) else .ok ()
theorem oI_no {o : Option Nat} (h : ∀ i, o = some i → i < 2 ^ 31) : oI 0 o = -1 ↔ o = none := by
  cases o with
  | none => exact ⟨fun _ => rfl, fun _ => rfl⟩
  | some i =>
    refine ⟨fun e => ?_, fun e => by cases e⟩
    simp only [oI, Nat.zero_add] at e
    have := congrArg Int32.toInt e
    rw [nI_toInt (h i rfl)] at this
    have e2 : (-1 : Int32).toInt = -1 := by decide
    omega
/-- the words that a name may meet -/
def nmQ (B : Nat) (μ : JM) (l : List Int32) (n k a : Nat) (z : Nat) (kd : Int32) (p ac nu wk o : Int32) (y : Except Er Unit) (x : Int32) (ν : JM) : Prop := cn B z [15] μ ν ∧ jJ ν (a + 2) = jJ μ (a + 2) ∧ ((∃ e, ov (Cd l) k y = .error e ∧ x = 0 ∧ cF B ν l e) ∨ (y = .ok () ∧ 0 < Cd l k ∧ x = 1 ∧ cAt B ν l n (k + 1) ∧ cX ν a kd (Cd l k) p ac nu wk o))
theorem c_name {B hi z n k a : Nat} {μ : JM} {md v q cap : Nat} {cls : List Cl} {F : List Int64} {l : List Int32} {kd : Int32} {nm : Int64} {p ac nu wk o : Int32} (df : Bool) (x2 : Int32) (hx : x2 = if df then 1 else 0) (R : rEn B hi z μ md v q cap cls F) (h : cAt B μ l n k) (ha : z ≤ a) (hj : a + 3 ≤ jZ μ) (X : cX μ a kd nm p ac nu wk o) : Res (fX4_readName (B + 18) (some a) x2 μ) (nmQ B μ l n k a z kd p ac nu wk o (sNm (Cd l) F md cls df k)) := by
  obtain ⟨hC, hF, h5, hmd, h6, hL, hcap, hhz, hzj, hz, h66⟩ := R
  have hlen := hL.2.2.2.2.1
  unfold fX4_readName
  simp only [jck_true, jde_is, jlt_is, jcl_0, beq_self_eq_true, jT_sI, jT_sJ, jP_sI, jP_sJ, jJ_sI, jI_sJ, jZ_sI, jZ_sJ, cT18 hC, cP18_0 hC, cT15 hC, c_token hC h, c_isOurs, c_isFree]
  have fail : ∀ (d : Nat) (w : Int32), nI d = w → d ≤ 7 → ov (Cd l) k (sNm (Cd l) F md cls df k) = .error (k, fk (Cd l) k d) → Res (jcl (fX7_fail (B + 15) w μ) fun r ν => jck (jbl r) <| some (r, ν, 0, 0)) (nmQ B μ l n k a z kd p ac nu wk o (sNm (Cd l) F md cls df k)) := by
    intro d w hw hd es
    refine (c_fl (z := jZ μ) d w hw hd hC h).mono ?_
    rintro x ν ⟨rfl, s1, f1⟩
    exact ⟨⟨s1.1.lo hzj, s1.2⟩, (s1.1.dyn (by decide) (Nat.le_refl _) (a + 2) (by omega) (by omega)).2.2.1, Or.inl ⟨_, es, rfl, f1⟩⟩
  by_cases q1 : Cd l k ≤ -3000
  · have q2 : ¬ 0 < Cd l k := fun z => absurd (Int64.lt_of_lt_of_le z q1) (by decide)
    rw [if_pos q1, if_neg (by decide)]
    refine fail 2 2 rfl (by decide) ?_
    unfold sNm; rw [ov_nmC, if_neg q2, if_pos q1]
  · rw [if_neg q1, if_pos rfl]
    by_cases q2 : 0 < Cd l k
    · rw [if_pos q2, if_neg (by decide)]
      have k9 : (jT μ v).1 = 9 := hL.2.2.1
      simp only [jck_true, jde_is, jlt_is, jcl_0, beq_self_eq_true, jT_sI, jT_sJ, jP_sI, jP_sJ, jJ_sI, jI_sJ, jZ_sI, jZ_sJ, h6, k9, c_lfind df x2 hx hL hcap]
      have nov : ¬ Cd l k = -2000 := by intro e; rw [e] at q2; exact absurd q2 (by decide)
      have ne0 : ¬ Cd l k = 0 := by intro e; rw [e] at q2; exact absurd q2 (by decide)
      have sn : sNm (Cd l) F md cls df k = if md = 0 ∧ ((df = true ∧ (F.idxOf? (Cd l k)).isSome = true) ∨ (lfnd cls (Cd l k) df).isSome = true) then .error (k, 2) else if md = 2 ∧ lfnd cls (Cd l k) df = none then .error (k, 3) else if md = 0 ∧ 24 ≤ cls.length then .error (k, 4) else .ok () := by
        have := ov_nmC (C := Cd l) (k := k) (g := fun _ => if md = 0 ∧ ((df = true ∧ (F.idxOf? (Cd l k)).isSome = true) ∨ (lfnd cls (Cd l k) df).isSome = true) then .error (k, 2) else if md = 2 ∧ lfnd cls (Cd l k) df = none then .error (k, 3) else if md = 0 ∧ 24 ≤ cls.length then .error (k, 4) else .ok ())
        rw [ov_ne nov, if_pos q2] at this
        exact this
      have hlf : ∀ i, lfnd cls (Cd l k) df = some i → i < 2 ^ 31 := fun i hi => by have := lfnd_lt hi; omega
      have hff : ∀ i, F.idxOf? (Cd l k) = some i → i < 2 ^ 31 := fun i hi => by have := (List.idxOf?_eq_some_iff.mp hi).1; have := hF.2.1; omega
      -- the end: the name is kept
      have b147 : sNm (Cd l) F md cls df k = .ok () → Res (fX4_readName_b147 (B + 18) (some a) (Cd l k) μ) (nmQ B μ l n k a z kd p ac nu wk o (sNm (Cd l) F md cls df k)) := by
        intro es
        rw [fX4_readName_b147]
        simp only [jck_true, jde_is, jlt_is, jcl_0, beq_self_eq_true, jT_sI, jT_sJ, jP_sI, jP_sJ, jJ_sI, jI_sJ, jZ_sI, jZ_sJ, X.1, cT18 hC, cP18_0 hC, cT15 hC]
        have s1 : cs B z [15] μ (jsJ μ a 1 (Cd l k)) := cs.zJ ha
        have X1 : cX (jsJ μ a 1 (Cd l k)) a kd (Cd l k) p ac nu wk o := by
          obtain ⟨g1, g2, g3, g4, g5, g6⟩ := X
          exact ⟨g1, g2, g3, g4, by rw [jJ_sJ, if_pos ⟨rfl, rfl⟩], g6⟩
        have a1 : cAt B (jsJ μ a 1 (Cd l k)) l n k := h.ke (z := z) (as := []) (cs.zJ ha) (by omega) (by decide) (by decide) (by decide)
        have kz : jZ (jsJ μ a 1 (Cd l k)) = jZ μ := rfl
        have k2 : jJ (jsJ μ a 1 (Cd l k)) (a + 2) = jJ μ (a + 2) := jJ_sJ_ne (by omega)
        generalize jsJ μ a 1 (Cd l k) = μ1 at s1 X1 a1 kz k2 ⊢
        have hC1 := s1.ct hC hz
        refine Res.cl (c_step (z := jZ μ1) hC1 a1 ne0 (by omega)) fun _ ν ⟨s2, a2⟩ => ?_
        have D := s2.1.dyn (by decide) (Nat.le_refl _)
        exact .ret ⟨⟨s1.tr (s2.1.lo (by omega)), by rw [s2.2, kz]⟩, by rw [(D (a + 2) (by omega) (by omega)).2.2.1, k2], Or.inr ⟨es, q2, rfl, a2, X1.ke s2.1 (by decide) (Nat.le_refl _) (by omega) (by omega)⟩⟩
      have b119 : (¬ (md = 0 ∧ 24 ≤ cls.length) → sNm (Cd l) F md cls df k = .ok ()) → (md = 0 ∧ 24 ≤ cls.length → sNm (Cd l) F md cls df k = .error (k, 4)) → Res (fX4_readName_b119 (B + 18) (some a) (Cd l k) μ) (nmQ B μ l n k a z kd p ac nu wk o (sNm (Cd l) F md cls df k)) := by
        intro e1 e2
        rw [fX4_readName_b119]
        simp only [jck_true, jde_is, jlt_is, jcl_0, beq_self_eq_true, jT_sI, jT_sJ, jP_sI, jP_sJ, jJ_sI, jI_sJ, jZ_sI, jZ_sJ, cT18 hC, h5]
        by_cases m0 : md = 0
        · rw [if_pos (by rw [m0]; rfl)]
          simp only [jck_true, jde_is, jlt_is, jcl_0, beq_self_eq_true, jT_sI, jT_sJ, jP_sI, jP_sJ, jJ_sI, jI_sJ, jZ_sI, jZ_sJ, h6, k9, hL.2.2.2.1]
          by_cases c24 : cls.length < 24
          · rw [if_pos (show nI cls.length < 24 from nI_lt (b := 24) c24 (by decide))]
            exact b147 (e1 (fun t => by omega))
          · rw [if_neg (show ¬ nI cls.length < 24 from nI_nlt (b := 24) (by omega) (by omega))]
            simp only [jck_true, jde_is, jlt_is, jcl_0, beq_self_eq_true, jT_sI, jT_sJ, jP_sI, jP_sJ, jJ_sI, jI_sJ, jZ_sI, jZ_sJ, cP18_0 hC, cT15 hC]
            refine fail 4 4 rfl (by decide) ?_
            rw [e2 ⟨m0, by omega⟩, ov_er]
        · rw [if_neg (nI_ne0 (by omega) (by omega))]
          exact b147 (e1 (fun t => m0 t.1))
      have b97 : ∀ s0 : Int32, (s0 = 0 ↔ lfnd cls (Cd l k) df = none) → ¬ (md = 0 ∧ ((df = true ∧ (F.idxOf? (Cd l k)).isSome = true) ∨ (lfnd cls (Cd l k) df).isSome = true)) → Res (fX4_readName_b97 (B + 18) (some a) (Cd l k) s0 μ) (nmQ B μ l n k a z kd p ac nu wk o (sNm (Cd l) F md cls df k)) := by
        intro s0 hs hn
        rw [if_neg hn] at sn
        rw [fX4_readName_b97]
        simp only [jck_true, jde_is, jlt_is, jcl_0, beq_self_eq_true, jT_sI, jT_sJ, jP_sI, jP_sJ, jJ_sI, jI_sJ, jZ_sI, jZ_sJ, cT18 hC, h5]
        by_cases m2 : md = 2
        · rw [if_pos (by rw [m2]; rfl)]
          by_cases t : s0 = 0
          · rw [if_pos t]
            simp only [jck_true, jde_is, jlt_is, jcl_0, beq_self_eq_true, jT_sI, jT_sJ, jP_sI, jP_sJ, jJ_sI, jI_sJ, jZ_sI, jZ_sJ, cP18_0 hC, cT15 hC]
            refine fail 3 3 rfl (by decide) ?_
            rw [sn, if_pos ⟨m2, hs.mp t⟩, ov_er]
          · rw [if_neg t]
            rw [if_neg (fun u => t (hs.mpr u.2))] at sn
            exact b119 (fun u => by rw [sn, if_neg u]) (fun u => by rw [sn, if_pos u])
        · rw [if_neg (show ¬ nI md = 2 from fun e => m2 ((nI_eq (b := 2) (by omega) (by decide)).mp e))]
          rw [if_neg (fun u => m2 u.1)] at sn
          exact b119 (fun u => by rw [sn, if_neg u]) (fun u => by rw [sn, if_pos u])
      have b88 : (md = 0 ∧ ((df = true ∧ (F.idxOf? (Cd l k)).isSome = true) ∨ (lfnd cls (Cd l k) df).isSome = true)) → Res (fX4_readName_b88 (B + 18) μ) (nmQ B μ l n k a z kd p ac nu wk o (sNm (Cd l) F md cls df k)) := by
        intro e
        rw [fX4_readName_b88]
        simp only [jck_true, jde_is, jlt_is, jcl_0, beq_self_eq_true, jT_sI, jT_sJ, jP_sI, jP_sJ, jJ_sI, jI_sJ, jZ_sI, jZ_sJ, cT18 hC, cP18_0 hC, cT15 hC]
        refine fail 2 2 rfl (by decide) ?_
        rw [sn, if_pos e, ov_er]
      have b58 : ∀ s0 : Int32, (s0 = 0 ↔ lfnd cls (Cd l k) df = none) → Res (fX4_readName_b58 (B + 18) (some a) x2 (Cd l k) s0 μ) (nmQ B μ l n k a z kd p ac nu wk o (sNm (Cd l) F md cls df k)) := by
        intro s0 hs
        rw [fX4_readName_b58]
        simp only [jck_true, jde_is, jlt_is, jcl_0, beq_self_eq_true, jT_sI, jT_sJ, jP_sI, jP_sJ, jJ_sI, jI_sJ, jZ_sI, jZ_sJ, cT18 hC, h5]
        by_cases m0 : md = 0
        · rw [if_pos (by rw [m0]; rfl)]
          by_cases t : s0 = 0
          · rw [if_pos t]
            have tn := hs.mp t
            cases df with
            | false =>
              rw [if_pos (by rw [hx]; rfl)]
              refine b97 s0 hs (fun u => ?_)
              rcases u.2 with w | w
              · exact absurd w.1 (by decide)
              · rw [tn] at w; cases w
            | true =>
              rw [if_neg (by rw [hx]; decide)]
              simp only [jck_true, jde_is, jlt_is, jcl_0, beq_self_eq_true, jT_sI, jT_sJ, jP_sI, jP_sJ, jJ_sI, jI_sJ, jZ_sI, jZ_sJ, cP18_1 hC, cT9 hC, c_find (wh9 hC) hF (by decide)]
              by_cases w : F.idxOf? (Cd l k) = none
              · rw [if_pos ((oI_no hff).mpr w)]
                refine b97 s0 hs (fun u => ?_)
                rcases u.2 with y | y
                · rw [w] at y; exact absurd y.2 (by decide)
                · rw [tn] at y; cases y
              · rw [if_neg (fun e => w ((oI_no hff).mp e))]
                exact b88 ⟨m0, Or.inl ⟨rfl, by rw [Option.isSome_iff_ne_none]; exact w⟩⟩
          · rw [if_neg t]
            exact b88 ⟨m0, Or.inr (by rw [Option.isSome_iff_ne_none]; exact fun e => t (hs.mpr e))⟩
        · rw [if_neg (nI_ne0 (by omega) (by omega))]
          exact b97 s0 hs (fun u => m0 u.1)
      by_cases w : lfnd cls (Cd l k) df = none
      · rw [if_pos ((oI_no hlf).mpr w)]
        exact b58 0 ⟨fun _ => w, fun _ => rfl⟩
      · rw [if_neg (fun e => w ((oI_no hlf).mp e))]
        exact b58 1 ⟨fun e => absurd e (by decide), fun e => absurd e w⟩
    · rw [if_neg q2, if_pos rfl]
      refine fail 0 0 rfl (by decide) ?_
      unfold sNm; rw [ov_nmC, if_neg q2, if_neg q1]
