/-! SPEC: changes -/
def sCh1 (C : Nat → Int64) (F P A : List Int64) (cls : List Cl) (k : Nat) : Except Er (List Cl × Nat) :=
  if C k = -3015 then eb (tk C k) fun k1 => eb (nmC C k1) fun _ => match lfnd cls (C k1) false with
    | none => .error (k1, 3)
    | some p => eb (tk C k1) fun k2 => .ok (cls.eraseIdx p, k2)
  else if C k = -3016 then eb (tk C k) fun k1 => eb (sClause C F 2 cls P A k1) fun y => match lfnd cls y.1.2.1 (isDf y.1) with
    | none => .error (k1, 3)
    | some p => .ok (cls.set p y.1, y.2.2.2)
  else if C k = -3017 then eb (tk C k) fun k1 => eb (sClause C F 1 cls P A k1) fun y => .ok (cls ++ [y.1], y.2.2.2)
  else .error (k, 0)
def isCh (c : Int64) : Bool := decide (c = -3015) || decide (c = -3016) || decide (c = -3017)
def sCh (C : Nat → Int64) (F P A : List Int64) : Nat → Nat → List Cl → Nat → Except Er (List Cl × Nat)
  | 0, _, _, k => .error (k, 0)
  | fu + 1, n, cls, k => if n = 12 then .error (k, if isCh (C k) then 4 else 0) else eb (sCh1 C F P A cls k) fun x =>
    if C x.2 = 0 then .ok x else eb (exC C (-60) x.2) fun k2 => sCh C F P A fu (n + 1) x.1 k2
def sRid (C : Nat → Int64) (F P A : List Int64) (cls : List Cl) : Except Er (List Cl × Nat) := if C 0 = -2000 then .error (0, 1) else sCh C F P A 13 0 cls 0
/-- canonical bytes are at most twice the text's -/
theorem pl_step {l : List Int32} {k : Nat} : pl l k + hdLen (l.drop (pl l k)) ≤ pl l (k + 1) := by
  show _ ≤ nxj l (pl l k)
  unfold nxj; omega
theorem cp_len {l : List Int32} {k : Nat} (hb : byt l) (h : isT (Cd l k)) (s : List Int32 × Int32) : (cput s (Cd l k)).1.length + 2 * pl l k ≤ s.1.length + 2 * pl l (k + 1) := by
  obtain ⟨q1, q2, q3⟩ := tok_put (hb.drop (pl l k)) h s
  have ho : ovr (l.drop (pl l k)) = false := by
    cases z : ovr (l.drop (pl l k)) with
    | false => rfl
    | true =>
      have := (ovr_iff (k := k) hb).mp z
      rw [this] at h
      exact absurd h (by unfold isT; decide)
  have h1 := tokB_le ho q3
  have h2 := pl_step (l := l) (k := k)
  have h3 : 1 ≤ hdLen (l.drop (pl l k)) := by
    cases hd : l.drop (pl l k) with
    | nil => exact absurd hd q3
    | cons c r => exact hdLen_pos c r
  have q1' : cput s (Cd l k) = _ := q1
  rw [q1']
  simp only [List.length_append]
  split
  · simp only [List.length_nil]; omega
  · simp only [List.length_cons, List.length_nil]; omega
theorem cl_len {l : List Int32} {k : Nat} (hb : byt l) : ∀ (n : Nat), aT (Cd l) k (k + n) → ∀ s, ((sl (Cd l) k (k + n)).foldl cput s).1.length + 2 * pl l k ≤ s.1.length + 2 * pl l (k + n)
  | 0, _, s => by rw [Nat.add_zero, sl_self]; exact Nat.le_refl _
  | n + 1, h, s => by
    have ih := cl_len hb n (fun i h1 h2 => h i h1 (by omega)) s
    rw [show k + (n + 1) = (k + n) + 1 by omega, ← sl_snoc (Cd l) (show k ≤ k + n by omega), List.foldl_append, List.foldl_cons, List.foldl_nil]
    have := cp_len hb (h (k + n) (by omega) (by omega)) ((sl (Cd l) k (k + n)).foldl cput s)
    omega
theorem cB_len {l : List Int32} {k n : Nat} (hb : byt l) (hk : k ≤ n) (h : aT (Cd l) k n) : (cB (sl (Cd l) k n)).1.length + 2 * pl l k ≤ 2 * pl l n := by
  have := cl_len (k := k) hb (n - k) (by rw [show k + (n - k) = n by omega]; exact h) ([], 0)
  rw [show k + (n - k) = n by omega] at this
  unfold cB
  simpa using this
theorem pl_mono {l : List Int32} : ∀ (n k : Nat), pl l k ≤ pl l (k + n)
  | 0, k => Nat.le_refl _
  | n + 1, k => by
    have := pl_mono (l := l) n k
    have := pl_step (l := l) (k := k + n)
    show _ ≤ pl l (k + n + 1); omega
theorem pl_mono2 {l : List Int32} {k n : Nat} (h : k ≤ n) : pl l k ≤ pl l n := by
  have := pl_mono (l := l) (n - k) k
  rwa [show k + (n - k) = n by omega] at this
/-! the reference: change -/
theorem mAt_reset {M : Nat} {μ : JM} {l : List Int32} {ts : List Int64} {k : Nat} (h : mAt M μ l ts k) : mAt M (jsI (jsI μ M 20 0) M 21 0) l [] k := by
  obtain ⟨⟨g1, g2, g3, g4, g5, g6, g7, g8, g9⟩, hb⟩ := h
  have s : sm M [20, 21] [] μ (jsI (jsI μ M 20 0) M 21 0) := (sm.sF (by decide)).tr (sm.sF (by decide))
  refine ⟨⟨s.mt g1, ⟨(s.fI (by decide)).trans g2.1, by rw [s.aI (by decide) (by decide)]; exact g2.2.1, g2.2.2⟩, lk_keep (fun k q1 q2 => s.fI (by simp; omega)) g3, ⟨?_, Sg.nil, by simp [cB]⟩, ?_, (s.fI (by decide)).trans g6, g7, by simp [cB], g9⟩, hb⟩
  · rw [jI_sI, if_neg (by omega), jI_sI, if_pos ⟨rfl, rfl⟩]; rfl
  · rw [jI_sI, if_pos ⟨rfl, rfl⟩]; rfl
def HF : List Nat := [13, 14, 15, 16, 17, 18, 20, 21, 5, 8, 29, 57, 51, 55, 56]
def HA : List Nat := [4, 5, 6, 7, 9, 13, 14, 15, 16, 17, 18, 19, 21, 22, 23, 24, 25, 26, 27, 28, 29, 30, 35, 36, 37]
def mH (M : Nat) (ν : JM) (l : List Int32) (F P A : List Int64) (k : Nat) (r : Int32) (x : Except Er (List Cl × Nat)) : Prop := mWl M ν 5 4 5 6 P ∧ mWl M ν 8 6 7 12 A ∧ match x with
  | .error f => r = 0 ∧ mBad M ν l f
  | .ok y => r = 1 ∧ k ≤ y.2 ∧ (∃ ts, mAt M ν l ts y.2) ∧ (∃ bm, mPq M ν y.1 bm ∧ bm ≤ 1900 + 2 * pl l y.2) ∧ CI M ν l F [] false
theorem pfx_f {P Q : List Int64} (h : pfx false P Q) : Q = P := h.2 rfl
theorem mWe.wl {M : Nat} {μ : JM} {f a s mx : Nat} {P : List Int64} (h : mWe false M μ f a s P) (hm : P.length ≤ mx) : mWl M μ f a s mx P := ⟨h.2 rfl, hm, h.1⟩
theorem m_strike {M bm : Nat} {μ : JM} {l : List Int32} {ts : List Int64} {k : Nat} {F P A : List Int64} {cls : List Cl} (h : mAt M μ l ts k) (hk : Cd l k = -3015) (hC : CI M μ l F [] false) (hQ : mPq M μ cls bm) (hb : bm ≤ 1900 + 2 * pl l k) (hP : mWl M μ 5 4 5 6 P) (hA : mWl M μ 8 6 7 12 A) :
    Res (jcl (fX11_takes M μ) fun r56 μ57 => if r56 = 0 then (some ((0 : Int32), μ57, 0, 0)) else (jck ((jT μ57 M).1 == 12) <| jcl (fX11_isName M μ57) fun r67 μ68 => if r67 = 0 then (some ((0 : Int32), μ68, 0, 0)) else (jck ((jT μ68 M).1 == 12) <| jcl (fX11_placed M (0 : Int32) μ68) fun r78 μ79 => if 0 ≤ r78 then (jck ((jT μ79 M).1 == 12) <| jlt (jsI μ79 M 51 ((jI μ79 M 51) - (1 : Int32))) fun μ89 => fX11_change_b68 jfuel M r78 μ89) else (jck ((jT μ79 M).1 == 12) <| jcl (fX11_fails M (3 : Int32) (jI μ79 M 15) μ79) fun r93 μ94 => jck (jbl r93) <| some (r93, μ94, 0, 0)))))
      (fun r ν => sm M HF HA μ ν ∧ clsLow M μ ν ∧ mH M ν l F P A k r (eb (tk (Cd l) k) fun k1 => eb (nmC (Cd l) k1) fun _ => match lfnd cls (Cd l k1) false with | none => .error (k1, 3) | some p => eb (tk (Cd l) k1) fun k2 => .ok (cls.eraseIdx p, k2))) := by
  obtain ⟨h1, h2, h3⟩ := mA_ok h
  have bad : ∀ {ν : JM} {f : Er} {fs as : List Nat}, sm M fs as μ ν → (∀ i ∈ fs, i ∈ HF) → (∀ i ∈ as, i ∈ HA) → (∀ i ∈ [5, 8], i ∉ fs) → (∀ i ∈ [4, 5, 6, 7, 20], i ∉ as) → (∀ i ∈ DA, i ∉ as) → mBad M ν l f → sm M HF HA μ ν ∧ clsLow M μ ν ∧ mH M ν l F P A k 0 (.error f) := by
    intro ν f fs as s q1 q2 q3 q4 q5 q6
    exact ⟨s.wk q1 q2, clsLow.sm s q5 (q4 20 (by decide)), hP.sm s (q3 5 (by decide)) (by decide) (by decide) (q4 4 (by decide)) (q4 5 (by decide)), hA.sm s (q3 8 (by decide)) (by decide) (by decide) (q4 6 (by decide)) (q4 7 (by decide)), rfl, q6⟩
  refine st_take h (isT_lit (-3015) hk (by decide) (z := -3015) (by decide)) (fun ν f hf hs hb => ?_) (fun μ1 hf1 s1 hA1 => ?_)
  · rw [if_pos rfl, hf, eb_err]
    exact .ret (bad hs (by decide) (by decide) (by decide) (by decide) (by decide) hb)
  · have hM1 := s1.mt h1
    rw [if_neg (by decide), hf1, eb_ok, jck_of (by rw [hM1.1]; rfl)]
    refine st_name hA1 (fun ν f hf hs hb => ?_) (fun he1 hc => ?_)
    · rw [if_pos rfl, hf, eb_err]
      exact .ret (bad (s1.tr hs) (by decide) (by decide) (by decide) (by decide) (by decide) hb)
    · have hQ1 := hQ.sm s1 (by decide) (by decide)
      have mp := m_placed (df := false) hA1 hc hQ1.pr
      have mp' : fX11_placed M 0 μ1 = some (oI 0 (lfnd cls (Cd l (k + 1)) false), μ1, 0, 0) := mp
      rw [if_neg (by decide), he1, eb_ok, jck_of (by rw [hM1.1]; rfl), mp', jcl_0]
      cases hl : lfnd cls (Cd l (k + 1)) false with
      | none =>
        rw [if_neg (by decide), jck_of (by rw [hM1.1]; rfl)]
        refine st_fail 3 3 rfl (by decide) hA1 (fun ν hs hb => ?_)
        exact .ck jbl_0 (.ret (bad (s1.tr hs) (by decide) (by decide) (by decide) (by decide) (by decide) hb))
      | some p =>
        have hp := lfnd_lt hl
        have hcl := hQ.2.1
        have ep : oI 0 (some p) = nI p := by simp only [oI, Nat.zero_add]
        rw [ep, if_pos (show (0 : Int32) ≤ nI p from nI_le (a := 0) (by omega) (by omega)), jck_of (by rw [hM1.1]; rfl), jlt_is, hQ1.1]
        obtain ⟨m, hm⟩ : ∃ m, cls.length = m + 1 := ⟨cls.length - 1, by omega⟩
        have e51 : nI cls.length - 1 = nI m := by rw [hm, Int32.sub_eq_add_neg, ← nI_1, Int32.add_assoc, show (1 : Int32) + (-1) = 0 from by decide, Int32.add_zero]
        rw [e51]
        have s2 : sm M [51] [] μ1 (jsI μ1 M 51 (nI m)) := sm.sF (by decide)
        have v2 : jI (jsI μ1 M 51 (nI m)) M 51 = nI m := by rw [jI_sI, if_pos ⟨rfl, rfl⟩]
        generalize jsI μ1 M 51 (nI m) = μ2 at s2 v2 ⊢
        have S2 : sm M (51 :: TK) [9] μ μ2 := (s1.wk (by decide) (by decide)).tr (s2.wk (by decide) (by decide))
        refine shift_l (bm := bm) (rest := fun _ _ => none) (μ0 := μ2) (show p ≤ m by omega) (by omega) (fun μ3 s3 e3 => ?_) jfuel p μ2 (s2.mt hM1) (Nat.le_refl _) (by omega) (jfuel_gt (by omega)) v2 sm.rf (fun i => by
          by_cases z : i < p ∨ p ≤ i
          · rw [if_pos z]; exact ⟨rfl, rfl⟩
          · omega)
        have S3 : sm M (51 :: TK) [9, 35, 36] μ μ3 := (S2.wk (by decide) (by decide)).tr (s3.wk (by decide) (by decide))
        have s13 : sm M [51] [35, 36] μ1 μ3 := (s2.wk (by decide) (by decide)).tr (s3.wk (by decide) (by decide))
        have hQ3 : mPq M μ3 (cls.eraseIdx p) bm := by
          have el : (cls.eraseIdx p).length = m := by rw [List.length_eraseIdx, if_pos hp]; omega
          obtain ⟨g1, g2, g3, g4, g5⟩ := hQ1
          refine ⟨by rw [s3.fI (by decide), v2, el], by omega, (s13.fI (by decide)).trans g3, g4, fun i hi => ?_⟩
          rw [el] at hi
          rw [getD_erase]
          obtain ⟨w1, w2⟩ := e3 i hi
          rw [s2.aI (by decide) (by decide)] at w1 w2
          have gen : ∀ j, j < cls.length → (if i < p then i else i + 1) = j → mPo M μ3 i bm (cls.getD j cl0) := by
            intro j hj ej
            obtain ⟨o, o1, o2, o3, o4, o5⟩ := g5 j hj
            rw [ej] at w1 w2
            exact ⟨o, w1.trans o1, w2.trans o2, o3, by rw [s13.aI (by decide) (by decide)]; exact o4, o5⟩
          by_cases z : i < p
          · rw [if_pos z]; exact gen i (by omega) (if_pos z)
          · rw [if_neg z]; exact gen (i + 1) (by omega) (if_neg z)
        refine st_take (hA1.sm s13 (by decide) (by decide)) (isT_free hc) (fun ν f hf hs hb => ?_) (fun μ4 hf4 s4 hA4 => ?_)
        · rw [hf]
          exact .ck jbl_0 (.ret (bad (S3.tr (hs.wk (by decide) (by decide))) (by decide) (by decide) (by decide) (by decide) (by decide) hb))
        · rw [hf4]
          have S4 : sm M (51 :: TK) [9, 35, 36] μ μ4 := S3.tr (s4.wk (by decide) (by decide))
          refine .ck jbl_1 (.ret ⟨S4.wk (by decide) (by decide), clsLow.sm S4 (by decide) (by decide), hP.sm S4 (by decide) (by decide) (by decide) (by decide) (by decide), hA.sm S4 (by decide) (by decide) (by decide) (by decide) (by decide), rfl, by show k ≤ k + 1 + 1; omega, ⟨_, hA4⟩, ⟨bm, hQ3.sm s4 (by decide) (by decide), ?_⟩, hC.sm S4 (by decide) (by decide)⟩)
          have : pl l k ≤ pl l (k + 1 + 1) := pl_mono2 (by omega)
          show bm ≤ 1900 + 2 * pl l (k + 1 + 1); omega
