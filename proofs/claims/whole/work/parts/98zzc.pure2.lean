/-! canonical text read again is itself -/
theorem vld_semi : vld (-60) := ⟨[59], fun c hc => by rw [List.mem_singleton] at hc; subst hc; decide, by decide +kernel, Or.inr (Or.inr (Or.inr (by decide)))⟩
theorem jT2_vld : ∀ cls : List Cl, (∀ c ∈ cls, tkG c) → ∀ t ∈ jT2 cls, vld t ∧ isV t
  | [], _, t, ht => by cases ht
  | [c], h, t, ht => (h c List.mem_cons_self).2.1 t ht
  | c :: d :: r, h, t, ht => by
    rw [jT2] at ht
    rcases List.mem_append.mp ht with y | y
    · exact (h c List.mem_cons_self).2.1 t y
    · rcases List.mem_cons.mp y with y | y
      · rw [y]; exact ⟨vld_semi, Or.inr (Or.inr (Or.inr (by decide)))⟩
      · exact jT2_vld (d :: r) (fun x hx => h x (List.mem_cons_of_mem _ hx)) t y
theorem isT_n0 {c : Int64} (h : isT c) : c ≠ 0 := fun z => by rw [z] at h; revert h; unfold isT; decide
theorem canon {cls : List Cl} {F P A : List Int64} {y : List Cl × List Int64 × List Int64 × Nat} (hg : ∀ c ∈ cls, tkG c) (h : sRead (Cd (txB cls)) F P A = .ok y) : txB y.1 = txB cls := by
  obtain ⟨r1, r2, r3, r4, r5⟩ := sRead_ok h
  have hv : ∀ t ∈ jT2 cls, vld t := fun t ht => (jT2_vld cls hg t ht).1
  have hB : txB cls = txt 0 (jT2 cls) := by unfold txB cB; rw [txt_is]; rfl
  obtain ⟨q1, q2⟩ := rt_l (l := txB cls) (jT2 cls) 0 [] 0 (by rw [hB]; rfl) hv (by show skp _ = 0 + skp _; rw [List.length_nil, List.drop_zero, Nat.zero_add])
  have q1 : ∀ i, i < (jT2 cls).length → Cd (txB cls) i = (jT2 cls).getD i 0 := fun i hi => by have := q1 i hi; rw [Nat.zero_add] at this; exact this
  rw [Nat.zero_add] at q2
  have hm : ∀ i, i < (jT2 cls).length → (jT2 cls).getD i 0 ∈ jT2 cls := fun i hi => by
    rw [List.getD_eq_getElem?_getD, List.getElem?_eq_getElem hi]; exact List.getElem_mem hi
  have e : y.2.2.2 = (jT2 cls).length := by
    rcases Nat.lt_trichotomy y.2.2.2 (jT2 cls).length with z | z | z
    · exfalso
      rw [q1 _ z] at r4
      obtain ⟨_, _, _, t⟩ := hv _ (hm _ z)
      exact isT_n0 t r4
    · exact z
    · exact absurd q2 (isT_n0 (r3 _ (Nat.zero_le _) z))
  have e2 : sl (Cd (txB cls)) 0 y.2.2.2 = jT2 cls := by
    rw [e]
    refine List.ext_getElem (by rw [sl_len]; omega) fun i h1 h2 => ?_
    have := q1 i h2
    have g : (sl (Cd (txB cls)) 0 (jT2 cls).length)[i] = Cd (txB cls) i := by simp [sl]
    rw [g, this, List.getD_eq_getElem?_getD, List.getElem?_eq_getElem h2]; rfl
  show (cB (jT2 y.1)).1 = (cB (jT2 cls)).1
  rw [r2, e2]
/-! what is written is below 128 -/
def asc (l : List Int32) : Prop := ∀ c ∈ l, c &&& 255 = c
theorem asc_nI {m : Nat} (h : m < 256) : nI m &&& 255 = nI m := by
  have := fa_mask m 8
  rw [show (255 : Int32) = nI (2 ^ 8 - 1) from rfl, this, Nat.mod_eq_of_lt (by omega)]
theorem asc.app {x y : List Int32} (h : asc x) (g : asc y) : asc (x ++ y) := fun c hc => by
  rcases List.mem_append.mp hc with t | t
  · exact h c t
  · exact g c t
theorem asc_one {m : Nat} (h : m < 256) : asc [nI m] := fun c hc => by
  rw [List.mem_singleton] at hc; subst hc; exact asc_nI h
theorem asc_nil : asc [] := fun c hc => by cases hc
theorem wlf_asc : ∀ (f n : Nat), asc (wlf f n)
  | 0, n => by rw [wlf]; exact asc_nil
  | f + 1, n => by
    rw [wlf]; split
    · exact asc_nil
    · exact (wlf_asc f _).app (asc_one (by omega))
theorem numB_asc (n : Nat) : asc (numB n) := by
  unfold numB
  refine (asc.app ?_ ?_).app (asc_one (by omega))
  · split
    · exact asc_one (by omega)
    · exact asc_nil
  · split
    · exact asc_one (by omega)
    · exact asc_nil
theorem cb_asc {c : Int64} (h : isV c) : asc (cbytes c) := by
  rcases h with ⟨n, h1, h2, rfl⟩ | ⟨i, h1, rfl⟩ | h | h
  · rw [cb_wd h1 h2]; exact wlf_asc 12 n
  · rw [cb_o h1]; exact wlf_asc 12 _
  · rw [cb_n h]; exact numB_asc _
  · rcases isSg_c h with rfl | rfl | rfl | rfl <;> (unfold asc; decide)
theorem cf_asc : ∀ (ts : List Int64) (s : List Int32 × Int32), (∀ c ∈ ts, isV c) → asc s.1 → asc (ts.foldl cput s).1
  | [], s, _, h => h
  | c :: r, s, h, hs => by
    rw [List.foldl_cons]
    refine cf_asc r _ (fun d hd => h d (List.mem_cons_of_mem _ hd)) ?_
    unfold cput
    refine (hs.app ?_).app (cb_asc (h c List.mem_cons_self))
    split
    · exact asc_nil
    · exact asc_one (m := 32) (by omega)
theorem txB_asc {cls : List Cl} (h : ∀ c ∈ cls, tkG c) : asc (txB cls) := cf_asc _ _ (fun t ht => (jT2_vld cls h t ht).2) asc_nil
