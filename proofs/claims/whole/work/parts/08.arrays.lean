/-! arrays, stores by type, new cells -/
theorem jty_plain (t j : Nat) : (jtys t j = .float → False) ∧ (jtys t j = .double → False) := by
  have key : ∀ t, t < 13 → ∀ j, j < 72 → jtys t j ≠ .float ∧ jtys t j ≠ .double := by decide +kernel
  by_cases ht : t < 13
  · by_cases hj : j < 72
    · exact key t ht j hj
    · have e : jtys t j = jtys t 71 := by
        have q : t = 0 ∨ t = 1 ∨ t = 2 ∨ t = 3 ∨ t = 4 ∨ t = 5 ∨ t = 6 ∨ t = 7 ∨ t = 8 ∨ t = 9 ∨ t = 10 ∨ t = 11 ∨ t = 12 := by omega
        obtain ⟨i, rfl⟩ : ∃ i, j = i + 72 := ⟨j - 72, by omega⟩
        rcases q with rfl | rfl | rfl | rfl | rfl | rfl | rfl | rfl | rfl | rfl | rfl | rfl | rfl <;> rfl
      rw [e]; exact key t ht 71 (by decide)
  · have e : jtys t j = .int := by
      obtain ⟨i, rfl⟩ : ∃ i, t = i + 13 := ⟨t - 13, by omega⟩
      rfl
    rw [e]; exact ⟨by simp, by simp⟩
section WAR
variable {b : Nat} {Θ : JE} {own : String} {cc : ByteArray} {ml : Nat} {ret : Option FieldType} {FR LO RC RS : Nat} {Γ : JG} {μ : JM} {k n pc : Nat} {L : List (Nat × Value)} {st : List Value}
theorem wa_putI {i t q a : Nat} {v : Int32} (X : jX b Θ own cc ml ret FR LO RC RS) (d : decode cc pc = .ok (.putfield i, 3)) (F : jF own i t q) (hT : (jT μ a).1 = t) (hy : jtys t q = .int) (hfin : ((jC t).2.1 q).2.2.2 = false) (h : WA b Θ ml Γ (jsI μ a q v) k n (pc + 3) L st) : WA b Θ ml Γ μ k n pc L (.int v :: .ref a :: st) :=
  wa_put (ν := jsI μ a q v) X d F hT hfin (by rw [hy]; rfl) (by rw [hy]; rfl) rfl rfl (fun x hx => jI_sI_ne hx) (fun x hx => rfl) (fun x hx => rfl) (jV_I (by simp only [jV, jval, hy])) h
theorem wa_putZ {i t q a : Nat} {v : Int32} (X : jX b Θ own cc ml ret FR LO RC RS) (d : decode cc pc = .ok (.putfield i, 3)) (F : jF own i t q) (hT : (jT μ a).1 = t) (hy : jtys t q = .boolean) (hb : jbl v = true) (hfin : ((jC t).2.1 q).2.2.2 = false) (h : WA b Θ ml Γ (jsI μ a q v) k n (pc + 3) L st) : WA b Θ ml Γ μ k n pc L (.int v :: .ref a :: st) :=
  wa_put (ν := jsI μ a q v) X d F hT hfin (by rw [hy]; exact jbl_nar hb) (by
    rw [hy]
    simp only [jbl, Bool.or_eq_true, decide_eq_true_eq] at hb
    rcases hb with rfl | rfl <;> rfl) rfl rfl (fun x hx => jI_sI_ne hx) (fun x hx => rfl) (fun x hx => rfl) (jV_I (by simp only [jV, jval, hy])) h
theorem wa_putJ {i t q a : Nat} {v : Int64} (X : jX b Θ own cc ml ret FR LO RC RS) (d : decode cc pc = .ok (.putfield i, 3)) (F : jF own i t q) (hT : (jT μ a).1 = t) (hy : jtys t q = .long) (hfin : ((jC t).2.1 q).2.2.2 = false) (h : WA b Θ ml Γ (jsJ μ a q v) k n (pc + 3) L st) : WA b Θ ml Γ μ k n pc L (.long v :: .ref a :: st) :=
  wa_put (ν := jsJ μ a q v) X d F hT hfin (by rw [hy]; rfl) (by rw [hy]; rfl) rfl rfl (fun x hx => rfl) (fun x hx => jJ_sJ_ne hx) (fun x hx => rfl) (jV_J (by simp only [jV, jval, hy])) h
theorem wa_putP {i t q a : Nat} {v : Option Nat} (X : jX b Θ own cc ml ret FR LO RC RS) (d : decode cc pc = .ok (.putfield i, 3)) (F : jF own i t q) (hT : (jT μ a).1 = t) (hy : (∃ C, jtys t q = .object C) ∨ ∃ C, jtys t q = .array C) (hfin : ((jC t).2.1 q).2.2.2 = false) (h : WA b Θ ml Γ (jsP μ a q v) k n (pc + 3) L st) : WA b Θ ml Γ μ k n pc L (va_rf v :: .ref a :: st) :=
  wa_put (ν := jsP μ a q v) X d F hT hfin (by rcases hy with ⟨C, e⟩ | ⟨C, e⟩ <;> rw [e] <;> cases v <;> rfl) (by rcases hy with ⟨C, e⟩ | ⟨C, e⟩ <;> rw [e] <;> cases v <;> rfl) rfl rfl (fun x hx => rfl) (fun x hx => rfl) (fun x hx => jP_sP_ne hx) (jV_P (by rcases hy with ⟨C, e⟩ | ⟨C, e⟩ <;> rw [e] <;> intro z <;> rfl)) h
theorem wa_putFI {i t q a : Nat} {v : Int32} (X : jX b Θ own cc ml ret FR LO RC RS) (hin : (eH Θ).name = "<init>") (d : decode cc pc = .ok (.putfield i, 3)) (F : jF own i t q) (hT : (jT μ a).1 = t) (hy : jtys t q = .int) (hfin : ((jC t).2.1 q).2.2.2 = true) (hdecl : ((jC t).2.1 q).1 = own) (h : WA b Θ ml Γ (jsI μ a q v) k n (pc + 3) L st) : WA b Θ ml Γ μ k n pc L (.int v :: .ref a :: st) :=
  wa_putF (ν := jsI μ a q v) X hin d F hT hfin hdecl (by rw [hy]; rfl) (by rw [hy]; rfl) rfl rfl (fun x hx => jI_sI_ne hx) (fun x hx => rfl) (fun x hx => rfl) (jV_I (by simp only [jV, jval, hy])) h
theorem wa_putFP {i t q a : Nat} {v : Option Nat} (X : jX b Θ own cc ml ret FR LO RC RS) (hin : (eH Θ).name = "<init>") (d : decode cc pc = .ok (.putfield i, 3)) (F : jF own i t q) (hT : (jT μ a).1 = t) (hy : (∃ C, jtys t q = .object C) ∨ ∃ C, jtys t q = .array C) (hfin : ((jC t).2.1 q).2.2.2 = true) (hdecl : ((jC t).2.1 q).1 = own) (h : WA b Θ ml Γ (jsP μ a q v) k n (pc + 3) L st) : WA b Θ ml Γ μ k n pc L (va_rf v :: .ref a :: st) :=
  wa_putF (ν := jsP μ a q v) X hin d F hT hfin hdecl (by rcases hy with ⟨C, e⟩ | ⟨C, e⟩ <;> rw [e] <;> cases v <;> rfl) (by rcases hy with ⟨C, e⟩ | ⟨C, e⟩ <;> rw [e] <;> cases v <;> rfl) rfl rfl (fun x hx => rfl) (fun x hx => rfl) (fun x hx => jP_sP_ne hx) (jV_P (by rcases hy with ⟨C, e⟩ | ⟨C, e⟩ <;> rw [e] <;> intro z <;> rfl)) h
theorem wa_iald {i : Int32} {a : Nat} (X : jX b Θ own cc ml ret FR LO RC RS) (d : decode cc pc = .ok (.iaload, 1)) (hT : (jT μ a).1 = 101) (hi : jin i (jT μ a).2 = true) (h : WA b Θ ml Γ μ k n (pc + 1) L ((.int (jI μ a i.toNatClampNeg)) :: st)) : WA b Θ ml Γ μ k n pc L (.int i :: .ref a :: st) := by
  intro H locs ls hR hS hL
  obtain ⟨cA, ⟨hA1, hA2⟩, hH⟩ := (hR.2.2 a (by omega)).2.2.2 (by omega)
  rw [hT] at hA1 hA2 hH
  have hin := jin_in hi
  have hlt : i.toNatClampNeg < (jT μ a).2 := Nat.not_le.mp fun q => hin (Or.inr q)
  exact W.iald (v := (.int (jI μ a i.toNatClampNeg))) X.1 X.2.1 hH (hA1 _ _) (fun q => by cases q) (by show ¬ (i < 0 ∨ (arrV _ _ _).slots.size ≤ _); rw [arrV_size]; exact hin) (by show (arrV _ _ _).slots[_]? = _; rw [arrV_read _ _ hlt]) rfl rfl d (h H locs ls hR hS hL)
theorem wa_bald {i : Int32} {a : Nat} (X : jX b Θ own cc ml ret FR LO RC RS) (d : decode cc pc = .ok (.baload, 1)) (hT : (jT μ a).1 = 100) (hi : jin i (jT μ a).2 = true) (h : WA b Θ ml Γ μ k n (pc + 1) L ((.int (jI μ a i.toNatClampNeg)) :: st)) : WA b Θ ml Γ μ k n pc L (.int i :: .ref a :: st) := by
  intro H locs ls hR hS hL
  obtain ⟨cA, ⟨hA1, hA2⟩, hH⟩ := (hR.2.2 a (by omega)).2.2.2 (by omega)
  rw [hT] at hA1 hA2 hH
  have hin := jin_in hi
  have hlt : i.toNatClampNeg < (jT μ a).2 := Nat.not_le.mp fun q => hin (Or.inr q)
  exact W.bald (v := (.int (jI μ a i.toNatClampNeg))) X.1 X.2.1 hH (hA1 _ _) (fun q => by cases q) (by show ¬ (i < 0 ∨ (arrV _ _ _).slots.size ≤ _); rw [arrV_size]; exact hin) (by show (arrV _ _ _).slots[_]? = _; rw [arrV_read _ _ hlt]) rfl rfl d (h H locs ls hR hS hL)
theorem wa_zald {i : Int32} {a : Nat} (X : jX b Θ own cc ml ret FR LO RC RS) (d : decode cc pc = .ok (.baload, 1)) (hT : (jT μ a).1 = 103) (hi : jin i (jT μ a).2 = true) (h : WA b Θ ml Γ μ k n (pc + 1) L ((.int (jI μ a i.toNatClampNeg)) :: st)) : WA b Θ ml Γ μ k n pc L (.int i :: .ref a :: st) := by
  intro H locs ls hR hS hL
  obtain ⟨cA, ⟨hA1, hA2⟩, hH⟩ := (hR.2.2 a (by omega)).2.2.2 (by omega)
  rw [hT] at hA1 hA2 hH
  have hin := jin_in hi
  have hlt : i.toNatClampNeg < (jT μ a).2 := Nat.not_le.mp fun q => hin (Or.inr q)
  exact W.zald (v := (.int (jI μ a i.toNatClampNeg))) X.1 X.2.1 hH (hA1 _ _) (fun q => by cases q) (by show ¬ (i < 0 ∨ (arrV _ _ _).slots.size ≤ _); rw [arrV_size]; exact hin) (by show (arrV _ _ _).slots[_]? = _; rw [arrV_read _ _ hlt]) rfl rfl d (h H locs ls hR hS hL)
theorem wa_lald {i : Int32} {a : Nat} (X : jX b Θ own cc ml ret FR LO RC RS) (d : decode cc pc = .ok (.laload, 1)) (hT : (jT μ a).1 = 102) (hi : jin i (jT μ a).2 = true) (h : WA b Θ ml Γ μ k n (pc + 1) L ((.long (jJ μ a i.toNatClampNeg)) :: st)) : WA b Θ ml Γ μ k n pc L (.int i :: .ref a :: st) := by
  intro H locs ls hR hS hL
  obtain ⟨cA, ⟨hA1, hA2⟩, hH⟩ := (hR.2.2 a (by omega)).2.2.2 (by omega)
  rw [hT] at hA1 hA2 hH
  have hin := jin_in hi
  have hlt : i.toNatClampNeg < (jT μ a).2 := Nat.not_le.mp fun q => hin (Or.inr q)
  exact W.lald (v := (.long (jJ μ a i.toNatClampNeg))) X.1 X.2.1 hH (hA1 _ _) (fun q => by cases q) (by show ¬ (i < 0 ∨ (arrV _ _ _).slots.size ≤ _); rw [arrV_size]; exact hin) (by show (arrV _ _ _).slots[_]? = _; rw [arrV_read _ _ hlt]) rfl rfl d (h H locs ls hR hS hL)
theorem wa_aald {i : Int32} {a t : Nat} {C : String} (X : jX b Θ own cc ml ret FR LO RC RS) (d : decode cc pc = .ok (.aaload, 1)) (hT : (jT μ a).1 = t) (h0 : 103 < t) (hy : jaty t = .object C) (hcn : jcon t μ a = .inr (.inr (.inr (.inr (jP μ a))))) (hi : jin i (jT μ a).2 = true) (h : WA b Θ ml Γ μ k n (pc + 1) L (va_rf (jP μ a i.toNatClampNeg) :: st)) : WA b Θ ml Γ μ k n pc L (.int i :: .ref a :: st) := by
  intro H locs ls hR hS hL
  obtain ⟨cA, ⟨hA1, hA2⟩, hH⟩ := (hR.2.2 a (by omega)).2.2.2 (by omega)
  rw [hT] at hA1 hA2 hH
  rw [hcn] at hH
  rw [hy] at hA1
  have hin := jin_in hi
  have hlt : i.toNatClampNeg < (jT μ a).2 := Nat.not_le.mp fun q => hin (Or.inr q)
  exact W.aald (v := va_rf (jP μ a i.toNatClampNeg)) (ty := .object C) X.1 X.2.1 hH (hA1 _ _) rfl (fun q => by cases q) (by show ¬ (i < 0 ∨ (arrV _ _ _).slots.size ≤ _); rw [arrV_size]; exact hin) (by show (arrV _ _ _).slots[_]? = _; rw [arrV_read _ _ hlt]) rfl rfl d (h H locs ls hR hS hL)
theorem wa_iast {i : Int32} {v : Int32} {a : Nat} (X : jX b Θ own cc ml ret FR LO RC RS) (d : decode cc pc = .ok (.iastore, 1)) (hT : (jT μ a).1 = 101) (hi : jin i (jT μ a).2 = true) (h : WA b Θ ml Γ (jsI μ a i.toNatClampNeg v) k n (pc + 1) L st) : WA b Θ ml Γ μ k n pc L (.int v :: .int i :: .ref a :: st) := by
  intro H locs ls hR hS hL
  obtain ⟨hba, -, -, hA⟩ := hR.2.2 a (by omega)
  obtain ⟨cA, ⟨hA1, hA2⟩, hH⟩ := hA (by omega)
  rw [hT] at hA1 hA2 hH
  have hin := jin_in hi
  refine W.iast X.1 X.2.1 hH (hA1 _ _) (fun q => by cases q) (by show ¬ (i < 0 ∨ (arrV _ _ _).slots.size ≤ _); rw [arrV_size]; exact hin) rfl rfl d fun H1 e z oq => ?_
  refine h H1 _ ls (hR.upd rfl rfl (fun x hx => jI_sI_ne hx) (fun x hx => rfl) (fun x hx => rfl) z oq ⟨fun z2 => ?_, fun _ => ?_⟩) (hS.put z oq hba) hL
  · rw [show jT (jsI μ a i.toNatClampNeg v) = jT μ from rfl, hT] at z2; omega
  · rw [show jT (jsI μ a i.toNatClampNeg v) = jT μ from rfl, hT]
    refine ⟨cA, ⟨hA1, hA2⟩, ?_⟩
    rw [e]
    simp only [jcon, vp_cell_i, vp_cell_l]
    rw [arrV_store]
    congr 2
    funext q
    by_cases hq : q = i.toNatClampNeg
    · subst hq
      simp [updV, jI_sI]
    · simp [updV, jI_sI, hq]
theorem wa_bast {i : Int32} {v : Int32} {a : Nat} (X : jX b Θ own cc ml ret FR LO RC RS) (d : decode cc pc = .ok (.bastore, 1)) (hT : (jT μ a).1 = 100) (hi : jin i (jT μ a).2 = true) (h : WA b Θ ml Γ (jsI μ a i.toNatClampNeg (vp_nar .byte v)) k n (pc + 1) L st) : WA b Θ ml Γ μ k n pc L (.int v :: .int i :: .ref a :: st) := by
  intro H locs ls hR hS hL
  obtain ⟨hba, -, -, hA⟩ := hR.2.2 a (by omega)
  obtain ⟨cA, ⟨hA1, hA2⟩, hH⟩ := hA (by omega)
  rw [hT] at hA1 hA2 hH
  have hin := jin_in hi
  refine W.bast X.1 X.2.1 hH (hA1 _ _) (fun q => by cases q) (by show ¬ (i < 0 ∨ (arrV _ _ _).slots.size ≤ _); rw [arrV_size]; exact hin) rfl rfl d fun H1 e z oq => ?_
  refine h H1 _ ls (hR.upd rfl rfl (fun x hx => jI_sI_ne hx) (fun x hx => rfl) (fun x hx => rfl) z oq ⟨fun z2 => ?_, fun _ => ?_⟩) (hS.put z oq hba) hL
  · rw [show jT (jsI μ a i.toNatClampNeg (vp_nar .byte v)) = jT μ from rfl, hT] at z2; omega
  · rw [show jT (jsI μ a i.toNatClampNeg (vp_nar .byte v)) = jT μ from rfl, hT]
    refine ⟨cA, ⟨hA1, hA2⟩, ?_⟩
    rw [e]
    simp only [jcon, vp_cell_i, vp_cell_l]
    rw [arrV_store]
    congr 2
    funext q
    by_cases hq : q = i.toNatClampNeg
    · subst hq
      simp [updV, jI_sI, narrow, vp_nar]
    · simp [updV, jI_sI, narrow, vp_nar, hq]
theorem wa_zast {i : Int32} {v : Int32} {a : Nat} (X : jX b Θ own cc ml ret FR LO RC RS) (d : decode cc pc = .ok (.bastore, 1)) (hT : (jT μ a).1 = 103) (hi : jin i (jT μ a).2 = true) (h : WA b Θ ml Γ (jsI μ a i.toNatClampNeg (vp_nar .boolean v)) k n (pc + 1) L st) : WA b Θ ml Γ μ k n pc L (.int v :: .int i :: .ref a :: st) := by
  intro H locs ls hR hS hL
  obtain ⟨hba, -, -, hA⟩ := hR.2.2 a (by omega)
  obtain ⟨cA, ⟨hA1, hA2⟩, hH⟩ := hA (by omega)
  rw [hT] at hA1 hA2 hH
  have hin := jin_in hi
  refine W.zast X.1 X.2.1 hH (hA1 _ _) (fun q => by cases q) (by show ¬ (i < 0 ∨ (arrV _ _ _).slots.size ≤ _); rw [arrV_size]; exact hin) rfl rfl d fun H1 e z oq => ?_
  refine h H1 _ ls (hR.upd rfl rfl (fun x hx => jI_sI_ne hx) (fun x hx => rfl) (fun x hx => rfl) z oq ⟨fun z2 => ?_, fun _ => ?_⟩) (hS.put z oq hba) hL
  · rw [show jT (jsI μ a i.toNatClampNeg (vp_nar .boolean v)) = jT μ from rfl, hT] at z2; omega
  · rw [show jT (jsI μ a i.toNatClampNeg (vp_nar .boolean v)) = jT μ from rfl, hT]
    refine ⟨cA, ⟨hA1, hA2⟩, ?_⟩
    rw [e]
    simp only [jcon, vp_cell_i, vp_cell_l]
    rw [arrV_store]
    congr 2
    funext q
    by_cases hq : q = i.toNatClampNeg
    · subst hq
      simp [updV, jI_sI, narrow, vp_nar]
    · simp [updV, jI_sI, narrow, vp_nar, hq]
theorem wa_last {i : Int32} {v : Int64} {a : Nat} (X : jX b Θ own cc ml ret FR LO RC RS) (d : decode cc pc = .ok (.lastore, 1)) (hT : (jT μ a).1 = 102) (hi : jin i (jT μ a).2 = true) (h : WA b Θ ml Γ (jsJ μ a i.toNatClampNeg v) k n (pc + 1) L st) : WA b Θ ml Γ μ k n pc L (.long v :: .int i :: .ref a :: st) := by
  intro H locs ls hR hS hL
  obtain ⟨hba, -, -, hA⟩ := hR.2.2 a (by omega)
  obtain ⟨cA, ⟨hA1, hA2⟩, hH⟩ := hA (by omega)
  rw [hT] at hA1 hA2 hH
  have hin := jin_in hi
  refine W.last X.1 X.2.1 hH (hA1 _ _) (fun q => by cases q) (by show ¬ (i < 0 ∨ (arrV _ _ _).slots.size ≤ _); rw [arrV_size]; exact hin) rfl rfl d fun H1 e z oq => ?_
  refine h H1 _ ls (hR.upd rfl rfl (fun x hx => rfl) (fun x hx => jJ_sJ_ne hx) (fun x hx => rfl) z oq ⟨fun z2 => ?_, fun _ => ?_⟩) (hS.put z oq hba) hL
  · rw [show jT (jsJ μ a i.toNatClampNeg v) = jT μ from rfl, hT] at z2; omega
  · rw [show jT (jsJ μ a i.toNatClampNeg v) = jT μ from rfl, hT]
    refine ⟨cA, ⟨hA1, hA2⟩, ?_⟩
    rw [e]
    simp only [jcon, vp_cell_i, vp_cell_l]
    rw [arrV_store]
    congr 2
    funext q
    by_cases hq : q = i.toNatClampNeg
    · subst hq
      simp [updV, jJ_sJ]
    · simp [updV, jJ_sJ, hq]
theorem wa_aast {i : Int32} {a t v : Nat} {tc : Nat} (X : jX b Θ own cc ml ret FR LO RC RS) (d : decode cc pc = .ok (.aastore, 1)) (hT : (jT μ a).1 = t) (h0 : 103 < t) (hc : 0 < tc ∧ tc < 13) (hy : jaty t = .object (jC tc).1) (hcn : ∀ ν : JM, jcon t ν a = .inr (.inr (.inr (.inr (jP ν a))))) (hv : (jT μ v).1 = tc) (hi : jin i (jT μ a).2 = true) (h : WA b Θ ml Γ (jsP μ a i.toNatClampNeg (some v)) k n (pc + 1) L st) : WA b Θ ml Γ μ k n pc L (.ref v :: .int i :: .ref a :: st) := by
  intro H locs ls hR hS hL
  obtain ⟨hba, -, -, hA⟩ := hR.2.2 a (by omega)
  obtain ⟨cA, ⟨hA1, hA2⟩, hH⟩ := hA (by omega)
  rw [hT] at hA1 hA2 hH
  rw [hcn] at hH
  have hA3 := hA2
  rw [hy] at hA3
  have hV := (hR.2.2 v (by omega)).2.2.1 (by omega)
  rw [hv] at hV
  obtain ⟨cC, iS, hK, cell, q1, q2, q3, q4⟩ := hV
  have hin := jin_in hi
  have hlt : i.toNatClampNeg < (jT μ a).2 := Nat.not_le.mp fun q => hin (Or.inr q)
  have hi0 : ¬ i < 0 := fun q => hin (Or.inl q)
  obtain ⟨kA, comp, k1, k2, k3, -⟩ := hA3
  have hcls := hK.2
  have hcomp : comp = cC := Option.some.inj (k3.symm.trans hcls.1)
  subst hcomp
  obtain ⟨kC, hkC, hki⟩ := id hcls.2
  refine W.aast X.1 X.2.1 hH (fun q h => by cases h) (fun h => by cases h) k1 k2 rfl hkC ⟨hi0, by show _ < (arrV _ _ _).slots.size; rw [arrV_size]; exact hlt⟩ q1 (fun q h => by rw [q3] at h; cases h) (by rw [q2]; exact hkC) (by rw [q2]; exact va_assign hcls) rfl rfl d fun H1 e z oq => ?_
  refine h H1 _ ls (hR.upd rfl rfl (fun x hx => rfl) (fun x hx => rfl) (fun x hx => jP_sP_ne hx) z oq ⟨fun z2 => ?_, fun _ => ?_⟩) (hS.put z oq hba) hL
  · rw [show jT (jsP μ a i.toNatClampNeg (some v)) = jT μ from rfl, hT] at z2; omega
  · rw [show jT (jsP μ a i.toNatClampNeg (some v)) = jT μ from rfl, hT]
    refine ⟨cA, ⟨hA1, hA2⟩, ?_⟩
    rw [e, hcn]
    simp only [vp_cell_q]
    rw [arrV_store]
    congr 2
    funext q
    by_cases hq : q = i.toNatClampNeg
    · subst hq
      simp [updV, jP_sP, va_rf]
    · simp [updV, jP_sP, hq]
theorem wa_aastN {i : Int32} {a t : Nat} {C : String} (X : jX b Θ own cc ml ret FR LO RC RS) (d : decode cc pc = .ok (.aastore, 1)) (hT : (jT μ a).1 = t) (h0 : 103 < t) (hy : jaty t = .object C) (hcn : ∀ ν : JM, jcon t ν a = .inr (.inr (.inr (.inr (jP ν a))))) (hi : jin i (jT μ a).2 = true) (h : WA b Θ ml Γ (jsP μ a i.toNatClampNeg none) k n (pc + 1) L st) : WA b Θ ml Γ μ k n pc L (.null :: .int i :: .ref a :: st) := by
  intro H locs ls hR hS hL
  obtain ⟨hba, -, -, hA⟩ := hR.2.2 a (by omega)
  obtain ⟨cA, ⟨hA1, hA2⟩, hH⟩ := hA (by omega)
  rw [hT] at hA1 hA2 hH
  rw [hcn] at hH
  have hA3 := hA1
  rw [hy] at hA3
  have hin := jin_in hi
  refine va_WaastN (C := C) X.1 X.2.1 hH (hA3 _ _) (fun h => by cases h) (by show ¬ (i < 0 ∨ (arrV _ _ _).slots.size ≤ _); rw [arrV_size]; exact hin) rfl rfl d fun H1 e z oq => ?_
  refine h H1 _ ls (hR.upd rfl rfl (fun x hx => rfl) (fun x hx => rfl) (fun x hx => jP_sP_ne hx) z oq ⟨fun z2 => ?_, fun _ => ?_⟩) (hS.put z oq hba) hL
  · rw [show jT (jsP μ a i.toNatClampNeg none) = jT μ from rfl, hT] at z2; omega
  · rw [show jT (jsP μ a i.toNatClampNeg none) = jT μ from rfl, hT]
    refine ⟨cA, ⟨hA1, hA2⟩, ?_⟩
    rw [e, hcn]
    simp only [vp_cell_q]
    rw [arrV_store]
    congr 2
    funext q
    by_cases hq : q = i.toNatClampNeg
    · subst hq
      simp [updV, jP_sP, va_rf]
    · simp [updV, jP_sP, hq]
/-- a store of a reference that may be null; what it is, its kind says -/
theorem wa_aastR {i : Int32} {a t : Nat} {tc : Nat} {r : Option Nat} (X : jX b Θ own cc ml ret FR LO RC RS) (d : decode cc pc = .ok (.aastore, 1)) (hT : (jT μ a).1 = t) (h0 : 103 < t) (hc : 0 < tc ∧ tc < 13) (hy : jaty t = .object (jC tc).1) (hcn : ∀ ν : JM, jcon t ν a = .inr (.inr (.inr (.inr (jP ν a))))) (hv : ∀ v, r = some v → (jT μ v).1 = tc) (hi : jin i (jT μ a).2 = true) (h : WA b Θ ml Γ (jsP μ a i.toNatClampNeg r) k n (pc + 1) L st) : WA b Θ ml Γ μ k n pc L (va_rf r :: .int i :: .ref a :: st) := by
  cases r with
  | none => exact wa_aastN X d hT h0 hy hcn hi h
  | some v => exact wa_aast X d hT h0 hc hy hcn (hv v rfl) hi h
theorem wa_alen {a t : Nat} (X : jX b Θ own cc ml ret FR LO RC RS) (d : decode cc pc = .ok (.arraylength, 1)) (hT : (jT μ a).1 = t) (h0 : 99 < t) (h : WA b Θ ml Γ μ k n (pc + 1) L (.int (nI (jT μ a).2) :: st)) : WA b Θ ml Γ μ k n pc L (.ref a :: st) := by
  intro H locs ls hR hS hL
  obtain ⟨cA, ⟨hA1, hA2⟩, hH⟩ := (hR.2.2 a (by omega)).2.2.2 (by omega)
  have hsz : ∀ x : vp_A, (vp_cell cA x).slots.size = x.1 := by
    rintro ⟨m, f | f | f | f | f⟩
    · exact arrV_size _ _ _
    · exact arrV_size _ _ _
    · exact arrV_size _ _ _
    · exact arrV_size _ _ _
    · exact arrV_size _ _ _
  have hio : ∀ x : vp_A, (eS Θ).isArrayOf (vp_cell cA x) (jaty (jT μ a).1) := by
    rintro ⟨m, f | f | f | f | f⟩ <;> exact hA1 _ _
  exact W.alen (n := nI (jT μ a).2) X.1 X.2.1 hH (hio _) (by rw [hsz]; rfl) rfl rfl d (h H locs ls hR hS hL)
/-- a new object -/
theorem wa_new {i t N : Nat} (X : jX b Θ own cc ml ret FR LO RC RS) (d : decode cc pc = .ok (.new i, 3)) (h0 : 0 < t ∧ t < 13) (hN : (jC t).2.2 = N) (hcl : Cond.classLink own i (jC t).1 ∈ jw) (hin : Cond.instantiable (jC t).1 N ∈ jw) (hini : Cond.initialized (jC t).1 ∈ jw) (hc : k + 1 ≤ RC) (hn : n + N ≤ RS) (h : WA b Θ ml Γ (jnew μ t 0) (k + 1) (n + N) (pc + 3) L (va_rf (some (jZ μ)) :: st)) : WA b Θ ml Γ μ k n pc L st := by
  intro H locs ls hR hS hL
  obtain ⟨x1, x2, x3, x4, x5, x6, x7, x8, x9, x10⟩ := X
  obtain ⟨cC, iS, hKn⟩ := u_known (C := (jC t).1) (T := (jC t).2.1) (N := (jC t).2.2) x5 (jlays t h0.1 h0.2) (x5 _ hin)
  have hz : H.size = jZ μ := hR.2.1
  refine W.newcK x1 x2 x4 (x5 _ hcl) (x5 _ hin) (x5 _ hini) rfl d (by rw [x8]; exact hc) (by rw [x8]; exact hn) hKn.2.1 rfl fun H1 kC hkC e1 z1 o1 => ?_
  have hob := u_born (jtys t) x5 (jlays t h0.1 h0.2) hKn hkC e1 (jtys_ok t h0.1 h0.2)
  have hT1 : jT (jnew μ t 0) H.size = (t, 0) := by rw [hz]; simp [jT, jZ, jnew, va_up]
  have hR1 : jR b (eS Θ) (jnew μ t 0) H1 := by
    refine hR.new z1 o1 ⟨fun _ => ?_, fun z => ?_⟩
    · rw [hT1]
      refine ⟨cC, iS, hKn, hob.to fun j _ => ?_⟩
      rw [hz]
      have e1 : jI (jnew μ t 0) (jZ μ) j = 0 := by simp [jI, jZ, jnew, va_up]
      have e2 : jJ (jnew μ t 0) (jZ μ) j = 0 := by simp [jJ, jZ, jnew, va_up]
      have e3 : jP (jnew μ t 0) (jZ μ) j = none := by simp [jP, jZ, jnew, va_up]
      show defaultValue (jtys t j) = jval (jtys t j) _ _ _
      rw [e1, e2, e3]
      cases hjt : jtys t j <;> first | rfl | (exfalso; revert hjt; exact (jty_plain t j).1) | (exfalso; revert hjt; exact (jty_plain t j).2)
    · rw [hT1] at z; simp at z; omega
  have hw := h H1 locs ls hR1 ⟨Nat.le_trans hS.1 (by omega), fun x h1 h2 => (o1 x (Nat.lt_of_lt_of_le h1 hS.1)).trans (hS.2.1 x h1 h2), hS.2.2⟩ hL
  rw [← hz] at hw
  exact hw
/-- a new array of a plain type -/
theorem wa_newa {at1 : ArrayType} {t N : Nat} {m : Int32} (X : jX b Θ own cc ml ret FR LO RC RS) (d : decode cc pc = .ok (.newarray at1, 2)) (ht : 99 < t ∧ t < 104) (hty : newarray.typeOf at1 = jaty t) (harr : Cond.arrayClass (jaty t) ∈ jw) (hm : ¬ m < 0) (hN : m.toNatClampNeg = N) (hb8 : N * 8 ≤ 536870912) (hc : k + 1 ≤ RC) (hn : n + N ≤ RS) (h : WA b Θ ml Γ (jnew μ t N) (k + 1) (n + N) (pc + 2) L (va_rf (some (jZ μ)) :: st)) : WA b Θ ml Γ μ k n pc L (.int m :: st) := by
  intro H locs ls hR hS hL
  obtain ⟨x1, x2, x3, x4, x5, x6, x7, x8, x9, x10⟩ := X
  have hz : H.size = jZ μ := hR.2.1
  have hcb : componentBytes (jaty t) ≤ 8 := by
    obtain ⟨h1, h2⟩ := ht
    have q : t = 100 ∨ t = 101 ∨ t = 102 ∨ t = 103 := by omega
    rcases q with rfl | rfl | rfl | rfl <;> decide
  refine va_newaK x1 x2 (by rw [hty]; exact x5 _ harr) rfl d rfl hm hN (by rw [hty]; exact Nat.le_trans (Nat.mul_le_mul_left N hcb) hb8) (by rw [x8]; exact hc) (by rw [x8]; exact hn) rfl fun H1 cA e1 z1 o1 hAr hNm => ?_
  rw [hty] at e1 hAr hNm
  have hT1 : jT (jnew μ t N) H.size = (t, N) := by rw [hz]; simp [jT, jZ, jnew, va_up]
  have e4 : jI (jnew μ t N) (jZ μ) = fun _ => 0 := by simp [jI, jZ, jnew, va_up]
  have e5 : jJ (jnew μ t N) (jZ μ) = fun _ => 0 := by simp [jJ, jZ, jnew, va_up]
  have hR1 : jR b (eS Θ) (jnew μ t N) H1 := by
    refine hR.new z1 o1 ⟨fun z => ?_, fun _ => ?_⟩
    · rw [hT1] at z; simp at z; omega
    · rw [hT1]
      obtain ⟨h1, h2⟩ := ht
      have q : t = 100 ∨ t = 101 ∨ t = 102 ∨ t = 103 := by omega
      refine ⟨cA, ⟨hAr, ?_⟩, ?_⟩
      · rcases q with rfl | rfl | rfl | rfl <;> exact hNm
      · rw [e1, hz]
        rcases q with rfl | rfl | rfl | rfl <;> simp only [jcon, vp_cell_i, vp_cell_l, e4, e5, jaty] <;> rfl
  have hw := h H1 locs ls hR1 ⟨Nat.le_trans hS.1 (by omega), fun x h1 h2 => (o1 x (Nat.lt_of_lt_of_le h1 hS.1)).trans (hS.2.1 x h1 h2), hS.2.2⟩ hL
  rw [← hz] at hw
  exact hw
/-- a new array of references -/
theorem wa_anew {i t N : Nat} {C : String} {m : Int32} (X : jX b Θ own cc ml ret FR LO RC RS) (d : decode cc pc = .ok (.anewarray i, 3)) (ht : 103 < t) (hty : jaty t = .object C) (hcn : ∀ (ν : JM) (a : Nat), jcon t ν a = .inr (.inr (.inr (.inr (jP ν a))))) (hcl : Cond.classLink own i C ∈ jw) (hov : C ∈ jOver) (hm : ¬ m < 0) (hN : m.toNatClampNeg = N) (hb8 : N * 4 ≤ 536870912) (hc : k + 1 ≤ RC) (hn : n + N ≤ RS) (h : WA b Θ ml Γ (jnew μ t N) (k + 1) (n + N) (pc + 3) L (va_rf (some (jZ μ)) :: st)) : WA b Θ ml Γ μ k n pc L (.int m :: st) := by
  intro H locs ls hR hS hL
  obtain ⟨x1, x2, x3, x4, x5, x6, x7, x8, x9, x10⟩ := X
  have hz : H.size = jZ μ := hR.2.1
  subst hN
  refine W.anew x1 x2 x4 (x5 _ hcl) (va_AO.use (x9.2.1 C hov)) rfl d rfl hm hb8 (by rw [x8]; exact hc) (by rw [x8]; exact hn) fun cA kA comp f1 f2 f3 f4 => ?_
  generalize hH1 : H.push ({ cls := cA, slots := Array.replicate m.toNatClampNeg .null, vm := .none } : Cell) = H1
  have z1 : H1.size = H.size + 1 := by rw [← hH1, Array.size_push]
  have e1 : H1[H.size]? = some (arrV cA m.toNatClampNeg (fun _ => .null)) := by rw [← hH1, Array.getElem?_push_size, ← arrV_new]
  have o1 : ∀ q : Nat, q < H.size → H1[q]? = H[q]? := fun q hq => by rw [← hH1, Array.getElem?_push, if_neg (Nat.ne_of_lt hq)]
  have hAr : ArrOfT (eS Θ) cA (.object C) := fun N z => ⟨(fun k h => by cases h), kA, f2, comp, f3⟩
  have hT1 : jT (jnew μ t m.toNatClampNeg) H.size = (t, m.toNatClampNeg) := by rw [hz]; simp [jT, jZ, jnew, va_up]
  have e4 : jP (jnew μ t m.toNatClampNeg) (jZ μ) = fun _ => none := by simp [jP, jZ, jnew, va_up]
  have hR1 : jR b (eS Θ) (jnew μ t m.toNatClampNeg) H1 := by
    refine hR.new z1 o1 ⟨fun z => ?_, fun _ => ?_⟩
    · rw [hT1] at z; simp at z; omega
    · rw [hT1]
      refine ⟨cA, ?_, ?_⟩
      · rw [hty]; exact ⟨hAr, kA, comp, f2, f3, f4, f1⟩
      · rw [e1, hz, hcn, vp_cell_q, e4]; rfl
  have hw := h H1 locs ls hR1 ⟨Nat.le_trans hS.1 (by omega), fun x h1 h2 => (o1 x (Nat.lt_of_lt_of_le h1 hS.1)).trans (hS.2.1 x h1 h2), hS.2.2⟩ hL
  rw [← hz] at hw
  exact hw
/-- the static array -/
theorem wa_stat {i : Nat} (X : jX b Θ own cc ml ret FR LO RC RS) (d : decode cc pc = .ok (.getstatic i, 3)) (hl : Cond.fieldLink own i RX1 "FACT_BITS" "[J" ∈ jw) (h : ∀ t : Nat, va_T .long t 6 (fun j => .long (jFB j)) (fun q => b ≤ q) (eS Θ) (eS Θ).heap → WA b Θ ml Γ μ k n (pc + 3) L (.ref t :: st)) : WA b Θ ml Γ μ k n pc L st := by
  intro H locs ls hR hS hL
  obtain ⟨x1, x2, x3, x4, x5, x6, x7, x8, x9, x10⟩ := X
  obtain ⟨t, hZ, hT⟩ := x9.2.2.1
  exact va_gets x1 x2 hZ hS x4 (x5 _ hl) (fun _ h9 => h9) d (h t hT H locs ls hR hS hL)
theorem wa_stld {t : Nat} {i : Int32} (X : jX b Θ own cc ml ret FR LO RC RS) (d : decode cc pc = .ok (.laload, 1)) (hT : va_T .long t 6 (fun j => .long (jFB j)) (fun q => b ≤ q) (eS Θ) (eS Θ).heap) (hi : jin i 6 = true) (h : WA b Θ ml Γ μ k n (pc + 1) L (.long (jFB i.toNatClampNeg) :: st)) : WA b Θ ml Γ μ k n pc L (.int i :: .ref t :: st) := by
  intro H locs ls hR hS hL
  exact va_tl X.1 X.2.1 hT hS (jin_in hi) rfl d (h H locs ls hR hS hL)
end WAR
