/-! switches, fields, arrays, new cells -/
def jin (i : Int32) (n : Nat) : Bool := !(decide (i < 0) || decide (n ≤ i.toNatClampNeg))
theorem jin_in {i : Int32} {n : Nat} (h : jin i n = true) : ¬ (i < 0 ∨ n ≤ i.toNatClampNeg) := by
  simp only [jin, Bool.not_eq_true', Bool.or_eq_false_iff, decide_eq_false_iff_not] at h
  rintro (q | q)
  · exact h.1 q
  · exact h.2 q
def jck {α : Type} (c : Bool) (x : Option α) : Option α := match c with
  | true => x
  | false => none
theorem jck_some {α : Type} {c : Bool} {x : Option α} {y : α} (h : jck c x = some y) : c = true ∧ x = some y := by
  cases c with
  | true => exact ⟨rfl, h⟩
  | false => cases h
theorem jck_true {α : Type} {x : Option α} : jck true x = x := rfl
def jde {α : Type} (r : Option Nat) (f : Nat → Option α) : Option α := match r with
  | none => none
  | some a => f a
theorem jde_some {α : Type} {r : Option Nat} {f : Nat → Option α} {y : α} (h : jde r f = some y) : ∃ a, r = some a ∧ f a = some y := by
  cases r with
  | none => cases h
  | some a => exact ⟨a, rfl, h⟩
theorem jde_is {α : Type} {a : Nat} {f : Nat → Option α} : jde (some a) f = f a := rfl
abbrev JO (α : Type) : Type := Option (α × JM × Nat × Nat)
def jcl {α β : Type} (x : JO α) (f : α → JM → JO β) : JO β := match x with
  | none => none
  | some (a, μ, c, n) => match f a μ with
    | none => none
    | some (r, ν, c2, n2) => some (r, ν, c + c2, n + n2)
theorem jcl_some {α β : Type} {x : JO α} {f : α → JM → JO β} {r : β} {ν : JM} {c n : Nat} (h : jcl x f = some (r, ν, c, n)) : ∃ a μ c1 n1 c2 n2, x = some (a, μ, c1, n1) ∧ f a μ = some (r, ν, c2, n2) ∧ c = c1 + c2 ∧ n = n1 + n2 := by
  cases x with
  | none => cases h
  | some q =>
    obtain ⟨a, μ, c1, n1⟩ := q
    simp only [jcl] at h
    cases hf : f a μ with
    | none => rw [hf] at h; cases h
    | some p =>
      obtain ⟨r2, ν2, c2, n2⟩ := p
      rw [hf] at h
      cases h
      exact ⟨a, μ, c1, n1, c2, n2, rfl, hf, rfl, rfl⟩
theorem jcl_is {α β : Type} {a : α} {μ : JM} {c n : Nat} {f : α → JM → JO β} {r : β} {ν : JM} {c2 n2 : Nat} (h : f a μ = some (r, ν, c2, n2)) : jcl (some (a, μ, c, n)) f = some (r, ν, c + c2, n + n2) := by simp only [jcl, h]
theorem jcl_0 {α β : Type} {a : α} {μ : JM} {f : α → JM → JO β} : jcl (some (a, μ, 0, 0)) f = f a μ := by
  simp only [jcl]
  cases h : f a μ with
  | none => rfl
  | some p =>
    obtain ⟨r2, ν2, c2, n2⟩ := p
    simp
/-- a new cell: of kind t, with n places -/
def jnw {β : Type} (μ : JM) (t n : Nat) (f : Nat → JM → JO β) : JO β := jcl (some (jZ μ, jnew μ t n, 1, n)) f
def jnwo {β : Type} (μ : JM) (t n : Nat) (f : Nat → JM → JO β) : JO β := jcl (some (jZ μ, jnew μ t 0, 1, n)) f
def jbl (x : Int32) : Bool := decide (x = 0) || decide (x = 1)
theorem jbl_nar {x : Int32} (h : jbl x = true) : narrow .boolean (.int x) = .int x := by
  simp only [jbl, Bool.or_eq_true, decide_eq_true_eq] at h
  rcases h with rfl | rfl <;> rfl
/-! links -/
def jF (own : String) (i t k : Nat) : Prop := (0 < t ∧ t < 13) ∧ k < (jC t).2.2 ∧ Cond.fieldLink own i ((jC t).2.1 k).1 ((jC t).2.1 k).2.1 ((jC t).2.1 k).2.2.1 ∈ jw
theorem jlays : ∀ t, 0 < t → t < 13 → ∀ w ∈ u_ws (jC t).1 (jC t).2.1 (jC t).2.2, w ∈ jw := by
  intro t h0 h1
  have q : t = 1 ∨ t = 2 ∨ t = 3 ∨ t = 4 ∨ t = 5 ∨ t = 6 ∨ t = 7 ∨ t = 8 ∨ t = 9 ∨ t = 10 ∨ t = 11 ∨ t = 12 := by omega
  rcases q with rfl | rfl | rfl | rfl | rfl | rfl | rfl | rfl | rfl | rfl | rfl | rfl <;> decide +kernel
theorem jtys_ok : ∀ t, 0 < t → t < 13 → ∀ k, k < (jC t).2.2 → parseFieldDescriptor ((jC t).2.1 k).2.2.1 = some (jtys t k) := by
  intro t h0 h1
  have q : t = 1 ∨ t = 2 ∨ t = 3 ∨ t = 4 ∨ t = 5 ∨ t = 6 ∨ t = 7 ∨ t = 8 ∨ t = 9 ∨ t = 10 ∨ t = 11 ∨ t = 12 := by omega
  rcases q with rfl | rfl | rfl | rfl | rfl | rfl | rfl | rfl | rfl | rfl | rfl | rfl
  · exact tyX0_ok
  · exact tyX1_ok
  · exact tyX2_ok
  · exact tyX3_ok
  · exact tyX4_ok
  · exact tyX5_ok
  · exact tyX6_ok
  · exact tyX7_ok
  · exact tyX8_ok
  · exact tyX9_ok
  · exact tyX10_ok
  · exact tyX11_ok
theorem jnms : ∀ t, 0 < t → t < 13 → ∀ a, a < (jC t).2.2 → ∀ b, b < (jC t).2.2 → a ≠ b → ((jC t).2.1 a).2.1 ≠ ((jC t).2.1 b).2.1 := by
  intro t h0 h1
  have q : t = 1 ∨ t = 2 ∨ t = 3 ∨ t = 4 ∨ t = 5 ∨ t = 6 ∨ t = 7 ∨ t = 8 ∨ t = 9 ∨ t = 10 ∨ t = 11 ∨ t = 12 := by omega
  rcases q with rfl | rfl | rfl | rfl | rfl | rfl | rfl | rfl | rfl | rfl | rfl | rfl
  · exact nmX0
  · exact nmX1
  · exact nmX2
  · exact nmX3
  · exact nmX4
  · exact nmX5
  · exact nmX6
  · exact nmX7
  · exact nmX8
  · exact nmX9
  · exact nmX10
  · exact nmX11
theorem jap {s : State} {args : Array Value} {t : Nat} {cC : ClassId} {iS : Nat → Nat} (hts : ∀ w ∈ jw, w.before args s = true) (h0 : 0 < t) (h1 : t < 13) (hK : u_Kn s (jC t).1 (jC t).2.1 (jC t).2.2 cC iS) : ∀ x y, x < (jC t).2.2 → y < (jC t).2.2 → x ≠ y → iS x ≠ iS y := by
  intro x y hx hy hne
  obtain ⟨_, _, _, fa, hia, ea⟩ := hK.1 x hx
  obtain ⟨_, _, _, fb, hib, eb⟩ := hK.1 y hy
  rw [← ea, ← eb]
  refine u_apart (u_lays hts (jlays t h0 h1) hx) (u_lays hts (jlays t h0 h1) hy) hia hib ?_
  rw [(State.fieldFound?_type hia (jtys_ok t h0 h1 x hx)).1, (State.fieldFound?_type hib (jtys_ok t h0 h1 y hy)).1]
  exact jnms t h0 h1 x hx y hy hne
section WAR
variable {b : Nat} {Θ : JE} {own : String} {cc : ByteArray} {ml : Nat} {ret : Option FieldType} {FR LO RC RS : Nat} {Γ : JG} {μ : JM} {k n pc : Nat} {L : List (Nat × Value)} {st : List Value}
theorem wa_tin {dflt lo hi off : Int} {offs : Array Int} {len tgt : Nat} {x v : Int32} (X : jX b Θ own cc ml ret FR LO RC RS) (d : decode cc pc = .ok (.tableswitch dflt lo hi offs, len)) (hx : x = v) (h1 : ¬ v.toInt < lo) (h2 : ¬ hi < v.toInt) (ho : offs[(v.toInt - lo).toNat]? = some off) (ht : (pc : Int) + off = (tgt : Int)) (h : WA b Θ ml Γ μ k n tgt L st) : WA b Θ ml Γ μ k n pc L (.int x :: st) := by
  subst hx
  exact fun H locs ls hR hS hL => lv_tableIn X.1 X.2.1 d h1 h2 ho ht (h H locs ls hR hS hL)
theorem wa_tout {dflt lo hi : Int} {offs : Array Int} {len tgt : Nat} {x : Int32} (X : jX b Θ own cc ml ret FR LO RC RS) (d : decode cc pc = .ok (.tableswitch dflt lo hi offs, len)) (hx : x.toInt < lo ∨ hi < x.toInt) (ht : (pc : Int) + dflt = (tgt : Int)) (h : WA b Θ ml Γ μ k n tgt L st) : WA b Θ ml Γ μ k n pc L (.int x :: st) := fun H locs ls hR hS hL => lv_tableOut X.1 X.2.1 d hx ht (h H locs ls hR hS hL)
theorem wa_look {dflt off : Int} {ps : Array (Int × Int)} {len tgt : Nat} {x : Int32} (X : jX b Θ own cc ml ret FR LO RC RS) (d : decode cc pc = .ok (.lookupswitch dflt ps, len)) (hp : (ps.toList.zip (ps.toList.drop 1)).all (fun (a, next) => a.1 < next.1) = true) (ho : Op.lookupswitch.offset ps.toList dflt x.toInt = off) (ht : (pc : Int) + off = (tgt : Int)) (h : WA b Θ ml Γ μ k n tgt L st) : WA b Θ ml Γ μ k n pc L (.int x :: st) := fun H locs ls hR hS hL => lv_lookup X.1 X.2.1 d hp ho ht (h H locs ls hR hS hL)
/-- a field is read -/
theorem wa_get {i t q a : Nat} {v : Value} (X : jX b Θ own cc ml ret FR LO RC RS) (d : decode cc pc = .ok (.getfield i, 3)) (F : jF own i t q) (hT : (jT μ a).1 = t) (hv : jV t μ a q = v) (h : WA b Θ ml Γ μ k n (pc + 3) L (v :: st)) : WA b Θ ml Γ μ k n pc L (.ref a :: st) := by
  intro H locs ls hR hS hL
  obtain ⟨⟨h0, h1⟩, hq, hl⟩ := F
  have hA := (hR.2.2 a (by omega)).2.2.1 (by omega)
  rw [hT] at hA
  obtain ⟨cC, iS, hK, cell, q1, q2, q3, q4⟩ := hA
  obtain ⟨cf, kf, fi, f, hi, hsl⟩ := hK.1 q hq
  obtain ⟨hfc, kC, hkC, hkind⟩ := hK.2
  refine W.getf X.1 X.2.1 X.2.2.2.1 (X.2.2.2.2.1 _ hl) hi (u_facts hfc hkC (u_lays X.2.2.2.2.1 (jlays t h0 h1) hq) hi).1 q1 (by rw [q3]; exact fun h => by cases h) (v := v) ?_ rfl rfl d (h H locs ls hR hS hL)
  rw [hsl, q4 q hq, hv]
theorem wa_put {i t q a : Nat} {v : Value} {ν : JM} (X : jX b Θ own cc ml ret FR LO RC RS) (d : decode cc pc = .ok (.putfield i, 3)) (F : jF own i t q) (hT : (jT μ a).1 = t) (hfin : ((jC t).2.1 q).2.2.2 = false) (hn : narrow (jtys t q) v = v) (hf : fits (jtys t q) v = true) (hZ : jZ ν = jZ μ) (hTT : jT ν = jT μ) (hI : ∀ x, x ≠ a → jI ν x = jI μ x) (hJ : ∀ x, x ≠ a → jJ ν x = jJ μ x) (hP : ∀ x, x ≠ a → jP ν x = jP μ x) (hV : ∀ j, updV (jV t μ a) q v j = jV t ν a j)
    (h : WA b Θ ml Γ ν k n (pc + 3) L st) : WA b Θ ml Γ μ k n pc L (v :: .ref a :: st) := by
  intro H locs ls hR hS hL
  obtain ⟨⟨h0, h1⟩, hq, hl⟩ := F
  obtain ⟨hba, -, hA⟩ := hR.2.2 a (by omega)
  have hA := hA.1 (by omega)
  rw [hT] at hA
  obtain ⟨cC, iS, hK, cell, q1, q2, q3, q4⟩ := hA
  have hap := jap X.2.2.2.2.1 h0 h1 hK
  obtain ⟨cf, kf, fi, f, hi, hsl⟩ := hK.1 q hq
  obtain ⟨hfc, kC, hkC, hkind⟩ := hK.2
  have hlay := X.2.2.2.2.1 _ (jlays t h0 h1 _ (u_in_lay hq))
  unfold u_lay at hlay
  rw [if_neg (by rw [hfin]; decide)] at hlay
  have hst := (u_facts hfc hkC (u_lays X.2.2.2.2.1 (jlays t h0 h1) hq) hi).1
  have h6 := u_store hfc hkC hkind hlay hi (jtys_ok t h0 h1 q hq) hn hf
  refine W.putK X.1 X.2.1 (f := f) ⟨X.2.2.2.1, X.2.2.2.2.1 _ hl, ⟨_, _, _, hi⟩, hst⟩ (by rw [q2]; exact h6) q1 q3 (by rw [hsl]; exact k2_hasslot (q4 q hq)) rfl rfl d fun H1 e1 e2 e3 => ?_
  rw [hsl] at e1 ⊢
  refine h H1 _ ls (hR.upd hZ hTT hI hJ hP e2 e3 ⟨fun _ => ?_, fun z => ?_⟩) (hS.put e2 e3 hba) hL
  · rw [hTT, hT]
    exact ⟨cC, iS, hK, t_OB.to (V := updV (jV t μ a) q v) ⟨_, e1, q2, q3, t_set q4 hap hq v⟩ (fun j _ => hV j)⟩
  · rw [hTT, hT] at z; omega
theorem wa_putF {i t q a : Nat} {v : Value} {ν : JM} (X : jX b Θ own cc ml ret FR LO RC RS) (hin : (eH Θ).name = "<init>") (d : decode cc pc = .ok (.putfield i, 3)) (F : jF own i t q) (hT : (jT μ a).1 = t) (hfin : ((jC t).2.1 q).2.2.2 = true) (hdecl : ((jC t).2.1 q).1 = own) (hn : narrow (jtys t q) v = v) (hf : fits (jtys t q) v = true) (hZ : jZ ν = jZ μ) (hTT : jT ν = jT μ) (hI : ∀ x, x ≠ a → jI ν x = jI μ x) (hJ : ∀ x, x ≠ a → jJ ν x = jJ μ x) (hP : ∀ x, x ≠ a → jP ν x = jP μ x) (hV : ∀ j, updV (jV t μ a) q v j = jV t ν a j)
    (h : WA b Θ ml Γ ν k n (pc + 3) L st) : WA b Θ ml Γ μ k n pc L (v :: .ref a :: st) := by
  intro H locs ls hR hS hL
  obtain ⟨⟨h0, h1⟩, hq, hl⟩ := F
  obtain ⟨hba, -, hA⟩ := hR.2.2 a (by omega)
  have hA := hA.1 (by omega)
  rw [hT] at hA
  obtain ⟨cC, iS, hK, cell, q1, q2, q3, q4⟩ := hA
  have hap := jap X.2.2.2.2.1 h0 h1 hK
  obtain ⟨cf, kf, fi, f, hi, hsl⟩ := hK.1 q hq
  obtain ⟨hfc, kC, hkC, hkind⟩ := hK.2
  have hlay := X.2.2.2.2.1 _ (jlays t h0 h1 _ (u_in_lay hq))
  unfold u_lay at hlay
  rw [if_pos hfin] at hlay
  have hst := (u_facts hfc hkC (u_lays X.2.2.2.2.1 (jlays t h0 h1) hq) hi).1
  have hcf : (eM Θ).cls = cf := by
    obtain ⟨_, _, c', _, _, _, -, -, hf', -, -, -, hown2, -⟩ := Cond.laysFinal_spec hlay
    have e1 : c' = cf := by have := hi.symm.trans hf'; simp at this; exact this.1.symm
    rw [hdecl] at hown2
    rw [← e1]; exact Option.some.inj (X.2.2.2.1.symm.trans hown2)
  have h6 := u_fits hfc hkC hkind (Or.inr hlay) hi (jtys_ok t h0 h1 q hq) hn hf
  refine W.putFinK X.1 X.2.1 X.2.2.2.1 (X.2.2.2.2.1 _ hl) hi hst hcf hin (by rw [q2]; exact h6) q1 q3 (by rw [hsl]; exact k2_hasslot (q4 q hq)) rfl rfl d fun H1 e1 e2 e3 => ?_
  rw [hsl] at e1 ⊢
  refine h H1 _ ls (hR.upd hZ hTT hI hJ hP e2 e3 ⟨fun _ => ?_, fun z => ?_⟩) (hS.put e2 e3 hba) hL
  · rw [hTT, hT]
    exact ⟨cC, iS, hK, t_OB.to (V := updV (jV t μ a) q v) ⟨_, e1, q2, q3, t_set q4 hap hq v⟩ (fun j _ => hV j)⟩
  · rw [hTT, hT] at z; omega
end WAR
theorem jV_I {t q a : Nat} {μ : JM} {v : Int32} (hv : jV t μ a q = .int (jI μ a q)) : ∀ j, updV (jV t μ a) q (.int v) j = jV t (jsI μ a q v) a j := by
  intro j
  by_cases e : j = q
  · subst e
    have : ∀ z : Int32, jval (jtys t j) z (jJ μ a j) (jP μ a j) = .int z := by
      intro z
      revert hv
      unfold jV jval
      split <;> simp [va_rf] <;> (cases jP μ a j <;> simp)
    simp [updV, jV, jI_sI, jJ_sI, jP_sI, this]
  · simp [updV, jV, jI_sI, jJ_sI, jP_sI, e]
theorem jV_J {t q a : Nat} {μ : JM} {v : Int64} (hv : jV t μ a q = .long (jJ μ a q)) : ∀ j, updV (jV t μ a) q (.long v) j = jV t (jsJ μ a q v) a j := by
  intro j
  by_cases e : j = q
  · subst e
    have : ∀ z : Int64, jval (jtys t j) (jI μ a j) z (jP μ a j) = .long z := by
      intro z
      revert hv
      unfold jV jval
      split <;> simp [va_rf] <;> (cases jP μ a j <;> simp)
    simp [updV, jV, jI_sJ, jJ_sJ, jP_sJ, this]
  · simp [updV, jV, jI_sJ, jJ_sJ, jP_sJ, e]
theorem jV_P {t q a : Nat} {μ : JM} {v : Option Nat} (hv : ∀ z, jval (jtys t q) 0 0 z = va_rf z) : ∀ j, updV (jV t μ a) q (va_rf v) j = jV t (jsP μ a q v) a j := by
  intro j
  by_cases e : j = q
  · subst e
    have : ∀ (x : Int32) (y : Int64) (z : Option Nat), jval (jtys t j) x y z = va_rf z := by
      intro x y z
      have h1 := hv none
      revert h1
      unfold jval
      split <;> simp [va_rf]
    simp [updV, jV, jI_sP, jJ_sP, jP_sP, this]
  · simp [updV, jV, jI_sP, jJ_sP, jP_sP, e]
