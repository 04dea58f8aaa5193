/-! the reference's own cells, and nothing else, change -/
def oM (M : Nat) (μ ν : JM) : Prop := jZ ν = jZ μ ∧ jT ν = jT μ ∧ jP ν = jP μ ∧ ∀ a, (a < M ∨ M + 44 < a) → jI ν a = jI μ a ∧ jJ ν a = jJ μ a
theorem oM.rf {M : Nat} {μ : JM} : oM M μ μ := ⟨rfl, rfl, rfl, fun _ _ => ⟨rfl, rfl⟩⟩
theorem oM.tr {M : Nat} {μ ν ρ : JM} (h : oM M μ ν) (g : oM M ν ρ) : oM M μ ρ := ⟨g.1.trans h.1, g.2.1.trans h.2.1, g.2.2.1.trans h.2.2.1, fun a ha => ⟨(g.2.2.2 a ha).1.trans (h.2.2.2 a ha).1, (g.2.2.2 a ha).2.trans (h.2.2.2 a ha).2⟩⟩
theorem oM.sI {M a k : Nat} {μ : JM} {v : Int32} (h : M ≤ a ∧ a ≤ M + 44) : oM M μ (jsI μ a k v) := ⟨rfl, rfl, rfl, fun b hb => ⟨jI_sI_ne (by omega), rfl⟩⟩
theorem oM.sJ {M a k : Nat} {μ : JM} {v : Int64} (h : M ≤ a ∧ a ≤ M + 44) : oM M μ (jsJ μ a k v) := ⟨rfl, rfl, rfl, fun b hb => ⟨rfl, jJ_sJ_ne (by omega)⟩⟩
theorem QT.p {M k : Nat} {μ : JM} (h : QT M μ) : PR M (jP μ M k) := h k
theorem QT.o {M : Nat} {μ ν : JM} (h : QT M μ) (o : oM M μ ν) : QT M ν := fun k => by rw [o.2.2.1]; exact h k
theorem PR.no {M : Nat} : PR M none := fun q h => by cases h
theorem PR.so {M q : Nat} (h : M ≤ q ∧ q ≤ M + 44) : PR M (some q) := fun p e => by injection e with e; rw [← e]; exact h
theorem PR.se {M : Nat} : M ≤ M ∧ M ≤ M + 44 := ⟨Nat.le_refl _, Nat.le_add_right _ _⟩
def Ou {α : Type} (M : Nat) (μ : JM) (x : JO α) : Prop := ∀ r ν c n, x = some (r, ν, c, n) → oM M μ ν
theorem Ou.ret {α : Type} {M : Nat} {μ : JM} {r : α} {c n : Nat} : Ou M μ (some (r, μ, c, n)) := by
  intro r2 ν c2 n2 e
  injection e with e
  injection e with e1 e
  injection e with e2 e
  rw [← e2]; exact oM.rf
theorem Ou.non {α : Type} {M : Nat} {μ : JM} : Ou (α := α) M μ none := by intro r ν c n e; cases e
theorem Ou.ck {α : Type} {M : Nat} {μ : JM} {c : Bool} {x : JO α} (h : Ou M μ x) : Ou M μ (jck c x) := by
  cases c with
  | true => exact h
  | false => exact Ou.non
theorem Ou.ite {α : Type} {M : Nat} {μ : JM} {c : Prop} [Decidable c] {x y : JO α} (h : Ou M μ x) (g : Ou M μ y) : Ou M μ (if c then x else y) := by
  by_cases q : c
  · rw [if_pos q]; exact h
  · rw [if_neg q]; exact g
theorem Ou.de {α : Type} {M : Nat} {μ : JM} {p : Option Nat} {f : Nat → JO α} (hp : PR M p) (h : ∀ q, M ≤ q ∧ q ≤ M + 44 → Ou M μ (f q)) : Ou M μ (jde p f) := by
  cases p with
  | none => exact Ou.non
  | some q => exact h q (hp q rfl)
theorem Ou.sI {α : Type} {M a k : Nat} {μ : JM} {v : Int32} {f : JM → JO α} (ha : M ≤ a ∧ a ≤ M + 44) (hq : QT M μ) (h : ∀ ν, QT M ν → Ou M ν (f ν)) : Ou M μ (jlt (jsI μ a k v) f) := fun r ν c n e => (oM.sI ha).tr (h _ (hq.o (oM.sI ha)) r ν c n e)
theorem Ou.sJ {α : Type} {M a k : Nat} {μ : JM} {v : Int64} {f : JM → JO α} (ha : M ≤ a ∧ a ≤ M + 44) (hq : QT M μ) (h : ∀ ν, QT M ν → Ou M ν (f ν)) : Ou M μ (jlt (jsJ μ a k v) f) := fun r ν c n e => (oM.sJ ha).tr (h _ (hq.o (oM.sJ ha)) r ν c n e)
theorem Ou.cl {α β : Type} {M : Nat} {μ : JM} {x : JO α} {f : α → JM → JO β} (hq : QT M μ) (hx : Ou M μ x) (h : ∀ r ν, QT M ν → Ou M ν (f r ν)) : Ou M μ (jcl x f) := by
  intro r ν c n e
  cases x with
  | none => cases e
  | some y =>
    obtain ⟨r1, ν1, c1, n1⟩ := y
    have o1 := hx r1 ν1 c1 n1 rfl
    simp only [jcl] at e
    cases hf : f r1 ν1 with
    | none => rw [hf] at e; cases e
    | some z =>
      obtain ⟨r2, ν2, c2, n2⟩ := z
      rw [hf] at e
      injection e with e
      injection e with e1 e
      injection e with e2 e
      have := h r1 ν1 (hq.o o1) r2 ν2 c2 n2 hf
      rw [← e2]; exact o1.tr this
theorem Res.ou {α : Type} {M : Nat} {μ : JM} {x : JO α} {Q : α → JM → Prop} (h : Res x Q) (o : Ou M μ x) : Res x (fun r ν => Q r ν ∧ oM M μ ν) := by
  obtain ⟨r, ν, e, hq⟩ := h
  exact ⟨r, ν, e, hq, o r ν 0 0 e⟩
