/-! a call of the class, and then the same call of the reference -/
def JS (B : Nat) (μ : JM) (s : SS) : Prop := cSt B μ s ∧ mSt (B + 76) μ s ∧ QT (B + 76) μ
theorem QT.km {B : Nat} {μ ν : JM} (h : QT (B + 76) μ) (k : kM B μ ν) : QT (B + 76) ν := by
  intro j
  have := (k.2 0 (by decide)).2.2.2
  rw [Nat.add_zero] at this
  rw [this]; exact h j
theorem pair {B C N : Nat} {μ : JM} {s : SS} {y : Int32 × SS} {β : Type} {x : JO Int32} {g : Int32 → JM → JO β} {Q : β → JM → Nat → Nat → Prop} (h : JS B μ s) (hc : Rq x (cQ B C N μ y)) (k : ∀ ν c m, c ≤ C → m ≤ N → CT B ν → cSt B ν y.2 → mSt (B + 76) ν s → QT (B + 76) ν → Rq (g y.1 ν) (fun r2 ρ c2 m2 => Q r2 ρ (c + c2) (m + m2))) : Rq (jcl x g) Q := by
  refine Rq.cl hc fun r ν c m ⟨q1, q2, q3, q4, q5⟩ => ?_
  subst q3
  exact k ν c m q1 q2 q4.1 q4 (h.2.1.out q5.2) (h.2.2.km q5)
theorem pairM {B : Nat} {ν : JM} {y : Int32 × SS} {β : Type} {x : JO Int32} {g : Int32 → JM → JO β} {Q : β → JM → Nat → Nat → Prop} (hS : cSt B ν y.2) (hq : QT (B + 76) ν) (hm : Res x (fun r ρ => r = y.1 ∧ mSt (B + 76) ρ y.2)) (ho : Ou (B + 76) ν x) (k : ∀ ρ, JS B ρ y.2 → Rq (g y.1 ρ) Q) : Rq (jcl x g) Q := by
  refine Rq.cl0 (hm.ou ho) fun r ρ ⟨⟨e, m⟩, o⟩ => ?_
  subst e
  have r := o.tcr
  have hB := hS.1.2.2
  refine k ρ ⟨hS.kr r (by decide) (by decide) ?_, m, fun j => ?_⟩
  · rw [r.iI (by omega) (by decide)]; exact hS.2.1.2.2.2.2
  · rw [o.2.2.1]; exact hq j
