/-! the reference changes nothing outside its own cells (written by wip/tools/gout.py) -/
theorem o_fX11_four_b3 {M : Nat}   : ∀ (fu : Nat) (x1 : Int32) (x2 : Int32) (μ : JM), QT M μ → Ou M μ (fX11_four_b3  fu M x1 x2 μ) := by
  intro fu
  induction fu with
  | zero => intros; exact Ou.non
  | succ fu ih =>
    intros
    rw [fX11_four_b3]
    repeat' (with_reducible first | exact Ou.ret | exact Ou.non | assumption | exact QT.p (by assumption) | exact PR.so (by assumption) | exact PR.no | exact PR.se | exact PR.so PR.se | apply Ou.ck | apply Ou.ite | refine Ou.de ?_ ?_ | refine Ou.sI ?_ ?_ ?_ | refine Ou.sJ ?_ ?_ ?_ | refine Ou.cl ?_ ?_ ?_ | apply ih | intro _)
theorem o_fX11_four {M : Nat}  {x1 : Int32} {μ : JM}   (hq : QT M μ) : Ou M μ (fX11_four M x1 μ) := by
  unfold fX11_four
  repeat' (with_reducible first | exact Ou.ret | exact Ou.non | assumption | exact QT.p (by assumption) | exact PR.so (by assumption) | exact PR.no | exact PR.se | exact PR.so PR.se | apply Ou.ck | apply Ou.ite | refine Ou.de ?_ ?_ | refine Ou.sI ?_ ?_ ?_ | refine Ou.sJ ?_ ?_ ?_ | refine Ou.cl ?_ ?_ ?_ | apply o_fX11_four_b3 | intro _)
theorem o_fX11_feed {M : Nat}  {x1 : Int32} {x2 : Int32} {x3 : Int32} {x4 : Int32} {x5 : Int32} {μ : JM}   (hq : QT M μ) : Ou M μ (fX11_feed M x1 x2 x3 x4 x5 μ) := by
  unfold fX11_feed
  repeat' (with_reducible first | exact Ou.ret | exact Ou.non | assumption | exact QT.p (by assumption) | exact PR.so (by assumption) | exact PR.no | exact PR.se | exact PR.so PR.se | apply Ou.ck | apply Ou.ite | refine Ou.de ?_ ?_ | refine Ou.sI ?_ ?_ ?_ | refine Ou.sJ ?_ ?_ ?_ | refine Ou.cl ?_ ?_ ?_ | apply o_fX11_four | intro _)
theorem o_fX11_end {M : Nat}  {x1 : Int32} {μ : JM}   (hq : QT M μ) : Ou M μ (fX11_end M x1 μ) := by
  unfold fX11_end
  repeat' (with_reducible first | exact Ou.ret | exact Ou.non | assumption | exact QT.p (by assumption) | exact PR.so (by assumption) | exact PR.no | exact PR.se | exact PR.so PR.se | apply Ou.ck | apply Ou.ite | refine Ou.de ?_ ?_ | refine Ou.sI ?_ ?_ ?_ | refine Ou.sJ ?_ ?_ ?_ | refine Ou.cl ?_ ?_ ?_ | intro _)
theorem o_fX11_in {M : Nat}  {x0 : Int32} {x1 : Int32} {x2 : Int32} {μ : JM}   (hq : QT M μ) : Ou M μ (fX11_in x0 x1 x2 μ) := by
  unfold fX11_in
  repeat' (with_reducible first | exact Ou.ret | exact Ou.non | assumption | exact QT.p (by assumption) | exact PR.so (by assumption) | exact PR.no | exact PR.se | exact PR.so PR.se | apply Ou.ck | apply Ou.ite | refine Ou.de ?_ ?_ | refine Ou.sI ?_ ?_ ?_ | refine Ou.sJ ?_ ?_ ?_ | refine Ou.cl ?_ ?_ ?_ | intro _)
theorem o_fX11_fails {M : Nat}  {x1 : Int32} {x2 : Int32} {μ : JM}   (hq : QT M μ) : Ou M μ (fX11_fails M x1 x2 μ) := by
  unfold fX11_fails
  repeat' (with_reducible first | exact Ou.ret | exact Ou.non | assumption | exact QT.p (by assumption) | exact PR.so (by assumption) | exact PR.no | exact PR.se | exact PR.so PR.se | apply Ou.ck | apply Ou.ite | refine Ou.de ?_ ?_ | refine Ou.sI ?_ ?_ ?_ | refine Ou.sJ ?_ ?_ ?_ | refine Ou.cl ?_ ?_ ?_ | intro _)
theorem o_fails_q {M q : Nat} {x1 x2 : Int32} {μ : JM} (hr : M ≤ q ∧ q ≤ M + 44) (hq : QT M μ) : Ou M μ (fX11_fails q x1 x2 μ) := by
  unfold fX11_fails
  repeat' (with_reducible first | exact Ou.ret | exact Ou.non | assumption | apply Ou.ck | apply Ou.ite | refine Ou.sI ?_ ?_ ?_ | intro _)
theorem o_fX11_isLetter {M : Nat}  {x0 : Int32} {μ : JM}   (hq : QT M μ) : Ou M μ (fX11_isLetter x0 μ) := by
  unfold fX11_isLetter
  repeat' (with_reducible first | exact Ou.ret | exact Ou.non | assumption | exact QT.p (by assumption) | exact PR.so (by assumption) | exact PR.no | exact PR.se | exact PR.so PR.se | apply Ou.ck | apply Ou.ite | refine Ou.de ?_ ?_ | refine Ou.sI ?_ ?_ ?_ | refine Ou.sJ ?_ ?_ ?_ | refine Ou.cl ?_ ?_ ?_ | intro _)
theorem o_fX11_isDigit {M : Nat}  {x0 : Int32} {μ : JM}   (hq : QT M μ) : Ou M μ (fX11_isDigit x0 μ) := by
  unfold fX11_isDigit
  repeat' (with_reducible first | exact Ou.ret | exact Ou.non | assumption | exact QT.p (by assumption) | exact PR.so (by assumption) | exact PR.no | exact PR.se | exact PR.so PR.se | apply Ou.ck | apply Ou.ite | refine Ou.de ?_ ?_ | refine Ou.sI ?_ ?_ ?_ | refine Ou.sJ ?_ ?_ ?_ | refine Ou.cl ?_ ?_ ?_ | intro _)
theorem o_fX11_looks_b39 {M : Nat} {rec0 : Nat → JM → JO (Int32)}  {μ : JM} (h_rec0 : ∀  (μ : JM), QT M μ → Ou M μ (rec0 M μ))  (hq : QT M μ) : Ou M μ (fX11_looks_b39 rec0 M μ) := by
  unfold fX11_looks_b39
  repeat' (with_reducible first | exact Ou.ret | exact Ou.non | assumption | exact QT.p (by assumption) | exact PR.so (by assumption) | exact PR.no | exact PR.se | exact PR.so PR.se | apply Ou.ck | apply Ou.ite | refine Ou.de ?_ ?_ | refine Ou.sI ?_ ?_ ?_ | refine Ou.sJ ?_ ?_ ?_ | refine Ou.cl ?_ ?_ ?_ | apply h_rec0 | intro _)
theorem o_fX11_looks_b149 {M : Nat}   {μ : JM}   (hq : QT M μ) : Ou M μ (fX11_looks_b149 M μ) := by
  unfold fX11_looks_b149
  repeat' (with_reducible first | exact Ou.ret | exact Ou.non | assumption | exact QT.p (by assumption) | exact PR.so (by assumption) | exact PR.no | exact PR.se | exact PR.so PR.se | apply Ou.ck | apply Ou.ite | refine Ou.de ?_ ?_ | refine Ou.sI ?_ ?_ ?_ | refine Ou.sJ ?_ ?_ ?_ | refine Ou.cl ?_ ?_ ?_ | apply o_fX11_fails | apply o_fails_q | intro _)
theorem o_fX11_looks_b110 {M : Nat}   : ∀ (fu : Nat)  (μ : JM), QT M μ → Ou M μ (fX11_looks_b110  fu M μ) := by
  intro fu
  induction fu with
  | zero => intros; exact Ou.non
  | succ fu ih =>
    intros
    rw [fX11_looks_b110]
    repeat' (with_reducible first | exact Ou.ret | exact Ou.non | assumption | exact QT.p (by assumption) | exact PR.so (by assumption) | exact PR.no | exact PR.se | exact PR.so PR.se | apply Ou.ck | apply Ou.ite | refine Ou.de ?_ ?_ | refine Ou.sI ?_ ?_ ?_ | refine Ou.sJ ?_ ?_ ?_ | refine Ou.cl ?_ ?_ ?_ | apply o_fX11_isLetter | apply o_fX11_looks_b149 | apply ih | intro _)
theorem o_fX11_looks_b264 {M : Nat} {rec201 : Nat → JM → JO (Int32)}  {μ : JM} (h_rec201 : ∀  (μ : JM), QT M μ → Ou M μ (rec201 M μ))  (hq : QT M μ) : Ou M μ (fX11_looks_b264 rec201 M μ) := by
  unfold fX11_looks_b264
  repeat' (with_reducible first | exact Ou.ret | exact Ou.non | assumption | exact QT.p (by assumption) | exact PR.so (by assumption) | exact PR.no | exact PR.se | exact PR.so PR.se | apply Ou.ck | apply Ou.ite | refine Ou.de ?_ ?_ | refine Ou.sI ?_ ?_ ?_ | refine Ou.sJ ?_ ?_ ?_ | refine Ou.cl ?_ ?_ ?_ | apply h_rec201 | intro _)
theorem o_fX11_looks_b277 {M : Nat}   {μ : JM}   (hq : QT M μ) : Ou M μ (fX11_looks_b277 M μ) := by
  unfold fX11_looks_b277
  repeat' (with_reducible first | exact Ou.ret | exact Ou.non | assumption | exact QT.p (by assumption) | exact PR.so (by assumption) | exact PR.no | exact PR.se | exact PR.so PR.se | apply Ou.ck | apply Ou.ite | refine Ou.de ?_ ?_ | refine Ou.sI ?_ ?_ ?_ | refine Ou.sJ ?_ ?_ ?_ | refine Ou.cl ?_ ?_ ?_ | apply o_fX11_fails | apply o_fails_q | intro _)
theorem o_fX11_looks_b201 {M : Nat}   : ∀ (fu : Nat)  (μ : JM), QT M μ → Ou M μ (fX11_looks_b201  fu M μ) := by
  intro fu
  induction fu with
  | zero => intros; exact Ou.non
  | succ fu ih =>
    intros
    rw [fX11_looks_b201]
    repeat' (with_reducible first | exact Ou.ret | exact Ou.non | assumption | exact QT.p (by assumption) | exact PR.so (by assumption) | exact PR.no | exact PR.se | exact PR.so PR.se | apply Ou.ck | apply Ou.ite | refine Ou.de ?_ ?_ | refine Ou.sI ?_ ?_ ?_ | refine Ou.sJ ?_ ?_ ?_ | refine Ou.cl ?_ ?_ ?_ | apply o_fX11_isDigit | apply o_fX11_looks_b264 | apply o_fX11_looks_b277 | apply ih | intro _)
theorem o_fX11_looks_b346 {M : Nat}  {x1 : Int32} {s0 : Int32} {s1 : Option Nat} {μ : JM}  (p_s1 : PR M s1) (hq : QT M μ) : Ou M μ (fX11_looks_b346 M x1 s0 s1 μ) := by
  unfold fX11_looks_b346
  repeat' (with_reducible first | exact Ou.ret | exact Ou.non | assumption | exact QT.p (by assumption) | exact PR.so (by assumption) | exact PR.no | exact PR.se | exact PR.so PR.se | apply Ou.ck | apply Ou.ite | refine Ou.de ?_ ?_ | refine Ou.sI ?_ ?_ ?_ | refine Ou.sJ ?_ ?_ ?_ | refine Ou.cl ?_ ?_ ?_ | intro _)
theorem o_fX11_looks_b341 {M : Nat}  {x1 : Int32} {s0 : Option Nat} {μ : JM}  (p_s0 : PR M s0) (hq : QT M μ) : Ou M μ (fX11_looks_b341 M x1 s0 μ) := by
  unfold fX11_looks_b341
  repeat' (with_reducible first | exact Ou.ret | exact Ou.non | assumption | exact QT.p (by assumption) | exact PR.so (by assumption) | exact PR.no | exact PR.se | exact PR.so PR.se | apply Ou.ck | apply Ou.ite | refine Ou.de ?_ ?_ | refine Ou.sI ?_ ?_ ?_ | refine Ou.sJ ?_ ?_ ?_ | refine Ou.cl ?_ ?_ ?_ | apply o_fX11_looks_b346 | intro _)
theorem o_fX11_looks_b52 {M : Nat}   {μ : JM}   (hq : QT M μ) : Ou M μ (fX11_looks_b52 M μ) := by
  unfold fX11_looks_b52
  repeat' (with_reducible first | exact Ou.ret | exact Ou.non | assumption | exact QT.p (by assumption) | exact PR.so (by assumption) | exact PR.no | exact PR.se | exact PR.so PR.se | apply Ou.ck | apply Ou.ite | refine Ou.de ?_ ?_ | refine Ou.sI ?_ ?_ ?_ | refine Ou.sJ ?_ ?_ ?_ | refine Ou.cl ?_ ?_ ?_ | apply o_fX11_isDigit | apply o_fX11_isLetter | apply o_fX11_looks_b110 | apply o_fX11_looks_b201 | apply o_fX11_looks_b341 | apply o_fX11_looks_b346 | intro _)
theorem o_fX11_looks_b0 {M : Nat}   : ∀ (fu : Nat)  (μ : JM), QT M μ → Ou M μ (fX11_looks_b0  fu M μ) := by
  intro fu
  induction fu with
  | zero => intros; exact Ou.non
  | succ fu ih =>
    intros
    rw [fX11_looks_b0]
    repeat' (with_reducible first | exact Ou.ret | exact Ou.non | assumption | exact QT.p (by assumption) | exact PR.so (by assumption) | exact PR.no | exact PR.se | exact PR.so PR.se | apply Ou.ck | apply Ou.ite | refine Ou.de ?_ ?_ | refine Ou.sI ?_ ?_ ?_ | refine Ou.sJ ?_ ?_ ?_ | refine Ou.cl ?_ ?_ ?_ | apply o_fX11_looks_b39 | apply o_fX11_looks_b52 | apply ih | intro _)
theorem o_fX11_looks {M : Nat}   {μ : JM}   (hq : QT M μ) : Ou M μ (fX11_looks M μ) := by
  unfold fX11_looks
  repeat' (with_reducible first | exact Ou.ret | exact Ou.non | assumption | exact QT.p (by assumption) | exact PR.so (by assumption) | exact PR.no | exact PR.se | exact PR.so PR.se | apply Ou.ck | apply Ou.ite | refine Ou.de ?_ ?_ | refine Ou.sI ?_ ?_ ?_ | refine Ou.sJ ?_ ?_ ?_ | refine Ou.cl ?_ ?_ ?_ | apply o_fX11_looks_b0 | intro _)
theorem o_fX11_begins {M : Nat}   {μ : JM}   (hq : QT M μ) : Ou M μ (fX11_begins M μ) := by
  unfold fX11_begins
  repeat' (with_reducible first | exact Ou.ret | exact Ou.non | assumption | exact QT.p (by assumption) | exact PR.so (by assumption) | exact PR.no | exact PR.se | exact PR.so PR.se | apply Ou.ck | apply Ou.ite | refine Ou.de ?_ ?_ | refine Ou.sI ?_ ?_ ?_ | refine Ou.sJ ?_ ?_ ?_ | refine Ou.cl ?_ ?_ ?_ | apply o_fX11_looks | intro _)
theorem o_fX11_takesTape_b10 {M : Nat}   : ∀ (fu : Nat) (x1 : Int32) (μ : JM), QT M μ → Ou M μ (fX11_takesTape_b10  fu M x1 μ) := by
  intro fu
  induction fu with
  | zero => intros; exact Ou.non
  | succ fu ih =>
    intros
    rw [fX11_takesTape_b10]
    repeat' (with_reducible first | exact Ou.ret | exact Ou.non | assumption | exact QT.p (by assumption) | exact PR.so (by assumption) | exact PR.no | exact PR.se | exact PR.so PR.se | apply Ou.ck | apply Ou.ite | refine Ou.de ?_ ?_ | refine Ou.sI ?_ ?_ ?_ | refine Ou.sJ ?_ ?_ ?_ | refine Ou.cl ?_ ?_ ?_ | apply o_fX11_begins | apply ih | intro _)
theorem o_fX11_takesTape {M : Nat}   {μ : JM}   (hq : QT M μ) : Ou M μ (fX11_takesTape M μ) := by
  unfold fX11_takesTape
  repeat' (with_reducible first | exact Ou.ret | exact Ou.non | assumption | exact QT.p (by assumption) | exact PR.so (by assumption) | exact PR.no | exact PR.se | exact PR.so PR.se | apply Ou.ck | apply Ou.ite | refine Ou.de ?_ ?_ | refine Ou.sI ?_ ?_ ?_ | refine Ou.sJ ?_ ?_ ?_ | refine Ou.cl ?_ ?_ ?_ | apply o_fX11_takesTape_b10 | intro _)
theorem o_fX11_puts {M : Nat}  {x1 : Int32} {μ : JM}   (hq : QT M μ) : Ou M μ (fX11_puts M x1 μ) := by
  unfold fX11_puts
  repeat' (with_reducible first | exact Ou.ret | exact Ou.non | assumption | exact QT.p (by assumption) | exact PR.so (by assumption) | exact PR.no | exact PR.se | exact PR.so PR.se | apply Ou.ck | apply Ou.ite | refine Ou.de ?_ ?_ | refine Ou.sI ?_ ?_ ?_ | refine Ou.sJ ?_ ?_ ?_ | refine Ou.cl ?_ ?_ ?_ | intro _)
theorem o_fX11_takes_b93 {M : Nat} {rec60 : Nat → Int32 → JM → JO (Int32)} {x2 : Int32} {μ : JM} (h_rec60 : ∀ (z1 : Int32) (μ : JM), QT M μ → Ou M μ (rec60 M z1 μ))  (hq : QT M μ) : Ou M μ (fX11_takes_b93 rec60 M x2 μ) := by
  unfold fX11_takes_b93
  repeat' (with_reducible first | exact Ou.ret | exact Ou.non | assumption | exact QT.p (by assumption) | exact PR.so (by assumption) | exact PR.no | exact PR.se | exact PR.so PR.se | apply Ou.ck | apply Ou.ite | refine Ou.de ?_ ?_ | refine Ou.sI ?_ ?_ ?_ | refine Ou.sJ ?_ ?_ ?_ | refine Ou.cl ?_ ?_ ?_ | apply h_rec60 | intro _)
theorem o_fX11_takes_b77 {M : Nat} {rec60 : Nat → Int32 → JM → JO (Int32)} {x2 : Int32} {μ : JM} (h_rec60 : ∀ (z1 : Int32) (μ : JM), QT M μ → Ou M μ (rec60 M z1 μ))  (hq : QT M μ) : Ou M μ (fX11_takes_b77 rec60 M x2 μ) := by
  unfold fX11_takes_b77
  repeat' (with_reducible first | exact Ou.ret | exact Ou.non | assumption | exact QT.p (by assumption) | exact PR.so (by assumption) | exact PR.no | exact PR.se | exact PR.so PR.se | apply Ou.ck | apply Ou.ite | refine Ou.de ?_ ?_ | refine Ou.sI ?_ ?_ ?_ | refine Ou.sJ ?_ ?_ ?_ | refine Ou.cl ?_ ?_ ?_ | apply o_fX11_puts | apply o_fX11_takes_b93 | apply h_rec60 | intro _)
theorem o_fX11_takes_b152 {M : Nat}  {s0 : Int32} {s1 : Option Nat} {μ : JM}  (p_s1 : PR M s1) (hq : QT M μ) : Ou M μ (fX11_takes_b152 M s0 s1 μ) := by
  unfold fX11_takes_b152
  repeat' (with_reducible first | exact Ou.ret | exact Ou.non | assumption | exact QT.p (by assumption) | exact PR.so (by assumption) | exact PR.no | exact PR.se | exact PR.so PR.se | apply Ou.ck | apply Ou.ite | refine Ou.de ?_ ?_ | refine Ou.sI ?_ ?_ ?_ | refine Ou.sJ ?_ ?_ ?_ | refine Ou.cl ?_ ?_ ?_ | apply o_fX11_looks | intro _)
theorem o_fX11_takes_b135 {M : Nat}   {μ : JM}   (hq : QT M μ) : Ou M μ (fX11_takes_b135 M μ) := by
  unfold fX11_takes_b135
  repeat' (with_reducible first | exact Ou.ret | exact Ou.non | assumption | exact QT.p (by assumption) | exact PR.so (by assumption) | exact PR.no | exact PR.se | exact PR.so PR.se | apply Ou.ck | apply Ou.ite | refine Ou.de ?_ ?_ | refine Ou.sI ?_ ?_ ?_ | refine Ou.sJ ?_ ?_ ?_ | refine Ou.cl ?_ ?_ ?_ | apply o_fX11_takes_b152 | intro _)
theorem o_fX11_takes_b60 {M : Nat}   : ∀ (fu : Nat) (x2 : Int32) (μ : JM), QT M μ → Ou M μ (fX11_takes_b60  fu M x2 μ) := by
  intro fu
  induction fu with
  | zero => intros; exact Ou.non
  | succ fu ih =>
    intros
    rw [fX11_takes_b60]
    repeat' (with_reducible first | exact Ou.ret | exact Ou.non | assumption | exact QT.p (by assumption) | exact PR.so (by assumption) | exact PR.no | exact PR.se | exact PR.so PR.se | apply Ou.ck | apply Ou.ite | refine Ou.de ?_ ?_ | refine Ou.sI ?_ ?_ ?_ | refine Ou.sJ ?_ ?_ ?_ | refine Ou.cl ?_ ?_ ?_ | apply o_fX11_takes_b135 | apply o_fX11_takes_b77 | apply o_fX11_takes_b93 | apply ih | intro _)
theorem o_fX11_takes_b106 {M : Nat}   : ∀ (fu : Nat) (x2 : Int32) (μ : JM), QT M μ → Ou M μ (fX11_takes_b106  fu M x2 μ) := by
  intro fu
  induction fu with
  | zero => intros; exact Ou.non
  | succ fu ih =>
    intros
    rw [fX11_takes_b106]
    repeat' (with_reducible first | exact Ou.ret | exact Ou.non | assumption | exact QT.p (by assumption) | exact PR.so (by assumption) | exact PR.no | exact PR.se | exact PR.so PR.se | apply Ou.ck | apply Ou.ite | refine Ou.de ?_ ?_ | refine Ou.sI ?_ ?_ ?_ | refine Ou.sJ ?_ ?_ ?_ | refine Ou.cl ?_ ?_ ?_ | apply o_fX11_puts | apply o_fX11_takes_b135 | apply ih | intro _)
theorem o_fX11_takes_b49 {M : Nat}   {μ : JM}   (hq : QT M μ) : Ou M μ (fX11_takes_b49 M μ) := by
  unfold fX11_takes_b49
  repeat' (with_reducible first | exact Ou.ret | exact Ou.non | assumption | exact QT.p (by assumption) | exact PR.so (by assumption) | exact PR.no | exact PR.se | exact PR.so PR.se | apply Ou.ck | apply Ou.ite | refine Ou.de ?_ ?_ | refine Ou.sI ?_ ?_ ?_ | refine Ou.sJ ?_ ?_ ?_ | refine Ou.cl ?_ ?_ ?_ | apply o_fX11_takes_b106 | apply o_fX11_takes_b60 | intro _)
theorem o_fX11_takes_b38 {M : Nat}  {s0 : Int32} {μ : JM}   (hq : QT M μ) : Ou M μ (fX11_takes_b38 M s0 μ) := by
  unfold fX11_takes_b38
  repeat' (with_reducible first | exact Ou.ret | exact Ou.non | assumption | exact QT.p (by assumption) | exact PR.so (by assumption) | exact PR.no | exact PR.se | exact PR.so PR.se | apply Ou.ck | apply Ou.ite | refine Ou.de ?_ ?_ | refine Ou.sI ?_ ?_ ?_ | refine Ou.sJ ?_ ?_ ?_ | refine Ou.cl ?_ ?_ ?_ | apply o_fX11_puts | apply o_fX11_takes_b49 | intro _)
theorem o_fX11_takes_b33 {M : Nat}   {μ : JM}   (hq : QT M μ) : Ou M μ (fX11_takes_b33 M μ) := by
  unfold fX11_takes_b33
  repeat' (with_reducible first | exact Ou.ret | exact Ou.non | assumption | exact QT.p (by assumption) | exact PR.so (by assumption) | exact PR.no | exact PR.se | exact PR.so PR.se | apply Ou.ck | apply Ou.ite | refine Ou.de ?_ ?_ | refine Ou.sI ?_ ?_ ?_ | refine Ou.sJ ?_ ?_ ?_ | refine Ou.cl ?_ ?_ ?_ | apply o_fX11_takes_b38 | intro _)
theorem o_fX11_takes_b37 {M : Nat}   {μ : JM}   (hq : QT M μ) : Ou M μ (fX11_takes_b37 M μ) := by
  unfold fX11_takes_b37
  repeat' (with_reducible first | exact Ou.ret | exact Ou.non | assumption | exact QT.p (by assumption) | exact PR.so (by assumption) | exact PR.no | exact PR.se | exact PR.so PR.se | apply Ou.ck | apply Ou.ite | refine Ou.de ?_ ?_ | refine Ou.sI ?_ ?_ ?_ | refine Ou.sJ ?_ ?_ ?_ | refine Ou.cl ?_ ?_ ?_ | apply o_fX11_takes_b38 | intro _)
theorem o_fX11_takes {M : Nat}   {μ : JM}   (hq : QT M μ) : Ou M μ (fX11_takes M μ) := by
  unfold fX11_takes
  repeat' (with_reducible first | exact Ou.ret | exact Ou.non | assumption | exact QT.p (by assumption) | exact PR.so (by assumption) | exact PR.no | exact PR.se | exact PR.so PR.se | apply Ou.ck | apply Ou.ite | refine Ou.de ?_ ?_ | refine Ou.sI ?_ ?_ ?_ | refine Ou.sJ ?_ ?_ ?_ | refine Ou.cl ?_ ?_ ?_ | apply o_fX11_takes_b33 | apply o_fX11_takes_b37 | intro _)
theorem o_fX11_isSign {M : Nat}  {x1 : Int32} {μ : JM}   (hq : QT M μ) : Ou M μ (fX11_isSign M x1 μ) := by
  unfold fX11_isSign
  repeat' (with_reducible first | exact Ou.ret | exact Ou.non | assumption | exact QT.p (by assumption) | exact PR.so (by assumption) | exact PR.no | exact PR.se | exact PR.so PR.se | apply Ou.ck | apply Ou.ite | refine Ou.de ?_ ?_ | refine Ou.sI ?_ ?_ ?_ | refine Ou.sJ ?_ ?_ ?_ | refine Ou.cl ?_ ?_ ?_ | intro _)
theorem o_fX11_letters_b4 {M : Nat}   : ∀ (fu : Nat) (y1 : Int64) (x3 : Int32) (μ : JM), QT M μ → Ou M μ (fX11_letters_b4  fu M y1 x3 μ) := by
  intro fu
  induction fu with
  | zero => intros; exact Ou.non
  | succ fu ih =>
    intros
    rw [fX11_letters_b4]
    repeat' (with_reducible first | exact Ou.ret | exact Ou.non | assumption | exact QT.p (by assumption) | exact PR.so (by assumption) | exact PR.no | exact PR.se | exact PR.so PR.se | apply Ou.ck | apply Ou.ite | refine Ou.de ?_ ?_ | refine Ou.sI ?_ ?_ ?_ | refine Ou.sJ ?_ ?_ ?_ | refine Ou.cl ?_ ?_ ?_ | apply ih | intro _)
theorem o_fX11_letters {M : Nat}   {μ : JM}   (hq : QT M μ) : Ou M μ (fX11_letters M μ) := by
  unfold fX11_letters
  repeat' (with_reducible first | exact Ou.ret | exact Ou.non | assumption | exact QT.p (by assumption) | exact PR.so (by assumption) | exact PR.no | exact PR.se | exact PR.so PR.se | apply Ou.ck | apply Ou.ite | refine Ou.de ?_ ?_ | refine Ou.sI ?_ ?_ ?_ | refine Ou.sJ ?_ ?_ ?_ | refine Ou.cl ?_ ?_ ?_ | apply o_fX11_letters_b4 | intro _)
theorem o_fX11_isWord {M : Nat}  {y1 : Int64} {μ : JM}   (hq : QT M μ) : Ou M μ (fX11_isWord M y1 μ) := by
  unfold fX11_isWord
  repeat' (with_reducible first | exact Ou.ret | exact Ou.non | assumption | exact QT.p (by assumption) | exact PR.so (by assumption) | exact PR.no | exact PR.se | exact PR.so PR.se | apply Ou.ck | apply Ou.ite | refine Ou.de ?_ ?_ | refine Ou.sI ?_ ?_ ?_ | refine Ou.sJ ?_ ?_ ?_ | refine Ou.cl ?_ ?_ ?_ | apply o_fX11_letters | intro _)
theorem o_fX11_isOwn {M : Nat}   {μ : JM}   (hq : QT M μ) : Ou M μ (fX11_isOwn M μ) := by
  unfold fX11_isOwn
  repeat' (with_reducible first | exact Ou.ret | exact Ou.non | assumption | exact QT.p (by assumption) | exact PR.so (by assumption) | exact PR.no | exact PR.se | exact PR.so PR.se | apply Ou.ck | apply Ou.ite | refine Ou.de ?_ ?_ | refine Ou.sI ?_ ?_ ?_ | refine Ou.sJ ?_ ?_ ?_ | refine Ou.cl ?_ ?_ ?_ | apply o_fX11_isWord | intro _)
theorem o_fX11_expects_b27 {M : Nat}   {μ : JM}   (hq : QT M μ) : Ou M μ (fX11_expects_b27 M μ) := by
  unfold fX11_expects_b27
  repeat' (with_reducible first | exact Ou.ret | exact Ou.non | assumption | exact QT.p (by assumption) | exact PR.so (by assumption) | exact PR.no | exact PR.se | exact PR.so PR.se | apply Ou.ck | apply Ou.ite | refine Ou.de ?_ ?_ | refine Ou.sI ?_ ?_ ?_ | refine Ou.sJ ?_ ?_ ?_ | refine Ou.cl ?_ ?_ ?_ | apply o_fX11_takes | intro _)
theorem o_fX11_expects {M : Nat}  {y1 : Int64} {μ : JM}   (hq : QT M μ) : Ou M μ (fX11_expects M y1 μ) := by
  unfold fX11_expects
  repeat' (with_reducible first | exact Ou.ret | exact Ou.non | assumption | exact QT.p (by assumption) | exact PR.so (by assumption) | exact PR.no | exact PR.se | exact PR.so PR.se | apply Ou.ck | apply Ou.ite | refine Ou.de ?_ ?_ | refine Ou.sI ?_ ?_ ?_ | refine Ou.sJ ?_ ?_ ?_ | refine Ou.cl ?_ ?_ ?_ | apply o_fX11_expects_b27 | apply o_fX11_fails | apply o_fX11_isWord | apply o_fails_q | intro _)
theorem o_fX11_expectsSign_b27 {M : Nat}   {μ : JM}   (hq : QT M μ) : Ou M μ (fX11_expectsSign_b27 M μ) := by
  unfold fX11_expectsSign_b27
  repeat' (with_reducible first | exact Ou.ret | exact Ou.non | assumption | exact QT.p (by assumption) | exact PR.so (by assumption) | exact PR.no | exact PR.se | exact PR.so PR.se | apply Ou.ck | apply Ou.ite | refine Ou.de ?_ ?_ | refine Ou.sI ?_ ?_ ?_ | refine Ou.sJ ?_ ?_ ?_ | refine Ou.cl ?_ ?_ ?_ | apply o_fX11_takes | intro _)
theorem o_fX11_expectsSign {M : Nat}  {x1 : Int32} {μ : JM}   (hq : QT M μ) : Ou M μ (fX11_expectsSign M x1 μ) := by
  unfold fX11_expectsSign
  repeat' (with_reducible first | exact Ou.ret | exact Ou.non | assumption | exact QT.p (by assumption) | exact PR.so (by assumption) | exact PR.no | exact PR.se | exact PR.so PR.se | apply Ou.ck | apply Ou.ite | refine Ou.de ?_ ?_ | refine Ou.sI ?_ ?_ ?_ | refine Ou.sJ ?_ ?_ ?_ | refine Ou.cl ?_ ?_ ?_ | apply o_fX11_expectsSign_b27 | apply o_fX11_fails | apply o_fX11_isSign | apply o_fails_q | intro _)
theorem o_fX11_isName {M : Nat}   {μ : JM}   (hq : QT M μ) : Ou M μ (fX11_isName M μ) := by
  unfold fX11_isName
  repeat' (with_reducible first | exact Ou.ret | exact Ou.non | assumption | exact QT.p (by assumption) | exact PR.so (by assumption) | exact PR.no | exact PR.se | exact PR.so PR.se | apply Ou.ck | apply Ou.ite | refine Ou.de ?_ ?_ | refine Ou.sI ?_ ?_ ?_ | refine Ou.sJ ?_ ?_ ?_ | refine Ou.cl ?_ ?_ ?_ | apply o_fX11_fails | apply o_fX11_isOwn | apply o_fails_q | intro _)
theorem o_fX11_find_b74 {M : Nat} {rec3 : Nat → Option Nat → Option Nat → Int32 → Int32 → JM → JO (Int32)} {rec30 : Nat → Option Nat → Option Nat → Int32 → Int32 → Int32 → Int32 → JM → JO (Int32)} {p1 : Option Nat} {p2 : Option Nat} {x3 : Int32} {x4 : Int32} {x6 : Int32} {s0 : Int32} {μ : JM} (h_rec3 : ∀ (z1 : Option Nat) (z2 : Option Nat) (z3 : Int32) (z4 : Int32) (μ : JM), PR M z1 → PR M z2 → QT M μ → Ou M μ (rec3 M z1 z2 z3 z4 μ)) (h_rec30 : ∀ (z1 : Option Nat) (z2 : Option Nat) (z3 : Int32) (z4 : Int32) (z5 : Int32) (z6 : Int32) (μ : JM), PR M z1 → PR M z2 → QT M μ → Ou M μ (rec30 M z1 z2 z3 z4 z5 z6 μ)) (p_p1 : PR M p1) (p_p2 : PR M p2) (hq : QT M μ) : Ou M μ (fX11_find_b74 rec3 rec30 M p1 p2 x3 x4 x6 s0 μ) := by
  unfold fX11_find_b74
  repeat' (with_reducible first | exact Ou.ret | exact Ou.non | assumption | exact QT.p (by assumption) | exact PR.so (by assumption) | exact PR.no | exact PR.se | exact PR.so PR.se | apply Ou.ck | apply Ou.ite | refine Ou.de ?_ ?_ | refine Ou.sI ?_ ?_ ?_ | refine Ou.sJ ?_ ?_ ?_ | refine Ou.cl ?_ ?_ ?_ | apply h_rec3 | apply h_rec30 | intro _)
theorem o_fX11_find_b82 {M : Nat} {rec3 : Nat → Option Nat → Option Nat → Int32 → Int32 → JM → JO (Int32)} {p1 : Option Nat} {p2 : Option Nat} {x3 : Int32} {x4 : Int32} {x5 : Int32} {μ : JM} (h_rec3 : ∀ (z1 : Option Nat) (z2 : Option Nat) (z3 : Int32) (z4 : Int32) (μ : JM), PR M z1 → PR M z2 → QT M μ → Ou M μ (rec3 M z1 z2 z3 z4 μ)) (p_p1 : PR M p1) (p_p2 : PR M p2) (hq : QT M μ) : Ou M μ (fX11_find_b82 rec3 M p1 p2 x3 x4 x5 μ) := by
  unfold fX11_find_b82
  repeat' (with_reducible first | exact Ou.ret | exact Ou.non | assumption | exact QT.p (by assumption) | exact PR.so (by assumption) | exact PR.no | exact PR.se | exact PR.so PR.se | apply Ou.ck | apply Ou.ite | refine Ou.de ?_ ?_ | refine Ou.sI ?_ ?_ ?_ | refine Ou.sJ ?_ ?_ ?_ | refine Ou.cl ?_ ?_ ?_ | apply h_rec3 | intro _)
theorem o_fX11_find_b30 {M : Nat} {rec3 : Nat → Option Nat → Option Nat → Int32 → Int32 → JM → JO (Int32)} (h_rec3 : ∀ (z1 : Option Nat) (z2 : Option Nat) (z3 : Int32) (z4 : Int32) (μ : JM), PR M z1 → PR M z2 → QT M μ → Ou M μ (rec3 M z1 z2 z3 z4 μ)) : ∀ (fu : Nat) (p1 : Option Nat) (p2 : Option Nat) (x3 : Int32) (x4 : Int32) (x5 : Int32) (x6 : Int32) (μ : JM), PR M p1 → PR M p2 → QT M μ → Ou M μ (fX11_find_b30 rec3 fu M p1 p2 x3 x4 x5 x6 μ) := by
  intro fu
  induction fu with
  | zero => intros; exact Ou.non
  | succ fu ih =>
    intros
    rw [fX11_find_b30]
    repeat' (with_reducible first | exact Ou.ret | exact Ou.non | assumption | exact QT.p (by assumption) | exact PR.so (by assumption) | exact PR.no | exact PR.se | exact PR.so PR.se | apply Ou.ck | apply Ou.ite | refine Ou.de ?_ ?_ | refine Ou.sI ?_ ?_ ?_ | refine Ou.sJ ?_ ?_ ?_ | refine Ou.cl ?_ ?_ ?_ | apply o_fX11_find_b74 | apply o_fX11_find_b82 | apply h_rec3 | apply ih | intro _)
theorem o_fX11_find_b25 {M : Nat} {rec3 : Nat → Option Nat → Option Nat → Int32 → Int32 → JM → JO (Int32)} {p1 : Option Nat} {p2 : Option Nat} {x3 : Int32} {x4 : Int32} {s0 : Int32} {μ : JM} (h_rec3 : ∀ (z1 : Option Nat) (z2 : Option Nat) (z3 : Int32) (z4 : Int32) (μ : JM), PR M z1 → PR M z2 → QT M μ → Ou M μ (rec3 M z1 z2 z3 z4 μ)) (p_p1 : PR M p1) (p_p2 : PR M p2) (hq : QT M μ) : Ou M μ (fX11_find_b25 rec3 M p1 p2 x3 x4 s0 μ) := by
  unfold fX11_find_b25
  repeat' (with_reducible first | exact Ou.ret | exact Ou.non | assumption | exact QT.p (by assumption) | exact PR.so (by assumption) | exact PR.no | exact PR.se | exact PR.so PR.se | apply Ou.ck | apply Ou.ite | refine Ou.de ?_ ?_ | refine Ou.sI ?_ ?_ ?_ | refine Ou.sJ ?_ ?_ ?_ | refine Ou.cl ?_ ?_ ?_ | apply o_fX11_find_b30 | apply h_rec3 | intro _)
theorem o_fX11_find_b3 {M : Nat}   : ∀ (fu : Nat) (p1 : Option Nat) (p2 : Option Nat) (x3 : Int32) (x4 : Int32) (μ : JM), PR M p1 → PR M p2 → QT M μ → Ou M μ (fX11_find_b3  fu M p1 p2 x3 x4 μ) := by
  intro fu
  induction fu with
  | zero => intros; exact Ou.non
  | succ fu ih =>
    intros
    rw [fX11_find_b3]
    repeat' (with_reducible first | exact Ou.ret | exact Ou.non | assumption | exact QT.p (by assumption) | exact PR.so (by assumption) | exact PR.no | exact PR.se | exact PR.so PR.se | apply Ou.ck | apply Ou.ite | refine Ou.de ?_ ?_ | refine Ou.sI ?_ ?_ ?_ | refine Ou.sJ ?_ ?_ ?_ | refine Ou.cl ?_ ?_ ?_ | apply o_fX11_find_b25 | apply ih | intro _)
theorem o_fX11_find {M : Nat}  {p1 : Option Nat} {p2 : Option Nat} {x3 : Int32} {μ : JM}  (p_p1 : PR M p1) (p_p2 : PR M p2) (hq : QT M μ) : Ou M μ (fX11_find M p1 p2 x3 μ) := by
  unfold fX11_find
  repeat' (with_reducible first | exact Ou.ret | exact Ou.non | assumption | exact QT.p (by assumption) | exact PR.so (by assumption) | exact PR.no | exact PR.se | exact PR.so PR.se | apply Ou.ck | apply Ou.ite | refine Ou.de ?_ ?_ | refine Ou.sI ?_ ?_ ?_ | refine Ou.sJ ?_ ?_ ?_ | refine Ou.cl ?_ ?_ ?_ | apply o_fX11_find_b3 | intro _)
theorem o_fX11_name_b10 {M : Nat}   : ∀ (fu : Nat) (p1 : Option Nat) (x3 : Int32) (x4 : Int32) (μ : JM), PR M p1 → QT M μ → Ou M μ (fX11_name_b10  fu M p1 x3 x4 μ) := by
  intro fu
  induction fu with
  | zero => intros; exact Ou.non
  | succ fu ih =>
    intros
    rw [fX11_name_b10]
    repeat' (with_reducible first | exact Ou.ret | exact Ou.non | assumption | exact QT.p (by assumption) | exact PR.so (by assumption) | exact PR.no | exact PR.se | exact PR.so PR.se | apply Ou.ck | apply Ou.ite | refine Ou.de ?_ ?_ | refine Ou.sI ?_ ?_ ?_ | refine Ou.sJ ?_ ?_ ?_ | refine Ou.cl ?_ ?_ ?_ | apply ih | intro _)
theorem o_fX11_name {M : Nat}  {p1 : Option Nat} {p2 : Option Nat} {x3 : Int32} {μ : JM}  (p_p1 : PR M p1) (p_p2 : PR M p2) (hq : QT M μ) : Ou M μ (fX11_name M p1 p2 x3 μ) := by
  unfold fX11_name
  repeat' (with_reducible first | exact Ou.ret | exact Ou.non | assumption | exact QT.p (by assumption) | exact PR.so (by assumption) | exact PR.no | exact PR.se | exact PR.so PR.se | apply Ou.ck | apply Ou.ite | refine Ou.de ?_ ?_ | refine Ou.sI ?_ ?_ ?_ | refine Ou.sJ ?_ ?_ ?_ | refine Ou.cl ?_ ?_ ?_ | apply o_fX11_name_b10 | intro _)
theorem o_fX11_facts_b201 {M : Nat} {rec153 : Nat → Int32 → Int32 → JM → JO (Int32)} {rec168 : Nat → Int32 → Int32 → Int32 → JM → JO (Int32)} {x1 : Int32} {x3 : Int32} {x4 : Int32} {μ : JM} (h_rec153 : ∀ (z1 : Int32) (z2 : Int32) (μ : JM), QT M μ → Ou M μ (rec153 M z1 z2 μ)) (h_rec168 : ∀ (z1 : Int32) (z2 : Int32) (z3 : Int32) (μ : JM), QT M μ → Ou M μ (rec168 M z1 z2 z3 μ))  (hq : QT M μ) : Ou M μ (fX11_facts_b201 rec153 rec168 M x1 x3 x4 μ) := by
  unfold fX11_facts_b201
  repeat' (with_reducible first | exact Ou.ret | exact Ou.non | assumption | exact QT.p (by assumption) | exact PR.so (by assumption) | exact PR.no | exact PR.se | exact PR.so PR.se | apply Ou.ck | apply Ou.ite | refine Ou.de ?_ ?_ | refine Ou.sI ?_ ?_ ?_ | refine Ou.sJ ?_ ?_ ?_ | refine Ou.cl ?_ ?_ ?_ | apply h_rec153 | apply h_rec168 | intro _)
theorem o_fX11_facts_b168 {M : Nat} {rec153 : Nat → Int32 → Int32 → JM → JO (Int32)} (h_rec153 : ∀ (z1 : Int32) (z2 : Int32) (μ : JM), QT M μ → Ou M μ (rec153 M z1 z2 μ)) : ∀ (fu : Nat) (x1 : Int32) (x3 : Int32) (x4 : Int32) (μ : JM), QT M μ → Ou M μ (fX11_facts_b168 rec153 fu M x1 x3 x4 μ) := by
  intro fu
  induction fu with
  | zero => intros; exact Ou.non
  | succ fu ih =>
    intros
    rw [fX11_facts_b168]
    repeat' (with_reducible first | exact Ou.ret | exact Ou.non | assumption | exact QT.p (by assumption) | exact PR.so (by assumption) | exact PR.no | exact PR.se | exact PR.so PR.se | apply Ou.ck | apply Ou.ite | refine Ou.de ?_ ?_ | refine Ou.sI ?_ ?_ ?_ | refine Ou.sJ ?_ ?_ ?_ | refine Ou.cl ?_ ?_ ?_ | apply o_fX11_facts_b201 | apply h_rec153 | apply ih | intro _)
theorem o_fX11_facts_b277 {M : Nat} {rec227 : Nat → Int32 → Int32 → JM → JO (Int32)} {rec235 : Nat → Int32 → Int32 → Int32 → JM → JO (Int32)} {x1 : Int32} {x3 : Int32} {x4 : Int32} {μ : JM} (h_rec227 : ∀ (z1 : Int32) (z2 : Int32) (μ : JM), QT M μ → Ou M μ (rec227 M z1 z2 μ)) (h_rec235 : ∀ (z1 : Int32) (z2 : Int32) (z3 : Int32) (μ : JM), QT M μ → Ou M μ (rec235 M z1 z2 z3 μ))  (hq : QT M μ) : Ou M μ (fX11_facts_b277 rec227 rec235 M x1 x3 x4 μ) := by
  unfold fX11_facts_b277
  repeat' (with_reducible first | exact Ou.ret | exact Ou.non | assumption | exact QT.p (by assumption) | exact PR.so (by assumption) | exact PR.no | exact PR.se | exact PR.so PR.se | apply Ou.ck | apply Ou.ite | refine Ou.de ?_ ?_ | refine Ou.sI ?_ ?_ ?_ | refine Ou.sJ ?_ ?_ ?_ | refine Ou.cl ?_ ?_ ?_ | apply h_rec227 | apply h_rec235 | intro _)
theorem o_fX11_facts_b235 {M : Nat} {rec227 : Nat → Int32 → Int32 → JM → JO (Int32)} (h_rec227 : ∀ (z1 : Int32) (z2 : Int32) (μ : JM), QT M μ → Ou M μ (rec227 M z1 z2 μ)) : ∀ (fu : Nat) (x1 : Int32) (x3 : Int32) (x4 : Int32) (μ : JM), QT M μ → Ou M μ (fX11_facts_b235 rec227 fu M x1 x3 x4 μ) := by
  intro fu
  induction fu with
  | zero => intros; exact Ou.non
  | succ fu ih =>
    intros
    rw [fX11_facts_b235]
    repeat' (with_reducible first | exact Ou.ret | exact Ou.non | assumption | exact QT.p (by assumption) | exact PR.so (by assumption) | exact PR.no | exact PR.se | exact PR.so PR.se | apply Ou.ck | apply Ou.ite | refine Ou.de ?_ ?_ | refine Ou.sI ?_ ?_ ?_ | refine Ou.sJ ?_ ?_ ?_ | refine Ou.cl ?_ ?_ ?_ | apply o_fX11_facts_b277 | apply h_rec227 | apply ih | intro _)
theorem o_fX11_facts_b227 {M : Nat}   : ∀ (fu : Nat) (x1 : Int32) (x3 : Int32) (μ : JM), QT M μ → Ou M μ (fX11_facts_b227  fu M x1 x3 μ) := by
  intro fu
  induction fu with
  | zero => intros; exact Ou.non
  | succ fu ih =>
    intros
    rw [fX11_facts_b227]
    repeat' (with_reducible first | exact Ou.ret | exact Ou.non | assumption | exact QT.p (by assumption) | exact PR.so (by assumption) | exact PR.no | exact PR.se | exact PR.so PR.se | apply Ou.ck | apply Ou.ite | refine Ou.de ?_ ?_ | refine Ou.sI ?_ ?_ ?_ | refine Ou.sJ ?_ ?_ ?_ | refine Ou.cl ?_ ?_ ?_ | apply o_fX11_facts_b235 | apply ih | intro _)
theorem o_fX11_facts_b153 {M : Nat}   : ∀ (fu : Nat) (x1 : Int32) (x3 : Int32) (μ : JM), QT M μ → Ou M μ (fX11_facts_b153  fu M x1 x3 μ) := by
  intro fu
  induction fu with
  | zero => intros; exact Ou.non
  | succ fu ih =>
    intros
    rw [fX11_facts_b153]
    repeat' (with_reducible first | exact Ou.ret | exact Ou.non | assumption | exact QT.p (by assumption) | exact PR.so (by assumption) | exact PR.no | exact PR.se | exact PR.so PR.se | apply Ou.ck | apply Ou.ite | refine Ou.de ?_ ?_ | refine Ou.sI ?_ ?_ ?_ | refine Ou.sJ ?_ ?_ ?_ | refine Ou.cl ?_ ?_ ?_ | apply o_fX11_facts_b168 | apply o_fX11_facts_b227 | apply ih | intro _)
theorem o_fX11_facts_b134 {M : Nat}  {x1 : Int32} {x2 : Int32} {μ : JM}   (hq : QT M μ) : Ou M μ (fX11_facts_b134 M x1 x2 μ) := by
  unfold fX11_facts_b134
  repeat' (with_reducible first | exact Ou.ret | exact Ou.non | assumption | exact QT.p (by assumption) | exact PR.so (by assumption) | exact PR.no | exact PR.se | exact PR.so PR.se | apply Ou.ck | apply Ou.ite | refine Ou.de ?_ ?_ | refine Ou.sI ?_ ?_ ?_ | refine Ou.sJ ?_ ?_ ?_ | refine Ou.cl ?_ ?_ ?_ | apply o_fX11_facts_b153 | intro _)
theorem o_fX11_facts_b102 {M : Nat} {rec28 : Nat → Int32 → Int32 → JM → JO (Int32)} {x1 : Int32} {s0 : Int32} {μ : JM} (h_rec28 : ∀ (z1 : Int32) (z2 : Int32) (μ : JM), QT M μ → Ou M μ (rec28 M z1 z2 μ))  (hq : QT M μ) : Ou M μ (fX11_facts_b102 rec28 M x1 s0 μ) := by
  unfold fX11_facts_b102
  repeat' (with_reducible first | exact Ou.ret | exact Ou.non | assumption | exact QT.p (by assumption) | exact PR.so (by assumption) | exact PR.no | exact PR.se | exact PR.so PR.se | apply Ou.ck | apply Ou.ite | refine Ou.de ?_ ?_ | refine Ou.sI ?_ ?_ ?_ | refine Ou.sJ ?_ ?_ ?_ | refine Ou.cl ?_ ?_ ?_ | apply o_fX11_facts_b134 | apply o_fX11_name | apply o_fX11_takes | apply h_rec28 | intro _)
theorem o_fX11_facts_b97 {M : Nat} {rec28 : Nat → Int32 → Int32 → JM → JO (Int32)} {x1 : Int32} {μ : JM} (h_rec28 : ∀ (z1 : Int32) (z2 : Int32) (μ : JM), QT M μ → Ou M μ (rec28 M z1 z2 μ))  (hq : QT M μ) : Ou M μ (fX11_facts_b97 rec28 M x1 μ) := by
  unfold fX11_facts_b97
  repeat' (with_reducible first | exact Ou.ret | exact Ou.non | assumption | exact QT.p (by assumption) | exact PR.so (by assumption) | exact PR.no | exact PR.se | exact PR.so PR.se | apply Ou.ck | apply Ou.ite | refine Ou.de ?_ ?_ | refine Ou.sI ?_ ?_ ?_ | refine Ou.sJ ?_ ?_ ?_ | refine Ou.cl ?_ ?_ ?_ | apply o_fX11_facts_b102 | apply h_rec28 | intro _)
theorem o_fX11_facts_b101 {M : Nat} {rec28 : Nat → Int32 → Int32 → JM → JO (Int32)} {x1 : Int32} {μ : JM} (h_rec28 : ∀ (z1 : Int32) (z2 : Int32) (μ : JM), QT M μ → Ou M μ (rec28 M z1 z2 μ))  (hq : QT M μ) : Ou M μ (fX11_facts_b101 rec28 M x1 μ) := by
  unfold fX11_facts_b101
  repeat' (with_reducible first | exact Ou.ret | exact Ou.non | assumption | exact QT.p (by assumption) | exact PR.so (by assumption) | exact PR.no | exact PR.se | exact PR.so PR.se | apply Ou.ck | apply Ou.ite | refine Ou.de ?_ ?_ | refine Ou.sI ?_ ?_ ?_ | refine Ou.sJ ?_ ?_ ?_ | refine Ou.cl ?_ ?_ ?_ | apply o_fX11_facts_b102 | apply h_rec28 | intro _)
theorem o_fX11_facts_b78 {M : Nat} {rec28 : Nat → Int32 → Int32 → JM → JO (Int32)} {x1 : Int32} {μ : JM} (h_rec28 : ∀ (z1 : Int32) (z2 : Int32) (μ : JM), QT M μ → Ou M μ (rec28 M z1 z2 μ))  (hq : QT M μ) : Ou M μ (fX11_facts_b78 rec28 M x1 μ) := by
  unfold fX11_facts_b78
  repeat' (with_reducible first | exact Ou.ret | exact Ou.non | assumption | exact QT.p (by assumption) | exact PR.so (by assumption) | exact PR.no | exact PR.se | exact PR.so PR.se | apply Ou.ck | apply Ou.ite | refine Ou.de ?_ ?_ | refine Ou.sI ?_ ?_ ?_ | refine Ou.sJ ?_ ?_ ?_ | refine Ou.cl ?_ ?_ ?_ | apply o_fX11_facts_b101 | apply o_fX11_facts_b97 | apply o_fX11_fails | apply o_fails_q | apply h_rec28 | intro _)
theorem o_fX11_facts_b43 {M : Nat} {rec28 : Nat → Int32 → Int32 → JM → JO (Int32)} {x1 : Int32} {μ : JM} (h_rec28 : ∀ (z1 : Int32) (z2 : Int32) (μ : JM), QT M μ → Ou M μ (rec28 M z1 z2 μ))  (hq : QT M μ) : Ou M μ (fX11_facts_b43 rec28 M x1 μ) := by
  unfold fX11_facts_b43
  repeat' (with_reducible first | exact Ou.ret | exact Ou.non | assumption | exact QT.p (by assumption) | exact PR.so (by assumption) | exact PR.no | exact PR.se | exact PR.so PR.se | apply Ou.ck | apply Ou.ite | refine Ou.de ?_ ?_ | refine Ou.sI ?_ ?_ ?_ | refine Ou.sJ ?_ ?_ ?_ | refine Ou.cl ?_ ?_ ?_ | apply o_fX11_facts_b101 | apply o_fX11_facts_b78 | apply o_fX11_fails | apply o_fX11_find | apply o_fX11_isName | apply o_fails_q | apply h_rec28 | intro _)
theorem o_fX11_facts_b28 {M : Nat}   : ∀ (fu : Nat) (x1 : Int32) (x2 : Int32) (μ : JM), QT M μ → Ou M μ (fX11_facts_b28  fu M x1 x2 μ) := by
  intro fu
  induction fu with
  | zero => intros; exact Ou.non
  | succ fu ih =>
    intros
    rw [fX11_facts_b28]
    repeat' (with_reducible first | exact Ou.ret | exact Ou.non | assumption | exact QT.p (by assumption) | exact PR.so (by assumption) | exact PR.no | exact PR.se | exact PR.so PR.se | apply Ou.ck | apply Ou.ite | refine Ou.de ?_ ?_ | refine Ou.sI ?_ ?_ ?_ | refine Ou.sJ ?_ ?_ ?_ | refine Ou.cl ?_ ?_ ?_ | apply o_fX11_facts_b134 | apply o_fX11_facts_b43 | apply ih | intro _)
theorem o_fX11_facts_b27 {M : Nat}  {x1 : Int32} {s0 : Int32} {μ : JM}   (hq : QT M μ) : Ou M μ (fX11_facts_b27 M x1 s0 μ) := by
  unfold fX11_facts_b27
  repeat' (with_reducible first | exact Ou.ret | exact Ou.non | assumption | exact QT.p (by assumption) | exact PR.so (by assumption) | exact PR.no | exact PR.se | exact PR.so PR.se | apply Ou.ck | apply Ou.ite | refine Ou.de ?_ ?_ | refine Ou.sI ?_ ?_ ?_ | refine Ou.sJ ?_ ?_ ?_ | refine Ou.cl ?_ ?_ ?_ | apply o_fX11_facts_b28 | intro _)
theorem o_fX11_facts {M : Nat}   {μ : JM}   (hq : QT M μ) : Ou M μ (fX11_facts M μ) := by
  unfold fX11_facts
  repeat' (with_reducible first | exact Ou.ret | exact Ou.non | assumption | exact QT.p (by assumption) | exact PR.so (by assumption) | exact PR.no | exact PR.se | exact PR.so PR.se | apply Ou.ck | apply Ou.ite | refine Ou.de ?_ ?_ | refine Ou.sI ?_ ?_ ?_ | refine Ou.sJ ?_ ?_ ?_ | refine Ou.cl ?_ ?_ ?_ | apply o_fX11_facts_b27 | apply o_fX11_takesTape | intro _)
theorem o_fX11_opens_b2 {M : Nat}   : ∀ (fu : Nat) (x1 : Int32) (x2 : Int32) (μ : JM), QT M μ → Ou M μ (fX11_opens_b2  fu M x1 x2 μ) := by
  intro fu
  induction fu with
  | zero => intros; exact Ou.non
  | succ fu ih =>
    intros
    rw [fX11_opens_b2]
    repeat' (with_reducible first | exact Ou.ret | exact Ou.non | assumption | exact QT.p (by assumption) | exact PR.so (by assumption) | exact PR.no | exact PR.se | exact PR.so PR.se | apply Ou.ck | apply Ou.ite | refine Ou.de ?_ ?_ | refine Ou.sI ?_ ?_ ?_ | refine Ou.sJ ?_ ?_ ?_ | refine Ou.cl ?_ ?_ ?_ | apply ih | intro _)
theorem o_fX11_opens {M : Nat}  {x1 : Int32} {μ : JM}   (hq : QT M μ) : Ou M μ (fX11_opens M x1 μ) := by
  unfold fX11_opens
  repeat' (with_reducible first | exact Ou.ret | exact Ou.non | assumption | exact QT.p (by assumption) | exact PR.so (by assumption) | exact PR.no | exact PR.se | exact PR.so PR.se | apply Ou.ck | apply Ou.ite | refine Ou.de ?_ ?_ | refine Ou.sI ?_ ?_ ?_ | refine Ou.sJ ?_ ?_ ?_ | refine Ou.cl ?_ ?_ ?_ | apply o_fX11_opens_b2 | intro _)
theorem o_fX11_joins_b45 {M : Nat} {rec2 : Nat → Int32 → Int32 → JM → JO (Unit)} {x1 : Int32} {x2 : Int32} {s0 : Int64} {μ : JM} (h_rec2 : ∀ (z1 : Int32) (z2 : Int32) (μ : JM), QT M μ → Ou M μ (rec2 M z1 z2 μ))  (hq : QT M μ) : Ou M μ (fX11_joins_b45 rec2 M x1 x2 s0 μ) := by
  unfold fX11_joins_b45
  repeat' (with_reducible first | exact Ou.ret | exact Ou.non | assumption | exact QT.p (by assumption) | exact PR.so (by assumption) | exact PR.no | exact PR.se | exact PR.so PR.se | apply Ou.ck | apply Ou.ite | refine Ou.de ?_ ?_ | refine Ou.sI ?_ ?_ ?_ | refine Ou.sJ ?_ ?_ ?_ | refine Ou.cl ?_ ?_ ?_ | apply h_rec2 | intro _)
theorem o_fX11_joins_b2 {M : Nat}   : ∀ (fu : Nat) (x1 : Int32) (x2 : Int32) (μ : JM), QT M μ → Ou M μ (fX11_joins_b2  fu M x1 x2 μ) := by
  intro fu
  induction fu with
  | zero => intros; exact Ou.non
  | succ fu ih =>
    intros
    rw [fX11_joins_b2]
    repeat' (with_reducible first | exact Ou.ret | exact Ou.non | assumption | exact QT.p (by assumption) | exact PR.so (by assumption) | exact PR.no | exact PR.se | exact PR.so PR.se | apply Ou.ck | apply Ou.ite | refine Ou.de ?_ ?_ | refine Ou.sI ?_ ?_ ?_ | refine Ou.sJ ?_ ?_ ?_ | refine Ou.cl ?_ ?_ ?_ | apply o_fX11_joins_b45 | apply ih | intro _)
theorem o_fX11_joins {M : Nat}  {x1 : Int32} {μ : JM}   (hq : QT M μ) : Ou M μ (fX11_joins M x1 μ) := by
  unfold fX11_joins
  repeat' (with_reducible first | exact Ou.ret | exact Ou.non | assumption | exact QT.p (by assumption) | exact PR.so (by assumption) | exact PR.no | exact PR.se | exact PR.so PR.se | apply Ou.ck | apply Ou.ite | refine Ou.de ?_ ?_ | refine Ou.sI ?_ ?_ ?_ | refine Ou.sJ ?_ ?_ ?_ | refine Ou.cl ?_ ?_ ?_ | apply o_fX11_joins_b2 | intro _)
theorem o_fX11_ors_b2 {M : Nat}   : ∀ (fu : Nat) (x1 : Int32) (x2 : Int32) (μ : JM), QT M μ → Ou M μ (fX11_ors_b2  fu M x1 x2 μ) := by
  intro fu
  induction fu with
  | zero => intros; exact Ou.non
  | succ fu ih =>
    intros
    rw [fX11_ors_b2]
    repeat' (with_reducible first | exact Ou.ret | exact Ou.non | assumption | exact QT.p (by assumption) | exact PR.so (by assumption) | exact PR.no | exact PR.se | exact PR.so PR.se | apply Ou.ck | apply Ou.ite | refine Ou.de ?_ ?_ | refine Ou.sI ?_ ?_ ?_ | refine Ou.sJ ?_ ?_ ?_ | refine Ou.cl ?_ ?_ ?_ | apply ih | intro _)
theorem o_fX11_ors {M : Nat}  {x1 : Int32} {μ : JM}   (hq : QT M μ) : Ou M μ (fX11_ors M x1 μ) := by
  unfold fX11_ors
  repeat' (with_reducible first | exact Ou.ret | exact Ou.non | assumption | exact QT.p (by assumption) | exact PR.so (by assumption) | exact PR.no | exact PR.se | exact PR.so PR.se | apply Ou.ck | apply Ou.ite | refine Ou.de ?_ ?_ | refine Ou.sI ?_ ?_ ?_ | refine Ou.sJ ?_ ?_ ?_ | refine Ou.cl ?_ ?_ ?_ | apply o_fX11_ors_b2 | intro _)
theorem o_fX11_one_b15 {M : Nat}   {μ : JM}   (hq : QT M μ) : Ou M μ (fX11_one_b15 M μ) := by
  unfold fX11_one_b15
  repeat' (with_reducible first | exact Ou.ret | exact Ou.non | assumption | exact QT.p (by assumption) | exact PR.so (by assumption) | exact PR.no | exact PR.se | exact PR.so PR.se | apply Ou.ck | apply Ou.ite | refine Ou.de ?_ ?_ | refine Ou.sI ?_ ?_ ?_ | refine Ou.sJ ?_ ?_ ?_ | refine Ou.cl ?_ ?_ ?_ | apply o_fX11_fails | apply o_fails_q | intro _)
theorem o_fX11_one_b146 {M : Nat} {rec101 : Nat → Int32 → Int32 → Int32 → JM → JO (Int32)} {x1 : Int32} {x2 : Int32} {x3 : Int32} {s0 : Int64} {s1 : Int32} {s2 : Option Nat} {μ : JM} (h_rec101 : ∀ (z1 : Int32) (z2 : Int32) (z3 : Int32) (μ : JM), QT M μ → Ou M μ (rec101 M z1 z2 z3 μ)) (p_s2 : PR M s2) (hq : QT M μ) : Ou M μ (fX11_one_b146 rec101 M x1 x2 x3 s0 s1 s2 μ) := by
  unfold fX11_one_b146
  repeat' (with_reducible first | exact Ou.ret | exact Ou.non | assumption | exact QT.p (by assumption) | exact PR.so (by assumption) | exact PR.no | exact PR.se | exact PR.so PR.se | apply Ou.ck | apply Ou.ite | refine Ou.de ?_ ?_ | refine Ou.sI ?_ ?_ ?_ | refine Ou.sJ ?_ ?_ ?_ | refine Ou.cl ?_ ?_ ?_ | apply h_rec101 | intro _)
theorem o_fX11_one_b101 {M : Nat}   : ∀ (fu : Nat) (x1 : Int32) (x2 : Int32) (x3 : Int32) (μ : JM), QT M μ → Ou M μ (fX11_one_b101  fu M x1 x2 x3 μ) := by
  intro fu
  induction fu with
  | zero => intros; exact Ou.non
  | succ fu ih =>
    intros
    rw [fX11_one_b101]
    repeat' (with_reducible first | exact Ou.ret | exact Ou.non | assumption | exact QT.p (by assumption) | exact PR.so (by assumption) | exact PR.no | exact PR.se | exact PR.so PR.se | apply Ou.ck | apply Ou.ite | refine Ou.de ?_ ?_ | refine Ou.sI ?_ ?_ ?_ | refine Ou.sJ ?_ ?_ ?_ | refine Ou.cl ?_ ?_ ?_ | apply o_fX11_one_b146 | apply ih | intro _)
theorem o_fX11_one_b99 {M : Nat}  {x1 : Int32} {x2 : Int32} {μ : JM}   (hq : QT M μ) : Ou M μ (fX11_one_b99 M x1 x2 μ) := by
  unfold fX11_one_b99
  repeat' (with_reducible first | exact Ou.ret | exact Ou.non | assumption | exact QT.p (by assumption) | exact PR.so (by assumption) | exact PR.no | exact PR.se | exact PR.so PR.se | apply Ou.ck | apply Ou.ite | refine Ou.de ?_ ?_ | refine Ou.sI ?_ ?_ ?_ | refine Ou.sJ ?_ ?_ ?_ | refine Ou.cl ?_ ?_ ?_ | apply o_fX11_one_b101 | intro _)
theorem o_fX11_one_b73 {M : Nat}  {x1 : Int32} {s0 : Int32} {μ : JM}   (hq : QT M μ) : Ou M μ (fX11_one_b73 M x1 s0 μ) := by
  unfold fX11_one_b73
  repeat' (with_reducible first | exact Ou.ret | exact Ou.non | assumption | exact QT.p (by assumption) | exact PR.so (by assumption) | exact PR.no | exact PR.se | exact PR.so PR.se | apply Ou.ck | apply Ou.ite | refine Ou.de ?_ ?_ | refine Ou.sI ?_ ?_ ?_ | refine Ou.sJ ?_ ?_ ?_ | refine Ou.cl ?_ ?_ ?_ | apply o_fX11_fails | apply o_fX11_one_b99 | apply o_fails_q | intro _)
theorem o_fX11_one_b72 {M : Nat}  {x1 : Int32} {μ : JM}   (hq : QT M μ) : Ou M μ (fX11_one_b72 M x1 μ) := by
  unfold fX11_one_b72
  repeat' (with_reducible first | exact Ou.ret | exact Ou.non | assumption | exact QT.p (by assumption) | exact PR.so (by assumption) | exact PR.no | exact PR.se | exact PR.so PR.se | apply Ou.ck | apply Ou.ite | refine Ou.de ?_ ?_ | refine Ou.sI ?_ ?_ ?_ | refine Ou.sJ ?_ ?_ ?_ | refine Ou.cl ?_ ?_ ?_ | apply o_fX11_one_b73 | intro _)
theorem o_fX11_one {M : Nat}   {μ : JM}   (hq : QT M μ) : Ou M μ (fX11_one M μ) := by
  unfold fX11_one
  repeat' (with_reducible first | exact Ou.ret | exact Ou.non | assumption | exact QT.p (by assumption) | exact PR.so (by assumption) | exact PR.no | exact PR.se | exact PR.so PR.se | apply Ou.ck | apply Ou.ite | refine Ou.de ?_ ?_ | refine Ou.sI ?_ ?_ ?_ | refine Ou.sJ ?_ ?_ ?_ | refine Ou.cl ?_ ?_ ?_ | apply o_fX11_find | apply o_fX11_isOwn | apply o_fX11_one_b15 | apply o_fX11_one_b72 | apply o_fX11_one_b73 | intro _)
theorem o_fX11_condition_b87 {M : Nat} {rec11 : Nat → Int32 → Int32 → Int32 → JM → JO (Int32)} {x1 : Int32} {x2 : Int32} {x3 : Int32} {μ : JM} (h_rec11 : ∀ (z1 : Int32) (z2 : Int32) (z3 : Int32) (μ : JM), QT M μ → Ou M μ (rec11 M z1 z2 z3 μ))  (hq : QT M μ) : Ou M μ (fX11_condition_b87 rec11 M x1 x2 x3 μ) := by
  unfold fX11_condition_b87
  repeat' (with_reducible first | exact Ou.ret | exact Ou.non | assumption | exact QT.p (by assumption) | exact PR.so (by assumption) | exact PR.no | exact PR.se | exact PR.so PR.se | apply Ou.ck | apply Ou.ite | refine Ou.de ?_ ?_ | refine Ou.sI ?_ ?_ ?_ | refine Ou.sJ ?_ ?_ ?_ | refine Ou.cl ?_ ?_ ?_ | apply o_fX11_takes | apply h_rec11 | intro _)
theorem o_fX11_condition_b41 {M : Nat} {rec11 : Nat → Int32 → Int32 → Int32 → JM → JO (Int32)} {x1 : Int32} {x2 : Int32} {x3 : Int32} {x4 : Int32} {μ : JM} (h_rec11 : ∀ (z1 : Int32) (z2 : Int32) (z3 : Int32) (μ : JM), QT M μ → Ou M μ (rec11 M z1 z2 z3 μ))  (hq : QT M μ) : Ou M μ (fX11_condition_b41 rec11 M x1 x2 x3 x4 μ) := by
  unfold fX11_condition_b41
  repeat' (with_reducible first | exact Ou.ret | exact Ou.non | assumption | exact QT.p (by assumption) | exact PR.so (by assumption) | exact PR.no | exact PR.se | exact PR.so PR.se | apply Ou.ck | apply Ou.ite | refine Ou.de ?_ ?_ | refine Ou.sI ?_ ?_ ?_ | refine Ou.sJ ?_ ?_ ?_ | refine Ou.cl ?_ ?_ ?_ | apply o_fX11_condition_b87 | apply o_fX11_fails | apply o_fX11_opens | apply o_fails_q | apply h_rec11 | intro _)
theorem o_fX11_condition_b171 {M : Nat} {rec11 : Nat → Int32 → Int32 → Int32 → JM → JO (Int32)} {rec143 : Nat → Int32 → Int32 → Int32 → JM → JO (Int32)} (h_rec11 : ∀ (z1 : Int32) (z2 : Int32) (z3 : Int32) (μ : JM), QT M μ → Ou M μ (rec11 M z1 z2 z3 μ)) (h_rec143 : ∀ (z1 : Int32) (z2 : Int32) (z3 : Int32) (μ : JM), QT M μ → Ou M μ (rec143 M z1 z2 z3 μ)) : ∀ (fu : Nat) (x1 : Int32) (x2 : Int32) (x3 : Int32) (x5 : Int32) (μ : JM), QT M μ → Ou M μ (fX11_condition_b171 rec11 rec143 fu M x1 x2 x3 x5 μ) := by
  intro fu
  induction fu with
  | zero => intros; exact Ou.non
  | succ fu ih =>
    intros
    rw [fX11_condition_b171]
    repeat' (with_reducible first | exact Ou.ret | exact Ou.non | assumption | exact QT.p (by assumption) | exact PR.so (by assumption) | exact PR.no | exact PR.se | exact PR.so PR.se | apply Ou.ck | apply Ou.ite | refine Ou.de ?_ ?_ | refine Ou.sI ?_ ?_ ?_ | refine Ou.sJ ?_ ?_ ?_ | refine Ou.cl ?_ ?_ ?_ | apply o_fX11_joins | apply o_fX11_takes | apply h_rec11 | apply h_rec143 | apply ih | intro _)
theorem o_fX11_condition_b300 {M : Nat}   : ∀ (fu : Nat) (x5 : Int32) (μ : JM), QT M μ → Ou M μ (fX11_condition_b300  fu M x5 μ) := by
  intro fu
  induction fu with
  | zero => intros; exact Ou.non
  | succ fu ih =>
    intros
    rw [fX11_condition_b300]
    repeat' (with_reducible first | exact Ou.ret | exact Ou.non | assumption | exact QT.p (by assumption) | exact PR.so (by assumption) | exact PR.no | exact PR.se | exact PR.so PR.se | apply Ou.ck | apply Ou.ite | refine Ou.de ?_ ?_ | refine Ou.sI ?_ ?_ ?_ | refine Ou.sJ ?_ ?_ ?_ | refine Ou.cl ?_ ?_ ?_ | apply ih | intro _)
theorem o_fX11_condition_b328 {M : Nat} {rec11 : Nat → Int32 → Int32 → Int32 → JM → JO (Int32)} {x1 : Int32} {x2 : Int32} {x3 : Int32} {μ : JM} (h_rec11 : ∀ (z1 : Int32) (z2 : Int32) (z3 : Int32) (μ : JM), QT M μ → Ou M μ (rec11 M z1 z2 z3 μ))  (hq : QT M μ) : Ou M μ (fX11_condition_b328 rec11 M x1 x2 x3 μ) := by
  unfold fX11_condition_b328
  repeat' (with_reducible first | exact Ou.ret | exact Ou.non | assumption | exact QT.p (by assumption) | exact PR.so (by assumption) | exact PR.no | exact PR.se | exact PR.so PR.se | apply Ou.ck | apply Ou.ite | refine Ou.de ?_ ?_ | refine Ou.sI ?_ ?_ ?_ | refine Ou.sJ ?_ ?_ ?_ | refine Ou.cl ?_ ?_ ?_ | apply h_rec11 | intro _)
theorem o_fX11_condition_b228 {M : Nat} {rec11 : Nat → Int32 → Int32 → Int32 → JM → JO (Int32)} {x1 : Int32} {x2 : Int32} {x3 : Int32} {μ : JM} (h_rec11 : ∀ (z1 : Int32) (z2 : Int32) (z3 : Int32) (μ : JM), QT M μ → Ou M μ (rec11 M z1 z2 z3 μ))  (hq : QT M μ) : Ou M μ (fX11_condition_b228 rec11 M x1 x2 x3 μ) := by
  unfold fX11_condition_b228
  repeat' (with_reducible first | exact Ou.ret | exact Ou.non | assumption | exact QT.p (by assumption) | exact PR.so (by assumption) | exact PR.no | exact PR.se | exact PR.so PR.se | apply Ou.ck | apply Ou.ite | refine Ou.de ?_ ?_ | refine Ou.sI ?_ ?_ ?_ | refine Ou.sJ ?_ ?_ ?_ | refine Ou.cl ?_ ?_ ?_ | apply o_fX11_condition_b300 | apply o_fX11_condition_b328 | apply o_fX11_fails | apply o_fX11_isWord | apply o_fX11_ors | apply o_fX11_takes | apply o_fails_q | apply h_rec11 | intro _)
theorem o_fX11_condition_b143 {M : Nat} {rec11 : Nat → Int32 → Int32 → Int32 → JM → JO (Int32)} (h_rec11 : ∀ (z1 : Int32) (z2 : Int32) (z3 : Int32) (μ : JM), QT M μ → Ou M μ (rec11 M z1 z2 z3 μ)) : ∀ (fu : Nat) (x1 : Int32) (x2 : Int32) (x3 : Int32) (μ : JM), QT M μ → Ou M μ (fX11_condition_b143 rec11 fu M x1 x2 x3 μ) := by
  intro fu
  induction fu with
  | zero => intros; exact Ou.non
  | succ fu ih =>
    intros
    rw [fX11_condition_b143]
    repeat' (with_reducible first | exact Ou.ret | exact Ou.non | assumption | exact QT.p (by assumption) | exact PR.so (by assumption) | exact PR.no | exact PR.se | exact PR.so PR.se | apply Ou.ck | apply Ou.ite | refine Ou.de ?_ ?_ | refine Ou.sI ?_ ?_ ?_ | refine Ou.sJ ?_ ?_ ?_ | refine Ou.cl ?_ ?_ ?_ | apply o_fX11_condition_b171 | apply o_fX11_condition_b228 | apply o_fX11_isSign | apply o_fX11_ors | apply h_rec11 | apply ih | intro _)
theorem o_fX11_condition_b11 {M : Nat}   : ∀ (fu : Nat) (x1 : Int32) (x2 : Int32) (x3 : Int32) (μ : JM), QT M μ → Ou M μ (fX11_condition_b11  fu M x1 x2 x3 μ) := by
  intro fu
  induction fu with
  | zero => intros; exact Ou.non
  | succ fu ih =>
    intros
    rw [fX11_condition_b11]
    repeat' (with_reducible first | exact Ou.ret | exact Ou.non | assumption | exact QT.p (by assumption) | exact PR.so (by assumption) | exact PR.no | exact PR.se | exact PR.so PR.se | apply Ou.ck | apply Ou.ite | refine Ou.de ?_ ?_ | refine Ou.sI ?_ ?_ ?_ | refine Ou.sJ ?_ ?_ ?_ | refine Ou.cl ?_ ?_ ?_ | apply o_fX11_condition_b143 | apply o_fX11_condition_b41 | apply o_fX11_fails | apply o_fX11_isSign | apply o_fX11_isWord | apply o_fX11_joins | apply o_fX11_one | apply o_fX11_takes | apply o_fails_q | apply ih | intro _)
theorem o_fX11_condition {M : Nat}   {μ : JM}   (hq : QT M μ) : Ou M μ (fX11_condition M μ) := by
  unfold fX11_condition
  repeat' (with_reducible first | exact Ou.ret | exact Ou.non | assumption | exact QT.p (by assumption) | exact PR.so (by assumption) | exact PR.no | exact PR.se | exact PR.so PR.se | apply Ou.ck | apply Ou.ite | refine Ou.de ?_ ?_ | refine Ou.sI ?_ ?_ ?_ | refine Ou.sJ ?_ ?_ ?_ | refine Ou.cl ?_ ?_ ?_ | apply o_fX11_condition_b11 | apply o_fX11_opens | intro _)
theorem o_fX11_labelled_b96 {M : Nat} {rec2 : Nat → Int32 → Int32 → Int32 → JM → JO (Int32)} {rec49 : Nat → Int32 → Int32 → Int32 → Int32 → Int32 → Int32 → JM → JO (Int32)} {x1 : Int32} {x2 : Int32} {x3 : Int32} {x4 : Int32} {x6 : Int32} {s0 : Int32} {μ : JM} (h_rec2 : ∀ (z1 : Int32) (z2 : Int32) (z3 : Int32) (μ : JM), QT M μ → Ou M μ (rec2 M z1 z2 z3 μ)) (h_rec49 : ∀ (z1 : Int32) (z2 : Int32) (z3 : Int32) (z4 : Int32) (z5 : Int32) (z6 : Int32) (μ : JM), QT M μ → Ou M μ (rec49 M z1 z2 z3 z4 z5 z6 μ))  (hq : QT M μ) : Ou M μ (fX11_labelled_b96 rec2 rec49 M x1 x2 x3 x4 x6 s0 μ) := by
  unfold fX11_labelled_b96
  repeat' (with_reducible first | exact Ou.ret | exact Ou.non | assumption | exact QT.p (by assumption) | exact PR.so (by assumption) | exact PR.no | exact PR.se | exact PR.so PR.se | apply Ou.ck | apply Ou.ite | refine Ou.de ?_ ?_ | refine Ou.sI ?_ ?_ ?_ | refine Ou.sJ ?_ ?_ ?_ | refine Ou.cl ?_ ?_ ?_ | apply h_rec2 | apply h_rec49 | intro _)
theorem o_fX11_labelled_b104 {M : Nat} {rec2 : Nat → Int32 → Int32 → Int32 → JM → JO (Int32)} {x1 : Int32} {x2 : Int32} {x3 : Int32} {x5 : Int32} {μ : JM} (h_rec2 : ∀ (z1 : Int32) (z2 : Int32) (z3 : Int32) (μ : JM), QT M μ → Ou M μ (rec2 M z1 z2 z3 μ))  (hq : QT M μ) : Ou M μ (fX11_labelled_b104 rec2 M x1 x2 x3 x5 μ) := by
  unfold fX11_labelled_b104
  repeat' (with_reducible first | exact Ou.ret | exact Ou.non | assumption | exact QT.p (by assumption) | exact PR.so (by assumption) | exact PR.no | exact PR.se | exact PR.so PR.se | apply Ou.ck | apply Ou.ite | refine Ou.de ?_ ?_ | refine Ou.sI ?_ ?_ ?_ | refine Ou.sJ ?_ ?_ ?_ | refine Ou.cl ?_ ?_ ?_ | apply h_rec2 | intro _)
theorem o_fX11_labelled_b49 {M : Nat} {rec2 : Nat → Int32 → Int32 → Int32 → JM → JO (Int32)} (h_rec2 : ∀ (z1 : Int32) (z2 : Int32) (z3 : Int32) (μ : JM), QT M μ → Ou M μ (rec2 M z1 z2 z3 μ)) : ∀ (fu : Nat) (x1 : Int32) (x2 : Int32) (x3 : Int32) (x4 : Int32) (x5 : Int32) (x6 : Int32) (μ : JM), QT M μ → Ou M μ (fX11_labelled_b49 rec2 fu M x1 x2 x3 x4 x5 x6 μ) := by
  intro fu
  induction fu with
  | zero => intros; exact Ou.non
  | succ fu ih =>
    intros
    rw [fX11_labelled_b49]
    repeat' (with_reducible first | exact Ou.ret | exact Ou.non | assumption | exact QT.p (by assumption) | exact PR.so (by assumption) | exact PR.no | exact PR.se | exact PR.so PR.se | apply Ou.ck | apply Ou.ite | refine Ou.de ?_ ?_ | refine Ou.sI ?_ ?_ ?_ | refine Ou.sJ ?_ ?_ ?_ | refine Ou.cl ?_ ?_ ?_ | apply o_fX11_labelled_b104 | apply o_fX11_labelled_b96 | apply h_rec2 | apply ih | intro _)
theorem o_fX11_labelled_b44 {M : Nat} {rec2 : Nat → Int32 → Int32 → Int32 → JM → JO (Int32)} {x1 : Int32} {x2 : Int32} {x3 : Int32} {x4 : Int32} {s0 : Int32} {μ : JM} (h_rec2 : ∀ (z1 : Int32) (z2 : Int32) (z3 : Int32) (μ : JM), QT M μ → Ou M μ (rec2 M z1 z2 z3 μ))  (hq : QT M μ) : Ou M μ (fX11_labelled_b44 rec2 M x1 x2 x3 x4 s0 μ) := by
  unfold fX11_labelled_b44
  repeat' (with_reducible first | exact Ou.ret | exact Ou.non | assumption | exact QT.p (by assumption) | exact PR.so (by assumption) | exact PR.no | exact PR.se | exact PR.so PR.se | apply Ou.ck | apply Ou.ite | refine Ou.de ?_ ?_ | refine Ou.sI ?_ ?_ ?_ | refine Ou.sJ ?_ ?_ ?_ | refine Ou.cl ?_ ?_ ?_ | apply o_fX11_labelled_b49 | apply h_rec2 | intro _)
theorem o_fX11_labelled_b43 {M : Nat} {rec2 : Nat → Int32 → Int32 → Int32 → JM → JO (Int32)} {x1 : Int32} {x2 : Int32} {x3 : Int32} {x4 : Int32} {μ : JM} (h_rec2 : ∀ (z1 : Int32) (z2 : Int32) (z3 : Int32) (μ : JM), QT M μ → Ou M μ (rec2 M z1 z2 z3 μ))  (hq : QT M μ) : Ou M μ (fX11_labelled_b43 rec2 M x1 x2 x3 x4 μ) := by
  unfold fX11_labelled_b43
  repeat' (with_reducible first | exact Ou.ret | exact Ou.non | assumption | exact QT.p (by assumption) | exact PR.so (by assumption) | exact PR.no | exact PR.se | exact PR.so PR.se | apply Ou.ck | apply Ou.ite | refine Ou.de ?_ ?_ | refine Ou.sI ?_ ?_ ?_ | refine Ou.sJ ?_ ?_ ?_ | refine Ou.cl ?_ ?_ ?_ | apply o_fX11_labelled_b44 | apply h_rec2 | intro _)
theorem o_fX11_labelled_b2 {M : Nat}   : ∀ (fu : Nat) (x1 : Int32) (x2 : Int32) (x3 : Int32) (μ : JM), QT M μ → Ou M μ (fX11_labelled_b2  fu M x1 x2 x3 μ) := by
  intro fu
  induction fu with
  | zero => intros; exact Ou.non
  | succ fu ih =>
    intros
    rw [fX11_labelled_b2]
    repeat' (with_reducible first | exact Ou.ret | exact Ou.non | assumption | exact QT.p (by assumption) | exact PR.so (by assumption) | exact PR.no | exact PR.se | exact PR.so PR.se | apply Ou.ck | apply Ou.ite | refine Ou.de ?_ ?_ | refine Ou.sI ?_ ?_ ?_ | refine Ou.sJ ?_ ?_ ?_ | refine Ou.cl ?_ ?_ ?_ | apply o_fX11_labelled_b43 | apply o_fX11_labelled_b44 | apply ih | intro _)
theorem o_fX11_labelled {M : Nat}  {x1 : Int32} {x2 : Int32} {μ : JM}   (hq : QT M μ) : Ou M μ (fX11_labelled M x1 x2 μ) := by
  unfold fX11_labelled
  repeat' (with_reducible first | exact Ou.ret | exact Ou.non | assumption | exact QT.p (by assumption) | exact PR.so (by assumption) | exact PR.no | exact PR.se | exact PR.so PR.se | apply Ou.ck | apply Ou.ite | refine Ou.de ?_ ?_ | refine Ou.sI ?_ ?_ ?_ | refine Ou.sJ ?_ ?_ ?_ | refine Ou.cl ?_ ?_ ?_ | apply o_fX11_labelled_b2 | intro _)
theorem o_fX11_partyOf_b103 {M : Nat}  {x1 : Int32} {μ : JM}   (hq : QT M μ) : Ou M μ (fX11_partyOf_b103 M x1 μ) := by
  unfold fX11_partyOf_b103
  repeat' (with_reducible first | exact Ou.ret | exact Ou.non | assumption | exact QT.p (by assumption) | exact PR.so (by assumption) | exact PR.no | exact PR.se | exact PR.so PR.se | apply Ou.ck | apply Ou.ite | refine Ou.de ?_ ?_ | refine Ou.sI ?_ ?_ ?_ | refine Ou.sJ ?_ ?_ ?_ | refine Ou.cl ?_ ?_ ?_ | apply o_fX11_takes | intro _)
theorem o_fX11_partyOf_b71 {M : Nat}  {x1 : Int32} {μ : JM}   (hq : QT M μ) : Ou M μ (fX11_partyOf_b71 M x1 μ) := by
  unfold fX11_partyOf_b71
  repeat' (with_reducible first | exact Ou.ret | exact Ou.non | assumption | exact QT.p (by assumption) | exact PR.so (by assumption) | exact PR.no | exact PR.se | exact PR.so PR.se | apply Ou.ck | apply Ou.ite | refine Ou.de ?_ ?_ | refine Ou.sI ?_ ?_ ?_ | refine Ou.sJ ?_ ?_ ?_ | refine Ou.cl ?_ ?_ ?_ | apply o_fX11_name | apply o_fX11_partyOf_b103 | intro _)
theorem o_fX11_partyOf {M : Nat}   {μ : JM}   (hq : QT M μ) : Ou M μ (fX11_partyOf M μ) := by
  unfold fX11_partyOf
  repeat' (with_reducible first | exact Ou.ret | exact Ou.non | assumption | exact QT.p (by assumption) | exact PR.so (by assumption) | exact PR.no | exact PR.se | exact PR.so PR.se | apply Ou.ck | apply Ou.ite | refine Ou.de ?_ ?_ | refine Ou.sI ?_ ?_ ?_ | refine Ou.sJ ?_ ?_ ?_ | refine Ou.cl ?_ ?_ ?_ | apply o_fX11_fails | apply o_fX11_find | apply o_fX11_isName | apply o_fX11_partyOf_b71 | apply o_fX11_takes | apply o_fails_q | intro _)
theorem o_fX11_actOf_b103 {M : Nat}  {x1 : Int32} {μ : JM}   (hq : QT M μ) : Ou M μ (fX11_actOf_b103 M x1 μ) := by
  unfold fX11_actOf_b103
  repeat' (with_reducible first | exact Ou.ret | exact Ou.non | assumption | exact QT.p (by assumption) | exact PR.so (by assumption) | exact PR.no | exact PR.se | exact PR.so PR.se | apply Ou.ck | apply Ou.ite | refine Ou.de ?_ ?_ | refine Ou.sI ?_ ?_ ?_ | refine Ou.sJ ?_ ?_ ?_ | refine Ou.cl ?_ ?_ ?_ | apply o_fX11_takes | intro _)
theorem o_fX11_actOf_b71 {M : Nat}  {x1 : Int32} {μ : JM}   (hq : QT M μ) : Ou M μ (fX11_actOf_b71 M x1 μ) := by
  unfold fX11_actOf_b71
  repeat' (with_reducible first | exact Ou.ret | exact Ou.non | assumption | exact QT.p (by assumption) | exact PR.so (by assumption) | exact PR.no | exact PR.se | exact PR.so PR.se | apply Ou.ck | apply Ou.ite | refine Ou.de ?_ ?_ | refine Ou.sI ?_ ?_ ?_ | refine Ou.sJ ?_ ?_ ?_ | refine Ou.cl ?_ ?_ ?_ | apply o_fX11_actOf_b103 | apply o_fX11_name | intro _)
theorem o_fX11_actOf {M : Nat}   {μ : JM}   (hq : QT M μ) : Ou M μ (fX11_actOf M μ) := by
  unfold fX11_actOf
  repeat' (with_reducible first | exact Ou.ret | exact Ou.non | assumption | exact QT.p (by assumption) | exact PR.so (by assumption) | exact PR.no | exact PR.se | exact PR.so PR.se | apply Ou.ck | apply Ou.ite | refine Ou.de ?_ ?_ | refine Ou.sI ?_ ?_ ?_ | refine Ou.sJ ?_ ?_ ?_ | refine Ou.cl ?_ ?_ ?_ | apply o_fX11_actOf_b71 | apply o_fX11_fails | apply o_fX11_find | apply o_fX11_isName | apply o_fX11_takes | apply o_fails_q | intro _)
theorem o_fX11_placed_b227 {M : Nat} {rec2 : Nat → Int32 → Int32 → JM → JO (Int32)} {rec181 : Nat → Int32 → Int32 → Int32 → Int32 → Int32 → Int32 → JM → JO (Int32)} {x1 : Int32} {x2 : Int32} {x3 : Int32} {x4 : Int32} {x7 : Int32} {s0 : Int32} {μ : JM} (h_rec2 : ∀ (z1 : Int32) (z2 : Int32) (μ : JM), QT M μ → Ou M μ (rec2 M z1 z2 μ)) (h_rec181 : ∀ (z1 : Int32) (z2 : Int32) (z3 : Int32) (z4 : Int32) (z5 : Int32) (z6 : Int32) (μ : JM), QT M μ → Ou M μ (rec181 M z1 z2 z3 z4 z5 z6 μ))  (hq : QT M μ) : Ou M μ (fX11_placed_b227 rec2 rec181 M x1 x2 x3 x4 x7 s0 μ) := by
  unfold fX11_placed_b227
  repeat' (with_reducible first | exact Ou.ret | exact Ou.non | assumption | exact QT.p (by assumption) | exact PR.so (by assumption) | exact PR.no | exact PR.se | exact PR.so PR.se | apply Ou.ck | apply Ou.ite | refine Ou.de ?_ ?_ | refine Ou.sI ?_ ?_ ?_ | refine Ou.sJ ?_ ?_ ?_ | refine Ou.cl ?_ ?_ ?_ | apply h_rec2 | apply h_rec181 | intro _)
theorem o_fX11_placed_b270 {M : Nat} {rec2 : Nat → Int32 → Int32 → JM → JO (Int32)} {x1 : Int32} {x2 : Int32} {μ : JM} (h_rec2 : ∀ (z1 : Int32) (z2 : Int32) (μ : JM), QT M μ → Ou M μ (rec2 M z1 z2 μ))  (hq : QT M μ) : Ou M μ (fX11_placed_b270 rec2 M x1 x2 μ) := by
  unfold fX11_placed_b270
  repeat' (with_reducible first | exact Ou.ret | exact Ou.non | assumption | exact QT.p (by assumption) | exact PR.so (by assumption) | exact PR.no | exact PR.se | exact PR.so PR.se | apply Ou.ck | apply Ou.ite | refine Ou.de ?_ ?_ | refine Ou.sI ?_ ?_ ?_ | refine Ou.sJ ?_ ?_ ?_ | refine Ou.cl ?_ ?_ ?_ | apply h_rec2 | intro _)
theorem o_fX11_placed_b265 {M : Nat} {rec2 : Nat → Int32 → Int32 → JM → JO (Int32)} {x1 : Int32} {x2 : Int32} {s0 : Int32} {s1 : Int32} {μ : JM} (h_rec2 : ∀ (z1 : Int32) (z2 : Int32) (μ : JM), QT M μ → Ou M μ (rec2 M z1 z2 μ))  (hq : QT M μ) : Ou M μ (fX11_placed_b265 rec2 M x1 x2 s0 s1 μ) := by
  unfold fX11_placed_b265
  repeat' (with_reducible first | exact Ou.ret | exact Ou.non | assumption | exact QT.p (by assumption) | exact PR.so (by assumption) | exact PR.no | exact PR.se | exact PR.so PR.se | apply Ou.ck | apply Ou.ite | refine Ou.de ?_ ?_ | refine Ou.sI ?_ ?_ ?_ | refine Ou.sJ ?_ ?_ ?_ | refine Ou.cl ?_ ?_ ?_ | apply o_fX11_placed_b270 | apply h_rec2 | intro _)
theorem o_fX11_placed_b235 {M : Nat} {rec2 : Nat → Int32 → Int32 → JM → JO (Int32)} {x1 : Int32} {x2 : Int32} {x3 : Int32} {x4 : Int32} {x5 : Int32} {μ : JM} (h_rec2 : ∀ (z1 : Int32) (z2 : Int32) (μ : JM), QT M μ → Ou M μ (rec2 M z1 z2 μ))  (hq : QT M μ) : Ou M μ (fX11_placed_b235 rec2 M x1 x2 x3 x4 x5 μ) := by
  unfold fX11_placed_b235
  repeat' (with_reducible first | exact Ou.ret | exact Ou.non | assumption | exact QT.p (by assumption) | exact PR.so (by assumption) | exact PR.no | exact PR.se | exact PR.so PR.se | apply Ou.ck | apply Ou.ite | refine Ou.de ?_ ?_ | refine Ou.sI ?_ ?_ ?_ | refine Ou.sJ ?_ ?_ ?_ | refine Ou.cl ?_ ?_ ?_ | apply o_fX11_placed_b265 | apply o_fX11_placed_b270 | apply h_rec2 | intro _)
theorem o_fX11_placed_b181 {M : Nat} {rec2 : Nat → Int32 → Int32 → JM → JO (Int32)} (h_rec2 : ∀ (z1 : Int32) (z2 : Int32) (μ : JM), QT M μ → Ou M μ (rec2 M z1 z2 μ)) : ∀ (fu : Nat) (x1 : Int32) (x2 : Int32) (x3 : Int32) (x4 : Int32) (x5 : Int32) (x7 : Int32) (μ : JM), QT M μ → Ou M μ (fX11_placed_b181 rec2 fu M x1 x2 x3 x4 x5 x7 μ) := by
  intro fu
  induction fu with
  | zero => intros; exact Ou.non
  | succ fu ih =>
    intros
    rw [fX11_placed_b181]
    repeat' (with_reducible first | exact Ou.ret | exact Ou.non | assumption | exact QT.p (by assumption) | exact PR.so (by assumption) | exact PR.no | exact PR.se | exact PR.so PR.se | apply Ou.ck | apply Ou.ite | refine Ou.de ?_ ?_ | refine Ou.sI ?_ ?_ ?_ | refine Ou.sJ ?_ ?_ ?_ | refine Ou.cl ?_ ?_ ?_ | apply o_fX11_placed_b227 | apply o_fX11_placed_b235 | apply h_rec2 | apply ih | intro _)
theorem o_fX11_placed_b176 {M : Nat} {rec2 : Nat → Int32 → Int32 → JM → JO (Int32)} {x1 : Int32} {x2 : Int32} {x3 : Int32} {x4 : Int32} {s0 : Int32} {μ : JM} (h_rec2 : ∀ (z1 : Int32) (z2 : Int32) (μ : JM), QT M μ → Ou M μ (rec2 M z1 z2 μ))  (hq : QT M μ) : Ou M μ (fX11_placed_b176 rec2 M x1 x2 x3 x4 s0 μ) := by
  unfold fX11_placed_b176
  repeat' (with_reducible first | exact Ou.ret | exact Ou.non | assumption | exact QT.p (by assumption) | exact PR.so (by assumption) | exact PR.no | exact PR.se | exact PR.so PR.se | apply Ou.ck | apply Ou.ite | refine Ou.de ?_ ?_ | refine Ou.sI ?_ ?_ ?_ | refine Ou.sJ ?_ ?_ ?_ | refine Ou.cl ?_ ?_ ?_ | apply o_fX11_placed_b181 | apply h_rec2 | intro _)
theorem o_fX11_placed_b175 {M : Nat} {rec2 : Nat → Int32 → Int32 → JM → JO (Int32)} {x1 : Int32} {x2 : Int32} {x3 : Int32} {x4 : Int32} {μ : JM} (h_rec2 : ∀ (z1 : Int32) (z2 : Int32) (μ : JM), QT M μ → Ou M μ (rec2 M z1 z2 μ))  (hq : QT M μ) : Ou M μ (fX11_placed_b175 rec2 M x1 x2 x3 x4 μ) := by
  unfold fX11_placed_b175
  repeat' (with_reducible first | exact Ou.ret | exact Ou.non | assumption | exact QT.p (by assumption) | exact PR.so (by assumption) | exact PR.no | exact PR.se | exact PR.so PR.se | apply Ou.ck | apply Ou.ite | refine Ou.de ?_ ?_ | refine Ou.sI ?_ ?_ ?_ | refine Ou.sJ ?_ ?_ ?_ | refine Ou.cl ?_ ?_ ?_ | apply o_fX11_placed_b176 | apply h_rec2 | intro _)
theorem o_fX11_placed_b158 {M : Nat} {rec2 : Nat → Int32 → Int32 → JM → JO (Int32)} {x1 : Int32} {x2 : Int32} {x3 : Int32} {x4 : Int32} {x5 : Int32} {s0 : Int32} {μ : JM} (h_rec2 : ∀ (z1 : Int32) (z2 : Int32) (μ : JM), QT M μ → Ou M μ (rec2 M z1 z2 μ))  (hq : QT M μ) : Ou M μ (fX11_placed_b158 rec2 M x1 x2 x3 x4 x5 s0 μ) := by
  unfold fX11_placed_b158
  repeat' (with_reducible first | exact Ou.ret | exact Ou.non | assumption | exact QT.p (by assumption) | exact PR.so (by assumption) | exact PR.no | exact PR.se | exact PR.so PR.se | apply Ou.ck | apply Ou.ite | refine Ou.de ?_ ?_ | refine Ou.sI ?_ ?_ ?_ | refine Ou.sJ ?_ ?_ ?_ | refine Ou.cl ?_ ?_ ?_ | apply o_fX11_placed_b175 | apply o_fX11_placed_b176 | apply h_rec2 | intro _)
theorem o_fX11_placed_b157 {M : Nat} {rec2 : Nat → Int32 → Int32 → JM → JO (Int32)} {x1 : Int32} {x2 : Int32} {x3 : Int32} {x4 : Int32} {x5 : Int32} {μ : JM} (h_rec2 : ∀ (z1 : Int32) (z2 : Int32) (μ : JM), QT M μ → Ou M μ (rec2 M z1 z2 μ))  (hq : QT M μ) : Ou M μ (fX11_placed_b157 rec2 M x1 x2 x3 x4 x5 μ) := by
  unfold fX11_placed_b157
  repeat' (with_reducible first | exact Ou.ret | exact Ou.non | assumption | exact QT.p (by assumption) | exact PR.so (by assumption) | exact PR.no | exact PR.se | exact PR.so PR.se | apply Ou.ck | apply Ou.ite | refine Ou.de ?_ ?_ | refine Ou.sI ?_ ?_ ?_ | refine Ou.sJ ?_ ?_ ?_ | refine Ou.cl ?_ ?_ ?_ | apply o_fX11_placed_b158 | apply h_rec2 | intro _)
theorem o_fX11_placed_b50 {M : Nat} {rec2 : Nat → Int32 → Int32 → JM → JO (Int32)} {x1 : Int32} {x2 : Int32} {x3 : Int32} {x4 : Int32} {s0 : Int32} {μ : JM} (h_rec2 : ∀ (z1 : Int32) (z2 : Int32) (μ : JM), QT M μ → Ou M μ (rec2 M z1 z2 μ))  (hq : QT M μ) : Ou M μ (fX11_placed_b50 rec2 M x1 x2 x3 x4 s0 μ) := by
  unfold fX11_placed_b50
  repeat' (with_reducible first | exact Ou.ret | exact Ou.non | assumption | exact QT.p (by assumption) | exact PR.so (by assumption) | exact PR.no | exact PR.se | exact PR.so PR.se | apply Ou.ck | apply Ou.ite | refine Ou.de ?_ ?_ | refine Ou.sI ?_ ?_ ?_ | refine Ou.sJ ?_ ?_ ?_ | refine Ou.cl ?_ ?_ ?_ | apply o_fX11_placed_b157 | apply o_fX11_placed_b158 | apply h_rec2 | intro _)
theorem o_fX11_placed_b27 {M : Nat} {rec2 : Nat → Int32 → Int32 → JM → JO (Int32)} {x1 : Int32} {x2 : Int32} {x3 : Int32} {s0 : Int32} {μ : JM} (h_rec2 : ∀ (z1 : Int32) (z2 : Int32) (μ : JM), QT M μ → Ou M μ (rec2 M z1 z2 μ))  (hq : QT M μ) : Ou M μ (fX11_placed_b27 rec2 M x1 x2 x3 s0 μ) := by
  unfold fX11_placed_b27
  repeat' (with_reducible first | exact Ou.ret | exact Ou.non | assumption | exact QT.p (by assumption) | exact PR.so (by assumption) | exact PR.no | exact PR.se | exact PR.so PR.se | apply Ou.ck | apply Ou.ite | refine Ou.de ?_ ?_ | refine Ou.sI ?_ ?_ ?_ | refine Ou.sJ ?_ ?_ ?_ | refine Ou.cl ?_ ?_ ?_ | apply o_fX11_placed_b50 | apply h_rec2 | intro _)
theorem o_fX11_placed_b2 {M : Nat}   : ∀ (fu : Nat) (x1 : Int32) (x2 : Int32) (μ : JM), QT M μ → Ou M μ (fX11_placed_b2  fu M x1 x2 μ) := by
  intro fu
  induction fu with
  | zero => intros; exact Ou.non
  | succ fu ih =>
    intros
    rw [fX11_placed_b2]
    repeat' (with_reducible first | exact Ou.ret | exact Ou.non | assumption | exact QT.p (by assumption) | exact PR.so (by assumption) | exact PR.no | exact PR.se | exact PR.so PR.se | apply Ou.ck | apply Ou.ite | refine Ou.de ?_ ?_ | refine Ou.sI ?_ ?_ ?_ | refine Ou.sJ ?_ ?_ ?_ | refine Ou.cl ?_ ?_ ?_ | apply o_fX11_placed_b27 | apply ih | intro _)
theorem o_fX11_placed {M : Nat}  {x1 : Int32} {μ : JM}   (hq : QT M μ) : Ou M μ (fX11_placed M x1 μ) := by
  unfold fX11_placed
  repeat' (with_reducible first | exact Ou.ret | exact Ou.non | assumption | exact QT.p (by assumption) | exact PR.so (by assumption) | exact PR.no | exact PR.se | exact PR.so PR.se | apply Ou.ck | apply Ou.ite | refine Ou.de ?_ ?_ | refine Ou.sI ?_ ?_ ?_ | refine Ou.sJ ?_ ?_ ?_ | refine Ou.cl ?_ ?_ ?_ | apply o_fX11_placed_b2 | intro _)
theorem o_fX11_isThere {M : Nat}  {x1 : Int32} {μ : JM}   (hq : QT M μ) : Ou M μ (fX11_isThere M x1 μ) := by
  unfold fX11_isThere
  repeat' (with_reducible first | exact Ou.ret | exact Ou.non | assumption | exact QT.p (by assumption) | exact PR.so (by assumption) | exact PR.no | exact PR.se | exact PR.so PR.se | apply Ou.ck | apply Ou.ite | refine Ou.de ?_ ?_ | refine Ou.sI ?_ ?_ ?_ | refine Ou.sJ ?_ ?_ ?_ | refine Ou.cl ?_ ?_ ?_ | apply o_fX11_placed | intro _)
theorem o_fX11_keepsLabel_b12 {M : Nat}   : ∀ (fu : Nat) (x1 : Int32) (x2 : Int32) (μ : JM), QT M μ → Ou M μ (fX11_keepsLabel_b12  fu M x1 x2 μ) := by
  intro fu
  induction fu with
  | zero => intros; exact Ou.non
  | succ fu ih =>
    intros
    rw [fX11_keepsLabel_b12]
    repeat' (with_reducible first | exact Ou.ret | exact Ou.non | assumption | exact QT.p (by assumption) | exact PR.so (by assumption) | exact PR.no | exact PR.se | exact PR.so PR.se | apply Ou.ck | apply Ou.ite | refine Ou.de ?_ ?_ | refine Ou.sI ?_ ?_ ?_ | refine Ou.sJ ?_ ?_ ?_ | refine Ou.cl ?_ ?_ ?_ | apply ih | intro _)
theorem o_fX11_keepsLabel {M : Nat}  {x1 : Int32} {μ : JM}   (hq : QT M μ) : Ou M μ (fX11_keepsLabel M x1 μ) := by
  unfold fX11_keepsLabel
  repeat' (with_reducible first | exact Ou.ret | exact Ou.non | assumption | exact QT.p (by assumption) | exact PR.so (by assumption) | exact PR.no | exact PR.se | exact PR.so PR.se | apply Ou.ck | apply Ou.ite | refine Ou.de ?_ ?_ | refine Ou.sI ?_ ?_ ?_ | refine Ou.sJ ?_ ?_ ?_ | refine Ou.cl ?_ ?_ ?_ | apply o_fX11_keepsLabel_b12 | intro _)
theorem o_fX11_defines_b61 {M : Nat}   {μ : JM}   (hq : QT M μ) : Ou M μ (fX11_defines_b61 M μ) := by
  unfold fX11_defines_b61
  repeat' (with_reducible first | exact Ou.ret | exact Ou.non | assumption | exact QT.p (by assumption) | exact PR.so (by assumption) | exact PR.no | exact PR.se | exact PR.so PR.se | apply Ou.ck | apply Ou.ite | refine Ou.de ?_ ?_ | refine Ou.sI ?_ ?_ ?_ | refine Ou.sJ ?_ ?_ ?_ | refine Ou.cl ?_ ?_ ?_ | apply o_fX11_fails | apply o_fails_q | intro _)
theorem o_fX11_defines_b145 {M : Nat}   : ∀ (fu : Nat) (x1 : Int32) (x2 : Int32) (μ : JM), QT M μ → Ou M μ (fX11_defines_b145  fu M x1 x2 μ) := by
  intro fu
  induction fu with
  | zero => intros; exact Ou.non
  | succ fu ih =>
    intros
    rw [fX11_defines_b145]
    repeat' (with_reducible first | exact Ou.ret | exact Ou.non | assumption | exact QT.p (by assumption) | exact PR.so (by assumption) | exact PR.no | exact PR.se | exact PR.so PR.se | apply Ou.ck | apply Ou.ite | refine Ou.de ?_ ?_ | refine Ou.sI ?_ ?_ ?_ | refine Ou.sJ ?_ ?_ ?_ | refine Ou.cl ?_ ?_ ?_ | apply ih | intro _)
theorem o_fX11_defines_b71 {M : Nat}  {x1 : Int32} {μ : JM}   (hq : QT M μ) : Ou M μ (fX11_defines_b71 M x1 μ) := by
  unfold fX11_defines_b71
  repeat' (with_reducible first | exact Ou.ret | exact Ou.non | assumption | exact QT.p (by assumption) | exact PR.so (by assumption) | exact PR.no | exact PR.se | exact PR.so PR.se | apply Ou.ck | apply Ou.ite | refine Ou.de ?_ ?_ | refine Ou.sI ?_ ?_ ?_ | refine Ou.sJ ?_ ?_ ?_ | refine Ou.cl ?_ ?_ ?_ | apply o_fX11_condition | apply o_fX11_defines_b145 | apply o_fX11_expects | apply o_fX11_fails | apply o_fX11_isThere | apply o_fX11_keepsLabel | apply o_fX11_name | apply o_fX11_takes | apply o_fails_q | intro _)
theorem o_fX11_defines {M : Nat}  {x1 : Int32} {μ : JM}   (hq : QT M μ) : Ou M μ (fX11_defines M x1 μ) := by
  unfold fX11_defines
  repeat' (with_reducible first | exact Ou.ret | exact Ou.non | assumption | exact QT.p (by assumption) | exact PR.so (by assumption) | exact PR.no | exact PR.se | exact PR.so PR.se | apply Ou.ck | apply Ou.ite | refine Ou.de ?_ ?_ | refine Ou.sI ?_ ?_ ?_ | refine Ou.sJ ?_ ?_ ?_ | refine Ou.cl ?_ ?_ ?_ | apply o_fX11_defines_b61 | apply o_fX11_defines_b71 | apply o_fX11_find | apply o_fX11_isName | apply o_fX11_takes | intro _)
theorem o_fX11_byDays_b89 {M : Nat}  {s0 : Int32} {s1 : Int32} {s2 : Option Nat} {μ : JM}  (p_s2 : PR M s2) (hq : QT M μ) : Ou M μ (fX11_byDays_b89 M s0 s1 s2 μ) := by
  unfold fX11_byDays_b89
  repeat' (with_reducible first | exact Ou.ret | exact Ou.non | assumption | exact QT.p (by assumption) | exact PR.so (by assumption) | exact PR.no | exact PR.se | exact PR.so PR.se | apply Ou.ck | apply Ou.ite | refine Ou.de ?_ ?_ | refine Ou.sI ?_ ?_ ?_ | refine Ou.sJ ?_ ?_ ?_ | refine Ou.cl ?_ ?_ ?_ | apply o_fX11_expects | apply o_fX11_isWord | apply o_fX11_takes | intro _)
theorem o_fX11_byDays {M : Nat}  {x1 : Int32} {μ : JM}   (hq : QT M μ) : Ou M μ (fX11_byDays M x1 μ) := by
  unfold fX11_byDays
  repeat' (with_reducible first | exact Ou.ret | exact Ou.non | assumption | exact QT.p (by assumption) | exact PR.so (by assumption) | exact PR.no | exact PR.se | exact PR.so PR.se | apply Ou.ck | apply Ou.ite | refine Ou.de ?_ ?_ | refine Ou.sI ?_ ?_ ?_ | refine Ou.sJ ?_ ?_ ?_ | refine Ou.cl ?_ ?_ ?_ | apply o_fX11_byDays_b89 | apply o_fX11_expects | apply o_fX11_fails | apply o_fX11_isWord | apply o_fX11_takes | apply o_fails_q | intro _)
theorem o_fX11_over_b82 {M : Nat} {rec2 : Nat → Int32 → Int32 → Int32 → JM → JO (Int32)} {x1 : Int32} {x2 : Int32} {x4 : Int32} {s0 : Int32} {s1 : Int32} {s2 : Int32} {s3 : Option Nat} {μ : JM} (h_rec2 : ∀ (z1 : Int32) (z2 : Int32) (z3 : Int32) (μ : JM), QT M μ → Ou M μ (rec2 M z1 z2 z3 μ)) (p_s3 : PR M s3) (hq : QT M μ) : Ou M μ (fX11_over_b82 rec2 M x1 x2 x4 s0 s1 s2 s3 μ) := by
  unfold fX11_over_b82
  repeat' (with_reducible first | exact Ou.ret | exact Ou.non | assumption | exact QT.p (by assumption) | exact PR.so (by assumption) | exact PR.no | exact PR.se | exact PR.so PR.se | apply Ou.ck | apply Ou.ite | refine Ou.de ?_ ?_ | refine Ou.sI ?_ ?_ ?_ | refine Ou.sJ ?_ ?_ ?_ | refine Ou.cl ?_ ?_ ?_ | apply o_fX11_isWord | apply o_fX11_takes | apply h_rec2 | intro _)
theorem o_fX11_over_b39 {M : Nat} {rec2 : Nat → Int32 → Int32 → Int32 → JM → JO (Int32)} {x1 : Int32} {x2 : Int32} {s0 : Int32} {μ : JM} (h_rec2 : ∀ (z1 : Int32) (z2 : Int32) (z3 : Int32) (μ : JM), QT M μ → Ou M μ (rec2 M z1 z2 z3 μ))  (hq : QT M μ) : Ou M μ (fX11_over_b39 rec2 M x1 x2 s0 μ) := by
  unfold fX11_over_b39
  repeat' (with_reducible first | exact Ou.ret | exact Ou.non | assumption | exact QT.p (by assumption) | exact PR.so (by assumption) | exact PR.no | exact PR.se | exact PR.so PR.se | apply Ou.ck | apply Ou.ite | refine Ou.de ?_ ?_ | refine Ou.sI ?_ ?_ ?_ | refine Ou.sJ ?_ ?_ ?_ | refine Ou.cl ?_ ?_ ?_ | apply o_fX11_fails | apply o_fX11_over_b82 | apply o_fails_q | apply h_rec2 | intro _)
theorem o_fX11_over_b2 {M : Nat}   : ∀ (fu : Nat) (x1 : Int32) (x2 : Int32) (x3 : Int32) (μ : JM), QT M μ → Ou M μ (fX11_over_b2  fu M x1 x2 x3 μ) := by
  intro fu
  induction fu with
  | zero => intros; exact Ou.non
  | succ fu ih =>
    intros
    rw [fX11_over_b2]
    repeat' (with_reducible first | exact Ou.ret | exact Ou.non | assumption | exact QT.p (by assumption) | exact PR.so (by assumption) | exact PR.no | exact PR.se | exact PR.so PR.se | apply Ou.ck | apply Ou.ite | refine Ou.de ?_ ?_ | refine Ou.sI ?_ ?_ ?_ | refine Ou.sJ ?_ ?_ ?_ | refine Ou.cl ?_ ?_ ?_ | apply o_fX11_isName | apply o_fX11_labelled | apply o_fX11_over_b39 | apply o_fX11_takes | apply ih | intro _)
theorem o_fX11_over {M : Nat}  {x1 : Int32} {x2 : Int32} {μ : JM}   (hq : QT M μ) : Ou M μ (fX11_over M x1 x2 μ) := by
  unfold fX11_over
  repeat' (with_reducible first | exact Ou.ret | exact Ou.non | assumption | exact QT.p (by assumption) | exact PR.so (by assumption) | exact PR.no | exact PR.se | exact PR.so PR.se | apply Ou.ck | apply Ou.ite | refine Ou.de ?_ ?_ | refine Ou.sI ?_ ?_ ?_ | refine Ou.sJ ?_ ?_ ?_ | refine Ou.cl ?_ ?_ ?_ | apply o_fX11_over_b2 | intro _)
theorem o_fX11_clause_b440 {M : Nat}  {x1 : Int32} {x2 : Int32} {μ : JM}   (hq : QT M μ) : Ou M μ (fX11_clause_b440 M x1 x2 μ) := by
  unfold fX11_clause_b440
  repeat' (with_reducible first | exact Ou.ret | exact Ou.non | assumption | exact QT.p (by assumption) | exact PR.so (by assumption) | exact PR.no | exact PR.se | exact PR.so PR.se | apply Ou.ck | apply Ou.ite | refine Ou.de ?_ ?_ | refine Ou.sI ?_ ?_ ?_ | refine Ou.sJ ?_ ?_ ?_ | refine Ou.cl ?_ ?_ ?_ | apply o_fX11_isWord | apply o_fX11_over | intro _)
theorem o_fX11_clause_b406 {M : Nat}   : ∀ (fu : Nat) (x1 : Int32) (x2 : Int32) (x3 : Int32) (μ : JM), QT M μ → Ou M μ (fX11_clause_b406  fu M x1 x2 x3 μ) := by
  intro fu
  induction fu with
  | zero => intros; exact Ou.non
  | succ fu ih =>
    intros
    rw [fX11_clause_b406]
    repeat' (with_reducible first | exact Ou.ret | exact Ou.non | assumption | exact QT.p (by assumption) | exact PR.so (by assumption) | exact PR.no | exact PR.se | exact PR.so PR.se | apply Ou.ck | apply Ou.ite | refine Ou.de ?_ ?_ | refine Ou.sI ?_ ?_ ?_ | refine Ou.sJ ?_ ?_ ?_ | refine Ou.cl ?_ ?_ ?_ | apply o_fX11_clause_b440 | apply ih | intro _)
theorem o_fX11_clause_b378 {M : Nat}  {x1 : Int32} {x2 : Int32} {μ : JM}   (hq : QT M μ) : Ou M μ (fX11_clause_b378 M x1 x2 μ) := by
  unfold fX11_clause_b378
  repeat' (with_reducible first | exact Ou.ret | exact Ou.non | assumption | exact QT.p (by assumption) | exact PR.so (by assumption) | exact PR.no | exact PR.se | exact PR.so PR.se | apply Ou.ck | apply Ou.ite | refine Ou.de ?_ ?_ | refine Ou.sI ?_ ?_ ?_ | refine Ou.sJ ?_ ?_ ?_ | refine Ou.cl ?_ ?_ ?_ | apply o_fX11_clause_b406 | apply o_fX11_clause_b440 | apply o_fX11_condition | apply o_fX11_isWord | apply o_fX11_takes | intro _)
theorem o_fX11_clause_b348 {M : Nat}   : ∀ (fu : Nat) (x1 : Int32) (x2 : Int32) (x3 : Int32) (μ : JM), QT M μ → Ou M μ (fX11_clause_b348  fu M x1 x2 x3 μ) := by
  intro fu
  induction fu with
  | zero => intros; exact Ou.non
  | succ fu ih =>
    intros
    rw [fX11_clause_b348]
    repeat' (with_reducible first | exact Ou.ret | exact Ou.non | assumption | exact QT.p (by assumption) | exact PR.so (by assumption) | exact PR.no | exact PR.se | exact PR.so PR.se | apply Ou.ck | apply Ou.ite | refine Ou.de ?_ ?_ | refine Ou.sI ?_ ?_ ?_ | refine Ou.sJ ?_ ?_ ?_ | refine Ou.cl ?_ ?_ ?_ | apply o_fX11_clause_b378 | apply ih | intro _)
theorem o_fX11_clause_b293 {M : Nat}   : ∀ (fu : Nat) (x1 : Int32) (x2 : Int32) (x3 : Int32) (μ : JM), QT M μ → Ou M μ (fX11_clause_b293  fu M x1 x2 x3 μ) := by
  intro fu
  induction fu with
  | zero => intros; exact Ou.non
  | succ fu ih =>
    intros
    rw [fX11_clause_b293]
    repeat' (with_reducible first | exact Ou.ret | exact Ou.non | assumption | exact QT.p (by assumption) | exact PR.so (by assumption) | exact PR.no | exact PR.se | exact PR.so PR.se | apply Ou.ck | apply Ou.ite | refine Ou.de ?_ ?_ | refine Ou.sI ?_ ?_ ?_ | refine Ou.sJ ?_ ?_ ?_ | refine Ou.cl ?_ ?_ ?_ | apply o_fX11_clause_b348 | apply o_fX11_clause_b378 | apply o_fX11_condition | apply o_fX11_isWord | apply o_fX11_takes | apply ih | intro _)
theorem o_fX11_clause_b291 {M : Nat}  {x1 : Int32} {x2 : Int32} {μ : JM}   (hq : QT M μ) : Ou M μ (fX11_clause_b291 M x1 x2 μ) := by
  unfold fX11_clause_b291
  repeat' (with_reducible first | exact Ou.ret | exact Ou.non | assumption | exact QT.p (by assumption) | exact PR.so (by assumption) | exact PR.no | exact PR.se | exact PR.so PR.se | apply Ou.ck | apply Ou.ite | refine Ou.de ?_ ?_ | refine Ou.sI ?_ ?_ ?_ | refine Ou.sJ ?_ ?_ ?_ | refine Ou.cl ?_ ?_ ?_ | apply o_fX11_clause_b293 | intro _)
theorem o_fX11_clause_b203 {M : Nat}  {x1 : Int32} {x2 : Int32} {s0 : Int32} {s1 : Int32} {s2 : Option Nat} {μ : JM}  (p_s2 : PR M s2) (hq : QT M μ) : Ou M μ (fX11_clause_b203 M x1 x2 s0 s1 s2 μ) := by
  unfold fX11_clause_b203
  repeat' (with_reducible first | exact Ou.ret | exact Ou.non | assumption | exact QT.p (by assumption) | exact PR.so (by assumption) | exact PR.no | exact PR.se | exact PR.so PR.se | apply Ou.ck | apply Ou.ite | refine Ou.de ?_ ?_ | refine Ou.sI ?_ ?_ ?_ | refine Ou.sJ ?_ ?_ ?_ | refine Ou.cl ?_ ?_ ?_ | apply o_fX11_actOf | apply o_fX11_byDays | apply o_fX11_clause_b291 | apply o_fX11_expects | apply o_fX11_fails | apply o_fX11_partyOf | apply o_fX11_takes | apply o_fails_q | intro _)
theorem o_fX11_clause_b107 {M : Nat}  {x1 : Int32} {x2 : Int32} {μ : JM}   (hq : QT M μ) : Ou M μ (fX11_clause_b107 M x1 x2 μ) := by
  unfold fX11_clause_b107
  repeat' (with_reducible first | exact Ou.ret | exact Ou.non | assumption | exact QT.p (by assumption) | exact PR.so (by assumption) | exact PR.no | exact PR.se | exact PR.so PR.se | apply Ou.ck | apply Ou.ite | refine Ou.de ?_ ?_ | refine Ou.sI ?_ ?_ ?_ | refine Ou.sJ ?_ ?_ ?_ | refine Ou.cl ?_ ?_ ?_ | apply o_fX11_clause_b203 | apply o_fX11_expectsSign | apply o_fX11_fails | apply o_fX11_isThere | apply o_fX11_isWord | apply o_fX11_keepsLabel | apply o_fX11_takes | apply o_fails_q | intro _)
theorem o_fX11_clause {M : Nat}  {x1 : Int32} {μ : JM}   (hq : QT M μ) : Ou M μ (fX11_clause M x1 μ) := by
  unfold fX11_clause
  repeat' (with_reducible first | exact Ou.ret | exact Ou.non | assumption | exact QT.p (by assumption) | exact PR.so (by assumption) | exact PR.no | exact PR.se | exact PR.so PR.se | apply Ou.ck | apply Ou.ite | refine Ou.de ?_ ?_ | refine Ou.sI ?_ ?_ ?_ | refine Ou.sJ ?_ ?_ ?_ | refine Ou.cl ?_ ?_ ?_ | apply o_fX11_clause_b107 | apply o_fX11_defines | apply o_fX11_fails | apply o_fX11_isName | apply o_fX11_isWord | apply o_fX11_labelled | apply o_fails_q | intro _)
theorem o_fX11_beyond_b70 {M : Nat}  {s0 : Int32} {s1 : Option Nat} {μ : JM}  (p_s1 : PR M s1) (hq : QT M μ) : Ou M μ (fX11_beyond_b70 M s0 s1 μ) := by
  unfold fX11_beyond_b70
  repeat' (with_reducible first | exact Ou.ret | exact Ou.non | assumption | exact QT.p (by assumption) | exact PR.so (by assumption) | exact PR.no | exact PR.se | exact PR.so PR.se | apply Ou.ck | apply Ou.ite | refine Ou.de ?_ ?_ | refine Ou.sI ?_ ?_ ?_ | refine Ou.sJ ?_ ?_ ?_ | refine Ou.cl ?_ ?_ ?_ | apply o_fX11_fails | apply o_fails_q | intro _)
theorem o_fX11_beyond_b59 {M : Nat}  {s0 : Int32} {μ : JM}   (hq : QT M μ) : Ou M μ (fX11_beyond_b59 M s0 μ) := by
  unfold fX11_beyond_b59
  repeat' (with_reducible first | exact Ou.ret | exact Ou.non | assumption | exact QT.p (by assumption) | exact PR.so (by assumption) | exact PR.no | exact PR.se | exact PR.so PR.se | apply Ou.ck | apply Ou.ite | refine Ou.de ?_ ?_ | refine Ou.sI ?_ ?_ ?_ | refine Ou.sJ ?_ ?_ ?_ | refine Ou.cl ?_ ?_ ?_ | apply o_fX11_beyond_b70 | intro _)
theorem o_fX11_beyond_b54 {M : Nat}   {μ : JM}   (hq : QT M μ) : Ou M μ (fX11_beyond_b54 M μ) := by
  unfold fX11_beyond_b54
  repeat' (with_reducible first | exact Ou.ret | exact Ou.non | assumption | exact QT.p (by assumption) | exact PR.so (by assumption) | exact PR.no | exact PR.se | exact PR.so PR.se | apply Ou.ck | apply Ou.ite | refine Ou.de ?_ ?_ | refine Ou.sI ?_ ?_ ?_ | refine Ou.sJ ?_ ?_ ?_ | refine Ou.cl ?_ ?_ ?_ | apply o_fX11_beyond_b59 | intro _)
theorem o_fX11_beyond_b58 {M : Nat}   {μ : JM}   (hq : QT M μ) : Ou M μ (fX11_beyond_b58 M μ) := by
  unfold fX11_beyond_b58
  repeat' (with_reducible first | exact Ou.ret | exact Ou.non | assumption | exact QT.p (by assumption) | exact PR.so (by assumption) | exact PR.no | exact PR.se | exact PR.so PR.se | apply Ou.ck | apply Ou.ite | refine Ou.de ?_ ?_ | refine Ou.sI ?_ ?_ ?_ | refine Ou.sJ ?_ ?_ ?_ | refine Ou.cl ?_ ?_ ?_ | apply o_fX11_beyond_b59 | intro _)
theorem o_fX11_beyond {M : Nat}   {μ : JM}   (hq : QT M μ) : Ou M μ (fX11_beyond M μ) := by
  unfold fX11_beyond
  repeat' (with_reducible first | exact Ou.ret | exact Ou.non | assumption | exact QT.p (by assumption) | exact PR.so (by assumption) | exact PR.no | exact PR.se | exact PR.so PR.se | apply Ou.ck | apply Ou.ite | refine Ou.de ?_ ?_ | refine Ou.sI ?_ ?_ ?_ | refine Ou.sJ ?_ ?_ ?_ | refine Ou.cl ?_ ?_ ?_ | apply o_fX11_beyond_b54 | apply o_fX11_beyond_b58 | apply o_fX11_fails | apply o_fX11_isOwn | apply o_fX11_isWord | apply o_fX11_labelled | apply o_fails_q | intro _)
theorem o_fX11_reads_b102 {M : Nat}  {x1 : Int32} {x2 : Int32} {μ : JM}   (hq : QT M μ) : Ou M μ (fX11_reads_b102 M x1 x2 μ) := by
  unfold fX11_reads_b102
  repeat' (with_reducible first | exact Ou.ret | exact Ou.non | assumption | exact QT.p (by assumption) | exact PR.so (by assumption) | exact PR.no | exact PR.se | exact PR.so PR.se | apply Ou.ck | apply Ou.ite | refine Ou.de ?_ ?_ | refine Ou.sI ?_ ?_ ?_ | refine Ou.sJ ?_ ?_ ?_ | refine Ou.cl ?_ ?_ ?_ | intro _)
theorem o_fX11_reads_b241 {M : Nat} {rec126 : Nat → Int32 → Int32 → JM → JO (Int32)} {rec144 : Nat → Int32 → Int32 → Int32 → Int32 → JM → JO (Int32)} {x3 : Int32} {x5 : Int32} {x6 : Int32} {x7 : Int32} {μ : JM} (h_rec126 : ∀ (z1 : Int32) (z2 : Int32) (μ : JM), QT M μ → Ou M μ (rec126 M z1 z2 μ)) (h_rec144 : ∀ (z1 : Int32) (z2 : Int32) (z3 : Int32) (z4 : Int32) (μ : JM), QT M μ → Ou M μ (rec144 M z1 z2 z3 z4 μ))  (hq : QT M μ) : Ou M μ (fX11_reads_b241 rec126 rec144 M x3 x5 x6 x7 μ) := by
  unfold fX11_reads_b241
  repeat' (with_reducible first | exact Ou.ret | exact Ou.non | assumption | exact QT.p (by assumption) | exact PR.so (by assumption) | exact PR.no | exact PR.se | exact PR.so PR.se | apply Ou.ck | apply Ou.ite | refine Ou.de ?_ ?_ | refine Ou.sI ?_ ?_ ?_ | refine Ou.sJ ?_ ?_ ?_ | refine Ou.cl ?_ ?_ ?_ | apply h_rec126 | apply h_rec144 | intro _)
theorem o_fX11_reads_b198 {M : Nat} {rec126 : Nat → Int32 → Int32 → JM → JO (Int32)} {rec144 : Nat → Int32 → Int32 → Int32 → Int32 → JM → JO (Int32)} (h_rec126 : ∀ (z1 : Int32) (z2 : Int32) (μ : JM), QT M μ → Ou M μ (rec126 M z1 z2 μ)) (h_rec144 : ∀ (z1 : Int32) (z2 : Int32) (z3 : Int32) (z4 : Int32) (μ : JM), QT M μ → Ou M μ (rec144 M z1 z2 z3 z4 μ)) : ∀ (fu : Nat) (x3 : Int32) (x5 : Int32) (x6 : Int32) (x7 : Int32) (x8 : Int32) (x9 : Int32) (μ : JM), QT M μ → Ou M μ (fX11_reads_b198 rec126 rec144 fu M x3 x5 x6 x7 x8 x9 μ) := by
  intro fu
  induction fu with
  | zero => intros; exact Ou.non
  | succ fu ih =>
    intros
    rw [fX11_reads_b198]
    repeat' (with_reducible first | exact Ou.ret | exact Ou.non | assumption | exact QT.p (by assumption) | exact PR.so (by assumption) | exact PR.no | exact PR.se | exact PR.so PR.se | apply Ou.ck | apply Ou.ite | refine Ou.de ?_ ?_ | refine Ou.sI ?_ ?_ ?_ | refine Ou.sJ ?_ ?_ ?_ | refine Ou.cl ?_ ?_ ?_ | apply o_fX11_reads_b241 | apply h_rec126 | apply h_rec144 | apply ih | intro _)
theorem o_fX11_reads_b247 {M : Nat} {rec126 : Nat → Int32 → Int32 → JM → JO (Int32)} {x3 : Int32} {x5 : Int32} {μ : JM} (h_rec126 : ∀ (z1 : Int32) (z2 : Int32) (μ : JM), QT M μ → Ou M μ (rec126 M z1 z2 μ))  (hq : QT M μ) : Ou M μ (fX11_reads_b247 rec126 M x3 x5 μ) := by
  unfold fX11_reads_b247
  repeat' (with_reducible first | exact Ou.ret | exact Ou.non | assumption | exact QT.p (by assumption) | exact PR.so (by assumption) | exact PR.no | exact PR.se | exact PR.so PR.se | apply Ou.ck | apply Ou.ite | refine Ou.de ?_ ?_ | refine Ou.sI ?_ ?_ ?_ | refine Ou.sJ ?_ ?_ ?_ | refine Ou.cl ?_ ?_ ?_ | apply h_rec126 | intro _)
theorem o_fX11_reads_b144 {M : Nat} {rec126 : Nat → Int32 → Int32 → JM → JO (Int32)} (h_rec126 : ∀ (z1 : Int32) (z2 : Int32) (μ : JM), QT M μ → Ou M μ (rec126 M z1 z2 μ)) : ∀ (fu : Nat) (x3 : Int32) (x5 : Int32) (x6 : Int32) (x7 : Int32) (μ : JM), QT M μ → Ou M μ (fX11_reads_b144 rec126 fu M x3 x5 x6 x7 μ) := by
  intro fu
  induction fu with
  | zero => intros; exact Ou.non
  | succ fu ih =>
    intros
    rw [fX11_reads_b144]
    repeat' (with_reducible first | exact Ou.ret | exact Ou.non | assumption | exact QT.p (by assumption) | exact PR.so (by assumption) | exact PR.no | exact PR.se | exact PR.so PR.se | apply Ou.ck | apply Ou.ite | refine Ou.de ?_ ?_ | refine Ou.sI ?_ ?_ ?_ | refine Ou.sJ ?_ ?_ ?_ | refine Ou.cl ?_ ?_ ?_ | apply o_fX11_reads_b198 | apply o_fX11_reads_b241 | apply o_fX11_reads_b247 | apply h_rec126 | apply ih | intro _)
theorem o_fX11_reads_b126 {M : Nat}   : ∀ (fu : Nat) (x3 : Int32) (x5 : Int32) (μ : JM), QT M μ → Ou M μ (fX11_reads_b126  fu M x3 x5 μ) := by
  intro fu
  induction fu with
  | zero => intros; exact Ou.non
  | succ fu ih =>
    intros
    rw [fX11_reads_b126]
    repeat' (with_reducible first | exact Ou.ret | exact Ou.non | assumption | exact QT.p (by assumption) | exact PR.so (by assumption) | exact PR.no | exact PR.se | exact PR.so PR.se | apply Ou.ck | apply Ou.ite | refine Ou.de ?_ ?_ | refine Ou.sI ?_ ?_ ?_ | refine Ou.sJ ?_ ?_ ?_ | refine Ou.cl ?_ ?_ ?_ | apply o_fX11_reads_b144 | apply ih | intro _)
theorem o_fX11_reads_b90 {M : Nat}  {x1 : Int32} {x2 : Int32} {x3 : Int32} {x4 : Int32} {μ : JM}   (hq : QT M μ) : Ou M μ (fX11_reads_b90 M x1 x2 x3 x4 μ) := by
  unfold fX11_reads_b90
  repeat' (with_reducible first | exact Ou.ret | exact Ou.non | assumption | exact QT.p (by assumption) | exact PR.so (by assumption) | exact PR.no | exact PR.se | exact PR.so PR.se | apply Ou.ck | apply Ou.ite | refine Ou.de ?_ ?_ | refine Ou.sI ?_ ?_ ?_ | refine Ou.sJ ?_ ?_ ?_ | refine Ou.cl ?_ ?_ ?_ | apply o_fX11_reads_b102 | apply o_fX11_reads_b126 | intro _)
theorem o_fX11_reads_b59 {M : Nat} {rec36 : Nat → Int32 → Int32 → Int32 → Int32 → JM → JO (Int32)} {x1 : Int32} {x2 : Int32} {x3 : Int32} {s0 : Int32} {μ : JM} (h_rec36 : ∀ (z1 : Int32) (z2 : Int32) (z3 : Int32) (z4 : Int32) (μ : JM), QT M μ → Ou M μ (rec36 M z1 z2 z3 z4 μ))  (hq : QT M μ) : Ou M μ (fX11_reads_b59 rec36 M x1 x2 x3 s0 μ) := by
  unfold fX11_reads_b59
  repeat' (with_reducible first | exact Ou.ret | exact Ou.non | assumption | exact QT.p (by assumption) | exact PR.so (by assumption) | exact PR.no | exact PR.se | exact PR.so PR.se | apply Ou.ck | apply Ou.ite | refine Ou.de ?_ ?_ | refine Ou.sI ?_ ?_ ?_ | refine Ou.sJ ?_ ?_ ?_ | refine Ou.cl ?_ ?_ ?_ | apply o_fX11_expectsSign | apply o_fX11_reads_b90 | apply h_rec36 | intro _)
theorem o_fX11_reads_b36 {M : Nat}   : ∀ (fu : Nat) (x1 : Int32) (x2 : Int32) (x3 : Int32) (x4 : Int32) (μ : JM), QT M μ → Ou M μ (fX11_reads_b36  fu M x1 x2 x3 x4 μ) := by
  intro fu
  induction fu with
  | zero => intros; exact Ou.non
  | succ fu ih =>
    intros
    rw [fX11_reads_b36]
    repeat' (with_reducible first | exact Ou.ret | exact Ou.non | assumption | exact QT.p (by assumption) | exact PR.so (by assumption) | exact PR.no | exact PR.se | exact PR.so PR.se | apply Ou.ck | apply Ou.ite | refine Ou.de ?_ ?_ | refine Ou.sI ?_ ?_ ?_ | refine Ou.sJ ?_ ?_ ?_ | refine Ou.cl ?_ ?_ ?_ | apply o_fX11_beyond | apply o_fX11_clause | apply o_fX11_reads_b59 | apply o_fX11_reads_b90 | apply ih | intro _)
theorem o_fX11_reads_b34 {M : Nat}  {x1 : Int32} {x2 : Int32} {x3 : Int32} {s0 : Int32} {μ : JM}   (hq : QT M μ) : Ou M μ (fX11_reads_b34 M x1 x2 x3 s0 μ) := by
  unfold fX11_reads_b34
  repeat' (with_reducible first | exact Ou.ret | exact Ou.non | assumption | exact QT.p (by assumption) | exact PR.so (by assumption) | exact PR.no | exact PR.se | exact PR.so PR.se | apply Ou.ck | apply Ou.ite | refine Ou.de ?_ ?_ | refine Ou.sI ?_ ?_ ?_ | refine Ou.sJ ?_ ?_ ?_ | refine Ou.cl ?_ ?_ ?_ | apply o_fX11_reads_b36 | intro _)
theorem o_fX11_reads {M : Nat}   {μ : JM}   (hq : QT M μ) : Ou M μ (fX11_reads M μ) := by
  unfold fX11_reads
  repeat' (with_reducible first | exact Ou.ret | exact Ou.non | assumption | exact QT.p (by assumption) | exact PR.so (by assumption) | exact PR.no | exact PR.se | exact PR.so PR.se | apply Ou.ck | apply Ou.ite | refine Ou.de ?_ ?_ | refine Ou.sI ?_ ?_ ?_ | refine Ou.sJ ?_ ?_ ?_ | refine Ou.cl ?_ ?_ ?_ | apply o_fX11_reads_b34 | intro _)
theorem o_fX11_becomes_b185 {M : Nat} {rec14 : Nat → Int32 → Int32 → JM → JO (Unit)} (h_rec14 : ∀ (z1 : Int32) (z2 : Int32) (μ : JM), QT M μ → Ou M μ (rec14 M z1 z2 μ)) : ∀ (fu : Nat) (x1 : Int32) (x2 : Int32) (x3 : Int32) (x4 : Int32) (x5 : Int32) (μ : JM), QT M μ → Ou M μ (fX11_becomes_b185 rec14 fu M x1 x2 x3 x4 x5 μ) := by
  intro fu
  induction fu with
  | zero => intros; exact Ou.non
  | succ fu ih =>
    intros
    rw [fX11_becomes_b185]
    repeat' (with_reducible first | exact Ou.ret | exact Ou.non | assumption | exact QT.p (by assumption) | exact PR.so (by assumption) | exact PR.no | exact PR.se | exact PR.so PR.se | apply Ou.ck | apply Ou.ite | refine Ou.de ?_ ?_ | refine Ou.sI ?_ ?_ ?_ | refine Ou.sJ ?_ ?_ ?_ | refine Ou.cl ?_ ?_ ?_ | apply h_rec14 | apply ih | intro _)
theorem o_fX11_becomes_b144 {M : Nat} {rec14 : Nat → Int32 → Int32 → JM → JO (Unit)} (h_rec14 : ∀ (z1 : Int32) (z2 : Int32) (μ : JM), QT M μ → Ou M μ (rec14 M z1 z2 μ)) : ∀ (fu : Nat) (x1 : Int32) (x2 : Int32) (x3 : Int32) (x4 : Int32) (x5 : Int32) (μ : JM), QT M μ → Ou M μ (fX11_becomes_b144 rec14 fu M x1 x2 x3 x4 x5 μ) := by
  intro fu
  induction fu with
  | zero => intros; exact Ou.non
  | succ fu ih =>
    intros
    rw [fX11_becomes_b144]
    repeat' (with_reducible first | exact Ou.ret | exact Ou.non | assumption | exact QT.p (by assumption) | exact PR.so (by assumption) | exact PR.no | exact PR.se | exact PR.so PR.se | apply Ou.ck | apply Ou.ite | refine Ou.de ?_ ?_ | refine Ou.sI ?_ ?_ ?_ | refine Ou.sJ ?_ ?_ ?_ | refine Ou.cl ?_ ?_ ?_ | apply o_fX11_becomes_b185 | apply h_rec14 | apply ih | intro _)
theorem o_fX11_becomes_b14 {M : Nat}   : ∀ (fu : Nat) (x1 : Int32) (x2 : Int32) (μ : JM), QT M μ → Ou M μ (fX11_becomes_b14  fu M x1 x2 μ) := by
  intro fu
  induction fu with
  | zero => intros; exact Ou.non
  | succ fu ih =>
    intros
    rw [fX11_becomes_b14]
    repeat' (with_reducible first | exact Ou.ret | exact Ou.non | assumption | exact QT.p (by assumption) | exact PR.so (by assumption) | exact PR.no | exact PR.se | exact PR.so PR.se | apply Ou.ck | apply Ou.ite | refine Ou.de ?_ ?_ | refine Ou.sI ?_ ?_ ?_ | refine Ou.sJ ?_ ?_ ?_ | refine Ou.cl ?_ ?_ ?_ | apply o_fX11_becomes_b144 | apply ih | intro _)
theorem o_fX11_becomes {M : Nat}  {x1 : Int32} {μ : JM}   (hq : QT M μ) : Ou M μ (fX11_becomes M x1 μ) := by
  unfold fX11_becomes
  repeat' (with_reducible first | exact Ou.ret | exact Ou.non | assumption | exact QT.p (by assumption) | exact PR.so (by assumption) | exact PR.no | exact PR.se | exact PR.so PR.se | apply Ou.ck | apply Ou.ite | refine Ou.de ?_ ?_ | refine Ou.sI ?_ ?_ ?_ | refine Ou.sJ ?_ ?_ ?_ | refine Ou.cl ?_ ?_ ?_ | apply o_fX11_becomes_b14 | intro _)
theorem o_fX11_isPlace {M : Nat}  {x0 : Int32} {μ : JM}   (hq : QT M μ) : Ou M μ (fX11_isPlace x0 μ) := by
  unfold fX11_isPlace
  repeat' (with_reducible first | exact Ou.ret | exact Ou.non | assumption | exact QT.p (by assumption) | exact PR.so (by assumption) | exact PR.no | exact PR.se | exact PR.so PR.se | apply Ou.ck | apply Ou.ite | refine Ou.de ?_ ?_ | refine Ou.sI ?_ ?_ ?_ | refine Ou.sJ ?_ ?_ ?_ | refine Ou.cl ?_ ?_ ?_ | apply o_fX11_in | intro _)
theorem o_fX11_isVersion {M : Nat}  {x1 : Int32} {μ : JM}   (hq : QT M μ) : Ou M μ (fX11_isVersion M x1 μ) := by
  unfold fX11_isVersion
  repeat' (with_reducible first | exact Ou.ret | exact Ou.non | assumption | exact QT.p (by assumption) | exact PR.so (by assumption) | exact PR.no | exact PR.se | exact PR.so PR.se | apply Ou.ck | apply Ou.ite | refine Ou.de ?_ ?_ | refine Ou.sI ?_ ?_ ?_ | refine Ou.sJ ?_ ?_ ?_ | refine Ou.cl ?_ ?_ ?_ | apply o_fX11_isPlace | intro _)
theorem o_fX11_keeps_b28 {M : Nat}   : ∀ (fu : Nat) (x1 : Int32) (x2 : Int32) (μ : JM), QT M μ → Ou M μ (fX11_keeps_b28  fu M x1 x2 μ) := by
  intro fu
  induction fu with
  | zero => intros; exact Ou.non
  | succ fu ih =>
    intros
    rw [fX11_keeps_b28]
    repeat' (with_reducible first | exact Ou.ret | exact Ou.non | assumption | exact QT.p (by assumption) | exact PR.so (by assumption) | exact PR.no | exact PR.se | exact PR.so PR.se | apply Ou.ck | apply Ou.ite | refine Ou.de ?_ ?_ | refine Ou.sI ?_ ?_ ?_ | refine Ou.sJ ?_ ?_ ?_ | refine Ou.cl ?_ ?_ ?_ | apply o_fX11_becomes | apply ih | intro _)
theorem o_fX11_keeps {M : Nat}  {x1 : Int32} {μ : JM}   (hq : QT M μ) : Ou M μ (fX11_keeps M x1 μ) := by
  unfold fX11_keeps
  repeat' (with_reducible first | exact Ou.ret | exact Ou.non | assumption | exact QT.p (by assumption) | exact PR.so (by assumption) | exact PR.no | exact PR.se | exact PR.so PR.se | apply Ou.ck | apply Ou.ite | refine Ou.de ?_ ?_ | refine Ou.sI ?_ ?_ ?_ | refine Ou.sJ ?_ ?_ ?_ | refine Ou.cl ?_ ?_ ?_ | apply o_fX11_keeps_b28 | intro _)
theorem o_fX11_version {M : Nat}  {x1 : Int32} {μ : JM}   (hq : QT M μ) : Ou M μ (fX11_version M x1 μ) := by
  unfold fX11_version
  repeat' (with_reducible first | exact Ou.ret | exact Ou.non | assumption | exact QT.p (by assumption) | exact PR.so (by assumption) | exact PR.no | exact PR.se | exact PR.so PR.se | apply Ou.ck | apply Ou.ite | refine Ou.de ?_ ?_ | refine Ou.sI ?_ ?_ ?_ | refine Ou.sJ ?_ ?_ ?_ | refine Ou.cl ?_ ?_ ?_ | apply o_fX11_isPlace | apply o_fX11_keeps | apply o_fX11_reads | apply o_fX11_takesTape | intro _)
theorem o_fX11_takesText_b12 {M : Nat}   : ∀ (fu : Nat) (x1 : Int32) (x2 : Int32) (μ : JM), QT M μ → Ou M μ (fX11_takesText_b12  fu M x1 x2 μ) := by
  intro fu
  induction fu with
  | zero => intros; exact Ou.non
  | succ fu ih =>
    intros
    rw [fX11_takesText_b12]
    repeat' (with_reducible first | exact Ou.ret | exact Ou.non | assumption | exact QT.p (by assumption) | exact PR.so (by assumption) | exact PR.no | exact PR.se | exact PR.so PR.se | apply Ou.ck | apply Ou.ite | refine Ou.de ?_ ?_ | refine Ou.sI ?_ ?_ ?_ | refine Ou.sJ ?_ ?_ ?_ | refine Ou.cl ?_ ?_ ?_ | apply o_fX11_begins | apply ih | intro _)
theorem o_fX11_takesText {M : Nat}  {x1 : Int32} {μ : JM}   (hq : QT M μ) : Ou M μ (fX11_takesText M x1 μ) := by
  unfold fX11_takesText
  repeat' (with_reducible first | exact Ou.ret | exact Ou.non | assumption | exact QT.p (by assumption) | exact PR.so (by assumption) | exact PR.no | exact PR.se | exact PR.so PR.se | apply Ou.ck | apply Ou.ite | refine Ou.de ?_ ?_ | refine Ou.sI ?_ ?_ ?_ | refine Ou.sJ ?_ ?_ ?_ | refine Ou.cl ?_ ?_ ?_ | apply o_fX11_takesText_b12 | intro _)
theorem o_fX11_part_b21 {M : Nat}   : ∀ (fu : Nat) (p2 : Option Nat) (x3 : Int32) (x4 : Int32) (x5 : Int32) (μ : JM), PR M p2 → QT M μ → Ou M μ (fX11_part_b21  fu M p2 x3 x4 x5 μ) := by
  intro fu
  induction fu with
  | zero => intros; exact Ou.non
  | succ fu ih =>
    intros
    rw [fX11_part_b21]
    repeat' (with_reducible first | exact Ou.ret | exact Ou.non | assumption | exact QT.p (by assumption) | exact PR.so (by assumption) | exact PR.no | exact PR.se | exact PR.so PR.se | apply Ou.ck | apply Ou.ite | refine Ou.de ?_ ?_ | refine Ou.sI ?_ ?_ ?_ | refine Ou.sJ ?_ ?_ ?_ | refine Ou.cl ?_ ?_ ?_ | apply ih | intro _)
theorem o_fX11_part {M : Nat}  {x1 : Int32} {p2 : Option Nat} {x3 : Int32} {x4 : Int32} {μ : JM}  (p_p2 : PR M p2) (hq : QT M μ) : Ou M μ (fX11_part M x1 p2 x3 x4 μ) := by
  unfold fX11_part
  repeat' (with_reducible first | exact Ou.ret | exact Ou.non | assumption | exact QT.p (by assumption) | exact PR.so (by assumption) | exact PR.no | exact PR.se | exact PR.so PR.se | apply Ou.ck | apply Ou.ite | refine Ou.de ?_ ?_ | refine Ou.sI ?_ ?_ ?_ | refine Ou.sJ ?_ ?_ ?_ | refine Ou.cl ?_ ?_ ?_ | apply o_fX11_part_b21 | intro _)
theorem o_fX11_change_b68 {M : Nat}   : ∀ (fu : Nat) (x2 : Int32) (μ : JM), QT M μ → Ou M μ (fX11_change_b68  fu M x2 μ) := by
  intro fu
  induction fu with
  | zero => intros; exact Ou.non
  | succ fu ih =>
    intros
    rw [fX11_change_b68]
    repeat' (with_reducible first | exact Ou.ret | exact Ou.non | assumption | exact QT.p (by assumption) | exact PR.so (by assumption) | exact PR.no | exact PR.se | exact PR.so PR.se | apply Ou.ck | apply Ou.ite | refine Ou.de ?_ ?_ | refine Ou.sI ?_ ?_ ?_ | refine Ou.sJ ?_ ?_ ?_ | refine Ou.cl ?_ ?_ ?_ | apply o_fX11_takes | apply ih | intro _)
theorem o_fX11_change_b185 {M : Nat}  {s0 : Int32} {μ : JM}   (hq : QT M μ) : Ou M μ (fX11_change_b185 M s0 μ) := by
  unfold fX11_change_b185
  repeat' (with_reducible first | exact Ou.ret | exact Ou.non | assumption | exact QT.p (by assumption) | exact PR.so (by assumption) | exact PR.no | exact PR.se | exact PR.so PR.se | apply Ou.ck | apply Ou.ite | refine Ou.de ?_ ?_ | refine Ou.sI ?_ ?_ ?_ | refine Ou.sJ ?_ ?_ ?_ | refine Ou.cl ?_ ?_ ?_ | apply o_fX11_part | intro _)
theorem o_fX11_change_b184 {M : Nat}   {μ : JM}   (hq : QT M μ) : Ou M μ (fX11_change_b184 M μ) := by
  unfold fX11_change_b184
  repeat' (with_reducible first | exact Ou.ret | exact Ou.non | assumption | exact QT.p (by assumption) | exact PR.so (by assumption) | exact PR.no | exact PR.se | exact PR.so PR.se | apply Ou.ck | apply Ou.ite | refine Ou.de ?_ ?_ | refine Ou.sI ?_ ?_ ?_ | refine Ou.sJ ?_ ?_ ?_ | refine Ou.cl ?_ ?_ ?_ | apply o_fX11_change_b185 | intro _)
theorem o_fX11_change_b153 {M : Nat}   {μ : JM}   (hq : QT M μ) : Ou M μ (fX11_change_b153 M μ) := by
  unfold fX11_change_b153
  repeat' (with_reducible first | exact Ou.ret | exact Ou.non | assumption | exact QT.p (by assumption) | exact PR.so (by assumption) | exact PR.no | exact PR.se | exact PR.so PR.se | apply Ou.ck | apply Ou.ite | refine Ou.de ?_ ?_ | refine Ou.sI ?_ ?_ ?_ | refine Ou.sJ ?_ ?_ ?_ | refine Ou.cl ?_ ?_ ?_ | apply o_fX11_change_b184 | apply o_fX11_change_b185 | apply o_fX11_clause | apply o_fX11_takes | intro _)
theorem o_fX11_change {M : Nat}   {μ : JM}   (hq : QT M μ) : Ou M μ (fX11_change M μ) := by
  unfold fX11_change
  repeat' (with_reducible first | exact Ou.ret | exact Ou.non | assumption | exact QT.p (by assumption) | exact PR.so (by assumption) | exact PR.no | exact PR.se | exact PR.so PR.se | apply Ou.ck | apply Ou.ite | refine Ou.de ?_ ?_ | refine Ou.sI ?_ ?_ ?_ | refine Ou.sJ ?_ ?_ ?_ | refine Ou.cl ?_ ?_ ?_ | apply o_fX11_change_b153 | apply o_fX11_change_b68 | apply o_fX11_fails | apply o_fX11_isName | apply o_fX11_isWord | apply o_fX11_placed | apply o_fX11_takes | apply o_fails_q | intro _)
theorem o_fX11_changes_b146 {M : Nat}  {x2 : Int32} {μ : JM}   (hq : QT M μ) : Ou M μ (fX11_changes_b146 M x2 μ) := by
  unfold fX11_changes_b146
  repeat' (with_reducible first | exact Ou.ret | exact Ou.non | assumption | exact QT.p (by assumption) | exact PR.so (by assumption) | exact PR.no | exact PR.se | exact PR.so PR.se | apply Ou.ck | apply Ou.ite | refine Ou.de ?_ ?_ | refine Ou.sI ?_ ?_ ?_ | refine Ou.sJ ?_ ?_ ?_ | refine Ou.cl ?_ ?_ ?_ | intro _)
theorem o_fX11_changes_b113 {M : Nat} {rec25 : Nat → Int32 → Int32 → JM → JO (Int32)} {x1 : Int32} {s0 : Int32} {μ : JM} (h_rec25 : ∀ (z1 : Int32) (z2 : Int32) (μ : JM), QT M μ → Ou M μ (rec25 M z1 z2 μ))  (hq : QT M μ) : Ou M μ (fX11_changes_b113 rec25 M x1 s0 μ) := by
  unfold fX11_changes_b113
  repeat' (with_reducible first | exact Ou.ret | exact Ou.non | assumption | exact QT.p (by assumption) | exact PR.so (by assumption) | exact PR.no | exact PR.se | exact PR.so PR.se | apply Ou.ck | apply Ou.ite | refine Ou.de ?_ ?_ | refine Ou.sI ?_ ?_ ?_ | refine Ou.sJ ?_ ?_ ?_ | refine Ou.cl ?_ ?_ ?_ | apply o_fX11_changes_b146 | apply o_fX11_expectsSign | apply h_rec25 | intro _)
theorem o_fX11_changes_b112 {M : Nat} {rec25 : Nat → Int32 → Int32 → JM → JO (Int32)} {x1 : Int32} {μ : JM} (h_rec25 : ∀ (z1 : Int32) (z2 : Int32) (μ : JM), QT M μ → Ou M μ (rec25 M z1 z2 μ))  (hq : QT M μ) : Ou M μ (fX11_changes_b112 rec25 M x1 μ) := by
  unfold fX11_changes_b112
  repeat' (with_reducible first | exact Ou.ret | exact Ou.non | assumption | exact QT.p (by assumption) | exact PR.so (by assumption) | exact PR.no | exact PR.se | exact PR.so PR.se | apply Ou.ck | apply Ou.ite | refine Ou.de ?_ ?_ | refine Ou.sI ?_ ?_ ?_ | refine Ou.sJ ?_ ?_ ?_ | refine Ou.cl ?_ ?_ ?_ | apply o_fX11_changes_b113 | apply h_rec25 | intro _)
theorem o_fX11_changes_b96 {M : Nat} {rec25 : Nat → Int32 → Int32 → JM → JO (Int32)} {x1 : Int32} {s0 : Int32} {μ : JM} (h_rec25 : ∀ (z1 : Int32) (z2 : Int32) (μ : JM), QT M μ → Ou M μ (rec25 M z1 z2 μ))  (hq : QT M μ) : Ou M μ (fX11_changes_b96 rec25 M x1 s0 μ) := by
  unfold fX11_changes_b96
  repeat' (with_reducible first | exact Ou.ret | exact Ou.non | assumption | exact QT.p (by assumption) | exact PR.so (by assumption) | exact PR.no | exact PR.se | exact PR.so PR.se | apply Ou.ck | apply Ou.ite | refine Ou.de ?_ ?_ | refine Ou.sI ?_ ?_ ?_ | refine Ou.sJ ?_ ?_ ?_ | refine Ou.cl ?_ ?_ ?_ | apply o_fX11_change | apply o_fX11_changes_b112 | apply o_fX11_changes_b113 | apply h_rec25 | intro _)
theorem o_fX11_changes_b91 {M : Nat} {rec25 : Nat → Int32 → Int32 → JM → JO (Int32)} {x1 : Int32} {μ : JM} (h_rec25 : ∀ (z1 : Int32) (z2 : Int32) (μ : JM), QT M μ → Ou M μ (rec25 M z1 z2 μ))  (hq : QT M μ) : Ou M μ (fX11_changes_b91 rec25 M x1 μ) := by
  unfold fX11_changes_b91
  repeat' (with_reducible first | exact Ou.ret | exact Ou.non | assumption | exact QT.p (by assumption) | exact PR.so (by assumption) | exact PR.no | exact PR.se | exact PR.so PR.se | apply Ou.ck | apply Ou.ite | refine Ou.de ?_ ?_ | refine Ou.sI ?_ ?_ ?_ | refine Ou.sJ ?_ ?_ ?_ | refine Ou.cl ?_ ?_ ?_ | apply o_fX11_changes_b96 | apply h_rec25 | intro _)
theorem o_fX11_changes_b81 {M : Nat} {rec25 : Nat → Int32 → Int32 → JM → JO (Int32)} {x1 : Int32} {s0 : Int32} {s1 : Option Nat} {μ : JM} (h_rec25 : ∀ (z1 : Int32) (z2 : Int32) (μ : JM), QT M μ → Ou M μ (rec25 M z1 z2 μ)) (p_s1 : PR M s1) (hq : QT M μ) : Ou M μ (fX11_changes_b81 rec25 M x1 s0 s1 μ) := by
  unfold fX11_changes_b81
  repeat' (with_reducible first | exact Ou.ret | exact Ou.non | assumption | exact QT.p (by assumption) | exact PR.so (by assumption) | exact PR.no | exact PR.se | exact PR.so PR.se | apply Ou.ck | apply Ou.ite | refine Ou.de ?_ ?_ | refine Ou.sI ?_ ?_ ?_ | refine Ou.sJ ?_ ?_ ?_ | refine Ou.cl ?_ ?_ ?_ | apply o_fX11_changes_b91 | apply o_fX11_changes_b96 | apply o_fX11_fails | apply o_fails_q | apply h_rec25 | intro _)
theorem o_fX11_changes_b64 {M : Nat} {rec25 : Nat → Int32 → Int32 → JM → JO (Int32)} {x1 : Int32} {s0 : Int32} {μ : JM} (h_rec25 : ∀ (z1 : Int32) (z2 : Int32) (μ : JM), QT M μ → Ou M μ (rec25 M z1 z2 μ))  (hq : QT M μ) : Ou M μ (fX11_changes_b64 rec25 M x1 s0 μ) := by
  unfold fX11_changes_b64
  repeat' (with_reducible first | exact Ou.ret | exact Ou.non | assumption | exact QT.p (by assumption) | exact PR.so (by assumption) | exact PR.no | exact PR.se | exact PR.so PR.se | apply Ou.ck | apply Ou.ite | refine Ou.de ?_ ?_ | refine Ou.sI ?_ ?_ ?_ | refine Ou.sJ ?_ ?_ ?_ | refine Ou.cl ?_ ?_ ?_ | apply o_fX11_changes_b81 | apply o_fX11_changes_b91 | apply h_rec25 | intro _)
theorem o_fX11_changes_b59 {M : Nat} {rec25 : Nat → Int32 → Int32 → JM → JO (Int32)} {x1 : Int32} {μ : JM} (h_rec25 : ∀ (z1 : Int32) (z2 : Int32) (μ : JM), QT M μ → Ou M μ (rec25 M z1 z2 μ))  (hq : QT M μ) : Ou M μ (fX11_changes_b59 rec25 M x1 μ) := by
  unfold fX11_changes_b59
  repeat' (with_reducible first | exact Ou.ret | exact Ou.non | assumption | exact QT.p (by assumption) | exact PR.so (by assumption) | exact PR.no | exact PR.se | exact PR.so PR.se | apply Ou.ck | apply Ou.ite | refine Ou.de ?_ ?_ | refine Ou.sI ?_ ?_ ?_ | refine Ou.sJ ?_ ?_ ?_ | refine Ou.cl ?_ ?_ ?_ | apply o_fX11_changes_b64 | apply h_rec25 | intro _)
theorem o_fX11_changes_b25 {M : Nat}   : ∀ (fu : Nat) (x1 : Int32) (x2 : Int32) (μ : JM), QT M μ → Ou M μ (fX11_changes_b25  fu M x1 x2 μ) := by
  intro fu
  induction fu with
  | zero => intros; exact Ou.non
  | succ fu ih =>
    intros
    rw [fX11_changes_b25]
    repeat' (with_reducible first | exact Ou.ret | exact Ou.non | assumption | exact QT.p (by assumption) | exact PR.so (by assumption) | exact PR.no | exact PR.se | exact PR.so PR.se | apply Ou.ck | apply Ou.ite | refine Ou.de ?_ ?_ | refine Ou.sI ?_ ?_ ?_ | refine Ou.sJ ?_ ?_ ?_ | refine Ou.cl ?_ ?_ ?_ | apply o_fX11_changes_b146 | apply o_fX11_changes_b59 | apply o_fX11_changes_b64 | apply o_fX11_isWord | apply ih | intro _)
theorem o_fX11_changes_b24 {M : Nat}  {x1 : Int32} {s0 : Int32} {μ : JM}   (hq : QT M μ) : Ou M μ (fX11_changes_b24 M x1 s0 μ) := by
  unfold fX11_changes_b24
  repeat' (with_reducible first | exact Ou.ret | exact Ou.non | assumption | exact QT.p (by assumption) | exact PR.so (by assumption) | exact PR.no | exact PR.se | exact PR.so PR.se | apply Ou.ck | apply Ou.ite | refine Ou.de ?_ ?_ | refine Ou.sI ?_ ?_ ?_ | refine Ou.sJ ?_ ?_ ?_ | refine Ou.cl ?_ ?_ ?_ | apply o_fX11_changes_b25 | intro _)
theorem o_fX11_changes {M : Nat}   {μ : JM}   (hq : QT M μ) : Ou M μ (fX11_changes M μ) := by
  unfold fX11_changes
  repeat' (with_reducible first | exact Ou.ret | exact Ou.non | assumption | exact QT.p (by assumption) | exact PR.so (by assumption) | exact PR.no | exact PR.se | exact PR.so PR.se | apply Ou.ck | apply Ou.ite | refine Ou.de ?_ ?_ | refine Ou.sI ?_ ?_ ?_ | refine Ou.sJ ?_ ?_ ?_ | refine Ou.cl ?_ ?_ ?_ | apply o_fX11_changes_b24 | intro _)
theorem o_fX11_rider_b129 {M : Nat} {rec65 : Nat → Int32 → Int32 → Int32 → Int32 → JM → JO (Int32)} {x2 : Int32} {x4 : Int32} {x5 : Int32} {x6 : Int32} {μ : JM} (h_rec65 : ∀ (z1 : Int32) (z2 : Int32) (z3 : Int32) (z4 : Int32) (μ : JM), QT M μ → Ou M μ (rec65 M z1 z2 z3 z4 μ))  (hq : QT M μ) : Ou M μ (fX11_rider_b129 rec65 M x2 x4 x5 x6 μ) := by
  unfold fX11_rider_b129
  repeat' (with_reducible first | exact Ou.ret | exact Ou.non | assumption | exact QT.p (by assumption) | exact PR.so (by assumption) | exact PR.no | exact PR.se | exact PR.so PR.se | apply Ou.ck | apply Ou.ite | refine Ou.de ?_ ?_ | refine Ou.sI ?_ ?_ ?_ | refine Ou.sJ ?_ ?_ ?_ | refine Ou.cl ?_ ?_ ?_ | apply h_rec65 | intro _)
theorem o_fX11_rider_b94 {M : Nat} {rec65 : Nat → Int32 → Int32 → Int32 → Int32 → JM → JO (Int32)} {x2 : Int32} {x4 : Int32} {x5 : Int32} {x6 : Int32} {μ : JM} (h_rec65 : ∀ (z1 : Int32) (z2 : Int32) (z3 : Int32) (z4 : Int32) (μ : JM), QT M μ → Ou M μ (rec65 M z1 z2 z3 z4 μ))  (hq : QT M μ) : Ou M μ (fX11_rider_b94 rec65 M x2 x4 x5 x6 μ) := by
  unfold fX11_rider_b94
  repeat' (with_reducible first | exact Ou.ret | exact Ou.non | assumption | exact QT.p (by assumption) | exact PR.so (by assumption) | exact PR.no | exact PR.se | exact PR.so PR.se | apply Ou.ck | apply Ou.ite | refine Ou.de ?_ ?_ | refine Ou.sI ?_ ?_ ?_ | refine Ou.sJ ?_ ?_ ?_ | refine Ou.cl ?_ ?_ ?_ | apply o_fX11_part | apply o_fX11_rider_b129 | apply h_rec65 | intro _)
theorem o_fX11_rider_b241 {M : Nat} {rec158 : Nat → Int32 → Int32 → JM → JO (Int32)} (h_rec158 : ∀ (z1 : Int32) (z2 : Int32) (μ : JM), QT M μ → Ou M μ (rec158 M z1 z2 μ)) : ∀ (fu : Nat) (x2 : Int32) (x6 : Int32) (x7 : Int32) (μ : JM), QT M μ → Ou M μ (fX11_rider_b241 rec158 fu M x2 x6 x7 μ) := by
  intro fu
  induction fu with
  | zero => intros; exact Ou.non
  | succ fu ih =>
    intros
    rw [fX11_rider_b241]
    repeat' (with_reducible first | exact Ou.ret | exact Ou.non | assumption | exact QT.p (by assumption) | exact PR.so (by assumption) | exact PR.no | exact PR.se | exact PR.so PR.se | apply Ou.ck | apply Ou.ite | refine Ou.de ?_ ?_ | refine Ou.sI ?_ ?_ ?_ | refine Ou.sJ ?_ ?_ ?_ | refine Ou.cl ?_ ?_ ?_ | apply h_rec158 | apply ih | intro _)
theorem o_fX11_rider_b238 {M : Nat} {rec158 : Nat → Int32 → Int32 → JM → JO (Int32)} {x2 : Int32} {x6 : Int32} {μ : JM} (h_rec158 : ∀ (z1 : Int32) (z2 : Int32) (μ : JM), QT M μ → Ou M μ (rec158 M z1 z2 μ))  (hq : QT M μ) : Ou M μ (fX11_rider_b238 rec158 M x2 x6 μ) := by
  unfold fX11_rider_b238
  repeat' (with_reducible first | exact Ou.ret | exact Ou.non | assumption | exact QT.p (by assumption) | exact PR.so (by assumption) | exact PR.no | exact PR.se | exact PR.so PR.se | apply Ou.ck | apply Ou.ite | refine Ou.de ?_ ?_ | refine Ou.sI ?_ ?_ ?_ | refine Ou.sJ ?_ ?_ ?_ | refine Ou.cl ?_ ?_ ?_ | apply o_fX11_rider_b241 | apply h_rec158 | intro _)
theorem o_fX11_rider_b189 {M : Nat} {rec158 : Nat → Int32 → Int32 → JM → JO (Int32)} {x2 : Int32} {x6 : Int32} {s0 : Int32} {s1 : Int32} {μ : JM} (h_rec158 : ∀ (z1 : Int32) (z2 : Int32) (μ : JM), QT M μ → Ou M μ (rec158 M z1 z2 μ))  (hq : QT M μ) : Ou M μ (fX11_rider_b189 rec158 M x2 x6 s0 s1 μ) := by
  unfold fX11_rider_b189
  repeat' (with_reducible first | exact Ou.ret | exact Ou.non | assumption | exact QT.p (by assumption) | exact PR.so (by assumption) | exact PR.no | exact PR.se | exact PR.so PR.se | apply Ou.ck | apply Ou.ite | refine Ou.de ?_ ?_ | refine Ou.sI ?_ ?_ ?_ | refine Ou.sJ ?_ ?_ ?_ | refine Ou.cl ?_ ?_ ?_ | apply o_fX11_rider_b238 | apply h_rec158 | intro _)
theorem o_fX11_rider_b158 {M : Nat}   : ∀ (fu : Nat) (x2 : Int32) (x6 : Int32) (μ : JM), QT M μ → Ou M μ (fX11_rider_b158  fu M x2 x6 μ) := by
  intro fu
  induction fu with
  | zero => intros; exact Ou.non
  | succ fu ih =>
    intros
    rw [fX11_rider_b158]
    repeat' (with_reducible first | exact Ou.ret | exact Ou.non | assumption | exact QT.p (by assumption) | exact PR.so (by assumption) | exact PR.no | exact PR.se | exact PR.so PR.se | apply Ou.ck | apply Ou.ite | refine Ou.de ?_ ?_ | refine Ou.sI ?_ ?_ ?_ | refine Ou.sJ ?_ ?_ ?_ | refine Ou.cl ?_ ?_ ?_ | apply o_fX11_begins | apply o_fX11_keeps | apply o_fX11_reads | apply o_fX11_rider_b189 | apply ih | intro _)
theorem o_fX11_rider_b65 {M : Nat}   : ∀ (fu : Nat) (x2 : Int32) (x4 : Int32) (x5 : Int32) (x6 : Int32) (μ : JM), QT M μ → Ou M μ (fX11_rider_b65  fu M x2 x4 x5 x6 μ) := by
  intro fu
  induction fu with
  | zero => intros; exact Ou.non
  | succ fu ih =>
    intros
    rw [fX11_rider_b65]
    repeat' (with_reducible first | exact Ou.ret | exact Ou.non | assumption | exact QT.p (by assumption) | exact PR.so (by assumption) | exact PR.no | exact PR.se | exact PR.so PR.se | apply Ou.ck | apply Ou.ite | refine Ou.de ?_ ?_ | refine Ou.sI ?_ ?_ ?_ | refine Ou.sJ ?_ ?_ ?_ | refine Ou.cl ?_ ?_ ?_ | apply o_fX11_changes | apply o_fX11_rider_b129 | apply o_fX11_rider_b158 | apply o_fX11_rider_b94 | apply ih | intro _)
theorem o_fX11_rider {M : Nat}  {x1 : Int32} {x2 : Int32} {μ : JM}   (hq : QT M μ) : Ou M μ (fX11_rider M x1 x2 μ) := by
  unfold fX11_rider
  repeat' (with_reducible first | exact Ou.ret | exact Ou.non | assumption | exact QT.p (by assumption) | exact PR.so (by assumption) | exact PR.no | exact PR.se | exact PR.so PR.se | apply Ou.ck | apply Ou.ite | refine Ou.de ?_ ?_ | refine Ou.sI ?_ ?_ ?_ | refine Ou.sJ ?_ ?_ ?_ | refine Ou.cl ?_ ?_ ?_ | apply o_fX11_isPlace | apply o_fX11_isVersion | apply o_fX11_rider_b65 | apply o_fX11_takesTape | intro _)
theorem o_fX11_takeOff {M : Nat}   {μ : JM}   (hq : QT M μ) : Ou M μ (fX11_takeOff M μ) := by
  unfold fX11_takeOff
  repeat' (with_reducible first | exact Ou.ret | exact Ou.non | assumption | exact QT.p (by assumption) | exact PR.so (by assumption) | exact PR.no | exact PR.se | exact PR.so PR.se | apply Ou.ck | apply Ou.ite | refine Ou.de ?_ ?_ | refine Ou.sI ?_ ?_ ?_ | refine Ou.sJ ?_ ?_ ?_ | refine Ou.cl ?_ ?_ ?_ | apply o_fX11_becomes | apply o_fX11_reads | apply o_fX11_takesText | intro _)
theorem o_fX11_isIn {M : Nat}  {x1 : Int32} {μ : JM}   (hq : QT M μ) : Ou M μ (fX11_isIn M x1 μ) := by
  unfold fX11_isIn
  repeat' (with_reducible first | exact Ou.ret | exact Ou.non | assumption | exact QT.p (by assumption) | exact PR.so (by assumption) | exact PR.no | exact PR.se | exact PR.so PR.se | apply Ou.ck | apply Ou.ite | refine Ou.de ?_ ?_ | refine Ou.sI ?_ ?_ ?_ | refine Ou.sJ ?_ ?_ ?_ | refine Ou.cl ?_ ?_ ?_ | intro _)
theorem o_fX11_worldMany_b35 {M : Nat} {rec4 : Nat → Int32 → Int32 → JM → JO (Int32)} {x2 : Int32} {s0 : Int32} {s1 : Int32} {μ : JM} (h_rec4 : ∀ (z1 : Int32) (z2 : Int32) (μ : JM), QT M μ → Ou M μ (rec4 M z1 z2 μ))  (hq : QT M μ) : Ou M μ (fX11_worldMany_b35 rec4 M x2 s0 s1 μ) := by
  unfold fX11_worldMany_b35
  repeat' (with_reducible first | exact Ou.ret | exact Ou.non | assumption | exact QT.p (by assumption) | exact PR.so (by assumption) | exact PR.no | exact PR.se | exact PR.so PR.se | apply Ou.ck | apply Ou.ite | refine Ou.de ?_ ?_ | refine Ou.sI ?_ ?_ ?_ | refine Ou.sJ ?_ ?_ ?_ | refine Ou.cl ?_ ?_ ?_ | apply h_rec4 | intro _)
theorem o_fX11_worldMany_b4 {M : Nat}   : ∀ (fu : Nat) (x1 : Int32) (x2 : Int32) (μ : JM), QT M μ → Ou M μ (fX11_worldMany_b4  fu M x1 x2 μ) := by
  intro fu
  induction fu with
  | zero => intros; exact Ou.non
  | succ fu ih =>
    intros
    rw [fX11_worldMany_b4]
    repeat' (with_reducible first | exact Ou.ret | exact Ou.non | assumption | exact QT.p (by assumption) | exact PR.so (by assumption) | exact PR.no | exact PR.se | exact PR.so PR.se | apply Ou.ck | apply Ou.ite | refine Ou.de ?_ ?_ | refine Ou.sI ?_ ?_ ?_ | refine Ou.sJ ?_ ?_ ?_ | refine Ou.cl ?_ ?_ ?_ | apply o_fX11_isIn | apply o_fX11_worldMany_b35 | apply ih | intro _)
theorem o_fX11_worldMany {M : Nat}   {μ : JM}   (hq : QT M μ) : Ou M μ (fX11_worldMany M μ) := by
  unfold fX11_worldMany
  repeat' (with_reducible first | exact Ou.ret | exact Ou.non | assumption | exact QT.p (by assumption) | exact PR.so (by assumption) | exact PR.no | exact PR.se | exact PR.so PR.se | apply Ou.ck | apply Ou.ite | refine Ou.de ?_ ?_ | refine Ou.sI ?_ ?_ ?_ | refine Ou.sJ ?_ ?_ ?_ | refine Ou.cl ?_ ?_ ?_ | apply o_fX11_worldMany_b4 | intro _)
theorem o_fX11_world_b141 {M : Nat}   {μ : JM}   (hq : QT M μ) : Ou M μ (fX11_world_b141 M μ) := by
  unfold fX11_world_b141
  repeat' (with_reducible first | exact Ou.ret | exact Ou.non | assumption | exact QT.p (by assumption) | exact PR.so (by assumption) | exact PR.no | exact PR.se | exact PR.so PR.se | apply Ou.ck | apply Ou.ite | refine Ou.de ?_ ?_ | refine Ou.sI ?_ ?_ ?_ | refine Ou.sJ ?_ ?_ ?_ | refine Ou.cl ?_ ?_ ?_ | apply o_fX11_worldMany | intro _)
theorem o_fX11_world_b39 {M : Nat}   : ∀ (fu : Nat) (x1 : Int32) (μ : JM), QT M μ → Ou M μ (fX11_world_b39  fu M x1 μ) := by
  intro fu
  induction fu with
  | zero => intros; exact Ou.non
  | succ fu ih =>
    intros
    rw [fX11_world_b39]
    repeat' (with_reducible first | exact Ou.ret | exact Ou.non | assumption | exact QT.p (by assumption) | exact PR.so (by assumption) | exact PR.no | exact PR.se | exact PR.so PR.se | apply Ou.ck | apply Ou.ite | refine Ou.de ?_ ?_ | refine Ou.sI ?_ ?_ ?_ | refine Ou.sJ ?_ ?_ ?_ | refine Ou.cl ?_ ?_ ?_ | apply o_fX11_world_b141 | apply ih | intro _)
theorem o_fX11_world_b118 {M : Nat}   : ∀ (fu : Nat) (x2 : Int32) (μ : JM), QT M μ → Ou M μ (fX11_world_b118  fu M x2 μ) := by
  intro fu
  induction fu with
  | zero => intros; exact Ou.non
  | succ fu ih =>
    intros
    rw [fX11_world_b118]
    repeat' (with_reducible first | exact Ou.ret | exact Ou.non | assumption | exact QT.p (by assumption) | exact PR.so (by assumption) | exact PR.no | exact PR.se | exact PR.so PR.se | apply Ou.ck | apply Ou.ite | refine Ou.de ?_ ?_ | refine Ou.sI ?_ ?_ ?_ | refine Ou.sJ ?_ ?_ ?_ | refine Ou.cl ?_ ?_ ?_ | apply o_fX11_world_b141 | apply ih | intro _)
theorem o_fX11_world_b103 {M : Nat}  {s0 : Int32} {μ : JM}   (hq : QT M μ) : Ou M μ (fX11_world_b103 M s0 μ) := by
  unfold fX11_world_b103
  repeat' (with_reducible first | exact Ou.ret | exact Ou.non | assumption | exact QT.p (by assumption) | exact PR.so (by assumption) | exact PR.no | exact PR.se | exact PR.so PR.se | apply Ou.ck | apply Ou.ite | refine Ou.de ?_ ?_ | refine Ou.sI ?_ ?_ ?_ | refine Ou.sJ ?_ ?_ ?_ | refine Ou.cl ?_ ?_ ?_ | apply o_fX11_world_b118 | intro _)
theorem o_fX11_world_b98 {M : Nat}   {μ : JM}   (hq : QT M μ) : Ou M μ (fX11_world_b98 M μ) := by
  unfold fX11_world_b98
  repeat' (with_reducible first | exact Ou.ret | exact Ou.non | assumption | exact QT.p (by assumption) | exact PR.so (by assumption) | exact PR.no | exact PR.se | exact PR.so PR.se | apply Ou.ck | apply Ou.ite | refine Ou.de ?_ ?_ | refine Ou.sI ?_ ?_ ?_ | refine Ou.sJ ?_ ?_ ?_ | refine Ou.cl ?_ ?_ ?_ | apply o_fX11_world_b103 | intro _)
theorem o_fX11_world_b102 {M : Nat}   {μ : JM}   (hq : QT M μ) : Ou M μ (fX11_world_b102 M μ) := by
  unfold fX11_world_b102
  repeat' (with_reducible first | exact Ou.ret | exact Ou.non | assumption | exact QT.p (by assumption) | exact PR.so (by assumption) | exact PR.no | exact PR.se | exact PR.so PR.se | apply Ou.ck | apply Ou.ite | refine Ou.de ?_ ?_ | refine Ou.sI ?_ ?_ ?_ | refine Ou.sJ ?_ ?_ ?_ | refine Ou.cl ?_ ?_ ?_ | apply o_fX11_world_b103 | intro _)
theorem o_fX11_world_b65 {M : Nat}   {μ : JM}   (hq : QT M μ) : Ou M μ (fX11_world_b65 M μ) := by
  unfold fX11_world_b65
  repeat' (with_reducible first | exact Ou.ret | exact Ou.non | assumption | exact QT.p (by assumption) | exact PR.so (by assumption) | exact PR.no | exact PR.se | exact PR.so PR.se | apply Ou.ck | apply Ou.ite | refine Ou.de ?_ ?_ | refine Ou.sI ?_ ?_ ?_ | refine Ou.sJ ?_ ?_ ?_ | refine Ou.cl ?_ ?_ ?_ | apply o_fX11_condition | apply o_fX11_fails | apply o_fX11_world_b102 | apply o_fX11_world_b98 | apply o_fails_q | intro _)
theorem o_fX11_world {M : Nat}   {μ : JM}   (hq : QT M μ) : Ou M μ (fX11_world M μ) := by
  unfold fX11_world
  repeat' (with_reducible first | exact Ou.ret | exact Ou.non | assumption | exact QT.p (by assumption) | exact PR.so (by assumption) | exact PR.no | exact PR.se | exact PR.so PR.se | apply Ou.ck | apply Ou.ite | refine Ou.de ?_ ?_ | refine Ou.sI ?_ ?_ ?_ | refine Ou.sJ ?_ ?_ ?_ | refine Ou.cl ?_ ?_ ?_ | apply o_fX11_takesTape | apply o_fX11_world_b39 | apply o_fX11_world_b65 | intro _)
theorem o_fX11_write_b27 {M : Nat}   : ∀ (fu : Nat) (x1 : Int32) (x2 : Int32) (μ : JM), QT M μ → Ou M μ (fX11_write_b27  fu M x1 x2 μ) := by
  intro fu
  induction fu with
  | zero => intros; exact Ou.non
  | succ fu ih =>
    intros
    rw [fX11_write_b27]
    repeat' (with_reducible first | exact Ou.ret | exact Ou.non | assumption | exact QT.p (by assumption) | exact PR.so (by assumption) | exact PR.no | exact PR.se | exact PR.so PR.se | apply Ou.ck | apply Ou.ite | refine Ou.de ?_ ?_ | refine Ou.sI ?_ ?_ ?_ | refine Ou.sJ ?_ ?_ ?_ | refine Ou.cl ?_ ?_ ?_ | apply ih | intro _)
theorem o_fX11_write {M : Nat}  {x1 : Int32} {μ : JM}   (hq : QT M μ) : Ou M μ (fX11_write M x1 μ) := by
  unfold fX11_write
  repeat' (with_reducible first | exact Ou.ret | exact Ou.non | assumption | exact QT.p (by assumption) | exact PR.so (by assumption) | exact PR.no | exact PR.se | exact PR.so PR.se | apply Ou.ck | apply Ou.ite | refine Ou.de ?_ ?_ | refine Ou.sI ?_ ?_ ?_ | refine Ou.sJ ?_ ?_ ?_ | refine Ou.cl ?_ ?_ ?_ | apply o_fX11_isVersion | apply o_fX11_write_b27 | intro _)
theorem o_fX11_octet {M : Nat}  {x1 : Int32} {μ : JM}   (hq : QT M μ) : Ou M μ (fX11_octet M x1 μ) := by
  unfold fX11_octet
  repeat' (with_reducible first | exact Ou.ret | exact Ou.non | assumption | exact QT.p (by assumption) | exact PR.so (by assumption) | exact PR.no | exact PR.se | exact PR.so PR.se | apply Ou.ck | apply Ou.ite | refine Ou.de ?_ ?_ | refine Ou.sI ?_ ?_ ?_ | refine Ou.sJ ?_ ?_ ?_ | refine Ou.cl ?_ ?_ ?_ | apply o_fX11_in | intro _)
theorem o_fX11_back_b19 {M : Nat}   : ∀ (fu : Nat) (x1 : Int32) (μ : JM), QT M μ → Ou M μ (fX11_back_b19  fu M x1 μ) := by
  intro fu
  induction fu with
  | zero => intros; exact Ou.non
  | succ fu ih =>
    intros
    rw [fX11_back_b19]
    repeat' (with_reducible first | exact Ou.ret | exact Ou.non | assumption | exact QT.p (by assumption) | exact PR.so (by assumption) | exact PR.no | exact PR.se | exact PR.so PR.se | apply Ou.ck | apply Ou.ite | refine Ou.de ?_ ?_ | refine Ou.sI ?_ ?_ ?_ | refine Ou.sJ ?_ ?_ ?_ | refine Ou.cl ?_ ?_ ?_ | apply ih | intro _)
theorem o_fX11_back {M : Nat}   {μ : JM}   (hq : QT M μ) : Ou M μ (fX11_back M μ) := by
  unfold fX11_back
  repeat' (with_reducible first | exact Ou.ret | exact Ou.non | assumption | exact QT.p (by assumption) | exact PR.so (by assumption) | exact PR.no | exact PR.se | exact PR.so PR.se | apply Ou.ck | apply Ou.ite | refine Ou.de ?_ ?_ | refine Ou.sI ?_ ?_ ?_ | refine Ou.sJ ?_ ?_ ?_ | refine Ou.cl ?_ ?_ ?_ | apply o_fX11_back_b19 | intro _)
theorem o_fX11_isClause {M : Nat}  {x1 : Int32} {x2 : Int32} {μ : JM}   (hq : QT M μ) : Ou M μ (fX11_isClause M x1 x2 μ) := by
  unfold fX11_isClause
  repeat' (with_reducible first | exact Ou.ret | exact Ou.non | assumption | exact QT.p (by assumption) | exact PR.so (by assumption) | exact PR.no | exact PR.se | exact PR.so PR.se | apply Ou.ck | apply Ou.ite | refine Ou.de ?_ ?_ | refine Ou.sI ?_ ?_ ?_ | refine Ou.sJ ?_ ?_ ?_ | refine Ou.cl ?_ ?_ ?_ | apply o_fX11_in | apply o_fX11_isVersion | intro _)
theorem o_fX11_clause_ {M : Nat}  {x1 : Int32} {x2 : Int32} {x3 : Int32} {μ : JM}   (hq : QT M μ) : Ou M μ (fX11_clause_ M x1 x2 x3 μ) := by
  unfold fX11_clause_
  repeat' (with_reducible first | exact Ou.ret | exact Ou.non | assumption | exact QT.p (by assumption) | exact PR.so (by assumption) | exact PR.no | exact PR.se | exact PR.so PR.se | apply Ou.ck | apply Ou.ite | refine Ou.de ?_ ?_ | refine Ou.sI ?_ ?_ ?_ | refine Ou.sJ ?_ ?_ ?_ | refine Ou.cl ?_ ?_ ?_ | apply o_fX11_isClause | intro _)
theorem o_fX11_letter {M : Nat}  {x1 : Int32} {x2 : Int32} {x3 : Int32} {μ : JM}   (hq : QT M μ) : Ou M μ (fX11_letter M x1 x2 x3 μ) := by
  unfold fX11_letter
  repeat' (with_reducible first | exact Ou.ret | exact Ou.non | assumption | exact QT.p (by assumption) | exact PR.so (by assumption) | exact PR.no | exact PR.se | exact PR.so PR.se | apply Ou.ck | apply Ou.ite | refine Ou.de ?_ ?_ | refine Ou.sI ?_ ?_ ?_ | refine Ou.sJ ?_ ?_ ?_ | refine Ou.cl ?_ ?_ ?_ | apply o_fX11_in | apply o_fX11_isClause | intro _)
theorem o_fX11_isCase {M : Nat}  {x1 : Int32} {μ : JM}   (hq : QT M μ) : Ou M μ (fX11_isCase M x1 μ) := by
  unfold fX11_isCase
  repeat' (with_reducible first | exact Ou.ret | exact Ou.non | assumption | exact QT.p (by assumption) | exact PR.so (by assumption) | exact PR.no | exact PR.se | exact PR.so PR.se | apply Ou.ck | apply Ou.ite | refine Ou.de ?_ ?_ | refine Ou.sI ?_ ?_ ?_ | refine Ou.sJ ?_ ?_ ?_ | refine Ou.cl ?_ ?_ ?_ | apply o_fX11_in | intro _)
theorem o_fX11_isSo {M : Nat}  {x1 : Int32} {x2 : Int32} {x3 : Int32} {μ : JM}   (hq : QT M μ) : Ou M μ (fX11_isSo M x1 x2 x3 μ) := by
  unfold fX11_isSo
  repeat' (with_reducible first | exact Ou.ret | exact Ou.non | assumption | exact QT.p (by assumption) | exact PR.so (by assumption) | exact PR.no | exact PR.se | exact PR.so PR.se | apply Ou.ck | apply Ou.ite | refine Ou.de ?_ ?_ | refine Ou.sI ?_ ?_ ?_ | refine Ou.sJ ?_ ?_ ?_ | refine Ou.cl ?_ ?_ ?_ | intro _)
theorem o_fX11_holds {M : Nat}  {x1 : Int32} {x2 : Int32} {x3 : Int32} {μ : JM}   (hq : QT M μ) : Ou M μ (fX11_holds M x1 x2 x3 μ) := by
  unfold fX11_holds
  repeat' (with_reducible first | exact Ou.ret | exact Ou.non | assumption | exact QT.p (by assumption) | exact PR.so (by assumption) | exact PR.no | exact PR.se | exact PR.so PR.se | apply Ou.ck | apply Ou.ite | refine Ou.de ?_ ?_ | refine Ou.sI ?_ ?_ ?_ | refine Ou.sJ ?_ ?_ ?_ | refine Ou.cl ?_ ?_ ?_ | apply o_fX11_isCase | apply o_fX11_isClause | apply o_fX11_isSo | intro _)
theorem o_fX11_outcomeOf_b36 {M : Nat}  {x3 : Int32} {s0 : Int32} {μ : JM}   (hq : QT M μ) : Ou M μ (fX11_outcomeOf_b36 M x3 s0 μ) := by
  unfold fX11_outcomeOf_b36
  repeat' (with_reducible first | exact Ou.ret | exact Ou.non | assumption | exact QT.p (by assumption) | exact PR.so (by assumption) | exact PR.no | exact PR.se | exact PR.so PR.se | apply Ou.ck | apply Ou.ite | refine Ou.de ?_ ?_ | refine Ou.sI ?_ ?_ ?_ | refine Ou.sJ ?_ ?_ ?_ | refine Ou.cl ?_ ?_ ?_ | intro _)
theorem o_fX11_outcomeOf {M : Nat}  {x1 : Int32} {x2 : Int32} {μ : JM}   (hq : QT M μ) : Ou M μ (fX11_outcomeOf M x1 x2 μ) := by
  unfold fX11_outcomeOf
  repeat' (with_reducible first | exact Ou.ret | exact Ou.non | assumption | exact QT.p (by assumption) | exact PR.so (by assumption) | exact PR.no | exact PR.se | exact PR.so PR.se | apply Ou.ck | apply Ou.ite | refine Ou.de ?_ ?_ | refine Ou.sI ?_ ?_ ?_ | refine Ou.sJ ?_ ?_ ?_ | refine Ou.cl ?_ ?_ ?_ | apply o_fX11_outcomeOf_b36 | intro _)
theorem o_fX11_finds_b160 {M : Nat} {rec7 : Nat → Int32 → Int32 → Int32 → JM → JO (Unit)} {x1 : Int32} {x2 : Int32} {x3 : Int32} {μ : JM} (h_rec7 : ∀ (z1 : Int32) (z2 : Int32) (z3 : Int32) (μ : JM), QT M μ → Ou M μ (rec7 M z1 z2 z3 μ))  (hq : QT M μ) : Ou M μ (fX11_finds_b160 rec7 M x1 x2 x3 μ) := by
  unfold fX11_finds_b160
  repeat' (with_reducible first | exact Ou.ret | exact Ou.non | assumption | exact QT.p (by assumption) | exact PR.so (by assumption) | exact PR.no | exact PR.se | exact PR.so PR.se | apply Ou.ck | apply Ou.ite | refine Ou.de ?_ ?_ | refine Ou.sI ?_ ?_ ?_ | refine Ou.sJ ?_ ?_ ?_ | refine Ou.cl ?_ ?_ ?_ | apply h_rec7 | intro _)
theorem o_fX11_finds_b112 {M : Nat} {rec7 : Nat → Int32 → Int32 → Int32 → JM → JO (Unit)} (h_rec7 : ∀ (z1 : Int32) (z2 : Int32) (z3 : Int32) (μ : JM), QT M μ → Ou M μ (rec7 M z1 z2 z3 μ)) : ∀ (fu : Nat) (x1 : Int32) (x2 : Int32) (x3 : Int32) (x4 : Int32) (x5 : Int32) (x6 : Int32) (μ : JM), QT M μ → Ou M μ (fX11_finds_b112 rec7 fu M x1 x2 x3 x4 x5 x6 μ) := by
  intro fu
  induction fu with
  | zero => intros; exact Ou.non
  | succ fu ih =>
    intros
    rw [fX11_finds_b112]
    repeat' (with_reducible first | exact Ou.ret | exact Ou.non | assumption | exact QT.p (by assumption) | exact PR.so (by assumption) | exact PR.no | exact PR.se | exact PR.so PR.se | apply Ou.ck | apply Ou.ite | refine Ou.de ?_ ?_ | refine Ou.sI ?_ ?_ ?_ | refine Ou.sJ ?_ ?_ ?_ | refine Ou.cl ?_ ?_ ?_ | apply o_fX11_finds_b160 | apply h_rec7 | apply ih | intro _)
theorem o_fX11_finds_b106 {M : Nat} {rec7 : Nat → Int32 → Int32 → Int32 → JM → JO (Unit)} {x1 : Int32} {x2 : Int32} {x3 : Int32} {x4 : Int32} {x5 : Int32} {μ : JM} (h_rec7 : ∀ (z1 : Int32) (z2 : Int32) (z3 : Int32) (μ : JM), QT M μ → Ou M μ (rec7 M z1 z2 z3 μ))  (hq : QT M μ) : Ou M μ (fX11_finds_b106 rec7 M x1 x2 x3 x4 x5 μ) := by
  unfold fX11_finds_b106
  repeat' (with_reducible first | exact Ou.ret | exact Ou.non | assumption | exact QT.p (by assumption) | exact PR.so (by assumption) | exact PR.no | exact PR.se | exact PR.so PR.se | apply Ou.ck | apply Ou.ite | refine Ou.de ?_ ?_ | refine Ou.sI ?_ ?_ ?_ | refine Ou.sJ ?_ ?_ ?_ | refine Ou.cl ?_ ?_ ?_ | apply o_fX11_finds_b112 | apply h_rec7 | intro _)
theorem o_fX11_finds_b82 {M : Nat} {rec7 : Nat → Int32 → Int32 → Int32 → JM → JO (Unit)} {x1 : Int32} {x2 : Int32} {x3 : Int32} {x4 : Int32} {x5 : Int32} {μ : JM} (h_rec7 : ∀ (z1 : Int32) (z2 : Int32) (z3 : Int32) (μ : JM), QT M μ → Ou M μ (rec7 M z1 z2 z3 μ))  (hq : QT M μ) : Ou M μ (fX11_finds_b82 rec7 M x1 x2 x3 x4 x5 μ) := by
  unfold fX11_finds_b82
  repeat' (with_reducible first | exact Ou.ret | exact Ou.non | assumption | exact QT.p (by assumption) | exact PR.so (by assumption) | exact PR.no | exact PR.se | exact PR.so PR.se | apply Ou.ck | apply Ou.ite | refine Ou.de ?_ ?_ | refine Ou.sI ?_ ?_ ?_ | refine Ou.sJ ?_ ?_ ?_ | refine Ou.cl ?_ ?_ ?_ | apply o_fX11_finds_b106 | apply o_fX11_finds_b160 | apply h_rec7 | intro _)
theorem o_fX11_finds_b55 {M : Nat} {rec7 : Nat → Int32 → Int32 → Int32 → JM → JO (Unit)} (h_rec7 : ∀ (z1 : Int32) (z2 : Int32) (z3 : Int32) (μ : JM), QT M μ → Ou M μ (rec7 M z1 z2 z3 μ)) : ∀ (fu : Nat) (x1 : Int32) (x2 : Int32) (x3 : Int32) (x4 : Int32) (x5 : Int32) (μ : JM), QT M μ → Ou M μ (fX11_finds_b55 rec7 fu M x1 x2 x3 x4 x5 μ) := by
  intro fu
  induction fu with
  | zero => intros; exact Ou.non
  | succ fu ih =>
    intros
    rw [fX11_finds_b55]
    repeat' (with_reducible first | exact Ou.ret | exact Ou.non | assumption | exact QT.p (by assumption) | exact PR.so (by assumption) | exact PR.no | exact PR.se | exact PR.so PR.se | apply Ou.ck | apply Ou.ite | refine Ou.de ?_ ?_ | refine Ou.sI ?_ ?_ ?_ | refine Ou.sJ ?_ ?_ ?_ | refine Ou.cl ?_ ?_ ?_ | apply o_fX11_finds_b82 | apply h_rec7 | apply ih | intro _)
theorem o_fX11_finds_b7 {M : Nat}   : ∀ (fu : Nat) (x1 : Int32) (x2 : Int32) (x3 : Int32) (μ : JM), QT M μ → Ou M μ (fX11_finds_b7  fu M x1 x2 x3 μ) := by
  intro fu
  induction fu with
  | zero => intros; exact Ou.non
  | succ fu ih =>
    intros
    rw [fX11_finds_b7]
    repeat' (with_reducible first | exact Ou.ret | exact Ou.non | assumption | exact QT.p (by assumption) | exact PR.so (by assumption) | exact PR.no | exact PR.se | exact PR.so PR.se | apply Ou.ck | apply Ou.ite | refine Ou.de ?_ ?_ | refine Ou.sI ?_ ?_ ?_ | refine Ou.sJ ?_ ?_ ?_ | refine Ou.cl ?_ ?_ ?_ | apply o_fX11_finds_b160 | apply o_fX11_finds_b55 | apply o_fX11_isSo | apply o_fX11_outcomeOf | apply ih | intro _)
theorem o_fX11_finds {M : Nat}  {x1 : Int32} {x2 : Int32} {μ : JM}   (hq : QT M μ) : Ou M μ (fX11_finds M x1 x2 μ) := by
  unfold fX11_finds
  repeat' (with_reducible first | exact Ou.ret | exact Ou.non | assumption | exact QT.p (by assumption) | exact PR.so (by assumption) | exact PR.no | exact PR.se | exact PR.so PR.se | apply Ou.ck | apply Ou.ite | refine Ou.de ?_ ?_ | refine Ou.sI ?_ ?_ ?_ | refine Ou.sJ ?_ ?_ ?_ | refine Ou.cl ?_ ?_ ?_ | apply o_fX11_finds_b7 | intro _)
theorem o_fX11_outcomes {M : Nat}  {x1 : Int32} {x2 : Int32} {μ : JM}   (hq : QT M μ) : Ou M μ (fX11_outcomes M x1 x2 μ) := by
  unfold fX11_outcomes
  repeat' (with_reducible first | exact Ou.ret | exact Ou.non | assumption | exact QT.p (by assumption) | exact PR.so (by assumption) | exact PR.no | exact PR.se | exact PR.so PR.se | apply Ou.ck | apply Ou.ite | refine Ou.de ?_ ?_ | refine Ou.sI ?_ ?_ ?_ | refine Ou.sJ ?_ ?_ ?_ | refine Ou.cl ?_ ?_ ?_ | apply o_fX11_finds | apply o_fX11_isCase | apply o_fX11_isVersion | intro _)
theorem o_fX11_outcome {M : Nat}  {x1 : Int32} {x2 : Int32} {x3 : Int32} {x4 : Int32} {μ : JM}   (hq : QT M μ) : Ou M μ (fX11_outcome M x1 x2 x3 x4 μ) := by
  unfold fX11_outcome
  repeat' (with_reducible first | exact Ou.ret | exact Ou.non | assumption | exact QT.p (by assumption) | exact PR.so (by assumption) | exact PR.no | exact PR.se | exact PR.so PR.se | apply Ou.ck | apply Ou.ite | refine Ou.de ?_ ?_ | refine Ou.sI ?_ ?_ ?_ | refine Ou.sJ ?_ ?_ ?_ | refine Ou.cl ?_ ?_ ?_ | apply o_fX11_finds | apply o_fX11_in | apply o_fX11_isCase | apply o_fX11_isVersion | intro _)
theorem o_fX11_differs_b143 {M : Nat} {rec21 : Nat → Int32 → Int32 → Int32 → JM → JO (Int32)} {rec109 : Nat → Int32 → Int32 → Int32 → Int32 → Int32 → Int32 → JM → JO (Int32)} {x1 : Int32} {x2 : Int32} {x3 : Int32} {x4 : Int32} {x6 : Int32} {s0 : Int32} {μ : JM} (h_rec21 : ∀ (z1 : Int32) (z2 : Int32) (z3 : Int32) (μ : JM), QT M μ → Ou M μ (rec21 M z1 z2 z3 μ)) (h_rec109 : ∀ (z1 : Int32) (z2 : Int32) (z3 : Int32) (z4 : Int32) (z5 : Int32) (z6 : Int32) (μ : JM), QT M μ → Ou M μ (rec109 M z1 z2 z3 z4 z5 z6 μ))  (hq : QT M μ) : Ou M μ (fX11_differs_b143 rec21 rec109 M x1 x2 x3 x4 x6 s0 μ) := by
  unfold fX11_differs_b143
  repeat' (with_reducible first | exact Ou.ret | exact Ou.non | assumption | exact QT.p (by assumption) | exact PR.so (by assumption) | exact PR.no | exact PR.se | exact PR.so PR.se | apply Ou.ck | apply Ou.ite | refine Ou.de ?_ ?_ | refine Ou.sI ?_ ?_ ?_ | refine Ou.sJ ?_ ?_ ?_ | refine Ou.cl ?_ ?_ ?_ | apply h_rec21 | apply h_rec109 | intro _)
theorem o_fX11_differs_b158 {M : Nat} {rec21 : Nat → Int32 → Int32 → Int32 → JM → JO (Int32)} {x1 : Int32} {x2 : Int32} {x3 : Int32} {μ : JM} (h_rec21 : ∀ (z1 : Int32) (z2 : Int32) (z3 : Int32) (μ : JM), QT M μ → Ou M μ (rec21 M z1 z2 z3 μ))  (hq : QT M μ) : Ou M μ (fX11_differs_b158 rec21 M x1 x2 x3 μ) := by
  unfold fX11_differs_b158
  repeat' (with_reducible first | exact Ou.ret | exact Ou.non | assumption | exact QT.p (by assumption) | exact PR.so (by assumption) | exact PR.no | exact PR.se | exact PR.so PR.se | apply Ou.ck | apply Ou.ite | refine Ou.de ?_ ?_ | refine Ou.sI ?_ ?_ ?_ | refine Ou.sJ ?_ ?_ ?_ | refine Ou.cl ?_ ?_ ?_ | apply h_rec21 | intro _)
theorem o_fX11_differs_b151 {M : Nat} {rec21 : Nat → Int32 → Int32 → Int32 → JM → JO (Int32)} {x1 : Int32} {x2 : Int32} {x3 : Int32} {x5 : Int32} {μ : JM} (h_rec21 : ∀ (z1 : Int32) (z2 : Int32) (z3 : Int32) (μ : JM), QT M μ → Ou M μ (rec21 M z1 z2 z3 μ))  (hq : QT M μ) : Ou M μ (fX11_differs_b151 rec21 M x1 x2 x3 x5 μ) := by
  unfold fX11_differs_b151
  repeat' (with_reducible first | exact Ou.ret | exact Ou.non | assumption | exact QT.p (by assumption) | exact PR.so (by assumption) | exact PR.no | exact PR.se | exact PR.so PR.se | apply Ou.ck | apply Ou.ite | refine Ou.de ?_ ?_ | refine Ou.sI ?_ ?_ ?_ | refine Ou.sJ ?_ ?_ ?_ | refine Ou.cl ?_ ?_ ?_ | apply o_fX11_differs_b158 | apply h_rec21 | intro _)
theorem o_fX11_differs_b109 {M : Nat} {rec21 : Nat → Int32 → Int32 → Int32 → JM → JO (Int32)} (h_rec21 : ∀ (z1 : Int32) (z2 : Int32) (z3 : Int32) (μ : JM), QT M μ → Ou M μ (rec21 M z1 z2 z3 μ)) : ∀ (fu : Nat) (x1 : Int32) (x2 : Int32) (x3 : Int32) (x4 : Int32) (x5 : Int32) (x6 : Int32) (μ : JM), QT M μ → Ou M μ (fX11_differs_b109 rec21 fu M x1 x2 x3 x4 x5 x6 μ) := by
  intro fu
  induction fu with
  | zero => intros; exact Ou.non
  | succ fu ih =>
    intros
    rw [fX11_differs_b109]
    repeat' (with_reducible first | exact Ou.ret | exact Ou.non | assumption | exact QT.p (by assumption) | exact PR.so (by assumption) | exact PR.no | exact PR.se | exact PR.so PR.se | apply Ou.ck | apply Ou.ite | refine Ou.de ?_ ?_ | refine Ou.sI ?_ ?_ ?_ | refine Ou.sJ ?_ ?_ ?_ | refine Ou.cl ?_ ?_ ?_ | apply o_fX11_differs_b143 | apply o_fX11_differs_b151 | apply h_rec21 | apply ih | intro _)
theorem o_fX11_differs_b104 {M : Nat} {rec21 : Nat → Int32 → Int32 → Int32 → JM → JO (Int32)} {x1 : Int32} {x2 : Int32} {x3 : Int32} {x4 : Int32} {s0 : Int32} {μ : JM} (h_rec21 : ∀ (z1 : Int32) (z2 : Int32) (z3 : Int32) (μ : JM), QT M μ → Ou M μ (rec21 M z1 z2 z3 μ))  (hq : QT M μ) : Ou M μ (fX11_differs_b104 rec21 M x1 x2 x3 x4 s0 μ) := by
  unfold fX11_differs_b104
  repeat' (with_reducible first | exact Ou.ret | exact Ou.non | assumption | exact QT.p (by assumption) | exact PR.so (by assumption) | exact PR.no | exact PR.se | exact PR.so PR.se | apply Ou.ck | apply Ou.ite | refine Ou.de ?_ ?_ | refine Ou.sI ?_ ?_ ?_ | refine Ou.sJ ?_ ?_ ?_ | refine Ou.cl ?_ ?_ ?_ | apply o_fX11_differs_b109 | apply h_rec21 | intro _)
theorem o_fX11_differs_b57 {M : Nat} {rec21 : Nat → Int32 → Int32 → Int32 → JM → JO (Int32)} (h_rec21 : ∀ (z1 : Int32) (z2 : Int32) (z3 : Int32) (μ : JM), QT M μ → Ou M μ (rec21 M z1 z2 z3 μ)) : ∀ (fu : Nat) (x1 : Int32) (x2 : Int32) (x3 : Int32) (x4 : Int32) (x5 : Int32) (μ : JM), QT M μ → Ou M μ (fX11_differs_b57 rec21 fu M x1 x2 x3 x4 x5 μ) := by
  intro fu
  induction fu with
  | zero => intros; exact Ou.non
  | succ fu ih =>
    intros
    rw [fX11_differs_b57]
    repeat' (with_reducible first | exact Ou.ret | exact Ou.non | assumption | exact QT.p (by assumption) | exact PR.so (by assumption) | exact PR.no | exact PR.se | exact PR.so PR.se | apply Ou.ck | apply Ou.ite | refine Ou.de ?_ ?_ | refine Ou.sI ?_ ?_ ?_ | refine Ou.sJ ?_ ?_ ?_ | refine Ou.cl ?_ ?_ ?_ | apply o_fX11_differs_b104 | apply o_fX11_finds | apply h_rec21 | apply ih | intro _)
theorem o_fX11_differs_b21 {M : Nat}   : ∀ (fu : Nat) (x1 : Int32) (x2 : Int32) (x3 : Int32) (μ : JM), QT M μ → Ou M μ (fX11_differs_b21  fu M x1 x2 x3 μ) := by
  intro fu
  induction fu with
  | zero => intros; exact Ou.non
  | succ fu ih =>
    intros
    rw [fX11_differs_b21]
    repeat' (with_reducible first | exact Ou.ret | exact Ou.non | assumption | exact QT.p (by assumption) | exact PR.so (by assumption) | exact PR.no | exact PR.se | exact PR.so PR.se | apply Ou.ck | apply Ou.ite | refine Ou.de ?_ ?_ | refine Ou.sI ?_ ?_ ?_ | refine Ou.sJ ?_ ?_ ?_ | refine Ou.cl ?_ ?_ ?_ | apply o_fX11_differs_b158 | apply o_fX11_differs_b57 | apply o_fX11_finds | apply o_fX11_isIn | apply ih | intro _)
theorem o_fX11_differs {M : Nat}  {x1 : Int32} {x2 : Int32} {μ : JM}   (hq : QT M μ) : Ou M μ (fX11_differs M x1 x2 μ) := by
  unfold fX11_differs
  repeat' (with_reducible first | exact Ou.ret | exact Ou.non | assumption | exact QT.p (by assumption) | exact PR.so (by assumption) | exact PR.no | exact PR.se | exact PR.so PR.se | apply Ou.ck | apply Ou.ite | refine Ou.de ?_ ?_ | refine Ou.sI ?_ ?_ ?_ | refine Ou.sJ ?_ ?_ ?_ | refine Ou.cl ?_ ?_ ?_ | apply o_fX11_differs_b21 | apply o_fX11_isVersion | intro _)
theorem o_fX11_likewise_b119 {M : Nat} {rec11 : Nat → Int32 → Int32 → Int32 → JM → JO (Int32)} {rec68 : Nat → Int32 → Int32 → Int32 → Int32 → Int32 → Int32 → JM → JO (Int32)} {x3 : Int32} {x4 : Int32} {x5 : Int32} {x6 : Int32} {x8 : Int32} {s0 : Int32} {μ : JM} (h_rec11 : ∀ (z1 : Int32) (z2 : Int32) (z3 : Int32) (μ : JM), QT M μ → Ou M μ (rec11 M z1 z2 z3 μ)) (h_rec68 : ∀ (z1 : Int32) (z2 : Int32) (z3 : Int32) (z4 : Int32) (z5 : Int32) (z6 : Int32) (μ : JM), QT M μ → Ou M μ (rec68 M z1 z2 z3 z4 z5 z6 μ))  (hq : QT M μ) : Ou M μ (fX11_likewise_b119 rec11 rec68 M x3 x4 x5 x6 x8 s0 μ) := by
  unfold fX11_likewise_b119
  repeat' (with_reducible first | exact Ou.ret | exact Ou.non | assumption | exact QT.p (by assumption) | exact PR.so (by assumption) | exact PR.no | exact PR.se | exact PR.so PR.se | apply Ou.ck | apply Ou.ite | refine Ou.de ?_ ?_ | refine Ou.sI ?_ ?_ ?_ | refine Ou.sJ ?_ ?_ ?_ | refine Ou.cl ?_ ?_ ?_ | apply h_rec11 | apply h_rec68 | intro _)
theorem o_fX11_likewise_b127 {M : Nat} {rec11 : Nat → Int32 → Int32 → Int32 → JM → JO (Int32)} {x3 : Int32} {x4 : Int32} {x5 : Int32} {x7 : Int32} {μ : JM} (h_rec11 : ∀ (z1 : Int32) (z2 : Int32) (z3 : Int32) (μ : JM), QT M μ → Ou M μ (rec11 M z1 z2 z3 μ))  (hq : QT M μ) : Ou M μ (fX11_likewise_b127 rec11 M x3 x4 x5 x7 μ) := by
  unfold fX11_likewise_b127
  repeat' (with_reducible first | exact Ou.ret | exact Ou.non | assumption | exact QT.p (by assumption) | exact PR.so (by assumption) | exact PR.no | exact PR.se | exact PR.so PR.se | apply Ou.ck | apply Ou.ite | refine Ou.de ?_ ?_ | refine Ou.sI ?_ ?_ ?_ | refine Ou.sJ ?_ ?_ ?_ | refine Ou.cl ?_ ?_ ?_ | apply h_rec11 | intro _)
theorem o_fX11_likewise_b68 {M : Nat} {rec11 : Nat → Int32 → Int32 → Int32 → JM → JO (Int32)} (h_rec11 : ∀ (z1 : Int32) (z2 : Int32) (z3 : Int32) (μ : JM), QT M μ → Ou M μ (rec11 M z1 z2 z3 μ)) : ∀ (fu : Nat) (x3 : Int32) (x4 : Int32) (x5 : Int32) (x6 : Int32) (x7 : Int32) (x8 : Int32) (μ : JM), QT M μ → Ou M μ (fX11_likewise_b68 rec11 fu M x3 x4 x5 x6 x7 x8 μ) := by
  intro fu
  induction fu with
  | zero => intros; exact Ou.non
  | succ fu ih =>
    intros
    rw [fX11_likewise_b68]
    repeat' (with_reducible first | exact Ou.ret | exact Ou.non | assumption | exact QT.p (by assumption) | exact PR.so (by assumption) | exact PR.no | exact PR.se | exact PR.so PR.se | apply Ou.ck | apply Ou.ite | refine Ou.de ?_ ?_ | refine Ou.sI ?_ ?_ ?_ | refine Ou.sJ ?_ ?_ ?_ | refine Ou.cl ?_ ?_ ?_ | apply o_fX11_likewise_b119 | apply o_fX11_likewise_b127 | apply h_rec11 | apply ih | intro _)
theorem o_fX11_likewise_b63 {M : Nat} {rec11 : Nat → Int32 → Int32 → Int32 → JM → JO (Int32)} {x3 : Int32} {x4 : Int32} {x5 : Int32} {x6 : Int32} {s0 : Int32} {μ : JM} (h_rec11 : ∀ (z1 : Int32) (z2 : Int32) (z3 : Int32) (μ : JM), QT M μ → Ou M μ (rec11 M z1 z2 z3 μ))  (hq : QT M μ) : Ou M μ (fX11_likewise_b63 rec11 M x3 x4 x5 x6 s0 μ) := by
  unfold fX11_likewise_b63
  repeat' (with_reducible first | exact Ou.ret | exact Ou.non | assumption | exact QT.p (by assumption) | exact PR.so (by assumption) | exact PR.no | exact PR.se | exact PR.so PR.se | apply Ou.ck | apply Ou.ite | refine Ou.de ?_ ?_ | refine Ou.sI ?_ ?_ ?_ | refine Ou.sJ ?_ ?_ ?_ | refine Ou.cl ?_ ?_ ?_ | apply o_fX11_likewise_b68 | apply h_rec11 | intro _)
theorem o_fX11_likewise_b62 {M : Nat} {rec11 : Nat → Int32 → Int32 → Int32 → JM → JO (Int32)} {x3 : Int32} {x4 : Int32} {x5 : Int32} {x6 : Int32} {μ : JM} (h_rec11 : ∀ (z1 : Int32) (z2 : Int32) (z3 : Int32) (μ : JM), QT M μ → Ou M μ (rec11 M z1 z2 z3 μ))  (hq : QT M μ) : Ou M μ (fX11_likewise_b62 rec11 M x3 x4 x5 x6 μ) := by
  unfold fX11_likewise_b62
  repeat' (with_reducible first | exact Ou.ret | exact Ou.non | assumption | exact QT.p (by assumption) | exact PR.so (by assumption) | exact PR.no | exact PR.se | exact PR.so PR.se | apply Ou.ck | apply Ou.ite | refine Ou.de ?_ ?_ | refine Ou.sI ?_ ?_ ?_ | refine Ou.sJ ?_ ?_ ?_ | refine Ou.cl ?_ ?_ ?_ | apply o_fX11_likewise_b63 | apply h_rec11 | intro _)
theorem o_fX11_likewise_b11 {M : Nat}   : ∀ (fu : Nat) (x3 : Int32) (x4 : Int32) (x5 : Int32) (μ : JM), QT M μ → Ou M μ (fX11_likewise_b11  fu M x3 x4 x5 μ) := by
  intro fu
  induction fu with
  | zero => intros; exact Ou.non
  | succ fu ih =>
    intros
    rw [fX11_likewise_b11]
    repeat' (with_reducible first | exact Ou.ret | exact Ou.non | assumption | exact QT.p (by assumption) | exact PR.so (by assumption) | exact PR.no | exact PR.se | exact PR.so PR.se | apply Ou.ck | apply Ou.ite | refine Ou.de ?_ ?_ | refine Ou.sI ?_ ?_ ?_ | refine Ou.sJ ?_ ?_ ?_ | refine Ou.cl ?_ ?_ ?_ | apply o_fX11_likewise_b62 | apply o_fX11_likewise_b63 | apply ih | intro _)
theorem o_fX11_likewise {M : Nat}  {x1 : Int32} {x2 : Int32} {x3 : Int32} {μ : JM}   (hq : QT M μ) : Ou M μ (fX11_likewise M x1 x2 x3 μ) := by
  unfold fX11_likewise
  repeat' (with_reducible first | exact Ou.ret | exact Ou.non | assumption | exact QT.p (by assumption) | exact PR.so (by assumption) | exact PR.no | exact PR.se | exact PR.so PR.se | apply Ou.ck | apply Ou.ite | refine Ou.de ?_ ?_ | refine Ou.sI ?_ ?_ ?_ | refine Ou.sJ ?_ ?_ ?_ | refine Ou.cl ?_ ?_ ?_ | apply o_fX11_likewise_b11 | intro _)
theorem o_fX11_leastChange_b68 {M : Nat} {rec12 : Nat → Int32 → Int32 → Int32 → Int32 → Int32 → JM → JO (Int32)} {x1 : Int32} {x2 : Int32} {x3 : Int32} {x4 : Int32} {x5 : Int32} {μ : JM} (h_rec12 : ∀ (z1 : Int32) (z2 : Int32) (z3 : Int32) (z4 : Int32) (z5 : Int32) (μ : JM), QT M μ → Ou M μ (rec12 M z1 z2 z3 z4 z5 μ))  (hq : QT M μ) : Ou M μ (fX11_leastChange_b68 rec12 M x1 x2 x3 x4 x5 μ) := by
  unfold fX11_leastChange_b68
  repeat' (with_reducible first | exact Ou.ret | exact Ou.non | assumption | exact QT.p (by assumption) | exact PR.so (by assumption) | exact PR.no | exact PR.se | exact PR.so PR.se | apply Ou.ck | apply Ou.ite | refine Ou.de ?_ ?_ | refine Ou.sI ?_ ?_ ?_ | refine Ou.sJ ?_ ?_ ?_ | refine Ou.cl ?_ ?_ ?_ | apply h_rec12 | intro _)
theorem o_fX11_leastChange_b62 {M : Nat} {rec12 : Nat → Int32 → Int32 → Int32 → Int32 → Int32 → JM → JO (Int32)} {x1 : Int32} {x2 : Int32} {x3 : Int32} {x4 : Int32} {x5 : Int32} {s0 : Int32} {s1 : Int32} {μ : JM} (h_rec12 : ∀ (z1 : Int32) (z2 : Int32) (z3 : Int32) (z4 : Int32) (z5 : Int32) (μ : JM), QT M μ → Ou M μ (rec12 M z1 z2 z3 z4 z5 μ))  (hq : QT M μ) : Ou M μ (fX11_leastChange_b62 rec12 M x1 x2 x3 x4 x5 s0 s1 μ) := by
  unfold fX11_leastChange_b62
  repeat' (with_reducible first | exact Ou.ret | exact Ou.non | assumption | exact QT.p (by assumption) | exact PR.so (by assumption) | exact PR.no | exact PR.se | exact PR.so PR.se | apply Ou.ck | apply Ou.ite | refine Ou.de ?_ ?_ | refine Ou.sI ?_ ?_ ?_ | refine Ou.sJ ?_ ?_ ?_ | refine Ou.cl ?_ ?_ ?_ | apply o_fX11_leastChange_b68 | apply h_rec12 | intro _)
theorem o_fX11_leastChange_b61 {M : Nat} {rec12 : Nat → Int32 → Int32 → Int32 → Int32 → Int32 → JM → JO (Int32)} {x1 : Int32} {x2 : Int32} {x3 : Int32} {x4 : Int32} {x5 : Int32} {s0 : Int32} {μ : JM} (h_rec12 : ∀ (z1 : Int32) (z2 : Int32) (z3 : Int32) (z4 : Int32) (z5 : Int32) (μ : JM), QT M μ → Ou M μ (rec12 M z1 z2 z3 z4 z5 μ))  (hq : QT M μ) : Ou M μ (fX11_leastChange_b61 rec12 M x1 x2 x3 x4 x5 s0 μ) := by
  unfold fX11_leastChange_b61
  repeat' (with_reducible first | exact Ou.ret | exact Ou.non | assumption | exact QT.p (by assumption) | exact PR.so (by assumption) | exact PR.no | exact PR.se | exact PR.so PR.se | apply Ou.ck | apply Ou.ite | refine Ou.de ?_ ?_ | refine Ou.sI ?_ ?_ ?_ | refine Ou.sJ ?_ ?_ ?_ | refine Ou.cl ?_ ?_ ?_ | apply o_fX11_leastChange_b62 | apply h_rec12 | intro _)
theorem o_fX11_leastChange_b12 {M : Nat}   : ∀ (fu : Nat) (x1 : Int32) (x2 : Int32) (x3 : Int32) (x4 : Int32) (x5 : Int32) (μ : JM), QT M μ → Ou M μ (fX11_leastChange_b12  fu M x1 x2 x3 x4 x5 μ) := by
  intro fu
  induction fu with
  | zero => intros; exact Ou.non
  | succ fu ih =>
    intros
    rw [fX11_leastChange_b12]
    repeat' (with_reducible first | exact Ou.ret | exact Ou.non | assumption | exact QT.p (by assumption) | exact PR.so (by assumption) | exact PR.no | exact PR.se | exact PR.so PR.se | apply Ou.ck | apply Ou.ite | refine Ou.de ?_ ?_ | refine Ou.sI ?_ ?_ ?_ | refine Ou.sJ ?_ ?_ ?_ | refine Ou.cl ?_ ?_ ?_ | apply o_fX11_isIn | apply o_fX11_isSo | apply o_fX11_leastChange_b61 | apply o_fX11_leastChange_b62 | apply o_fX11_leastChange_b68 | apply ih | intro _)
theorem o_fX11_leastChange {M : Nat}  {x1 : Int32} {x2 : Int32} {x3 : Int32} {μ : JM}   (hq : QT M μ) : Ou M μ (fX11_leastChange M x1 x2 x3 μ) := by
  unfold fX11_leastChange
  repeat' (with_reducible first | exact Ou.ret | exact Ou.non | assumption | exact QT.p (by assumption) | exact PR.so (by assumption) | exact PR.no | exact PR.se | exact PR.so PR.se | apply Ou.ck | apply Ou.ite | refine Ou.de ?_ ?_ | refine Ou.sI ?_ ?_ ?_ | refine Ou.sJ ?_ ?_ ?_ | refine Ou.cl ?_ ?_ ?_ | apply o_fX11_leastChange_b12 | apply o_fX11_likewise | intro _)
theorem o_fX11_changed_b103 {M : Nat} {rec34 : Nat → Int32 → Int32 → Int32 → Int32 → Int32 → Int32 → JM → JO (Int32)} {x1 : Int32} {x2 : Int32} {x3 : Int32} {x4 : Int32} {x5 : Int32} {x6 : Int32} {μ : JM} (h_rec34 : ∀ (z1 : Int32) (z2 : Int32) (z3 : Int32) (z4 : Int32) (z5 : Int32) (z6 : Int32) (μ : JM), QT M μ → Ou M μ (rec34 M z1 z2 z3 z4 z5 z6 μ))  (hq : QT M μ) : Ou M μ (fX11_changed_b103 rec34 M x1 x2 x3 x4 x5 x6 μ) := by
  unfold fX11_changed_b103
  repeat' (with_reducible first | exact Ou.ret | exact Ou.non | assumption | exact QT.p (by assumption) | exact PR.so (by assumption) | exact PR.no | exact PR.se | exact PR.so PR.se | apply Ou.ck | apply Ou.ite | refine Ou.de ?_ ?_ | refine Ou.sI ?_ ?_ ?_ | refine Ou.sJ ?_ ?_ ?_ | refine Ou.cl ?_ ?_ ?_ | apply h_rec34 | intro _)
theorem o_fX11_changed_b34 {M : Nat}   : ∀ (fu : Nat) (x1 : Int32) (x2 : Int32) (x3 : Int32) (x4 : Int32) (x5 : Int32) (x6 : Int32) (μ : JM), QT M μ → Ou M μ (fX11_changed_b34  fu M x1 x2 x3 x4 x5 x6 μ) := by
  intro fu
  induction fu with
  | zero => intros; exact Ou.non
  | succ fu ih =>
    intros
    rw [fX11_changed_b34]
    repeat' (with_reducible first | exact Ou.ret | exact Ou.non | assumption | exact QT.p (by assumption) | exact PR.so (by assumption) | exact PR.no | exact PR.se | exact PR.so PR.se | apply Ou.ck | apply Ou.ite | refine Ou.de ?_ ?_ | refine Ou.sI ?_ ?_ ?_ | refine Ou.sJ ?_ ?_ ?_ | refine Ou.cl ?_ ?_ ?_ | apply o_fX11_changed_b103 | apply o_fX11_leastChange | apply ih | intro _)
theorem o_fX11_changed {M : Nat}  {x1 : Int32} {x2 : Int32} {x3 : Int32} {x4 : Int32} {μ : JM}   (hq : QT M μ) : Ou M μ (fX11_changed M x1 x2 x3 x4 μ) := by
  unfold fX11_changed
  repeat' (with_reducible first | exact Ou.ret | exact Ou.non | assumption | exact QT.p (by assumption) | exact PR.so (by assumption) | exact PR.no | exact PR.se | exact PR.so PR.se | apply Ou.ck | apply Ou.ite | refine Ou.de ?_ ?_ | refine Ou.sI ?_ ?_ ?_ | refine Ou.sJ ?_ ?_ ?_ | refine Ou.cl ?_ ?_ ?_ | apply o_fX11_changed_b34 | apply o_fX11_in | apply o_fX11_isVersion | intro _)
theorem o_fX11_quarrels_b139 {M : Nat} {rec2 : Nat → Int32 → Int32 → Int32 → JM → JO (Int32)} {rec47 : Nat → Int32 → Int32 → Int32 → Int32 → Int32 → JM → JO (Int32)} {x1 : Int32} {x2 : Int32} {x3 : Int32} {x4 : Int32} {x5 : Int32} {μ : JM} (h_rec2 : ∀ (z1 : Int32) (z2 : Int32) (z3 : Int32) (μ : JM), QT M μ → Ou M μ (rec2 M z1 z2 z3 μ)) (h_rec47 : ∀ (z1 : Int32) (z2 : Int32) (z3 : Int32) (z4 : Int32) (z5 : Int32) (μ : JM), QT M μ → Ou M μ (rec47 M z1 z2 z3 z4 z5 μ))  (hq : QT M μ) : Ou M μ (fX11_quarrels_b139 rec2 rec47 M x1 x2 x3 x4 x5 μ) := by
  unfold fX11_quarrels_b139
  repeat' (with_reducible first | exact Ou.ret | exact Ou.non | assumption | exact QT.p (by assumption) | exact PR.so (by assumption) | exact PR.no | exact PR.se | exact PR.so PR.se | apply Ou.ck | apply Ou.ite | refine Ou.de ?_ ?_ | refine Ou.sI ?_ ?_ ?_ | refine Ou.sJ ?_ ?_ ?_ | refine Ou.cl ?_ ?_ ?_ | apply h_rec2 | apply h_rec47 | intro _)
theorem o_fX11_quarrels_b145 {M : Nat} {rec2 : Nat → Int32 → Int32 → Int32 → JM → JO (Int32)} {x1 : Int32} {x2 : Int32} {x3 : Int32} {μ : JM} (h_rec2 : ∀ (z1 : Int32) (z2 : Int32) (z3 : Int32) (μ : JM), QT M μ → Ou M μ (rec2 M z1 z2 z3 μ))  (hq : QT M μ) : Ou M μ (fX11_quarrels_b145 rec2 M x1 x2 x3 μ) := by
  unfold fX11_quarrels_b145
  repeat' (with_reducible first | exact Ou.ret | exact Ou.non | assumption | exact QT.p (by assumption) | exact PR.so (by assumption) | exact PR.no | exact PR.se | exact PR.so PR.se | apply Ou.ck | apply Ou.ite | refine Ou.de ?_ ?_ | refine Ou.sI ?_ ?_ ?_ | refine Ou.sJ ?_ ?_ ?_ | refine Ou.cl ?_ ?_ ?_ | apply h_rec2 | intro _)
theorem o_fX11_quarrels_b47 {M : Nat} {rec2 : Nat → Int32 → Int32 → Int32 → JM → JO (Int32)} (h_rec2 : ∀ (z1 : Int32) (z2 : Int32) (z3 : Int32) (μ : JM), QT M μ → Ou M μ (rec2 M z1 z2 z3 μ)) : ∀ (fu : Nat) (x1 : Int32) (x2 : Int32) (x3 : Int32) (x4 : Int32) (x5 : Int32) (μ : JM), QT M μ → Ou M μ (fX11_quarrels_b47 rec2 fu M x1 x2 x3 x4 x5 μ) := by
  intro fu
  induction fu with
  | zero => intros; exact Ou.non
  | succ fu ih =>
    intros
    rw [fX11_quarrels_b47]
    repeat' (with_reducible first | exact Ou.ret | exact Ou.non | assumption | exact QT.p (by assumption) | exact PR.so (by assumption) | exact PR.no | exact PR.se | exact PR.so PR.se | apply Ou.ck | apply Ou.ite | refine Ou.de ?_ ?_ | refine Ou.sI ?_ ?_ ?_ | refine Ou.sJ ?_ ?_ ?_ | refine Ou.cl ?_ ?_ ?_ | apply o_fX11_isSo | apply o_fX11_quarrels_b139 | apply o_fX11_quarrels_b145 | apply h_rec2 | apply ih | intro _)
theorem o_fX11_quarrels_b2 {M : Nat}   : ∀ (fu : Nat) (x1 : Int32) (x2 : Int32) (x3 : Int32) (μ : JM), QT M μ → Ou M μ (fX11_quarrels_b2  fu M x1 x2 x3 μ) := by
  intro fu
  induction fu with
  | zero => intros; exact Ou.non
  | succ fu ih =>
    intros
    rw [fX11_quarrels_b2]
    repeat' (with_reducible first | exact Ou.ret | exact Ou.non | assumption | exact QT.p (by assumption) | exact PR.so (by assumption) | exact PR.no | exact PR.se | exact PR.so PR.se | apply Ou.ck | apply Ou.ite | refine Ou.de ?_ ?_ | refine Ou.sI ?_ ?_ ?_ | refine Ou.sJ ?_ ?_ ?_ | refine Ou.cl ?_ ?_ ?_ | apply o_fX11_isSo | apply o_fX11_quarrels_b145 | apply o_fX11_quarrels_b47 | apply ih | intro _)
theorem o_fX11_quarrels {M : Nat}  {x1 : Int32} {x2 : Int32} {μ : JM}   (hq : QT M μ) : Ou M μ (fX11_quarrels M x1 x2 μ) := by
  unfold fX11_quarrels
  repeat' (with_reducible first | exact Ou.ret | exact Ou.non | assumption | exact QT.p (by assumption) | exact PR.so (by assumption) | exact PR.no | exact PR.se | exact PR.so PR.se | apply Ou.ck | apply Ou.ite | refine Ou.de ?_ ?_ | refine Ou.sI ?_ ?_ ?_ | refine Ou.sJ ?_ ?_ ?_ | refine Ou.cl ?_ ?_ ?_ | apply o_fX11_quarrels_b2 | intro _)
theorem o_fX11_quarrel_b42 {M : Nat} {rec13 : Nat → Int32 → Int32 → JM → JO (Int32)} {x1 : Int32} {x2 : Int32} {μ : JM} (h_rec13 : ∀ (z1 : Int32) (z2 : Int32) (μ : JM), QT M μ → Ou M μ (rec13 M z1 z2 μ))  (hq : QT M μ) : Ou M μ (fX11_quarrel_b42 rec13 M x1 x2 μ) := by
  unfold fX11_quarrel_b42
  repeat' (with_reducible first | exact Ou.ret | exact Ou.non | assumption | exact QT.p (by assumption) | exact PR.so (by assumption) | exact PR.no | exact PR.se | exact PR.so PR.se | apply Ou.ck | apply Ou.ite | refine Ou.de ?_ ?_ | refine Ou.sI ?_ ?_ ?_ | refine Ou.sJ ?_ ?_ ?_ | refine Ou.cl ?_ ?_ ?_ | apply h_rec13 | intro _)
theorem o_fX11_quarrel_b13 {M : Nat}   : ∀ (fu : Nat) (x1 : Int32) (x2 : Int32) (μ : JM), QT M μ → Ou M μ (fX11_quarrel_b13  fu M x1 x2 μ) := by
  intro fu
  induction fu with
  | zero => intros; exact Ou.non
  | succ fu ih =>
    intros
    rw [fX11_quarrel_b13]
    repeat' (with_reducible first | exact Ou.ret | exact Ou.non | assumption | exact QT.p (by assumption) | exact PR.so (by assumption) | exact PR.no | exact PR.se | exact PR.so PR.se | apply Ou.ck | apply Ou.ite | refine Ou.de ?_ ?_ | refine Ou.sI ?_ ?_ ?_ | refine Ou.sJ ?_ ?_ ?_ | refine Ou.cl ?_ ?_ ?_ | apply o_fX11_isIn | apply o_fX11_quarrel_b42 | apply o_fX11_quarrels | apply ih | intro _)
theorem o_fX11_quarrel {M : Nat}  {x1 : Int32} {μ : JM}   (hq : QT M μ) : Ou M μ (fX11_quarrel M x1 μ) := by
  unfold fX11_quarrel
  repeat' (with_reducible first | exact Ou.ret | exact Ou.non | assumption | exact QT.p (by assumption) | exact PR.so (by assumption) | exact PR.no | exact PR.se | exact PR.so PR.se | apply Ou.ck | apply Ou.ite | refine Ou.de ?_ ?_ | refine Ou.sI ?_ ?_ ?_ | refine Ou.sJ ?_ ?_ ?_ | refine Ou.cl ?_ ?_ ?_ | apply o_fX11_isVersion | apply o_fX11_quarrel_b13 | intro _)
theorem o_fX11_quarreling {M : Nat}  {x1 : Int32} {μ : JM}   (hq : QT M μ) : Ou M μ (fX11_quarreling M x1 μ) := by
  unfold fX11_quarreling
  repeat' (with_reducible first | exact Ou.ret | exact Ou.non | assumption | exact QT.p (by assumption) | exact PR.so (by assumption) | exact PR.no | exact PR.se | exact PR.so PR.se | apply Ou.ck | apply Ou.ite | refine Ou.de ?_ ?_ | refine Ou.sI ?_ ?_ ?_ | refine Ou.sJ ?_ ?_ ?_ | refine Ou.cl ?_ ?_ ?_ | intro _)
theorem o_fX11_gap_b111 {M : Nat} {rec27 : Nat → Int32 → Int32 → Int32 → JM → JO (Int32)} {rec54 : Nat → Int32 → Int32 → Int32 → Int32 → Int32 → JM → JO (Int32)} {x1 : Int32} {x2 : Int32} {x3 : Int32} {x4 : Int32} {x5 : Int32} {μ : JM} (h_rec27 : ∀ (z1 : Int32) (z2 : Int32) (z3 : Int32) (μ : JM), QT M μ → Ou M μ (rec27 M z1 z2 z3 μ)) (h_rec54 : ∀ (z1 : Int32) (z2 : Int32) (z3 : Int32) (z4 : Int32) (z5 : Int32) (μ : JM), QT M μ → Ou M μ (rec54 M z1 z2 z3 z4 z5 μ))  (hq : QT M μ) : Ou M μ (fX11_gap_b111 rec27 rec54 M x1 x2 x3 x4 x5 μ) := by
  unfold fX11_gap_b111
  repeat' (with_reducible first | exact Ou.ret | exact Ou.non | assumption | exact QT.p (by assumption) | exact PR.so (by assumption) | exact PR.no | exact PR.se | exact PR.so PR.se | apply Ou.ck | apply Ou.ite | refine Ou.de ?_ ?_ | refine Ou.sI ?_ ?_ ?_ | refine Ou.sJ ?_ ?_ ?_ | refine Ou.cl ?_ ?_ ?_ | apply h_rec27 | apply h_rec54 | intro _)
theorem o_fX11_gap_b124 {M : Nat} {rec27 : Nat → Int32 → Int32 → Int32 → JM → JO (Int32)} {x1 : Int32} {x2 : Int32} {x3 : Int32} {μ : JM} (h_rec27 : ∀ (z1 : Int32) (z2 : Int32) (z3 : Int32) (μ : JM), QT M μ → Ou M μ (rec27 M z1 z2 z3 μ))  (hq : QT M μ) : Ou M μ (fX11_gap_b124 rec27 M x1 x2 x3 μ) := by
  unfold fX11_gap_b124
  repeat' (with_reducible first | exact Ou.ret | exact Ou.non | assumption | exact QT.p (by assumption) | exact PR.so (by assumption) | exact PR.no | exact PR.se | exact PR.so PR.se | apply Ou.ck | apply Ou.ite | refine Ou.de ?_ ?_ | refine Ou.sI ?_ ?_ ?_ | refine Ou.sJ ?_ ?_ ?_ | refine Ou.cl ?_ ?_ ?_ | apply h_rec27 | intro _)
theorem o_fX11_gap_b54 {M : Nat} {rec27 : Nat → Int32 → Int32 → Int32 → JM → JO (Int32)} (h_rec27 : ∀ (z1 : Int32) (z2 : Int32) (z3 : Int32) (μ : JM), QT M μ → Ou M μ (rec27 M z1 z2 z3 μ)) : ∀ (fu : Nat) (x1 : Int32) (x2 : Int32) (x3 : Int32) (x4 : Int32) (x5 : Int32) (μ : JM), QT M μ → Ou M μ (fX11_gap_b54 rec27 fu M x1 x2 x3 x4 x5 μ) := by
  intro fu
  induction fu with
  | zero => intros; exact Ou.non
  | succ fu ih =>
    intros
    rw [fX11_gap_b54]
    repeat' (with_reducible first | exact Ou.ret | exact Ou.non | assumption | exact QT.p (by assumption) | exact PR.so (by assumption) | exact PR.no | exact PR.se | exact PR.so PR.se | apply Ou.ck | apply Ou.ite | refine Ou.de ?_ ?_ | refine Ou.sI ?_ ?_ ?_ | refine Ou.sJ ?_ ?_ ?_ | refine Ou.cl ?_ ?_ ?_ | apply o_fX11_gap_b111 | apply o_fX11_gap_b124 | apply o_fX11_isSo | apply h_rec27 | apply ih | intro _)
theorem o_fX11_gap_b27 {M : Nat}   : ∀ (fu : Nat) (x1 : Int32) (x2 : Int32) (x3 : Int32) (μ : JM), QT M μ → Ou M μ (fX11_gap_b27  fu M x1 x2 x3 μ) := by
  intro fu
  induction fu with
  | zero => intros; exact Ou.non
  | succ fu ih =>
    intros
    rw [fX11_gap_b27]
    repeat' (with_reducible first | exact Ou.ret | exact Ou.non | assumption | exact QT.p (by assumption) | exact PR.so (by assumption) | exact PR.no | exact PR.se | exact PR.so PR.se | apply Ou.ck | apply Ou.ite | refine Ou.de ?_ ?_ | refine Ou.sI ?_ ?_ ?_ | refine Ou.sJ ?_ ?_ ?_ | refine Ou.cl ?_ ?_ ?_ | apply o_fX11_gap_b124 | apply o_fX11_gap_b54 | apply o_fX11_isIn | apply ih | intro _)
theorem o_fX11_gap {M : Nat}  {x1 : Int32} {x2 : Int32} {μ : JM}   (hq : QT M μ) : Ou M μ (fX11_gap M x1 x2 μ) := by
  unfold fX11_gap
  repeat' (with_reducible first | exact Ou.ret | exact Ou.non | assumption | exact QT.p (by assumption) | exact PR.so (by assumption) | exact PR.no | exact PR.se | exact PR.so PR.se | apply Ou.ck | apply Ou.ite | refine Ou.de ?_ ?_ | refine Ou.sI ?_ ?_ ?_ | refine Ou.sJ ?_ ?_ ?_ | refine Ou.cl ?_ ?_ ?_ | apply o_fX11_gap_b27 | apply o_fX11_in | apply o_fX11_isVersion | intro _)
theorem o_fX11_free {M : Nat}  {x1 : Int32} {x2 : Int32} {μ : JM}   (hq : QT M μ) : Ou M μ (fX11_free M x1 x2 μ) := by
  unfold fX11_free
  repeat' (with_reducible first | exact Ou.ret | exact Ou.non | assumption | exact QT.p (by assumption) | exact PR.so (by assumption) | exact PR.no | exact PR.se | exact PR.so PR.se | apply Ou.ck | apply Ou.ite | refine Ou.de ?_ ?_ | refine Ou.sI ?_ ?_ ?_ | refine Ou.sJ ?_ ?_ ?_ | refine Ou.cl ?_ ?_ ?_ | apply o_fX11_in | intro _)
theorem o_fX11_due_b110 {M : Nat}  {x6 : Int32} {μ : JM}   (hq : QT M μ) : Ou M μ (fX11_due_b110 x6 μ) := by
  unfold fX11_due_b110
  repeat' (with_reducible first | exact Ou.ret | exact Ou.non | assumption | exact QT.p (by assumption) | exact PR.so (by assumption) | exact PR.no | exact PR.se | exact PR.so PR.se | apply Ou.ck | apply Ou.ite | refine Ou.de ?_ ?_ | refine Ou.sI ?_ ?_ ?_ | refine Ou.sJ ?_ ?_ ?_ | refine Ou.cl ?_ ?_ ?_ | intro _)
theorem o_fX11_due_b61 {M : Nat}   : ∀ (fu : Nat) (x5 : Int32) (x6 : Int32) (μ : JM), QT M μ → Ou M μ (fX11_due_b61  fu M x5 x6 μ) := by
  intro fu
  induction fu with
  | zero => intros; exact Ou.non
  | succ fu ih =>
    intros
    rw [fX11_due_b61]
    repeat' (with_reducible first | exact Ou.ret | exact Ou.non | assumption | exact QT.p (by assumption) | exact PR.so (by assumption) | exact PR.no | exact PR.se | exact PR.so PR.se | apply Ou.ck | apply Ou.ite | refine Ou.de ?_ ?_ | refine Ou.sI ?_ ?_ ?_ | refine Ou.sJ ?_ ?_ ?_ | refine Ou.cl ?_ ?_ ?_ | apply o_fX11_due_b110 | apply ih | intro _)
theorem o_fX11_due {M : Nat}  {x1 : Int32} {x2 : Int32} {x3 : Int32} {x4 : Int32} {μ : JM}   (hq : QT M μ) : Ou M μ (fX11_due M x1 x2 x3 x4 μ) := by
  unfold fX11_due
  repeat' (with_reducible first | exact Ou.ret | exact Ou.non | assumption | exact QT.p (by assumption) | exact PR.so (by assumption) | exact PR.no | exact PR.se | exact PR.so PR.se | apply Ou.ck | apply Ou.ite | refine Ou.de ?_ ?_ | refine Ou.sI ?_ ?_ ?_ | refine Ou.sJ ?_ ?_ ?_ | refine Ou.cl ?_ ?_ ?_ | apply o_fX11_due_b110 | apply o_fX11_due_b61 | apply o_fX11_in | apply o_fX11_outcome | intro _)
theorem o_fX11_count {M : Nat}  {x1 : Int32} {μ : JM}   (hq : QT M μ) : Ou M μ (fX11_count M x1 μ) := by
  unfold fX11_count
  repeat' (with_reducible first | exact Ou.ret | exact Ou.non | assumption | exact QT.p (by assumption) | exact PR.so (by assumption) | exact PR.no | exact PR.se | exact PR.so PR.se | apply Ou.ck | apply Ou.ite | refine Ou.de ?_ ?_ | refine Ou.sI ?_ ?_ ?_ | refine Ou.sJ ?_ ?_ ?_ | refine Ou.cl ?_ ?_ ?_ | apply o_fX11_in | apply o_fX11_isVersion | apply o_fX11_worldMany | intro _)
