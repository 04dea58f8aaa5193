/-! THE CLASS: its cells, one behind the other from B on (written by wip/tools/mk98a.py) -/
def ckin : List (Nat × Nat × Nat) := [(0, 11, 0), (1, 10, 0), (2, 102, 18), (3, 7, 0), (4, 100, 900), (5, 7, 0), (6, 100, 1800), (7, 7, 0), (8, 100, 900), (9, 10, 0), (10, 102, 8), (11, 10, 0), (12, 102, 6), (13, 10, 0), (14, 102, 12), (15, 8, 0), (16, 102, 900), (17, 101, 901), (18, 5, 0), (19, 4, 0), (20, 104, 11), (21, 104, 11), (22, 2, 0), (23, 102, 4), (24, 2, 0), (25, 102, 4), (26, 2, 0), (27, 102, 4), (28, 2, 0), (29, 102, 4), (30, 2, 0), (31, 102, 4), (32, 2, 0), (33, 102, 4), (34, 2, 0), (35, 102, 4), (36, 2, 0), (37, 102, 4), (38, 2, 0), (39, 102, 4), (40, 2, 0), (41, 102, 4), (42, 2, 0), (43, 102, 4), (44, 2, 0), (45, 102, 4), (46, 2, 0), (47, 102, 4), (48, 2, 0), (49, 102, 4), (50, 2, 0), (51, 102, 4), (52, 2, 0), (53, 102, 4), (54, 2, 0), (55, 102, 4), (56, 2, 0), (57, 102, 4), (58, 2, 0), (59, 102, 4), (60, 2, 0), (61, 102, 4), (62, 2, 0), (63, 102, 4), (64, 2, 0), (65, 102, 4), (66, 103, 11), (67, 2, 0), (68, 102, 4), (69, 106, 4), (70, 107, 256), (71, 2, 0), (72, 102, 4), (73, 1, 0), (74, 102, 157), (75, 101, 24)]
def cptr : List (Nat × Nat × Nat) := [(0, 0, 3), (0, 1, 5), (0, 2, 7), (0, 3, 9), (0, 4, 11), (0, 5, 13), (0, 6, 15), (0, 7, 18), (0, 8, 69), (0, 9, 70), (0, 10, 71), (0, 11, 73), (0, 12, 75), (1, 0, 2), (3, 0, 4), (3, 1, 1), (5, 0, 6), (5, 1, 1), (7, 0, 8), (7, 1, 1), (9, 0, 10), (11, 0, 12), (13, 0, 14), (15, 0, 1), (15, 1, 16), (15, 2, 17), (18, 0, 15), (18, 1, 9), (18, 2, 11), (18, 3, 13), (18, 4, 19), (19, 0, 15), (19, 1, 9), (19, 2, 20), (19, 3, 21), (19, 4, 66), (19, 7, 67), (20, 0, 22), (21, 0, 24), (22, 0, 23), (24, 0, 25), (20, 1, 26), (21, 1, 28), (26, 0, 27), (28, 0, 29), (20, 2, 30), (21, 2, 32), (30, 0, 31), (32, 0, 33), (20, 3, 34), (21, 3, 36), (34, 0, 35), (36, 0, 37), (20, 4, 38), (21, 4, 40), (38, 0, 39), (40, 0, 41), (20, 5, 42), (21, 5, 44), (42, 0, 43), (44, 0, 45), (20, 6, 46), (21, 6, 48), (46, 0, 47), (48, 0, 49), (20, 7, 50), (21, 7, 52), (50, 0, 51), (52, 0, 53), (20, 8, 54), (21, 8, 56), (54, 0, 55), (56, 0, 57), (20, 9, 58), (21, 9, 60), (58, 0, 59), (60, 0, 61), (20, 10, 62), (21, 10, 64), (62, 0, 63), (64, 0, 65), (67, 0, 68), (71, 0, 72), (73, 0, 74)]
def CT (B : Nat) (μ : JM) : Prop := (∀ e ∈ ckin, jT μ (B + e.1) = e.2) ∧ (∀ e ∈ cptr, jP μ (B + e.1) e.2.1 = some (B + e.2.2)) ∧ B + 121 ≤ jZ μ
theorem cT0 {B : Nat} {μ : JM} (h : CT B μ) : jT μ B = (11, 0) := h.1 (0, 11, 0) (List.mem_of_getElem? (i := 0) rfl)
theorem cT1 {B : Nat} {μ : JM} (h : CT B μ) : jT μ (B + 1) = (10, 0) := h.1 (1, 10, 0) (List.mem_of_getElem? (i := 1) rfl)
theorem cT2 {B : Nat} {μ : JM} (h : CT B μ) : jT μ (B + 2) = (102, 18) := h.1 (2, 102, 18) (List.mem_of_getElem? (i := 2) rfl)
theorem cT3 {B : Nat} {μ : JM} (h : CT B μ) : jT μ (B + 3) = (7, 0) := h.1 (3, 7, 0) (List.mem_of_getElem? (i := 3) rfl)
theorem cT4 {B : Nat} {μ : JM} (h : CT B μ) : jT μ (B + 4) = (100, 900) := h.1 (4, 100, 900) (List.mem_of_getElem? (i := 4) rfl)
theorem cT5 {B : Nat} {μ : JM} (h : CT B μ) : jT μ (B + 5) = (7, 0) := h.1 (5, 7, 0) (List.mem_of_getElem? (i := 5) rfl)
theorem cT6 {B : Nat} {μ : JM} (h : CT B μ) : jT μ (B + 6) = (100, 1800) := h.1 (6, 100, 1800) (List.mem_of_getElem? (i := 6) rfl)
theorem cT7 {B : Nat} {μ : JM} (h : CT B μ) : jT μ (B + 7) = (7, 0) := h.1 (7, 7, 0) (List.mem_of_getElem? (i := 7) rfl)
theorem cT8 {B : Nat} {μ : JM} (h : CT B μ) : jT μ (B + 8) = (100, 900) := h.1 (8, 100, 900) (List.mem_of_getElem? (i := 8) rfl)
theorem cT9 {B : Nat} {μ : JM} (h : CT B μ) : jT μ (B + 9) = (10, 0) := h.1 (9, 10, 0) (List.mem_of_getElem? (i := 9) rfl)
theorem cT10 {B : Nat} {μ : JM} (h : CT B μ) : jT μ (B + 10) = (102, 8) := h.1 (10, 102, 8) (List.mem_of_getElem? (i := 10) rfl)
theorem cT11 {B : Nat} {μ : JM} (h : CT B μ) : jT μ (B + 11) = (10, 0) := h.1 (11, 10, 0) (List.mem_of_getElem? (i := 11) rfl)
theorem cT12 {B : Nat} {μ : JM} (h : CT B μ) : jT μ (B + 12) = (102, 6) := h.1 (12, 102, 6) (List.mem_of_getElem? (i := 12) rfl)
theorem cT13 {B : Nat} {μ : JM} (h : CT B μ) : jT μ (B + 13) = (10, 0) := h.1 (13, 10, 0) (List.mem_of_getElem? (i := 13) rfl)
theorem cT14 {B : Nat} {μ : JM} (h : CT B μ) : jT μ (B + 14) = (102, 12) := h.1 (14, 102, 12) (List.mem_of_getElem? (i := 14) rfl)
theorem cT15 {B : Nat} {μ : JM} (h : CT B μ) : jT μ (B + 15) = (8, 0) := h.1 (15, 8, 0) (List.mem_of_getElem? (i := 15) rfl)
theorem cT16 {B : Nat} {μ : JM} (h : CT B μ) : jT μ (B + 16) = (102, 900) := h.1 (16, 102, 900) (List.mem_of_getElem? (i := 16) rfl)
theorem cT17 {B : Nat} {μ : JM} (h : CT B μ) : jT μ (B + 17) = (101, 901) := h.1 (17, 101, 901) (List.mem_of_getElem? (i := 17) rfl)
theorem cT18 {B : Nat} {μ : JM} (h : CT B μ) : jT μ (B + 18) = (5, 0) := h.1 (18, 5, 0) (List.mem_of_getElem? (i := 18) rfl)
theorem cT19 {B : Nat} {μ : JM} (h : CT B μ) : jT μ (B + 19) = (4, 0) := h.1 (19, 4, 0) (List.mem_of_getElem? (i := 19) rfl)
theorem cT20 {B : Nat} {μ : JM} (h : CT B μ) : jT μ (B + 20) = (104, 11) := h.1 (20, 104, 11) (List.mem_of_getElem? (i := 20) rfl)
theorem cT21 {B : Nat} {μ : JM} (h : CT B μ) : jT μ (B + 21) = (104, 11) := h.1 (21, 104, 11) (List.mem_of_getElem? (i := 21) rfl)
theorem cT66 {B : Nat} {μ : JM} (h : CT B μ) : jT μ (B + 66) = (103, 11) := h.1 (66, 103, 11) (List.mem_of_getElem? (i := 66) rfl)
theorem cT67 {B : Nat} {μ : JM} (h : CT B μ) : jT μ (B + 67) = (2, 0) := h.1 (67, 2, 0) (List.mem_of_getElem? (i := 67) rfl)
theorem cT68 {B : Nat} {μ : JM} (h : CT B μ) : jT μ (B + 68) = (102, 4) := h.1 (68, 102, 4) (List.mem_of_getElem? (i := 68) rfl)
theorem cT69 {B : Nat} {μ : JM} (h : CT B μ) : jT μ (B + 69) = (106, 4) := h.1 (69, 106, 4) (List.mem_of_getElem? (i := 69) rfl)
theorem cT70 {B : Nat} {μ : JM} (h : CT B μ) : jT μ (B + 70) = (107, 256) := h.1 (70, 107, 256) (List.mem_of_getElem? (i := 70) rfl)
theorem cT71 {B : Nat} {μ : JM} (h : CT B μ) : jT μ (B + 71) = (2, 0) := h.1 (71, 2, 0) (List.mem_of_getElem? (i := 71) rfl)
theorem cT72 {B : Nat} {μ : JM} (h : CT B μ) : jT μ (B + 72) = (102, 4) := h.1 (72, 102, 4) (List.mem_of_getElem? (i := 72) rfl)
theorem cT73 {B : Nat} {μ : JM} (h : CT B μ) : jT μ (B + 73) = (1, 0) := h.1 (73, 1, 0) (List.mem_of_getElem? (i := 73) rfl)
theorem cT74 {B : Nat} {μ : JM} (h : CT B μ) : jT μ (B + 74) = (102, 157) := h.1 (74, 102, 157) (List.mem_of_getElem? (i := 74) rfl)
theorem cT75 {B : Nat} {μ : JM} (h : CT B μ) : jT μ (B + 75) = (101, 24) := h.1 (75, 101, 24) (List.mem_of_getElem? (i := 75) rfl)
theorem cP0_0 {B : Nat} {μ : JM} (h : CT B μ) : jP μ B 0 = some (B + 3) := h.2.1 (0, 0, 3) (List.mem_of_getElem? (i := 0) rfl)
theorem cP0_1 {B : Nat} {μ : JM} (h : CT B μ) : jP μ B 1 = some (B + 5) := h.2.1 (0, 1, 5) (List.mem_of_getElem? (i := 1) rfl)
theorem cP0_2 {B : Nat} {μ : JM} (h : CT B μ) : jP μ B 2 = some (B + 7) := h.2.1 (0, 2, 7) (List.mem_of_getElem? (i := 2) rfl)
theorem cP0_3 {B : Nat} {μ : JM} (h : CT B μ) : jP μ B 3 = some (B + 9) := h.2.1 (0, 3, 9) (List.mem_of_getElem? (i := 3) rfl)
theorem cP0_4 {B : Nat} {μ : JM} (h : CT B μ) : jP μ B 4 = some (B + 11) := h.2.1 (0, 4, 11) (List.mem_of_getElem? (i := 4) rfl)
theorem cP0_5 {B : Nat} {μ : JM} (h : CT B μ) : jP μ B 5 = some (B + 13) := h.2.1 (0, 5, 13) (List.mem_of_getElem? (i := 5) rfl)
theorem cP0_6 {B : Nat} {μ : JM} (h : CT B μ) : jP μ B 6 = some (B + 15) := h.2.1 (0, 6, 15) (List.mem_of_getElem? (i := 6) rfl)
theorem cP0_7 {B : Nat} {μ : JM} (h : CT B μ) : jP μ B 7 = some (B + 18) := h.2.1 (0, 7, 18) (List.mem_of_getElem? (i := 7) rfl)
theorem cP0_8 {B : Nat} {μ : JM} (h : CT B μ) : jP μ B 8 = some (B + 69) := h.2.1 (0, 8, 69) (List.mem_of_getElem? (i := 8) rfl)
theorem cP0_9 {B : Nat} {μ : JM} (h : CT B μ) : jP μ B 9 = some (B + 70) := h.2.1 (0, 9, 70) (List.mem_of_getElem? (i := 9) rfl)
theorem cP0_10 {B : Nat} {μ : JM} (h : CT B μ) : jP μ B 10 = some (B + 71) := h.2.1 (0, 10, 71) (List.mem_of_getElem? (i := 10) rfl)
theorem cP0_11 {B : Nat} {μ : JM} (h : CT B μ) : jP μ B 11 = some (B + 73) := h.2.1 (0, 11, 73) (List.mem_of_getElem? (i := 11) rfl)
theorem cP0_12 {B : Nat} {μ : JM} (h : CT B μ) : jP μ B 12 = some (B + 75) := h.2.1 (0, 12, 75) (List.mem_of_getElem? (i := 12) rfl)
theorem cP1_0 {B : Nat} {μ : JM} (h : CT B μ) : jP μ (B + 1) 0 = some (B + 2) := h.2.1 (1, 0, 2) (List.mem_of_getElem? (i := 13) rfl)
theorem cP3_0 {B : Nat} {μ : JM} (h : CT B μ) : jP μ (B + 3) 0 = some (B + 4) := h.2.1 (3, 0, 4) (List.mem_of_getElem? (i := 14) rfl)
theorem cP3_1 {B : Nat} {μ : JM} (h : CT B μ) : jP μ (B + 3) 1 = some (B + 1) := h.2.1 (3, 1, 1) (List.mem_of_getElem? (i := 15) rfl)
theorem cP5_0 {B : Nat} {μ : JM} (h : CT B μ) : jP μ (B + 5) 0 = some (B + 6) := h.2.1 (5, 0, 6) (List.mem_of_getElem? (i := 16) rfl)
theorem cP5_1 {B : Nat} {μ : JM} (h : CT B μ) : jP μ (B + 5) 1 = some (B + 1) := h.2.1 (5, 1, 1) (List.mem_of_getElem? (i := 17) rfl)
theorem cP7_0 {B : Nat} {μ : JM} (h : CT B μ) : jP μ (B + 7) 0 = some (B + 8) := h.2.1 (7, 0, 8) (List.mem_of_getElem? (i := 18) rfl)
theorem cP7_1 {B : Nat} {μ : JM} (h : CT B μ) : jP μ (B + 7) 1 = some (B + 1) := h.2.1 (7, 1, 1) (List.mem_of_getElem? (i := 19) rfl)
theorem cP9_0 {B : Nat} {μ : JM} (h : CT B μ) : jP μ (B + 9) 0 = some (B + 10) := h.2.1 (9, 0, 10) (List.mem_of_getElem? (i := 20) rfl)
theorem cP11_0 {B : Nat} {μ : JM} (h : CT B μ) : jP μ (B + 11) 0 = some (B + 12) := h.2.1 (11, 0, 12) (List.mem_of_getElem? (i := 21) rfl)
theorem cP13_0 {B : Nat} {μ : JM} (h : CT B μ) : jP μ (B + 13) 0 = some (B + 14) := h.2.1 (13, 0, 14) (List.mem_of_getElem? (i := 22) rfl)
theorem cP15_0 {B : Nat} {μ : JM} (h : CT B μ) : jP μ (B + 15) 0 = some (B + 1) := h.2.1 (15, 0, 1) (List.mem_of_getElem? (i := 23) rfl)
theorem cP15_1 {B : Nat} {μ : JM} (h : CT B μ) : jP μ (B + 15) 1 = some (B + 16) := h.2.1 (15, 1, 16) (List.mem_of_getElem? (i := 24) rfl)
theorem cP15_2 {B : Nat} {μ : JM} (h : CT B μ) : jP μ (B + 15) 2 = some (B + 17) := h.2.1 (15, 2, 17) (List.mem_of_getElem? (i := 25) rfl)
theorem cP18_0 {B : Nat} {μ : JM} (h : CT B μ) : jP μ (B + 18) 0 = some (B + 15) := h.2.1 (18, 0, 15) (List.mem_of_getElem? (i := 26) rfl)
theorem cP18_1 {B : Nat} {μ : JM} (h : CT B μ) : jP μ (B + 18) 1 = some (B + 9) := h.2.1 (18, 1, 9) (List.mem_of_getElem? (i := 27) rfl)
theorem cP18_2 {B : Nat} {μ : JM} (h : CT B μ) : jP μ (B + 18) 2 = some (B + 11) := h.2.1 (18, 2, 11) (List.mem_of_getElem? (i := 28) rfl)
theorem cP18_3 {B : Nat} {μ : JM} (h : CT B μ) : jP μ (B + 18) 3 = some (B + 13) := h.2.1 (18, 3, 13) (List.mem_of_getElem? (i := 29) rfl)
theorem cP18_4 {B : Nat} {μ : JM} (h : CT B μ) : jP μ (B + 18) 4 = some (B + 19) := h.2.1 (18, 4, 19) (List.mem_of_getElem? (i := 30) rfl)
theorem cP19_0 {B : Nat} {μ : JM} (h : CT B μ) : jP μ (B + 19) 0 = some (B + 15) := h.2.1 (19, 0, 15) (List.mem_of_getElem? (i := 31) rfl)
theorem cP19_1 {B : Nat} {μ : JM} (h : CT B μ) : jP μ (B + 19) 1 = some (B + 9) := h.2.1 (19, 1, 9) (List.mem_of_getElem? (i := 32) rfl)
theorem cP19_2 {B : Nat} {μ : JM} (h : CT B μ) : jP μ (B + 19) 2 = some (B + 20) := h.2.1 (19, 2, 20) (List.mem_of_getElem? (i := 33) rfl)
theorem cP19_3 {B : Nat} {μ : JM} (h : CT B μ) : jP μ (B + 19) 3 = some (B + 21) := h.2.1 (19, 3, 21) (List.mem_of_getElem? (i := 34) rfl)
theorem cP19_4 {B : Nat} {μ : JM} (h : CT B μ) : jP μ (B + 19) 4 = some (B + 66) := h.2.1 (19, 4, 66) (List.mem_of_getElem? (i := 35) rfl)
theorem cP19_7 {B : Nat} {μ : JM} (h : CT B μ) : jP μ (B + 19) 7 = some (B + 67) := h.2.1 (19, 7, 67) (List.mem_of_getElem? (i := 36) rfl)
theorem cP67_0 {B : Nat} {μ : JM} (h : CT B μ) : jP μ (B + 67) 0 = some (B + 68) := h.2.1 (67, 0, 68) (List.mem_of_getElem? (i := 81) rfl)
theorem cP71_0 {B : Nat} {μ : JM} (h : CT B μ) : jP μ (B + 71) 0 = some (B + 72) := h.2.1 (71, 0, 72) (List.mem_of_getElem? (i := 82) rfl)
theorem cP73_0 {B : Nat} {μ : JM} (h : CT B μ) : jP μ (B + 73) 0 = some (B + 74) := h.2.1 (73, 0, 74) (List.mem_of_getElem? (i := 83) rfl)
theorem ck_p1 : ∀ d, d < 11 → (20, d, 22 + 4 * d) ∈ cptr := by decide
theorem ck_p2 : ∀ d, d < 11 → (21, d, 24 + 4 * d) ∈ cptr := by decide
theorem ck_p3 : ∀ d, d < 11 → (22 + 4 * d, 0, 23 + 4 * d) ∈ cptr := by decide
theorem ck_p4 : ∀ d, d < 11 → (24 + 4 * d, 0, 25 + 4 * d) ∈ cptr := by decide
theorem ck_k1 : ∀ d, d < 11 → (22 + 4 * d, 2, 0) ∈ ckin := by decide
theorem ck_k2 : ∀ d, d < 11 → (23 + 4 * d, 102, 4) ∈ ckin := by decide
theorem ck_k3 : ∀ d, d < 11 → (24 + 4 * d, 2, 0) ∈ ckin := by decide
theorem ck_k4 : ∀ d, d < 11 → (25 + 4 * d, 102, 4) ∈ ckin := by decide
/-- the same memory, but: cells from z on, and ints and longs of the cells as -/
def cs (B z : Nat) (as : List Nat) (μ ν : JM) : Prop := jZ μ ≤ jZ ν ∧ (∀ a, a < jZ μ → jT ν a = jT μ a) ∧ (∀ a, a < z → jP ν a = jP μ a) ∧ ∀ a, a < z → (∀ i ∈ as, a ≠ B + i) → jI ν a = jI μ a ∧ jJ ν a = jJ μ a
theorem cs.rf {B z : Nat} {as : List Nat} {μ : JM} : cs B z as μ μ := ⟨Nat.le_refl _, fun _ _ => rfl, fun _ _ => rfl, fun _ _ _ => ⟨rfl, rfl⟩⟩
theorem cs.tr {B z : Nat} {as : List Nat} {μ ν ρ : JM} (h : cs B z as μ ν) (g : cs B z as ν ρ) : cs B z as μ ρ := ⟨Nat.le_trans h.1 g.1, fun a ha => (g.2.1 a (Nat.lt_of_lt_of_le ha h.1)).trans (h.2.1 a ha), fun a h1 => (g.2.2.1 a h1).trans (h.2.2.1 a h1), fun a h1 h2 => ⟨(g.2.2.2 a h1 h2).1.trans (h.2.2.2 a h1 h2).1, (g.2.2.2 a h1 h2).2.trans (h.2.2.2 a h1 h2).2⟩⟩
theorem cs.wk {B z : Nat} {as bs : List Nat} {μ ν : JM} (h : cs B z as μ ν) (hw : ∀ i ∈ as, i ∈ bs) : cs B z bs μ ν := ⟨h.1, h.2.1, h.2.2.1, fun a h1 h2 => h.2.2.2 a h1 (fun i hi => h2 i (hw i hi))⟩
theorem cs.lo {B z y : Nat} {as : List Nat} {μ ν : JM} (h : cs B z as μ ν) (hy : y ≤ z) : cs B y as μ ν := ⟨h.1, h.2.1, fun a h1 => h.2.2.1 a (by omega), fun a h1 h2 => h.2.2.2 a (by omega) h2⟩
theorem cs.ct {B z : Nat} {as : List Nat} {μ ν : JM} (h : cs B z as μ ν) (hC : CT B μ) (hz : B + 121 ≤ z) : CT B ν := by
  refine ⟨fun e he => ?_, fun e he => ?_, Nat.le_trans hC.2.2 h.1⟩
  · have : ∀ e ∈ ckin, e.1 < 121 := by decide
    rw [h.2.1 _ (by have := this e he; have := hC.2.2; omega)]; exact hC.1 e he
  · have : ∀ e ∈ cptr, e.1 < 121 := by decide
    have := this e he
    rw [h.2.2.1 _ (by omega)]; exact hC.2.1 e he
theorem cs.iI {B z : Nat} {as : List Nat} {μ ν : JM} (h : cs B z as μ ν) {i : Nat} (hz : B + i < z) (hi : i ∉ as) : jI ν (B + i) = jI μ (B + i) := (h.2.2.2 (B + i) hz (fun j hj e => hi (by rw [show i = j by omega]; exact hj))).1
theorem cs.iJ {B z : Nat} {as : List Nat} {μ ν : JM} (h : cs B z as μ ν) {i : Nat} (hz : B + i < z) (hi : i ∉ as) : jJ ν (B + i) = jJ μ (B + i) := (h.2.2.2 (B + i) hz (fun j hj e => hi (by rw [show i = j by omega]; exact hj))).2
theorem cs.b0 {B z : Nat} {as : List Nat} {μ ν : JM} (h : cs B z as μ ν) (hz : B < z) (hi : 0 ∉ as) : jI ν B = jI μ B := h.iI (i := 0) hz hi
theorem cs.iP {B z : Nat} {as : List Nat} {μ ν : JM} (h : cs B z as μ ν) {i : Nat} (hz : B + i < z) : jP ν (B + i) = jP μ (B + i) := h.2.2.1 (B + i) hz
theorem cs.sI {B z : Nat} {as : List Nat} {μ : JM} {i k : Nat} {v : Int32} (h : i ∈ as) : cs B z as μ (jsI μ (B + i) k v) := ⟨Nat.le_refl _, fun _ _ => rfl, fun _ _ => rfl, fun a _ h2 => ⟨jI_sI_ne (h2 i h), rfl⟩⟩
theorem cs.sJ {B z : Nat} {as : List Nat} {μ : JM} {i k : Nat} {v : Int64} (h : i ∈ as) : cs B z as μ (jsJ μ (B + i) k v) := ⟨Nat.le_refl _, fun _ _ => rfl, fun _ _ => rfl, fun a _ h2 => ⟨rfl, jJ_sJ_ne (h2 i h)⟩⟩
theorem cs.zI {B z : Nat} {as : List Nat} {μ : JM} {a k : Nat} {v : Int32} (h : z ≤ a) : cs B z as μ (jsI μ a k v) := ⟨Nat.le_refl _, fun _ _ => rfl, fun _ _ => rfl, fun b hb _ => ⟨jI_sI_ne (by omega), rfl⟩⟩
theorem cs.zJ {B z : Nat} {as : List Nat} {μ : JM} {a k : Nat} {v : Int64} (h : z ≤ a) : cs B z as μ (jsJ μ a k v) := ⟨Nat.le_refl _, fun _ _ => rfl, fun _ _ => rfl, fun b hb _ => ⟨rfl, jJ_sJ_ne (by omega)⟩⟩
theorem cs.zP {B z : Nat} {as : List Nat} {μ : JM} {a k : Nat} {v : Option Nat} (h : z ≤ a) : cs B z as μ (jsP μ a k v) := ⟨Nat.le_refl _, fun _ _ => rfl, fun b hb => jP_sP_ne (by omega), fun b _ _ => ⟨rfl, rfl⟩⟩
/-- as cs, but for the reader's list -/
def cr (B z : Nat) (as : List Nat) (μ ν : JM) : Prop := jZ μ ≤ jZ ν ∧ (∀ a, a < jZ μ → jT ν a = jT μ a) ∧ (∀ a k, a < z → ¬ (a = B + 18 ∧ k = 6) → jP ν a k = jP μ a k) ∧ ∀ a, a < z → (∀ i ∈ as, a ≠ B + i) → jI ν a = jI μ a ∧ jJ ν a = jJ μ a
theorem cs.tocr {B z : Nat} {as : List Nat} {μ ν : JM} (h : cs B z as μ ν) : cr B z as μ ν := ⟨h.1, h.2.1, fun a k ha _ => by rw [h.2.2.1 a ha], h.2.2.2⟩
theorem jT_nw {μ : JM} {t n a : Nat} : jT (jnew μ t n) a = if a = jZ μ then (t, n) else jT μ a := by simp only [jT, jnew, va_up, jZ]; rfl
theorem jI_nw {μ : JM} {t n a : Nat} : jI (jnew μ t n) a = if a = jZ μ then (fun _ => 0) else jI μ a := by simp only [jI, jnew, va_up, jZ]; rfl
theorem jJ_nw {μ : JM} {t n a : Nat} : jJ (jnew μ t n) a = if a = jZ μ then (fun _ => 0) else jJ μ a := by simp only [jJ, jnew, va_up, jZ]; rfl
theorem jP_nw {μ : JM} {t n a : Nat} : jP (jnew μ t n) a = if a = jZ μ then (fun _ => none) else jP μ a := by simp only [jP, jnew, va_up, jZ]; rfl
theorem jZ_nw {μ : JM} {t n : Nat} : jZ (jnew μ t n) = jZ μ + 1 := rfl
theorem cs.nw {B z : Nat} {as : List Nat} {μ : JM} {t n : Nat} (h : z ≤ jZ μ) : cs B z as μ (jnew μ t n) := ⟨by rw [jZ_nw]; omega, fun a ha => by rw [jT_nw, if_neg (by omega)], fun a ha => by rw [jP_nw, if_neg (by omega)], fun a ha _ => ⟨by rw [jI_nw, if_neg (by omega)], by rw [jJ_nw, if_neg (by omega)]⟩⟩
theorem Rb.nw {β : Type} {μ : JM} {t n C N : Nat} {f : Nat → JM → JO β} {Q : β → JM → Prop} (hC : 1 ≤ C) (hN : n ≤ N) (h : Rb (f (jZ μ) (jnew μ t n)) (C - 1) (N - n) Q) : Rb (jnw μ t n f) C N Q := by
  obtain ⟨r, ν, c, m, e, h1, h2, q⟩ := h
  exact ⟨r, ν, 1 + c, n + m, by unfold jnw; simp only [jcl, e], by omega, by omega, q⟩
theorem Rb.nwo {β : Type} {μ : JM} {t n C N : Nat} {f : Nat → JM → JO β} {Q : β → JM → Prop} (hC : 1 ≤ C) (hN : n ≤ N) (h : Rb (f (jZ μ) (jnew μ t 0)) (C - 1) (N - n) Q) : Rb (jnwo μ t n f) C N Q := by
  obtain ⟨r, ν, c, m, e, h1, h2, q⟩ := h
  exact ⟨r, ν, 1 + c, n + m, by unfold jnwo; simp only [jcl, e], by omega, by omega, q⟩
/-! Cases: four longs -/
def CAS (μ : JM) (a q : Nat) : Prop := (jT μ a).1 = 2 ∧ jP μ a 0 = some q ∧ jT μ q = (102, 4)
def s4 (μ : JM) (q : Nat) (v : CS) : JM := jsJ (jsJ (jsJ (jsJ μ q 0 (v 0)) q 1 (v 1)) q 2 (v 2)) q 3 (v 3)
theorem jT_s4 {μ : JM} {q : Nat} {v : CS} : jT (s4 μ q v) = jT μ := rfl
theorem jP_s4 {μ : JM} {q : Nat} {v : CS} : jP (s4 μ q v) = jP μ := rfl
theorem jI_s4 {μ : JM} {q : Nat} {v : CS} : jI (s4 μ q v) = jI μ := rfl
theorem jZ_s4 {μ : JM} {q : Nat} {v : CS} : jZ (s4 μ q v) = jZ μ := rfl
theorem jJ_s4_ne {μ : JM} {q x : Nat} {v : CS} (h : x ≠ q) : jJ (s4 μ q v) x = jJ μ x := by unfold s4; rw [jJ_sJ_ne h, jJ_sJ_ne h, jJ_sJ_ne h, jJ_sJ_ne h]
theorem i4 {i : Nat} (h : i < 4) : i = 0 ∨ i = 1 ∨ i = 2 ∨ i = 3 := by omega
theorem jJ_s4 {μ : JM} {q i : Nat} {v : CS} (h : i < 4) : jJ (s4 μ q v) q i = v i := by
  unfold s4
  rw [jJ_sJ, jJ_sJ, jJ_sJ, jJ_sJ]
  rcases i4 h with rfl | rfl | rfl | rfl <;> simp
theorem s4_cg {μ : JM} {q : Nat} {v w : CS} (h : ∀ i, i < 4 → v i = w i) : s4 μ q v = s4 μ q w := by unfold s4; rw [h 0 (by omega), h 1 (by omega), h 2 (by omega), h 3 (by omega)]
theorem cs.q4 {B z : Nat} {as : List Nat} {μ : JM} {i : Nat} {v : CS} (h : i ∈ as) : cs B z as μ (s4 μ (B + i) v) := (((cs.sJ h).tr (cs.sJ h)).tr (cs.sJ h)).tr (cs.sJ h)
theorem cs.z4 {B z : Nat} {as : List Nat} {μ : JM} {a : Nat} {v : CS} (h : z ≤ a) : cs B z as μ (s4 μ a v) := (((cs.zJ h).tr (cs.zJ h)).tr (cs.zJ h)).tr (cs.zJ h)
theorem c40 : (nI 0).toNatClampNeg = 0 := by decide
theorem c41 : (nI 1).toNatClampNeg = 1 := by decide
theorem c42 : (nI 2).toNatClampNeg = 2 := by decide
theorem c43 : (nI 3).toNatClampNeg = 3 := by decide
theorem jfu5 : ∃ f, jfuel = f + 1 + 1 + 1 + 1 + 1 := ⟨999995, rfl⟩
theorem z_nI : (0 : Int32) = nI 0 := rfl
theorem c_clear {μ : JM} {a q : Nat} (h : CAS μ a q) : fX1_clear a μ = some ((), s4 μ q (fun _ => 0), 0, 0) := by
  unfold fX1_clear
  obtain ⟨f, hf⟩ := jfu5
  rw [hf, z_nI]
  simp only [fX1_clear_b2, jck_true, jde_is, jlt_is, jcl_0, beq_self_eq_true, jT_sI, jT_sJ, jP_sI, jP_sJ, jJ_sI, jI_sJ, jZ_sI, jZ_sJ, jT_sJ, jP_sJ, h.1, h.2.1, h.2.2, show ¬ (4 : Int32) ≤ nI 0 from by decide, show ¬ (4 : Int32) ≤ nI 1 from by decide, show ¬ (4 : Int32) ≤ nI 2 from by decide, show ¬ (4 : Int32) ≤ nI 3 from by decide, show (4 : Int32) ≤ nI 4 from by decide, show jin (nI 0) 4 = true from by decide, show jin (nI 1) 4 = true from by decide, show jin (nI 2) 4 = true from by decide, show jin (nI 3) 4 = true from by decide, if_true, if_false, c40, c41, c42, c43, nI_1, Nat.reduceAdd]
  rfl
theorem c_fill {μ : JM} {a q : Nat} (h : CAS μ a q) : fX1_fill a μ = some ((), s4 μ q (fun _ => -1), 0, 0) := by
  unfold fX1_fill
  obtain ⟨f, hf⟩ := jfu5
  rw [hf, z_nI]
  simp only [fX1_fill_b2, jck_true, jde_is, jlt_is, jcl_0, beq_self_eq_true, jT_sI, jT_sJ, jP_sI, jP_sJ, jJ_sI, jI_sJ, jZ_sI, jZ_sJ, jT_sJ, jP_sJ, h.1, h.2.1, h.2.2, show ¬ (4 : Int32) ≤ nI 0 from by decide, show ¬ (4 : Int32) ≤ nI 1 from by decide, show ¬ (4 : Int32) ≤ nI 2 from by decide, show ¬ (4 : Int32) ≤ nI 3 from by decide, show (4 : Int32) ≤ nI 4 from by decide, show jin (nI 0) 4 = true from by decide, show jin (nI 1) 4 = true from by decide, show jin (nI 2) 4 = true from by decide, show jin (nI 3) 4 = true from by decide, if_true, if_false, c40, c41, c42, c43, nI_1, Nat.reduceAdd]
  rfl
theorem c_flip {μ : JM} {a q : Nat} (h : CAS μ a q) : fX1_flip a μ = some ((), s4 μ q (fun i => jJ μ q i ^^^ (-1)), 0, 0) := by
  unfold fX1_flip
  obtain ⟨f, hf⟩ := jfu5
  rw [hf, z_nI]
  simp only [fX1_flip_b2, jck_true, jde_is, jlt_is, jcl_0, beq_self_eq_true, jT_sI, jT_sJ, jP_sI, jP_sJ, jJ_sI, jI_sJ, jZ_sI, jZ_sJ, jT_sJ, jP_sJ, h.1, h.2.1, h.2.2, show ¬ (4 : Int32) ≤ nI 0 from by decide, show ¬ (4 : Int32) ≤ nI 1 from by decide, show ¬ (4 : Int32) ≤ nI 2 from by decide, show ¬ (4 : Int32) ≤ nI 3 from by decide, show (4 : Int32) ≤ nI 4 from by decide, show jin (nI 0) 4 = true from by decide, show jin (nI 1) 4 = true from by decide, show jin (nI 2) 4 = true from by decide, show jin (nI 3) 4 = true from by decide, if_true, if_false, c40, c41, c42, c43, nI_1, Nat.reduceAdd]
  unfold s4
  simp only [jJ_sJ]
  simp
theorem c_copy {μ : JM} {a q b p : Nat} (h : CAS μ a q) (g : CAS μ b p) : fX1_copy a (some b) μ = some ((), s4 μ q (fun i => jJ μ p i), 0, 0) := by
  unfold fX1_copy
  obtain ⟨f, hf⟩ := jfu5
  rw [hf, z_nI]
  simp only [fX1_copy_b2, jck_true, jde_is, jlt_is, jcl_0, beq_self_eq_true, jT_sI, jT_sJ, jP_sI, jP_sJ, jJ_sI, jI_sJ, jZ_sI, jZ_sJ, jT_sJ, jP_sJ, h.1, h.2.1, h.2.2, g.1, g.2.1, g.2.2, show ¬ (4 : Int32) ≤ nI 0 from by decide, show ¬ (4 : Int32) ≤ nI 1 from by decide, show ¬ (4 : Int32) ≤ nI 2 from by decide, show ¬ (4 : Int32) ≤ nI 3 from by decide, show (4 : Int32) ≤ nI 4 from by decide, show jin (nI 0) 4 = true from by decide, show jin (nI 1) 4 = true from by decide, show jin (nI 2) 4 = true from by decide, show jin (nI 3) 4 = true from by decide, if_true, if_false, c40, c41, c42, c43, nI_1, Nat.reduceAdd]
  unfold s4
  simp only [jJ_sJ]
  simp
theorem c_and {μ : JM} {a q b p : Nat} (h : CAS μ a q) (g : CAS μ b p) : fX1_and a (some b) μ = some ((), s4 μ q (fun i => jJ μ q i &&& jJ μ p i), 0, 0) := by
  unfold fX1_and
  obtain ⟨f, hf⟩ := jfu5
  rw [hf, z_nI]
  simp only [fX1_and_b2, jck_true, jde_is, jlt_is, jcl_0, beq_self_eq_true, jT_sI, jT_sJ, jP_sI, jP_sJ, jJ_sI, jI_sJ, jZ_sI, jZ_sJ, jT_sJ, jP_sJ, h.1, h.2.1, h.2.2, g.1, g.2.1, g.2.2, show ¬ (4 : Int32) ≤ nI 0 from by decide, show ¬ (4 : Int32) ≤ nI 1 from by decide, show ¬ (4 : Int32) ≤ nI 2 from by decide, show ¬ (4 : Int32) ≤ nI 3 from by decide, show (4 : Int32) ≤ nI 4 from by decide, show jin (nI 0) 4 = true from by decide, show jin (nI 1) 4 = true from by decide, show jin (nI 2) 4 = true from by decide, show jin (nI 3) 4 = true from by decide, if_true, if_false, c40, c41, c42, c43, nI_1, Nat.reduceAdd]
  unfold s4
  simp only [jJ_sJ]
  simp
theorem c_andNot {μ : JM} {a q b p : Nat} (h : CAS μ a q) (g : CAS μ b p) : fX1_andNot a (some b) μ = some ((), s4 μ q (fun i => jJ μ q i &&& (jJ μ p i ^^^ (-1))), 0, 0) := by
  unfold fX1_andNot
  obtain ⟨f, hf⟩ := jfu5
  rw [hf, z_nI]
  simp only [fX1_andNot_b2, jck_true, jde_is, jlt_is, jcl_0, beq_self_eq_true, jT_sI, jT_sJ, jP_sI, jP_sJ, jJ_sI, jI_sJ, jZ_sI, jZ_sJ, jT_sJ, jP_sJ, h.1, h.2.1, h.2.2, g.1, g.2.1, g.2.2, show ¬ (4 : Int32) ≤ nI 0 from by decide, show ¬ (4 : Int32) ≤ nI 1 from by decide, show ¬ (4 : Int32) ≤ nI 2 from by decide, show ¬ (4 : Int32) ≤ nI 3 from by decide, show (4 : Int32) ≤ nI 4 from by decide, show jin (nI 0) 4 = true from by decide, show jin (nI 1) 4 = true from by decide, show jin (nI 2) 4 = true from by decide, show jin (nI 3) 4 = true from by decide, if_true, if_false, c40, c41, c42, c43, nI_1, Nat.reduceAdd]
  unfold s4
  simp only [jJ_sJ]
  simp
theorem c_or {μ : JM} {a q b p : Nat} (h : CAS μ a q) (g : CAS μ b p) : fX1_or a (some b) μ = some ((), s4 μ q (fun i => jJ μ q i ||| jJ μ p i), 0, 0) := by
  unfold fX1_or
  obtain ⟨f, hf⟩ := jfu5
  rw [hf, z_nI]
  simp only [fX1_or_b2, jck_true, jde_is, jlt_is, jcl_0, beq_self_eq_true, jT_sI, jT_sJ, jP_sI, jP_sJ, jJ_sI, jI_sJ, jZ_sI, jZ_sJ, jT_sJ, jP_sJ, h.1, h.2.1, h.2.2, g.1, g.2.1, g.2.2, show ¬ (4 : Int32) ≤ nI 0 from by decide, show ¬ (4 : Int32) ≤ nI 1 from by decide, show ¬ (4 : Int32) ≤ nI 2 from by decide, show ¬ (4 : Int32) ≤ nI 3 from by decide, show (4 : Int32) ≤ nI 4 from by decide, show jin (nI 0) 4 = true from by decide, show jin (nI 1) 4 = true from by decide, show jin (nI 2) 4 = true from by decide, show jin (nI 3) 4 = true from by decide, if_true, if_false, c40, c41, c42, c43, nI_1, Nat.reduceAdd]
  unfold s4
  simp only [jJ_sJ]
  simp
theorem c_xor {μ : JM} {a q b p : Nat} (h : CAS μ a q) (g : CAS μ b p) : fX1_xor a (some b) μ = some ((), s4 μ q (fun i => jJ μ q i ^^^ jJ μ p i), 0, 0) := by
  unfold fX1_xor
  obtain ⟨f, hf⟩ := jfu5
  rw [hf, z_nI]
  simp only [fX1_xor_b2, jck_true, jde_is, jlt_is, jcl_0, beq_self_eq_true, jT_sI, jT_sJ, jP_sI, jP_sJ, jJ_sI, jI_sJ, jZ_sI, jZ_sJ, jT_sJ, jP_sJ, h.1, h.2.1, h.2.2, g.1, g.2.1, g.2.2, show ¬ (4 : Int32) ≤ nI 0 from by decide, show ¬ (4 : Int32) ≤ nI 1 from by decide, show ¬ (4 : Int32) ≤ nI 2 from by decide, show ¬ (4 : Int32) ≤ nI 3 from by decide, show (4 : Int32) ≤ nI 4 from by decide, show jin (nI 0) 4 = true from by decide, show jin (nI 1) 4 = true from by decide, show jin (nI 2) 4 = true from by decide, show jin (nI 3) 4 = true from by decide, if_true, if_false, c40, c41, c42, c43, nI_1, Nat.reduceAdd]
  unfold s4
  simp only [jJ_sJ]
  simp
