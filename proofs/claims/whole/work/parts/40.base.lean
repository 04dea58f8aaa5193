/-! PURE LAYER: rows for the functions, the reference's cells -/
theorem jlt_is {α β : Type} {x : α} {f : α → β} : jlt x f = f x := rfl
def mtab : List (Nat × Nat × Nat × Nat) := [(0, 1, 100, 900), (3, 2, 100, 108), (4, 3, 101, 9), (6, 4, 100, 84), (7, 5, 101, 7), (9, 6, 100, 156), (10, 7, 101, 13), (11, 8, 100, 2400), (19, 9, 100, 4000), (22, 10, 102, 4), (23, 11, 102, 4), (24, 12, 102, 32), (25, 13, 102, 48), (26, 14, 102, 48), (27, 15, 101, 12), (28, 16, 102, 4), (30, 17, 100, 300), (31, 18, 101, 25), (32, 19, 102, 100), (34, 20, 101, 5), (35, 21, 101, 120), (36, 22, 101, 120), (37, 23, 101, 120), (38, 24, 101, 120), (39, 25, 101, 120), (40, 26, 101, 120), (41, 27, 101, 120), (42, 28, 100, 1440), (43, 29, 101, 120), (44, 30, 102, 480), (45, 31, 100, 300000), (46, 32, 101, 600), (47, 33, 101, 600), (50, 34, 101, 4), (52, 35, 101, 40), (53, 36, 101, 40), (54, 37, 100, 8000), (59, 38, 101, 600), (60, 39, 101, 600), (61, 40, 101, 600), (62, 41, 100, 2400), (64, 42, 101, 24), (66, 43, 101, 24), (69, 44, 103, 10000)]
def MT (M : Nat) (μ : JM) : Prop := (jT μ M).1 = 12 ∧ ∀ e ∈ mtab, jP μ M e.1 = some (M + e.2.1) ∧ jT μ (M + e.2.1) = (e.2.2.1, e.2.2.2)
theorem mP_tape {M : Nat} {μ : JM} (h : MT M μ) : jP μ M 0 = some (M + 1) := (h.2 (0, 1, 100, 900) (List.mem_of_getElem? (i := 0) rfl)).1
theorem mT_tape {M : Nat} {μ : JM} (h : MT M μ) : jT μ (M + 1) = (100, 900) := (h.2 (0, 1, 100, 900) (List.mem_of_getElem? (i := 0) rfl)).2
theorem mP_factName {M : Nat} {μ : JM} (h : MT M μ) : jP μ M 3 = some (M + 2) := (h.2 (3, 2, 100, 108) (List.mem_of_getElem? (i := 1) rfl)).1
theorem mT_factName {M : Nat} {μ : JM} (h : MT M μ) : jT μ (M + 2) = (100, 108) := (h.2 (3, 2, 100, 108) (List.mem_of_getElem? (i := 1) rfl)).2
theorem mP_factSize {M : Nat} {μ : JM} (h : MT M μ) : jP μ M 4 = some (M + 3) := (h.2 (4, 3, 101, 9) (List.mem_of_getElem? (i := 2) rfl)).1
theorem mT_factSize {M : Nat} {μ : JM} (h : MT M μ) : jT μ (M + 3) = (101, 9) := (h.2 (4, 3, 101, 9) (List.mem_of_getElem? (i := 2) rfl)).2
theorem mP_partyName {M : Nat} {μ : JM} (h : MT M μ) : jP μ M 6 = some (M + 4) := (h.2 (6, 4, 100, 84) (List.mem_of_getElem? (i := 3) rfl)).1
theorem mT_partyName {M : Nat} {μ : JM} (h : MT M μ) : jT μ (M + 4) = (100, 84) := (h.2 (6, 4, 100, 84) (List.mem_of_getElem? (i := 3) rfl)).2
theorem mP_partySize {M : Nat} {μ : JM} (h : MT M μ) : jP μ M 7 = some (M + 5) := (h.2 (7, 5, 101, 7) (List.mem_of_getElem? (i := 4) rfl)).1
theorem mT_partySize {M : Nat} {μ : JM} (h : MT M μ) : jT μ (M + 5) = (101, 7) := (h.2 (7, 5, 101, 7) (List.mem_of_getElem? (i := 4) rfl)).2
theorem mP_actName {M : Nat} {μ : JM} (h : MT M μ) : jP μ M 9 = some (M + 6) := (h.2 (9, 6, 100, 156) (List.mem_of_getElem? (i := 5) rfl)).1
theorem mT_actName {M : Nat} {μ : JM} (h : MT M μ) : jT μ (M + 6) = (100, 156) := (h.2 (9, 6, 100, 156) (List.mem_of_getElem? (i := 5) rfl)).2
theorem mP_actSize {M : Nat} {μ : JM} (h : MT M μ) : jP μ M 10 = some (M + 7) := (h.2 (10, 7, 101, 13) (List.mem_of_getElem? (i := 6) rfl)).1
theorem mT_actSize {M : Nat} {μ : JM} (h : MT M μ) : jT μ (M + 7) = (101, 13) := (h.2 (10, 7, 101, 13) (List.mem_of_getElem? (i := 6) rfl)).2
theorem mP_text {M : Nat} {μ : JM} (h : MT M μ) : jP μ M 11 = some (M + 8) := (h.2 (11, 8, 100, 2400) (List.mem_of_getElem? (i := 7) rfl)).1
theorem mT_text {M : Nat} {μ : JM} (h : MT M μ) : jT μ (M + 8) = (100, 2400) := (h.2 (11, 8, 100, 2400) (List.mem_of_getElem? (i := 7) rfl)).2
theorem mP_canon {M : Nat} {μ : JM} (h : MT M μ) : jP μ M 19 = some (M + 9) := (h.2 (19, 9, 100, 4000) (List.mem_of_getElem? (i := 8) rfl)).1
theorem mT_canon {M : Nat} {μ : JM} (h : MT M μ) : jT μ (M + 9) = (100, 4000) := (h.2 (19, 9, 100, 4000) (List.mem_of_getElem? (i := 8) rfl)).2
theorem mP_all {M : Nat} {μ : JM} (h : MT M μ) : jP μ M 22 = some (M + 10) := (h.2 (22, 10, 102, 4) (List.mem_of_getElem? (i := 9) rfl)).1
theorem mT_all {M : Nat} {μ : JM} (h : MT M μ) : jT μ (M + 10) = (102, 4) := (h.2 (22, 10, 102, 4) (List.mem_of_getElem? (i := 9) rfl)).2
theorem mP_world {M : Nat} {μ : JM} (h : MT M μ) : jP μ M 23 = some (M + 11) := (h.2 (23, 11, 102, 4) (List.mem_of_getElem? (i := 10) rfl)).1
theorem mT_world {M : Nat} {μ : JM} (h : MT M μ) : jT μ (M + 11) = (102, 4) := (h.2 (23, 11, 102, 4) (List.mem_of_getElem? (i := 10) rfl)).2
theorem mP_factSet {M : Nat} {μ : JM} (h : MT M μ) : jP μ M 24 = some (M + 12) := (h.2 (24, 12, 102, 32) (List.mem_of_getElem? (i := 11) rfl)).1
theorem mT_factSet {M : Nat} {μ : JM} (h : MT M μ) : jT μ (M + 12) = (102, 32) := (h.2 (24, 12, 102, 32) (List.mem_of_getElem? (i := 11) rfl)).2
theorem mP_orSet {M : Nat} {μ : JM} (h : MT M μ) : jP μ M 25 = some (M + 13) := (h.2 (25, 13, 102, 48) (List.mem_of_getElem? (i := 12) rfl)).1
theorem mT_orSet {M : Nat} {μ : JM} (h : MT M μ) : jT μ (M + 13) = (102, 48) := (h.2 (25, 13, 102, 48) (List.mem_of_getElem? (i := 12) rfl)).2
theorem mP_andSet {M : Nat} {μ : JM} (h : MT M μ) : jP μ M 26 = some (M + 14) := (h.2 (26, 14, 102, 48) (List.mem_of_getElem? (i := 13) rfl)).1
theorem mT_andSet {M : Nat} {μ : JM} (h : MT M μ) : jT μ (M + 14) = (102, 48) := (h.2 (26, 14, 102, 48) (List.mem_of_getElem? (i := 13) rfl)).2
theorem mP_nots {M : Nat} {μ : JM} (h : MT M μ) : jP μ M 27 = some (M + 15) := (h.2 (27, 15, 101, 12) (List.mem_of_getElem? (i := 14) rfl)).1
theorem mT_nots {M : Nat} {μ : JM} (h : MT M μ) : jT μ (M + 15) = (101, 12) := (h.2 (27, 15, 101, 12) (List.mem_of_getElem? (i := 14) rfl)).2
theorem mP_now {M : Nat} {μ : JM} (h : MT M μ) : jP μ M 28 = some (M + 16) := (h.2 (28, 16, 102, 4) (List.mem_of_getElem? (i := 15) rfl)).1
theorem mT_now {M : Nat} {μ : JM} (h : MT M μ) : jT μ (M + 16) = (102, 4) := (h.2 (28, 16, 102, 4) (List.mem_of_getElem? (i := 15) rfl)).2
theorem mP_nameName {M : Nat} {μ : JM} (h : MT M μ) : jP μ M 30 = some (M + 17) := (h.2 (30, 17, 100, 300) (List.mem_of_getElem? (i := 16) rfl)).1
theorem mT_nameName {M : Nat} {μ : JM} (h : MT M μ) : jT μ (M + 17) = (100, 300) := (h.2 (30, 17, 100, 300) (List.mem_of_getElem? (i := 16) rfl)).2
theorem mP_nameSize {M : Nat} {μ : JM} (h : MT M μ) : jP μ M 31 = some (M + 18) := (h.2 (31, 18, 101, 25) (List.mem_of_getElem? (i := 17) rfl)).1
theorem mT_nameSize {M : Nat} {μ : JM} (h : MT M μ) : jT μ (M + 18) = (101, 25) := (h.2 (31, 18, 101, 25) (List.mem_of_getElem? (i := 17) rfl)).2
theorem mP_nameSet {M : Nat} {μ : JM} (h : MT M μ) : jP μ M 32 = some (M + 19) := (h.2 (32, 19, 102, 100) (List.mem_of_getElem? (i := 18) rfl)).1
theorem mT_nameSet {M : Nat} {μ : JM} (h : MT M μ) : jT μ (M + 19) = (102, 100) := (h.2 (32, 19, 102, 100) (List.mem_of_getElem? (i := 18) rfl)).2
theorem mP_clauses {M : Nat} {μ : JM} (h : MT M μ) : jP μ M 34 = some (M + 20) := (h.2 (34, 20, 101, 5) (List.mem_of_getElem? (i := 19) rfl)).1
theorem mT_clauses {M : Nat} {μ : JM} (h : MT M μ) : jT μ (M + 20) = (101, 5) := (h.2 (34, 20, 101, 5) (List.mem_of_getElem? (i := 19) rfl)).2
theorem mP_kind {M : Nat} {μ : JM} (h : MT M μ) : jP μ M 35 = some (M + 21) := (h.2 (35, 21, 101, 120) (List.mem_of_getElem? (i := 20) rfl)).1
theorem mT_kind {M : Nat} {μ : JM} (h : MT M μ) : jT μ (M + 21) = (101, 120) := (h.2 (35, 21, 101, 120) (List.mem_of_getElem? (i := 20) rfl)).2
theorem mP_party {M : Nat} {μ : JM} (h : MT M μ) : jP μ M 36 = some (M + 22) := (h.2 (36, 22, 101, 120) (List.mem_of_getElem? (i := 21) rfl)).1
theorem mT_party {M : Nat} {μ : JM} (h : MT M μ) : jT μ (M + 22) = (101, 120) := (h.2 (36, 22, 101, 120) (List.mem_of_getElem? (i := 21) rfl)).2
theorem mP_act {M : Nat} {μ : JM} (h : MT M μ) : jP μ M 37 = some (M + 23) := (h.2 (37, 23, 101, 120) (List.mem_of_getElem? (i := 22) rfl)).1
theorem mT_act {M : Nat} {μ : JM} (h : MT M μ) : jT μ (M + 23) = (101, 120) := (h.2 (37, 23, 101, 120) (List.mem_of_getElem? (i := 22) rfl)).2
theorem mP_number {M : Nat} {μ : JM} (h : MT M μ) : jP μ M 38 = some (M + 24) := (h.2 (38, 24, 101, 120) (List.mem_of_getElem? (i := 23) rfl)).1
theorem mT_number {M : Nat} {μ : JM} (h : MT M μ) : jT μ (M + 24) = (101, 120) := (h.2 (38, 24, 101, 120) (List.mem_of_getElem? (i := 23) rfl)).2
theorem mP_byWork {M : Nat} {μ : JM} (h : MT M μ) : jP μ M 39 = some (M + 25) := (h.2 (39, 25, 101, 120) (List.mem_of_getElem? (i := 24) rfl)).1
theorem mT_byWork {M : Nat} {μ : JM} (h : MT M μ) : jT μ (M + 25) = (101, 120) := (h.2 (39, 25, 101, 120) (List.mem_of_getElem? (i := 24) rfl)).2
theorem mP_overMany {M : Nat} {μ : JM} (h : MT M μ) : jP μ M 40 = some (M + 26) := (h.2 (40, 26, 101, 120) (List.mem_of_getElem? (i := 25) rfl)).1
theorem mT_overMany {M : Nat} {μ : JM} (h : MT M μ) : jT μ (M + 26) = (101, 120) := (h.2 (40, 26, 101, 120) (List.mem_of_getElem? (i := 25) rfl)).2
theorem mP_overBits {M : Nat} {μ : JM} (h : MT M μ) : jP μ M 41 = some (M + 27) := (h.2 (41, 27, 101, 120) (List.mem_of_getElem? (i := 26) rfl)).1
theorem mT_overBits {M : Nat} {μ : JM} (h : MT M μ) : jT μ (M + 27) = (101, 120) := (h.2 (41, 27, 101, 120) (List.mem_of_getElem? (i := 26) rfl)).2
theorem mP_label {M : Nat} {μ : JM} (h : MT M μ) : jP μ M 42 = some (M + 28) := (h.2 (42, 28, 100, 1440) (List.mem_of_getElem? (i := 27) rfl)).1
theorem mT_label {M : Nat} {μ : JM} (h : MT M μ) : jT μ (M + 28) = (100, 1440) := (h.2 (42, 28, 100, 1440) (List.mem_of_getElem? (i := 27) rfl)).2
theorem mP_labelSize {M : Nat} {μ : JM} (h : MT M μ) : jP μ M 43 = some (M + 29) := (h.2 (43, 29, 101, 120) (List.mem_of_getElem? (i := 28) rfl)).1
theorem mT_labelSize {M : Nat} {μ : JM} (h : MT M μ) : jT μ (M + 29) = (101, 120) := (h.2 (43, 29, 101, 120) (List.mem_of_getElem? (i := 28) rfl)).2
theorem mP_holding {M : Nat} {μ : JM} (h : MT M μ) : jP μ M 44 = some (M + 30) := (h.2 (44, 30, 102, 480) (List.mem_of_getElem? (i := 29) rfl)).1
theorem mT_holding {M : Nat} {μ : JM} (h : MT M μ) : jT μ (M + 30) = (102, 480) := (h.2 (44, 30, 102, 480) (List.mem_of_getElem? (i := 29) rfl)).2
theorem mP_pool {M : Nat} {μ : JM} (h : MT M μ) : jP μ M 45 = some (M + 31) := (h.2 (45, 31, 100, 300000) (List.mem_of_getElem? (i := 30) rfl)).1
theorem mT_pool {M : Nat} {μ : JM} (h : MT M μ) : jT μ (M + 31) = (100, 300000) := (h.2 (45, 31, 100, 300000) (List.mem_of_getElem? (i := 30) rfl)).2
theorem mP_poolFrom {M : Nat} {μ : JM} (h : MT M μ) : jP μ M 46 = some (M + 32) := (h.2 (46, 32, 101, 600) (List.mem_of_getElem? (i := 31) rfl)).1
theorem mT_poolFrom {M : Nat} {μ : JM} (h : MT M μ) : jT μ (M + 32) = (101, 600) := (h.2 (46, 32, 101, 600) (List.mem_of_getElem? (i := 31) rfl)).2
theorem mP_poolSize {M : Nat} {μ : JM} (h : MT M μ) : jP μ M 47 = some (M + 33) := (h.2 (47, 33, 101, 600) (List.mem_of_getElem? (i := 32) rfl)).1
theorem mT_poolSize {M : Nat} {μ : JM} (h : MT M μ) : jT μ (M + 33) = (101, 600) := (h.2 (47, 33, 101, 600) (List.mem_of_getElem? (i := 32) rfl)).2
theorem mP_version {M : Nat} {μ : JM} (h : MT M μ) : jP μ M 50 = some (M + 34) := (h.2 (50, 34, 101, 4) (List.mem_of_getElem? (i := 33) rfl)).1
theorem mT_version {M : Nat} {μ : JM} (h : MT M μ) : jT μ (M + 34) = (101, 4) := (h.2 (50, 34, 101, 4) (List.mem_of_getElem? (i := 33) rfl)).2
theorem mP_partFrom {M : Nat} {μ : JM} (h : MT M μ) : jP μ M 52 = some (M + 35) := (h.2 (52, 35, 101, 40) (List.mem_of_getElem? (i := 34) rfl)).1
theorem mT_partFrom {M : Nat} {μ : JM} (h : MT M μ) : jT μ (M + 35) = (101, 40) := (h.2 (52, 35, 101, 40) (List.mem_of_getElem? (i := 34) rfl)).2
theorem mP_partSize {M : Nat} {μ : JM} (h : MT M μ) : jP μ M 53 = some (M + 36) := (h.2 (53, 36, 101, 40) (List.mem_of_getElem? (i := 35) rfl)).1
theorem mT_partSize {M : Nat} {μ : JM} (h : MT M μ) : jT μ (M + 36) = (101, 40) := (h.2 (53, 36, 101, 40) (List.mem_of_getElem? (i := 35) rfl)).2
theorem mP_bytes {M : Nat} {μ : JM} (h : MT M μ) : jP μ M 54 = some (M + 37) := (h.2 (54, 37, 100, 8000) (List.mem_of_getElem? (i := 36) rfl)).1
theorem mT_bytes {M : Nat} {μ : JM} (h : MT M μ) : jT μ (M + 37) = (100, 8000) := (h.2 (54, 37, 100, 8000) (List.mem_of_getElem? (i := 36) rfl)).2
theorem mP_riderTo {M : Nat} {μ : JM} (h : MT M μ) : jP μ M 59 = some (M + 38) := (h.2 (59, 38, 101, 600) (List.mem_of_getElem? (i := 37) rfl)).1
theorem mT_riderTo {M : Nat} {μ : JM} (h : MT M μ) : jT μ (M + 38) = (101, 600) := (h.2 (59, 38, 101, 600) (List.mem_of_getElem? (i := 37) rfl)).2
theorem mP_riderWas {M : Nat} {μ : JM} (h : MT M μ) : jP μ M 60 = some (M + 39) := (h.2 (60, 39, 101, 600) (List.mem_of_getElem? (i := 38) rfl)).1
theorem mT_riderWas {M : Nat} {μ : JM} (h : MT M μ) : jT μ (M + 39) = (101, 600) := (h.2 (60, 39, 101, 600) (List.mem_of_getElem? (i := 38) rfl)).2
theorem mP_riderCame {M : Nat} {μ : JM} (h : MT M μ) : jP μ M 61 = some (M + 40) := (h.2 (61, 40, 101, 600) (List.mem_of_getElem? (i := 39) rfl)).1
theorem mT_riderCame {M : Nat} {μ : JM} (h : MT M μ) : jT μ (M + 40) = (101, 600) := (h.2 (61, 40, 101, 600) (List.mem_of_getElem? (i := 39) rfl)).2
theorem mP_out {M : Nat} {μ : JM} (h : MT M μ) : jP μ M 62 = some (M + 41) := (h.2 (62, 41, 100, 2400) (List.mem_of_getElem? (i := 40) rfl)).1
theorem mT_out {M : Nat} {μ : JM} (h : MT M μ) : jT μ (M + 41) = (100, 2400) := (h.2 (62, 41, 100, 2400) (List.mem_of_getElem? (i := 40) rfl)).2
theorem mP_found {M : Nat} {μ : JM} (h : MT M μ) : jP μ M 64 = some (M + 42) := (h.2 (64, 42, 101, 24) (List.mem_of_getElem? (i := 41) rfl)).1
theorem mT_found {M : Nat} {μ : JM} (h : MT M μ) : jT μ (M + 42) = (101, 24) := (h.2 (64, 42, 101, 24) (List.mem_of_getElem? (i := 41) rfl)).2
theorem mP_kept {M : Nat} {μ : JM} (h : MT M μ) : jP μ M 66 = some (M + 43) := (h.2 (66, 43, 101, 24) (List.mem_of_getElem? (i := 42) rfl)).1
theorem mT_kept {M : Nat} {μ : JM} (h : MT M μ) : jT μ (M + 43) = (101, 24) := (h.2 (66, 43, 101, 24) (List.mem_of_getElem? (i := 42) rfl)).2
theorem mP_isFree {M : Nat} {μ : JM} (h : MT M μ) : jP μ M 69 = some (M + 44) := (h.2 (69, 44, 103, 10000) (List.mem_of_getElem? (i := 43) rfl)).1
theorem mT_isFree {M : Nat} {μ : JM} (h : MT M μ) : jT μ (M + 44) = (103, 10000) := (h.2 (69, 44, 103, 10000) (List.mem_of_getElem? (i := 43) rfl)).2
/-- the same memory but for ints at W -/
def smI (W : Nat → Nat → Prop) (μ ν : JM) : Prop := jZ ν = jZ μ ∧ jT ν = jT μ ∧ jP ν = jP μ ∧ jJ ν = jJ μ ∧ ∀ a k, ¬ W a k → jI ν a k = jI μ a k
theorem smI.rf {W : Nat → Nat → Prop} {μ : JM} : smI W μ μ := ⟨rfl, rfl, rfl, rfl, fun _ _ _ => rfl⟩
theorem smI.tr {W : Nat → Nat → Prop} {μ ν ρ : JM} (h1 : smI W μ ν) (h2 : smI W ν ρ) : smI W μ ρ := ⟨h2.1.trans h1.1, h2.2.1.trans h1.2.1, h2.2.2.1.trans h1.2.2.1, h2.2.2.2.1.trans h1.2.2.2.1, fun a k h => (h2.2.2.2.2 a k h).trans (h1.2.2.2.2 a k h)⟩
theorem smI.wk {W W2 : Nat → Nat → Prop} {μ ν : JM} (h : smI W μ ν) (hw : ∀ a k, W a k → W2 a k) : smI W2 μ ν := ⟨h.1, h.2.1, h.2.2.1, h.2.2.2.1, fun a k q => h.2.2.2.2 a k (fun z => q (hw a k z))⟩
theorem smI.set {W : Nat → Nat → Prop} {μ : JM} {a k : Nat} {v : Int32} (h : W a k) : smI W μ (jsI μ a k v) := ⟨rfl, rfl, rfl, rfl, fun b j q => by rw [jI_sI, if_neg]; rintro ⟨rfl, rfl⟩; exact q h⟩
theorem MT.of {M : Nat} {μ ν : JM} (h : MT M μ) (hT : jT ν = jT μ) (hP : jP ν = jP μ) : MT M ν := by
  unfold MT at h ⊢
  rw [hT, hP]; exact h
theorem smI.mt {W : Nat → Nat → Prop} {M : Nat} {μ ν : JM} (h : smI W μ ν) (hM : MT M μ) : MT M ν := hM.of h.2.1 h.2.2.1
theorem jin_nI {j n : Nat} (h : j < n) (hn : n < 2 ^ 31) : jin (nI j) n = true := by
  simp only [jin, Bool.not_eq_true', Bool.or_eq_false_iff, decide_eq_false_iff_not]
  exact ⟨nI_pos (by omega), by rw [nI_clamp (by omega)]; omega⟩
theorem jck_of {α : Type} {c : Bool} {x : Option α} (h : c = true) : jck c x = x := by rw [h]; rfl
/-- bytes at a place of an array -/
def Sg (f : Nat → Int32) (o : Nat) (l : List Int32) : Prop := ∀ i, i < l.length → f (o + i) = l.getD i 0
/-- what a byte array keeps of an int -/
def nb (x : Int32) : Int32 := x.toInt8.toInt32
theorem vp_byte (x : Int32) : vp_nar .byte x = nb x := vp_nar_byte x
theorem nb_b8 (x : Int32) : nb (jb8 x) = nb x := by
  simp only [nb, jb8]; simp
theorem nb_low {x y : Int32} (h : x &&& 255 = y &&& 255) : nb x = nb y := by
  unfold nb
  rw [← fa_byte_low x, ← fa_byte_low y, h]
theorem nb_bits {x y : Int32} (h : ∀ i, i < 8 → bt x i = bt y i) : nb x = nb y := by
  refine nb_low (b_ext fun i hi => ?_)
  rw [b_and, b_and, b_255]
  by_cases q : i < 8
  · rw [h i q]
  · simp [q]
theorem jshr_n (n : Nat) (hn : n ≤ 24) (x : Int32) : nb (jshr x (nI n)) = nb (jushr x (nI n)) := by
  refine nb_bits fun i hi => ?_
  unfold jshr jushr
  rw [b_sshr n (by omega) x (by omega), b_ushr n (by omega), if_pos (by omega)]
theorem jshr_0 (x : Int32) : jshr x 0 = x := by
  refine b_ext fun i hi => ?_
  have := b_sshr 0 (by omega) x hi
  unfold jshr
  rw [show (0 : Int32) = nI 0 from rfl, this, if_pos (by omega), Nat.zero_add]
