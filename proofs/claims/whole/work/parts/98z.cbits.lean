/-! bits are counted, byte by byte -/
theorem and256 {a r c d : Nat} (hr : r < 256) (hd : d < 256) : (256 * a + r) &&& (256 * c + d) = 256 * (a &&& c) + (r &&& d) := by
  have h1 : ((256 * a + r) &&& (256 * c + d)) % 2 ^ 8 = (r &&& d) := by
    rw [Nat.and_mod_two_pow, show (256 * a + r) % 2 ^ 8 = r by omega, show (256 * c + d) % 2 ^ 8 = d by omega]
  have h2 : ((256 * a + r) &&& (256 * c + d)) / 2 ^ 8 = (a &&& c) := by
    rw [← Nat.shiftRight_eq_div_pow, Nat.shiftRight_and_distrib, Nat.shiftRight_eq_div_pow, Nat.shiftRight_eq_div_pow, show (256 * a + r) / 2 ^ 8 = a by omega, show (256 * c + d) / 2 ^ 8 = c by omega]
  omega
def rep (x : Nat) : Nat → Nat
  | 0 => 0
  | k + 1 => 256 * rep x k + x
def pS1 (k n : Nat) : Nat := n - ((n / 2) &&& rep 85 k)
def pS2 (k n : Nat) : Nat := (n &&& rep 51 k) + ((n / 4) &&& rep 51 k)
def pS3 (k n : Nat) : Nat := (n + n / 16) &&& rep 15 k
def b1 (r : Nat) : Nat := r - ((r / 2) &&& 85)
def b2 (r : Nat) : Nat := (r &&& 51) + ((r / 4) &&& 51)
def pc (r : Nat) : Nat := fb_ct (fun i => r.testBit i) 8
theorem by1 : ∀ r, r < 256 → ∀ e, e < 2 → (128 * e + r / 2) &&& 85 = (r / 2) &&& 85 := by decide +kernel
theorem by2 : ∀ r, r < 256 → ∀ e, e < 4 → (64 * e + r / 4) &&& 51 = (r / 4) &&& 51 := by decide +kernel
theorem by3 : ∀ r, r < 256 → b1 r < 256 ∧ b2 (b1 r) < 128 ∧ b2 (b1 r) % 16 ≤ 4 ∧ pc r ≤ 8 := by decide +kernel
theorem by4 : ∀ r, r < 256 → ∀ e, e < 5 → b2 (b1 r) + 16 * e + b2 (b1 r) / 16 < 256 ∧ (b2 (b1 r) + 16 * e + b2 (b1 r) / 16) &&& 15 = pc r := by decide +kernel
theorem pS1_s {k m r : Nat} (hr : r < 256) : pS1 (k + 1) (256 * m + r) = 256 * pS1 k m + b1 r := by
  unfold pS1 b1
  have e : (256 * m + r) / 2 = 256 * (m / 2) + (128 * (m % 2) + r / 2) := by omega
  rw [e, rep, and256 (by omega) (by decide), by1 r hr (m % 2) (by omega)]
  have h1 : (m / 2) &&& rep 85 k ≤ m / 2 := Nat.and_le_left
  have h2 : (r / 2) &&& 85 ≤ r / 2 := Nat.and_le_left
  omega
theorem pS2_s {k m r : Nat} (hr : r < 256) : pS2 (k + 1) (256 * m + r) = 256 * pS2 k m + b2 r := by
  unfold pS2 b2
  have e : (256 * m + r) / 4 = 256 * (m / 4) + (64 * (m % 4) + r / 4) := by omega
  rw [e, rep, and256 hr (by decide), and256 (by omega) (by decide), by2 r hr (m % 4) (by omega)]
  omega
theorem pS12 : ∀ (k n : Nat), n < 256 ^ k → pS2 k (pS1 k n) % 16 ≤ 4
  | 0, n, h => by
    have : n = 0 := by simpa using h
    subst this; decide
  | k + 1, n, h => by
    have hr : n % 256 < 256 := Nat.mod_lt _ (by decide)
    obtain ⟨h1, h2, h3, -⟩ := by3 _ hr
    have e : n = 256 * (n / 256) + n % 256 := by omega
    rw [e, pS1_s hr, pS2_s h1]
    omega
def pcs : Nat → Nat → Nat
  | 0, _ => 0
  | k + 1, n => 256 * pcs k (n / 256) + pc (n % 256)
theorem pcs_is : ∀ (k n : Nat), n < 256 ^ k → pS3 k (pS2 k (pS1 k n)) = pcs k n
  | 0, n, h => by
    have : n = 0 := by simpa using h
    subst this; rfl
  | k + 1, n, h => by
    have hr : n % 256 < 256 := Nat.mod_lt _ (by decide)
    have hm : n / 256 < 256 ^ k := by rw [Nat.pow_succ] at h; exact Nat.div_lt_of_lt_mul (by rw [Nat.mul_comm]; exact h)
    obtain ⟨h1, h2, h3, -⟩ := by3 _ hr
    have e : n = 256 * (n / 256) + n % 256 := by omega
    have h4 := pS12 k _ hm
    obtain ⟨h5, h6⟩ := by4 _ hr (pS2 k (pS1 k (n / 256)) % 16) (by omega)
    have ih := pcs_is k _ hm
    rw [pcs, ← ih]
    conv => lhs; rw [e, pS1_s hr, pS2_s h1]
    generalize pS2 k (pS1 k (n / 256)) = m2 at h4 h5 h6 ⊢
    generalize b2 (b1 (n % 256)) = r2 at h2 h5 h6 ⊢
    unfold pS3
    have e2 : 256 * m2 + r2 + (256 * m2 + r2) / 16 = 256 * (m2 + m2 / 16) + (r2 + 16 * (m2 % 16) + r2 / 16) := by omega
    rw [e2, rep, and256 h5 (by decide), h6]
def tot : Nat → Nat → Nat
  | 0, _ => 0
  | k + 1, n => pc (n % 256) + tot k (n / 256)
theorem tot_is : ∀ (k n : Nat), tot k n = fb_ct (fun i => n.testBit i) (8 * k)
  | 0, n => rfl
  | k + 1, n => by
    rw [tot, tot_is k, show 8 * (k + 1) = 8 + 8 * k by omega, fb_ct_split]
    congr 1
    · unfold pc
      refine fb_ct_cong fun i hi => ?_
      rw [show (256 : Nat) = 2 ^ 8 from rfl, Nat.testBit_mod_two_pow, decide_eq_true hi, Bool.true_and]
    · refine fb_ct_cong fun i hi => ?_
      rw [show (256 : Nat) = 2 ^ 8 from rfl, ← Nat.shiftRight_eq_div_pow, Nat.testBit_shiftRight]
theorem pc_le (r : Nat) : pc r ≤ 8 := fb_ct_le _ 8
theorem zN_add (a b : Nat) : lN a + lN b = lN (a + b) := by
  refine Int64.toBitVec_inj.mp ?_
  show BitVec.ofNat 64 _ + BitVec.ofNat 64 _ = BitVec.ofNat 64 _
  rw [← BitVec.ofNat_add]
theorem zN_sub {a b : Nat} (h : b ≤ a) : lN a - lN b = lN (a - b) := by
  have e : lN a = lN (a - b) + lN b := by rw [zN_add]; congr 1; omega
  rw [e, Int64.add_sub_cancel]
theorem lN_32 (a : Nat) : (lN a).toInt32 = nI a := by
  refine Int32.toBitVec_inj.mp ?_
  show (BitVec.ofNat 64 a).signExtend 32 = BitVec.ofNat 32 a
  rw [BitVec.signExtend_eq_setWidth_of_le _ (by decide)]
  apply BitVec.eq_of_toNat_eq
  rw [BitVec.toNat_setWidth, BitVec.toNat_ofNat, BitVec.toNat_ofNat]
  omega
theorem lush {a k : Nat} (ha : a < 2 ^ 64) (hk : k < 64) : jlushr (lN a) (nI k) = lN (a / 2 ^ k) := wb_shr ha hk
theorem dv256 {A X r : Nat} (h : A = 256 * X + r) (hr : r < 256) : A / 256 = X := by omega
theorem dvv (A : Nat) : A / 65536 = A / 256 / 256 := by rw [Nat.div_div_eq_div_mul]
theorem dv4 (A : Nat) : A / 4294967296 = A / 256 / 256 / 256 / 256 := by rw [Nat.div_div_eq_div_mul, Nat.div_div_eq_div_mul, Nat.div_div_eq_div_mul]
theorem sm2 {a b c d p q : Nat} (h1 : a = 256 * b + p) (h2 : c = 256 * d + q) : a + c = 256 * (b + d) + (p + q) := by omega
theorem sum8 {N0 N1 N2 N3 N4 N5 N6 N7 p0 p1 p2 p3 p4 p5 p6 p7 : Nat} (q0 : p0 ≤ 8) (q1 : p1 ≤ 8) (q2 : p2 ≤ 8) (q3 : p3 ≤ 8) (q4 : p4 ≤ 8) (q5 : p5 ≤ 8) (q6 : p6 ≤ 8) (q7 : p7 ≤ 8) (h0 : N0 = 256 * N1 + p0) (h1 : N1 = 256 * N2 + p1) (h2 : N2 = 256 * N3 + p2) (h3 : N3 = 256 * N4 + p3) (h4 : N4 = 256 * N5 + p4) (h5 : N5 = 256 * N6 + p5) (h6 : N6 = 256 * N7 + p6) (h7 : N7 = 256 * 0 + p7) : (N0 + N0 / 256 + (N0 + N0 / 256) / 65536 + (N0 + N0 / 256 + (N0 + N0 / 256) / 65536) / 4294967296) % 2 ^ 7 = p0 + (p1 + (p2 + (p3 + (p4 + (p5 + (p6 + p7)))))) := by
  have e1 : N0 / 256 = N1 := dv256 h0 (by clear h0 h1 h2 h3 h4 h5 h6 h7; omega)
  have s01 := sm2 h0 h1
  have s12 := sm2 h1 h2
  have s23 := sm2 h2 h3
  have s34 := sm2 h3 h4
  have s45 := sm2 h4 h5
  have s56 := sm2 h5 h6
  have s67 := sm2 h6 h7
  have z7 : N7 + 0 = N7 := rfl
  have e2 : (N0 + N1) / 65536 = N2 + N3 := by
    rw [dvv, dv256 s01 (by clear h0 h1 h2 h3 h4 h5 h6 h7 s01 s12 s23 s34 s45 s56 s67 e1; omega), dv256 s12 (by clear h0 h1 h2 h3 h4 h5 h6 h7 s01 s12 s23 s34 s45 s56 s67 e1; omega)]
  have t0 := sm2 s01 s23
  have t1 := sm2 s12 s34
  have t2 := sm2 s23 s45
  have t3 := sm2 s34 s56
  have t4 := sm2 s45 s67
  have e3 : (N0 + N1 + (N2 + N3)) / 4294967296 = N4 + N5 + (N6 + N7) := by
    rw [dv4, dv256 t0 (by clear h0 h1 h2 h3 h4 h5 h6 h7 s01 s12 s23 s34 s45 s56 s67 e1 e2 t0 t1 t2 t3 t4; omega), dv256 t1 (by clear h0 h1 h2 h3 h4 h5 h6 h7 s01 s12 s23 s34 s45 s56 s67 e1 e2 t0 t1 t2 t3 t4; omega), dv256 t2 (by clear h0 h1 h2 h3 h4 h5 h6 h7 s01 s12 s23 s34 s45 s56 s67 e1 e2 t0 t1 t2 t3 t4; omega), dv256 t3 (by clear h0 h1 h2 h3 h4 h5 h6 h7 s01 s12 s23 s34 s45 s56 s67 e1 e2 t0 t1 t2 t3 t4; omega)]
  have u := sm2 t0 t4
  rw [e1, e2, e3, u]
  clear h0 h1 h2 h3 h4 h5 h6 h7 s01 s12 s23 s34 s45 s56 s67 e1 e2 t0 t1 t2 t3 t4 e3 u
  omega
theorem c_bitL {x : Int64} {μ : JM} : fJ13_bitCount_95d88 x μ = some (nI (fb_ct (lb x) 64), μ, 0, 0) := by
  obtain ⟨n, hn, rfl⟩ := wb_of x
  have hn8 : n < 256 ^ 8 := by rw [show (256 : Nat) ^ 8 = 2 ^ 64 from by decide]; exact hn
  have eR : fb_ct (lb (lN n)) 64 = tot 8 n := by
    rw [tot_is]
    refine fb_ct_cong fun i hi => ?_
    unfold lb
    rw [wb_tb, BitVec.getLsbD_ofNat]
    rw [decide_eq_true (show i < 64 by omega), Bool.true_and]
  have l1 : pS1 8 n ≤ n := Nat.sub_le _ _
  have a5 : (n / 2) &&& rep 85 8 ≤ n / 2 := Nat.and_le_left
  have e1 : lN n - (jlushr (lN n) 1 &&& 6148914691236517205) = lN (pS1 8 n) := by
    rw [show (1 : Int32) = nI 1 from rfl, lush hn (by decide), show (6148914691236517205 : Int64) = lN (rep 85 8) from by decide, wb_and (by omega) (by decide), zN_sub (by rw [Nat.pow_one]; omega)]
    rfl
  have l2 : pS2 8 (pS1 8 n) < 2 ^ 63 := by
    have h1 : pS1 8 n &&& rep 51 8 ≤ rep 51 8 := Nat.and_le_right
    have h2 : (pS1 8 n / 4) &&& rep 51 8 ≤ rep 51 8 := Nat.and_le_right
    have h3 : rep 51 8 < 2 ^ 62 := by decide
    unfold pS2; omega
  have e2 : (lN (pS1 8 n) &&& 3689348814741910323) + (jlushr (lN (pS1 8 n)) 2 &&& 3689348814741910323) = lN (pS2 8 (pS1 8 n)) := by
    rw [show (2 : Int32) = nI 2 from rfl, lush (by omega) (by decide), show (3689348814741910323 : Int64) = lN (rep 51 8) from by decide, wb_and (by omega) (by decide), wb_and (by omega) (by decide), zN_add]
    rfl
  have e3 : (lN (pS2 8 (pS1 8 n)) + jlushr (lN (pS2 8 (pS1 8 n))) 4) &&& 1085102592571150095 = lN (pcs 8 n) := by
    rw [show (4 : Int32) = nI 4 from rfl, lush (by omega) (by decide), zN_add, show (1085102592571150095 : Int64) = lN (rep 15 8) from by decide, wb_and (by omega) (by decide), ← pcs_is 8 n hn8]
    rfl
  have ec : ∀ k m, pcs (k + 1) m = 256 * pcs k (m / 256) + pc (m % 256) := fun _ _ => rfl
  have S8 := sum8 (pc_le _) (pc_le _) (pc_le _) (pc_le _) (pc_le _) (pc_le _) (pc_le _) (pc_le _) (ec 7 (n)) (ec 6 (n / 256)) (ec 5 (n / 256 / 256)) (ec 4 (n / 256 / 256 / 256)) (ec 3 (n / 256 / 256 / 256 / 256)) (ec 2 (n / 256 / 256 / 256 / 256 / 256)) (ec 1 (n / 256 / 256 / 256 / 256 / 256 / 256)) (ec 0 (n / 256 / 256 / 256 / 256 / 256 / 256 / 256))
  have bnd : pcs 8 n < 2 ^ 60 := by rw [← pcs_is 8 n hn8]; exact Nat.lt_of_le_of_lt Nat.and_le_right (by decide)
  have e4 : lN (pcs 8 n) + jlushr (lN (pcs 8 n)) 8 = lN (pcs 8 n + pcs 8 n / 256) := by
    rw [show (8 : Int32) = nI 8 from rfl, lush (by omega) (by decide), zN_add]
  have e5 : lN (pcs 8 n + pcs 8 n / 256) + jlushr (lN (pcs 8 n + pcs 8 n / 256)) 16 = lN (pcs 8 n + pcs 8 n / 256 + (pcs 8 n + pcs 8 n / 256) / 65536) := by
    rw [show (16 : Int32) = nI 16 from rfl, lush (by omega) (by decide), zN_add]
  have e6 : lN (pcs 8 n + pcs 8 n / 256 + (pcs 8 n + pcs 8 n / 256) / 65536) + jlushr (lN (pcs 8 n + pcs 8 n / 256 + (pcs 8 n + pcs 8 n / 256) / 65536)) 32 = lN (pcs 8 n + pcs 8 n / 256 + (pcs 8 n + pcs 8 n / 256) / 65536 + (pcs 8 n + pcs 8 n / 256 + (pcs 8 n + pcs 8 n / 256) / 65536) / 4294967296) := by
    rw [show (32 : Int32) = nI 32 from rfl, lush (by omega) (by decide), zN_add]
  unfold fJ13_bitCount_95d88
  rw [e1, e2, e3, e4, e5, e6, lN_32, show (127 : Int32) = nI (2 ^ 7 - 1) from rfl, fa_mask, eR]
  exact congrArg (fun x => some (nI x, μ, 0, 0)) S8
