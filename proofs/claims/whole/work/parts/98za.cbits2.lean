/-! bits of an int; the lowest bit -/
theorem zI_add (a b : Nat) : nI a + nI b = nI (a + b) := nI_add a b
theorem zI_sub {a b : Nat} (h : b ≤ a) : nI a - nI b = nI (a - b) := pk_sub h
theorem zI_and {a b : Nat} : nI a &&& nI b = nI (a &&& b) := fa_and a b
theorem iush {a k : Nat} (ha : a < 2 ^ 32) (hk : k < 32) : jushr (nI a) (nI k) = nI (a / 2 ^ k) := pk_ushrN ha (nI k) k (nf_sl k hk)
theorem sum4 {N0 N1 N2 N3 p0 p1 p2 p3 : Nat} (q0 : p0 ≤ 8) (q1 : p1 ≤ 8) (q2 : p2 ≤ 8) (q3 : p3 ≤ 8) (h0 : N0 = 256 * N1 + p0) (h1 : N1 = 256 * N2 + p1) (h2 : N2 = 256 * N3 + p2) (h3 : N3 = 256 * 0 + p3) : (N0 + N0 / 256 + (N0 + N0 / 256) / 65536) % 2 ^ 6 = p0 + (p1 + (p2 + p3)) := by
  have e1 : N0 / 256 = N1 := dv256 h0 (by clear h0 h1 h2 h3; omega)
  have s01 := sm2 h0 h1
  have s12 := sm2 h1 h2
  have s23 := sm2 h2 h3
  have e2 : (N0 + N1) / 65536 = N2 + N3 := by
    rw [dvv, dv256 s01 (by clear h0 h1 h2 h3 s01 s12 s23 e1; omega), dv256 s12 (by clear h0 h1 h2 h3 s01 s12 s23 e1; omega)]
  have t0 := sm2 s01 s23
  rw [e1, e2, t0]
  clear h0 h1 h2 h3 s01 s12 s23 e1 e2 t0
  omega
theorem c_bitI {x : Int32} {μ : JM} : fJ6_bitCount_0f7a4 x μ = some (pcI x, μ, 0, 0) := by
  obtain ⟨n, hn, rfl⟩ := wb_of32 x
  have hn4 : n < 256 ^ 4 := by rw [show (256 : Nat) ^ 4 = 2 ^ 32 from by decide]; exact hn
  have eR : fb_ct (bt (nI n)) 32 = tot 4 n := by
    rw [tot_is]
    refine fb_ct_cong fun i hi => ?_
    unfold bt
    show (BitVec.ofNat 32 n).getLsbD i = _
    rw [BitVec.getLsbD_ofNat]
    rw [decide_eq_true (show i < 32 by omega), Bool.true_and]
  have l1 : pS1 4 n ≤ n := Nat.sub_le _ _
  have a5 : (n / 2) &&& rep 85 4 ≤ n / 2 := Nat.and_le_left
  have e1 : nI n - (jushr (nI n) 1 &&& 1431655765) = nI (pS1 4 n) := by
    rw [show (1 : Int32) = nI 1 from rfl, iush hn (by decide), show (1431655765 : Int32) = nI (rep 85 4) from by decide, zI_and, zI_sub (by rw [Nat.pow_one]; omega)]
    rfl
  have l2 : pS2 4 (pS1 4 n) < 2 ^ 31 := by
    have h1 : pS1 4 n &&& rep 51 4 ≤ rep 51 4 := Nat.and_le_right
    have h2 : (pS1 4 n / 4) &&& rep 51 4 ≤ rep 51 4 := Nat.and_le_right
    have h3 : rep 51 4 < 2 ^ 30 := by decide
    unfold pS2; omega
  have e2 : (nI (pS1 4 n) &&& 858993459) + (jushr (nI (pS1 4 n)) 2 &&& 858993459) = nI (pS2 4 (pS1 4 n)) := by
    rw [show (2 : Int32) = nI 2 from rfl, iush (by omega) (by decide), show (858993459 : Int32) = nI (rep 51 4) from by decide, zI_and, zI_and, zI_add]
    rfl
  have e3 : (nI (pS2 4 (pS1 4 n)) + jushr (nI (pS2 4 (pS1 4 n))) 4) &&& 252645135 = nI (pcs 4 n) := by
    rw [show (4 : Int32) = nI 4 from rfl, iush (by omega) (by decide), zI_add, show (252645135 : Int32) = nI (rep 15 4) from by decide, zI_and, ← pcs_is 4 n hn4]
    rfl
  have ec : ∀ k m, pcs (k + 1) m = 256 * pcs k (m / 256) + pc (m % 256) := fun _ _ => rfl
  have S4 := sum4 (pc_le _) (pc_le _) (pc_le _) (pc_le _) (ec 3 n) (ec 2 (n / 256)) (ec 1 (n / 256 / 256)) (ec 0 (n / 256 / 256 / 256))
  have bnd : pcs 4 n < 2 ^ 29 := by rw [← pcs_is 4 n hn4]; exact Nat.lt_of_le_of_lt Nat.and_le_right (by decide)
  have e4 : nI (pcs 4 n) + jushr (nI (pcs 4 n)) 8 = nI (pcs 4 n + pcs 4 n / 256) := by
    rw [show (8 : Int32) = nI 8 from rfl, iush (by omega) (by decide), zI_add]
  have e5 : nI (pcs 4 n + pcs 4 n / 256) + jushr (nI (pcs 4 n + pcs 4 n / 256)) 16 = nI (pcs 4 n + pcs 4 n / 256 + (pcs 4 n + pcs 4 n / 256) / 65536) := by
    rw [show (16 : Int32) = nI 16 from rfl, iush (by omega) (by decide), zI_add]
  unfold fJ6_bitCount_0f7a4 pcI
  rw [e1, e2, e3, e4, e5, show (63 : Int32) = nI (2 ^ 6 - 1) from rfl, fa_mask, eR]
  exact congrArg (fun x => some (nI x, μ, 0, 0)) S4
/-! the lowest bit -/
theorem low_bits {n t m : Nat} (h : n = 2 ^ t * (2 * m + 1)) (i : Nat) : n.testBit i = (if i < t then false else if i = t then true else m.testBit (i - t - 1)) ∧ (n - 1).testBit i = (if i < t then true else if i = t then false else m.testBit (i - t - 1)) := by
  have h0 : 0 < 2 ^ t := Nat.two_pow_pos t
  have ea : n = 2 ^ t * (2 * m + 1) + 0 := by omega
  have eb : n - 1 = 2 ^ t * (2 * m) + (2 ^ t - 1) := by rw [h, Nat.mul_add, Nat.mul_one]; omega
  have od : ∀ j, (2 * m + 1).testBit j = if j = 0 then true else m.testBit (j - 1) := by
    intro j
    cases j with
    | zero => simp
    | succ j => rw [if_neg (by omega), Nat.testBit_succ, show (2 * m + 1) / 2 = m by omega]; rfl
  have ev : ∀ j, (2 * m).testBit j = if j = 0 then false else m.testBit (j - 1) := by
    intro j
    cases j with
    | zero => simp
    | succ j => rw [if_neg (by omega), Nat.testBit_succ, show 2 * m / 2 = m by omega]; rfl
  refine ⟨?_, ?_⟩
  · rw [ea, Nat.testBit_two_pow_mul_add _ h0]
    by_cases c : i < t
    · rw [if_pos c, if_pos c]; exact Nat.zero_testBit i
    · rw [if_neg c, if_neg c, od]
      by_cases d : i = t
      · rw [if_pos (by omega), if_pos d]
      · rw [if_neg (by omega), if_neg d]
  · rw [eb, Nat.testBit_two_pow_mul_add _ (by omega)]
    by_cases c : i < t
    · rw [if_pos c, if_pos c, Nat.testBit_two_pow_sub_one, decide_eq_true c]
    · rw [if_neg c, if_neg c, ev]
      by_cases d : i = t
      · rw [if_pos (by omega), if_pos d]
      · rw [if_neg (by omega), if_neg d]
theorem bt_n {n i : Nat} (hi : i < 32) : bt (nI n) i = n.testBit i := by
  unfold bt
  show (BitVec.ofNat 32 n).getLsbD i = _
  rw [BitVec.getLsbD_ofNat, decide_eq_true hi, Bool.true_and]
theorem ntz_32 : ∀ t, t < 32 → ∀ μ : JM, (fun x : Int32 => if 0 < x then (if x ≤ 65536 then (fJ6_numberOfTrailingZeros_0f7a4_b34 x 1 μ) else (fJ6_numberOfTrailingZeros_0f7a4_b34 (jushr x 16) (1 + 16) μ)) else (some ((x &&& 32), μ, 0, 0))) (nI (2 ^ t - 1)) = some (nI t, μ, 0, 0) := by
  intro t ht μ
  have : t = 0 ∨ t = 1 ∨ t = 2 ∨ t = 3 ∨ t = 4 ∨ t = 5 ∨ t = 6 ∨ t = 7 ∨ t = 8 ∨ t = 9 ∨ t = 10 ∨ t = 11 ∨ t = 12 ∨ t = 13 ∨ t = 14 ∨ t = 15 ∨ t = 16 ∨ t = 17 ∨ t = 18 ∨ t = 19 ∨ t = 20 ∨ t = 21 ∨ t = 22 ∨ t = 23 ∨ t = 24 ∨ t = 25 ∨ t = 26 ∨ t = 27 ∨ t = 28 ∨ t = 29 ∨ t = 30 ∨ t = 31 := by omega
  rcases this with rfl | rfl | rfl | rfl | rfl | rfl | rfl | rfl | rfl | rfl | rfl | rfl | rfl | rfl | rfl | rfl | rfl | rfl | rfl | rfl | rfl | rfl | rfl | rfl | rfl | rfl | rfl | rfl | rfl | rfl | rfl | rfl <;> rfl
theorem c_ntzI {n t m : Nat} {μ : JM} (hn : n < 2 ^ 32) (ht : t < 32) (h : n = 2 ^ t * (2 * m + 1)) : fJ6_numberOfTrailingZeros_0f7a4 (nI n) μ = some (nI t, μ, 0, 0) := by
  have e : (nI n ^^^ (-1)) &&& (nI n - 1) = nI (2 ^ t - 1) := by
    have h1 : 1 ≤ n := by have := Nat.two_pow_pos t; rw [h, Nat.mul_add, Nat.mul_one]; omega
    have es : nI n - 1 = nI (n - 1) := pk_sub h1
    rw [es]
    refine b_ext fun i hi => ?_
    rw [b_and, b_xor, b_m1 i hi, bt_n hi, bt_n hi, bt_n hi, Nat.testBit_two_pow_sub_one]
    obtain ⟨l1, l2⟩ := low_bits h i
    rw [l1, l2]
    by_cases c : i < t
    · rw [if_pos c, if_pos c, decide_eq_true c]; rfl
    · rw [if_neg c, if_neg c, decide_eq_false c]
      by_cases d : i = t
      · rw [if_pos d, if_pos d]; rfl
      · rw [if_neg d, if_neg d]; cases m.testBit (i - t - 1) <;> rfl
  unfold fJ6_numberOfTrailingZeros_0f7a4
  rw [e]
  exact ntz_32 t ht μ
theorem low_ex : ∀ (n : Nat), 0 < n → ∃ t m, n = 2 ^ t * (2 * m + 1) := by
  intro n
  induction n using Nat.strongRecOn with
  | ind n ih =>
    intro hn
    by_cases c : n % 2 = 1
    · exact ⟨0, n / 2, by rw [Nat.pow_zero]; omega⟩
    · obtain ⟨t, m, e⟩ := ih (n / 2) (by omega) (by omega)
      exact ⟨t + 1, m, by rw [Nat.pow_succ, Nat.mul_comm (2 ^ t) 2, Nat.mul_assoc, ← e]; omega⟩
theorem c_ntzL {n t m : Nat} {μ : JM} (hn : n < 2 ^ 64) (ht : t < 64) (h : n = 2 ^ t * (2 * m + 1)) : fJ13_numberOfTrailingZeros_95d88 (lN n) μ = some (nI t, μ, 0, 0) := by
  unfold fJ13_numberOfTrailingZeros_95d88
  rw [lN_32]
  have em : nI n = nI (n % 2 ^ 32) := by
    refine Int32.toBitVec_inj.mp ?_
    show BitVec.ofNat 32 n = BitVec.ofNat 32 (n % 2 ^ 32)
    apply BitVec.eq_of_toNat_eq
    rw [BitVec.toNat_ofNat, BitVec.toNat_ofNat, Nat.mod_mod]
  by_cases c : t < 32
  · have hp : 2 ^ 32 = 2 ^ t * 2 ^ (32 - t) := wb_pw (by omega)
    have e1 : n % 2 ^ 32 = 2 ^ t * (2 * (m % 2 ^ (31 - t)) + 1) := by
      rw [h, hp, Nat.mul_mod_mul_left]
      congr 1
      have e2 : 2 ^ (32 - t) = 2 * 2 ^ (31 - t) := by rw [show 32 - t = (31 - t) + 1 by omega, Nat.pow_succ, Nat.mul_comm]
      rw [e2]
      have h0 := Nat.two_pow_pos (31 - t)
      generalize 2 ^ (31 - t) = P at h0
      have := Nat.mod_add_div m P
      have hm := Nat.mod_lt m h0
      have e3 : 2 * m + 1 = (2 * (m % P) + 1) + 2 * P * (m / P) := by
        have : 2 * P * (m / P) = 2 * (P * (m / P)) := Nat.mul_assoc _ _ _
        omega
      rw [e3, Nat.add_mul_mod_self_left]
      exact Nat.mod_eq_of_lt (by omega)
    have hlt : n % 2 ^ 32 < 2 ^ 32 := Nat.mod_lt _ (by decide)
    have hne : ¬ nI n = 0 := by
      rw [em]
      intro e
      have := congrArg (fun x => x.toBitVec.toNat) e
      have e0 : (nI (n % 2 ^ 32)).toBitVec.toNat = n % 2 ^ 32 := by show (BitVec.ofNat 32 (n % 2 ^ 32)).toNat = _; rw [BitVec.toNat_ofNat, Nat.mod_eq_of_lt hlt]
      simp only [e0] at this
      have z0 : (0 : Int32).toBitVec.toNat = 0 := by decide
      rw [z0] at this
      have := Nat.two_pow_pos t
      rw [e1, Nat.mul_add, Nat.mul_one] at *
      omega
    rw [if_neg hne, em, c_ntzI hlt c e1, jcl_0]
  · have hp : n = 2 ^ 32 * (2 ^ (t - 32) * (2 * m + 1)) := by rw [← Nat.mul_assoc, ← Nat.pow_add, show 32 + (t - 32) = t by omega]; exact h
    have e0 : n % 2 ^ 32 = 0 := by rw [hp]; exact Nat.mul_mod_right _ _
    rw [if_pos (by rw [em, e0]; rfl), show (32 : Int32) = nI 32 from rfl, lush hn (by decide), lN_32]
    have e1 : n / 2 ^ 32 = 2 ^ (t - 32) * (2 * m + 1) := by rw [hp]; exact Nat.mul_div_cancel_left _ (by decide)
    rw [c_ntzI (t := t - 32) (m := m) (by omega) (by omega) e1, jcl_0, nI_add]
    congr 3; omega
