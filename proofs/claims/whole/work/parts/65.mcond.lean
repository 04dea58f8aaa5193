/-! the reference: condition() -/
theorem oc_0 : (-3000 : Int64) - lN 0 = -3000 := by decide
theorem mw_0 {M : Nat} {μ : JM} {l : List Int32} {ts : List Int64} {k : Nat} (h : mAt M μ l ts k) : fX11_isWord M 139666885 μ = some (if Cd l k = -3000 then 1 else 0, μ, 0, 0) := by
  have := mA_isWord h 0 (by decide)
  rw [oc_0] at this; exact this
theorem me_0 {M : Nat} {μ : JM} {l : List Int32} {ts : List Int64} {k : Nat} (h : mAt M μ l ts k) : ∃ r ν, fX11_expects M 139666885 μ = some (r, ν, 0, 0) ∧ sm M TK [9] μ ν ∧ mR M ν l ts k r (exC (Cd l) (-3000) k) := by
  have := mA_exW h 0 (by decide)
  rw [oc_0] at this; exact this
theorem oc_1 : (-3000 : Int64) - lN 1 = -3001 := by decide
theorem mw_1 {M : Nat} {μ : JM} {l : List Int32} {ts : List Int64} {k : Nat} (h : mAt M μ l ts k) : fX11_isWord M 51 μ = some (if Cd l k = -3001 then 1 else 0, μ, 0, 0) := by
  have := mA_isWord h 1 (by decide)
  rw [oc_1] at this; exact this
theorem me_1 {M : Nat} {μ : JM} {l : List Int32} {ts : List Int64} {k : Nat} (h : mAt M μ l ts k) : ∃ r ν, fX11_expects M 51 μ = some (r, ν, 0, 0) ∧ sm M TK [9] μ ν ∧ mR M ν l ts k r (exC (Cd l) (-3001) k) := by
  have := mA_exW h 1 (by decide)
  rw [oc_1] at this; exact this
theorem oc_2 : (-3000 : Int64) - lN 2 = -3002 := by decide
theorem mw_2 {M : Nat} {μ : JM} {l : List Int32} {ts : List Int64} {k : Nat} (h : mAt M μ l ts k) : fX11_isWord M 153241 μ = some (if Cd l k = -3002 then 1 else 0, μ, 0, 0) := by
  have := mA_isWord h 2 (by decide)
  rw [oc_2] at this; exact this
theorem me_2 {M : Nat} {μ : JM} {l : List Int32} {ts : List Int64} {k : Nat} (h : mAt M μ l ts k) : ∃ r ν, fX11_expects M 153241 μ = some (r, ν, 0, 0) ∧ sm M TK [9] μ ν ∧ mR M ν l ts k r (exC (Cd l) (-3002) k) := by
  have := mA_exW h 2 (by decide)
  rw [oc_2] at this; exact this
theorem oc_3 : (-3000 : Int64) - lN 3 = -3003 := by decide
theorem mw_3 {M : Nat} {μ : JM} {l : List Int32} {ts : List Int64} {k : Nat} (h : mAt M μ l ts k) : fX11_isWord M 19176724 μ = some (if Cd l k = -3003 then 1 else 0, μ, 0, 0) := by
  have := mA_isWord h 3 (by decide)
  rw [oc_3] at this; exact this
theorem me_3 {M : Nat} {μ : JM} {l : List Int32} {ts : List Int64} {k : Nat} (h : mAt M μ l ts k) : ∃ r ν, fX11_expects M 19176724 μ = some (r, ν, 0, 0) ∧ sm M TK [9] μ ν ∧ mR M ν l ts k r (exC (Cd l) (-3003) k) := by
  have := mA_exW h 3 (by decide)
  rw [oc_3] at this; exact this
theorem oc_4 : (-3000 : Int64) - lN 4 = -3004 := by decide
theorem mw_4 {M : Nat} {μ : JM} {l : List Int32} {ts : List Int64} {k : Nat} (h : mAt M μ l ts k) : fX11_isWord M 2094 μ = some (if Cd l k = -3004 then 1 else 0, μ, 0, 0) := by
  have := mA_isWord h 4 (by decide)
  rw [oc_4] at this; exact this
theorem me_4 {M : Nat} {μ : JM} {l : List Int32} {ts : List Int64} {k : Nat} (h : mAt M μ l ts k) : ∃ r ν, fX11_expects M 2094 μ = some (r, ν, 0, 0) ∧ sm M TK [9] μ ν ∧ mR M ν l ts k r (exC (Cd l) (-3004) k) := by
  have := mA_exW h 4 (by decide)
  rw [oc_4] at this; exact this
theorem oc_5 : (-3000 : Int64) - lN 5 = -3005 := by decide
theorem mw_5 {M : Nat} {μ : JM} {l : List Int32} {ts : List Int64} {k : Nat} (h : mAt M μ l ts k) : fX11_isWord M 655 μ = some (if Cd l k = -3005 then 1 else 0, μ, 0, 0) := by
  have := mA_isWord h 5 (by decide)
  rw [oc_5] at this; exact this
theorem me_5 {M : Nat} {μ : JM} {l : List Int32} {ts : List Int64} {k : Nat} (h : mAt M μ l ts k) : ∃ r ν, fX11_expects M 655 μ = some (r, ν, 0, 0) ∧ sm M TK [9] μ ν ∧ mR M ν l ts k r (exC (Cd l) (-3005) k) := by
  have := mA_exW h 5 (by decide)
  rw [oc_5] at this; exact this
theorem oc_6 : (-3000 : Int64) - lN 6 = -3006 := by decide
theorem mw_6 {M : Nat} {μ : JM} {l : List Int32} {ts : List Int64} {k : Nat} (h : mAt M μ l ts k) : fX11_isWord M 89 μ = some (if Cd l k = -3006 then 1 else 0, μ, 0, 0) := by
  have := mA_isWord h 6 (by decide)
  rw [oc_6] at this; exact this
theorem me_6 {M : Nat} {μ : JM} {l : List Int32} {ts : List Int64} {k : Nat} (h : mAt M μ l ts k) : ∃ r ν, fX11_expects M 89 μ = some (r, ν, 0, 0) ∧ sm M TK [9] μ ν ∧ mR M ν l ts k r (exC (Cd l) (-3006) k) := by
  have := mA_exW h 6 (by decide)
  rw [oc_6] at this; exact this
theorem oc_7 : (-3000 : Int64) - lN 7 = -3007 := by decide
theorem mw_7 {M : Nat} {μ : JM} {l : List Int32} {ts : List Int64} {k : Nat} (h : mAt M μ l ts k) : fX11_isWord M 132915 μ = some (if Cd l k = -3007 then 1 else 0, μ, 0, 0) := by
  have := mA_isWord h 7 (by decide)
  rw [oc_7] at this; exact this
theorem me_7 {M : Nat} {μ : JM} {l : List Int32} {ts : List Int64} {k : Nat} (h : mAt M μ l ts k) : ∃ r ν, fX11_expects M 132915 μ = some (r, ν, 0, 0) ∧ sm M TK [9] μ ν ∧ mR M ν l ts k r (exC (Cd l) (-3007) k) := by
  have := mA_exW h 7 (by decide)
  rw [oc_7] at this; exact this
theorem oc_8 : (-3000 : Int64) - lN 8 = -3008 := by decide
theorem mw_8 {M : Nat} {μ : JM} {l : List Int32} {ts : List Int64} {k : Nat} (h : mAt M μ l ts k) : fX11_isWord M 806995756851 μ = some (if Cd l k = -3008 then 1 else 0, μ, 0, 0) := by
  have := mA_isWord h 8 (by decide)
  rw [oc_8] at this; exact this
theorem me_8 {M : Nat} {μ : JM} {l : List Int32} {ts : List Int64} {k : Nat} (h : mAt M μ l ts k) : ∃ r ν, fX11_expects M 806995756851 μ = some (r, ν, 0, 0) ∧ sm M TK [9] μ ν ∧ mR M ν l ts k r (exC (Cd l) (-3008) k) := by
  have := mA_exW h 8 (by decide)
  rw [oc_8] at this; exact this
theorem oc_9 : (-3000 : Int64) - lN 9 = -3009 := by decide
theorem mw_9 {M : Nat} {μ : JM} {l : List Int32} {ts : List Int64} {k : Nat} (h : mAt M μ l ts k) : fX11_isWord M 294 μ = some (if Cd l k = -3009 then 1 else 0, μ, 0, 0) := by
  have := mA_isWord h 9 (by decide)
  rw [oc_9] at this; exact this
theorem me_9 {M : Nat} {μ : JM} {l : List Int32} {ts : List Int64} {k : Nat} (h : mAt M μ l ts k) : ∃ r ν, fX11_expects M 294 μ = some (r, ν, 0, 0) ∧ sm M TK [9] μ ν ∧ mR M ν l ts k r (exC (Cd l) (-3009) k) := by
  have := mA_exW h 9 (by decide)
  rw [oc_9] at this; exact this
theorem oc_10 : (-3000 : Int64) - lN 10 = -3010 := by decide
theorem mw_10 {M : Nat} {μ : JM} {l : List Int32} {ts : List Int64} {k : Nat} (h : mAt M μ l ts k) : fX11_isWord M 719722099 μ = some (if Cd l k = -3010 then 1 else 0, μ, 0, 0) := by
  have := mA_isWord h 10 (by decide)
  rw [oc_10] at this; exact this
theorem me_10 {M : Nat} {μ : JM} {l : List Int32} {ts : List Int64} {k : Nat} (h : mAt M μ l ts k) : ∃ r ν, fX11_expects M 719722099 μ = some (r, ν, 0, 0) ∧ sm M TK [9] μ ν ∧ mR M ν l ts k r (exC (Cd l) (-3010) k) := by
  have := mA_exW h 10 (by decide)
  rw [oc_10] at this; exact this
theorem oc_11 : (-3000 : Int64) - lN 11 = -3011 := by decide
theorem mw_11 {M : Nat} {μ : JM} {l : List Int32} {ts : List Int64} {k : Nat} (h : mAt M μ l ts k) : fX11_isWord M 514226 μ = some (if Cd l k = -3011 then 1 else 0, μ, 0, 0) := by
  have := mA_isWord h 11 (by decide)
  rw [oc_11] at this; exact this
theorem me_11 {M : Nat} {μ : JM} {l : List Int32} {ts : List Int64} {k : Nat} (h : mAt M μ l ts k) : ∃ r ν, fX11_expects M 514226 μ = some (r, ν, 0, 0) ∧ sm M TK [9] μ ν ∧ mR M ν l ts k r (exC (Cd l) (-3011) k) := by
  have := mA_exW h 11 (by decide)
  rw [oc_11] at this; exact this
theorem oc_12 : (-3000 : Int64) - lN 12 = -3012 := by decide
theorem mw_12 {M : Nat} {μ : JM} {l : List Int32} {ts : List Int64} {k : Nat} (h : mAt M μ l ts k) : fX11_isWord M 1476 μ = some (if Cd l k = -3012 then 1 else 0, μ, 0, 0) := by
  have := mA_isWord h 12 (by decide)
  rw [oc_12] at this; exact this
theorem me_12 {M : Nat} {μ : JM} {l : List Int32} {ts : List Int64} {k : Nat} (h : mAt M μ l ts k) : ∃ r ν, fX11_expects M 1476 μ = some (r, ν, 0, 0) ∧ sm M TK [9] μ ν ∧ mR M ν l ts k r (exC (Cd l) (-3012) k) := by
  have := mA_exW h 12 (by decide)
  rw [oc_12] at this; exact this
theorem oc_13 : (-3000 : Int64) - lN 13 = -3013 := by decide
theorem mw_13 {M : Nat} {μ : JM} {l : List Int32} {ts : List Int64} {k : Nat} (h : mAt M μ l ts k) : fX11_isWord M 498 μ = some (if Cd l k = -3013 then 1 else 0, μ, 0, 0) := by
  have := mA_isWord h 13 (by decide)
  rw [oc_13] at this; exact this
theorem me_13 {M : Nat} {μ : JM} {l : List Int32} {ts : List Int64} {k : Nat} (h : mAt M μ l ts k) : ∃ r ν, fX11_expects M 498 μ = some (r, ν, 0, 0) ∧ sm M TK [9] μ ν ∧ mR M ν l ts k r (exC (Cd l) (-3013) k) := by
  have := mA_exW h 13 (by decide)
  rw [oc_13] at this; exact this
theorem oc_14 : (-3000 : Int64) - lN 14 = -3014 := by decide
theorem mw_14 {M : Nat} {μ : JM} {l : List Int32} {ts : List Int64} {k : Nat} (h : mAt M μ l ts k) : fX11_isWord M 14836 μ = some (if Cd l k = -3014 then 1 else 0, μ, 0, 0) := by
  have := mA_isWord h 14 (by decide)
  rw [oc_14] at this; exact this
theorem me_14 {M : Nat} {μ : JM} {l : List Int32} {ts : List Int64} {k : Nat} (h : mAt M μ l ts k) : ∃ r ν, fX11_expects M 14836 μ = some (r, ν, 0, 0) ∧ sm M TK [9] μ ν ∧ mR M ν l ts k r (exC (Cd l) (-3014) k) := by
  have := mA_exW h 14 (by decide)
  rw [oc_14] at this; exact this
theorem oc_15 : (-3000 : Int64) - lN 15 = -3015 := by decide
theorem mw_15 {M : Nat} {μ : JM} {l : List Int32} {ts : List Int64} {k : Nat} (h : mAt M μ l ts k) : fX11_isWord M 659105125 μ = some (if Cd l k = -3015 then 1 else 0, μ, 0, 0) := by
  have := mA_isWord h 15 (by decide)
  rw [oc_15] at this; exact this
theorem me_15 {M : Nat} {μ : JM} {l : List Int32} {ts : List Int64} {k : Nat} (h : mAt M μ l ts k) : ∃ r ν, fX11_expects M 659105125 μ = some (r, ν, 0, 0) ∧ sm M TK [9] μ ν ∧ mR M ν l ts k r (exC (Cd l) (-3015) k) := by
  have := mA_exW h 15 (by decide)
  rw [oc_15] at this; exact this
theorem oc_16 : (-3000 : Int64) - lN 16 = -3016 := by decide
theorem mw_16 {M : Nat} {μ : JM} {l : List Int32} {ts : List Int64} {k : Nat} (h : mAt M μ l ts k) : fX11_isWord M 19512296549 μ = some (if Cd l k = -3016 then 1 else 0, μ, 0, 0) := by
  have := mA_isWord h 16 (by decide)
  rw [oc_16] at this; exact this
theorem me_16 {M : Nat} {μ : JM} {l : List Int32} {ts : List Int64} {k : Nat} (h : mAt M μ l ts k) : ∃ r ν, fX11_expects M 19512296549 μ = some (r, ν, 0, 0) ∧ sm M TK [9] μ ν ∧ mR M ν l ts k r (exC (Cd l) (-3016) k) := by
  have := mA_exW h 16 (by decide)
  rw [oc_16] at this; exact this
theorem oc_17 : (-3000 : Int64) - lN 17 = -3017 := by decide
theorem mw_17 {M : Nat} {μ : JM} {l : List Int32} {ts : List Int64} {k : Nat} (h : mAt M μ l ts k) : fX11_isWord M 1156 μ = some (if Cd l k = -3017 then 1 else 0, μ, 0, 0) := by
  have := mA_isWord h 17 (by decide)
  rw [oc_17] at this; exact this
theorem me_17 {M : Nat} {μ : JM} {l : List Int32} {ts : List Int64} {k : Nat} (h : mAt M μ l ts k) : ∃ r ν, fX11_expects M 1156 μ = some (r, ν, 0, 0) ∧ sm M TK [9] μ ν ∧ mR M ν l ts k r (exC (Cd l) (-3017) k) := by
  have := mA_exW h 17 (by decide)
  rw [oc_17] at this; exact this
theorem os_58 : (-1 : Int64) - lN 58 = -59 := by decide
theorem ms_58 {M : Nat} {μ : JM} {l : List Int32} {ts : List Int64} {k : Nat} (h : mAt M μ l ts k) : fX11_isSign M 58 μ = some (if Cd l k = -59 then 1 else 0, μ, 0, 0) := by
  have := mA_isSign h 58 (by decide)
  rw [os_58] at this; exact this
theorem mx_58 {M : Nat} {μ : JM} {l : List Int32} {ts : List Int64} {k : Nat} (h : mAt M μ l ts k) : ∃ r ν, fX11_expectsSign M 58 μ = some (r, ν, 0, 0) ∧ sm M TK [9] μ ν ∧ mR M ν l ts k r (exC (Cd l) (-59) k) := by
  have := mA_exS h 58 (by decide)
  rw [os_58] at this; exact this
theorem os_59 : (-1 : Int64) - lN 59 = -60 := by decide
theorem ms_59 {M : Nat} {μ : JM} {l : List Int32} {ts : List Int64} {k : Nat} (h : mAt M μ l ts k) : fX11_isSign M 59 μ = some (if Cd l k = -60 then 1 else 0, μ, 0, 0) := by
  have := mA_isSign h 59 (by decide)
  rw [os_59] at this; exact this
theorem mx_59 {M : Nat} {μ : JM} {l : List Int32} {ts : List Int64} {k : Nat} (h : mAt M μ l ts k) : ∃ r ν, fX11_expectsSign M 59 μ = some (r, ν, 0, 0) ∧ sm M TK [9] μ ν ∧ mR M ν l ts k r (exC (Cd l) (-60) k) := by
  have := mA_exS h 59 (by decide)
  rw [os_59] at this; exact this
theorem os_40 : (-1 : Int64) - lN 40 = -41 := by decide
theorem ms_40 {M : Nat} {μ : JM} {l : List Int32} {ts : List Int64} {k : Nat} (h : mAt M μ l ts k) : fX11_isSign M 40 μ = some (if Cd l k = -41 then 1 else 0, μ, 0, 0) := by
  have := mA_isSign h 40 (by decide)
  rw [os_40] at this; exact this
theorem mx_40 {M : Nat} {μ : JM} {l : List Int32} {ts : List Int64} {k : Nat} (h : mAt M μ l ts k) : ∃ r ν, fX11_expectsSign M 40 μ = some (r, ν, 0, 0) ∧ sm M TK [9] μ ν ∧ mR M ν l ts k r (exC (Cd l) (-41) k) := by
  have := mA_exS h 40 (by decide)
  rw [os_40] at this; exact this
theorem os_41 : (-1 : Int64) - lN 41 = -42 := by decide
theorem ms_41 {M : Nat} {μ : JM} {l : List Int32} {ts : List Int64} {k : Nat} (h : mAt M μ l ts k) : fX11_isSign M 41 μ = some (if Cd l k = -42 then 1 else 0, μ, 0, 0) := by
  have := mA_isSign h 41 (by decide)
  rw [os_41] at this; exact this
theorem mx_41 {M : Nat} {μ : JM} {l : List Int32} {ts : List Int64} {k : Nat} (h : mAt M μ l ts k) : ∃ r ν, fX11_expectsSign M 41 μ = some (r, ν, 0, 0) ∧ sm M TK [9] μ ν ∧ mR M ν l ts k r (exC (Cd l) (-42) k) := by
  have := mA_exS h 41 (by decide)
  rw [os_41] at this; exact this
theorem isT_lit {c : Int64} {z : Int} (d : Int64) (h : c = d) (hd : d.toInt = z) (hz : 0 < z ∨ z ≤ -3000 ∨ (-2000 < z ∧ z ≤ -1000) ∨ z = -59 ∨ z = -60 ∨ z = -41 ∨ z = -42) : isT c := by
  subst h
  unfold isT
  rw [isSg_iff, hd]; omega
/-! bits of longs -/
def lb (x : Int64) (i : Nat) : Bool := x.toBitVec.getLsbD i
theorem l_ext {x y : Int64} (h : ∀ i, i < 64 → lb x i = lb y i) : x = y := Int64.toBitVec_inj.mp (BitVec.eq_of_getLsbD_eq (fun i hi => h i hi))
theorem l_or (x y : Int64) (i : Nat) : lb (x ||| y) i = (lb x i || lb y i) := by unfold lb; rw [Int64.toBitVec_or, BitVec.getLsbD_or]
theorem l_and (x y : Int64) (i : Nat) : lb (x &&& y) i = (lb x i && lb y i) := by unfold lb; rw [Int64.toBitVec_and, BitVec.getLsbD_and]
theorem l_xor (x y : Int64) (i : Nat) : lb (x ^^^ y) i = (lb x i ^^ lb y i) := by unfold lb; rw [Int64.toBitVec_xor, BitVec.getLsbD_xor]
theorem l_m1 : ∀ i, i < 64 → lb (-1) i = true := by decide +kernel
theorem l_0 (i : Nat) : lb 0 i = false := BitVec.getLsbD_zero
theorem lx_and (d g a : Int64) : (d &&& a) &&& (g &&& a) = (d &&& g) &&& a := l_ext fun i hi => by simp only [l_and]; cases lb d i <;> cases lb g i <;> cases lb a i <;> rfl
theorem lx_or (d g a : Int64) : (d &&& a) ||| (g &&& a) = (d ||| g) &&& a := l_ext fun i hi => by simp only [l_and, l_or]; cases lb d i <;> cases lb g i <;> cases lb a i <;> rfl
theorem lx_not (d a : Int64) : ((d &&& a) ^^^ (-1)) &&& a = (d ^^^ (-1)) &&& a := l_ext fun i hi => by simp only [l_and, l_xor, l_m1 i hi]; cases lb d i <;> cases lb a i <;> rfl
theorem lx_m1 (a : Int64) : (-1) &&& a = a := l_ext fun i hi => by simp only [l_and, l_m1 i hi]; cases lb a i <;> rfl
theorem lx_z (a : Int64) : 0 &&& a = 0 := l_ext fun i hi => by simp only [l_and, l_0]; rfl
theorem jnv_is (n : Nat) (v : CS) (a : Int64) (i : Nat) : jnv n (v i &&& a) a = cfl n v i &&& a := by
  unfold jnv cfl; split
  · exact lx_not _ _
  · rfl
theorem mRow.cg {M : Nat} {μ : JM} {d n : Nat} {o a o2 a2 : CS} (h : mRow M μ d n o a) (h1 : ∀ i, i < 4 → o i = o2 i) (h2 : ∀ i, i < 4 → a i = a2 i) : mRow M μ d n o2 a2 := ⟨h.1, fun i hi => by rw [← h1 i hi, ← h2 i hi]; exact h.2 i hi⟩
def mLv (M : Nat) (μ : JM) (d : Nat) (t : Lv) : Prop := mRow M μ d t.1 (fun i => t.2.1 i &&& jJ μ (M + 10) i) (fun i => t.2.2 i &&& jJ μ (M + 10) i)
def mLs (M : Nat) (μ : JM) : List Lv → Prop
  | [] => True
  | t :: r => mLv M μ r.length t ∧ mLs M μ r
theorem mLs.but {M : Nat} {μ ν : JM} {d : Nat} (h : rowsBut M μ ν d) (hA : jJ ν (M + 10) = jJ μ (M + 10)) : ∀ r : List Lv, r.length ≤ d → mLs M μ r → mLs M ν r
  | [], _, _ => trivial
  | t :: r, hd, g => by
    simp only [List.length_cons] at hd
    refine ⟨?_, mLs.but h hA r (by omega) g.2⟩
    unfold mLv
    rw [hA]; exact h _ _ _ _ (by omega) g.1
theorem mLs.sm {M : Nat} {fs as : List Nat} {μ ν : JM} (q : sm M fs as μ ν) (ha : ∀ i ∈ [10, 13, 14, 15], i ∉ as) : ∀ r : List Lv, mLs M μ r → mLs M ν r
  | [], _ => trivial
  | t :: r, g => by
    refine ⟨?_, mLs.sm q ha r g.2⟩
    obtain ⟨g1, g2⟩ := g.1
    refine ⟨by rw [q.aI (by decide) (ha 15 (by decide))]; exact g1, fun i hi => ?_⟩
    rw [q.aJ (by decide) (ha 13 (by decide)), q.aJ (by decide) (ha 14 (by decide)), q.aJ (by decide) (ha 10 (by decide))]; exact g2 i hi
/-- what condition() needs to stand on -/
def CI (M : Nat) (μ : JM) (l : List Int32) (F : List Int64) (N : List (Int64 × CS)) (wh : Bool) : Prop := mFa M μ F ∧ mNa M μ N ∧ jI μ M 33 = (if wh then 1 else 0)
def CA : List Nat := [9, 13, 14, 15, 16]
theorem CI.sm {M : Nat} {μ ν : JM} {l : List Int32} {F : List Int64} {N : List (Int64 × CS)} {wh : Bool} {fs as : List Nat} (h : CI M μ l F N wh) (q : sm M fs as μ ν) (hf : ∀ i ∈ [2, 29, 33], i ∉ fs) (ha : ∀ i ∈ [2, 3, 10, 12, 17, 18, 19], i ∉ as) : CI M ν l F N wh :=
  ⟨h.1.sm q (hf 2 (by decide)) (fun i hi => ha i (by revert i; decide)), h.2.1.sm q (hf 29 (by decide)) (fun i hi => ha i (by revert i; decide)), (q.fI (hf 33 (by decide))).trans h.2.2⟩
theorem mNow.sm {M : Nat} {μ ν : JM} {v : CS} {fs as : List Nat} (h : mNow M μ v) (q : sm M fs as μ ν) (h1 : 16 ∉ as) (h2 : 10 ∉ as) : mNow M ν v := fun i hi => by rw [q.aJ (by decide) h1, q.aJ (by decide) h2]; exact h i hi
