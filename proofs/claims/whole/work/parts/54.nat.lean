/-! Numbers of the machine that are small, as natural numbers. Written by wip/pure/expand.py. Own rows. -/
def nM : Int32 := -1
theorem nL_0 : (0 : Int32) = nI 0 := (rfl : (0 : Int32) = nI 0).trans rfl
theorem nL_1 : (1 : Int32) = nI 1 := (rfl : (1 : Int32) = nI 1).trans rfl
theorem nL_2 : (2 : Int32) = nI 2 := (rfl : (2 : Int32) = nI 2).trans rfl
theorem nL_3 : (3 : Int32) = nI 3 := (rfl : (3 : Int32) = nI 3).trans rfl
theorem nL_4 : (4 : Int32) = nI 4 := (rfl : (4 : Int32) = nI 4).trans rfl
theorem nL_7 : (7 : Int32) = nI 7 := (rfl : (7 : Int32) = nI 7).trans rfl
theorem nL_8 : (8 : Int32) = nI 8 := (rfl : (8 : Int32) = nI 8).trans rfl
theorem nL_10 : (10 : Int32) = nI 10 := (rfl : (10 : Int32) = nI 10).trans rfl
theorem nL_14 : (14 : Int32) = nI 14 := (rfl : (14 : Int32) = nI 14).trans rfl
theorem nL_15 : (15 : Int32) = nI 15 := (rfl : (15 : Int32) = nI 15).trans rfl
theorem nL_16 : (16 : Int32) = nI 16 := (rfl : (16 : Int32) = nI 16).trans rfl
theorem nL_17 : (17 : Int32) = nI 17 := (rfl : (17 : Int32) = nI 17).trans rfl
theorem nL_25 : (25 : Int32) = nI 25 := (rfl : (25 : Int32) = nI 25).trans rfl
theorem nL_26 : (26 : Int32) = nI 26 := (rfl : (26 : Int32) = nI 26).trans rfl
theorem nL_31 : (31 : Int32) = nI 31 := (rfl : (31 : Int32) = nI 31).trans rfl
theorem nL_32 : (32 : Int32) = nI 32 := (rfl : (32 : Int32) = nI 32).trans rfl
theorem nL_33 : (33 : Int32) = nI 33 := (rfl : (33 : Int32) = nI 33).trans rfl
theorem nL_56 : (56 : Int32) = nI 56 := (rfl : (56 : Int32) = nI 56).trans rfl
theorem nL_63 : (63 : Int32) = nI 63 := (rfl : (63 : Int32) = nI 63).trans rfl
theorem nL_64 : (64 : Int32) = nI 64 := (rfl : (64 : Int32) = nI 64).trans rfl
theorem nL_65 : (65 : Int32) = nI 65 := (rfl : (65 : Int32) = nI 65).trans rfl
theorem nL_126 : (126 : Int32) = nI 126 := (rfl : (126 : Int32) = nI 126).trans rfl
theorem nL_128 : (128 : Int32) = nI 128 := (rfl : (128 : Int32) = nI 128).trans rfl
theorem nL_200 : (200 : Int32) = nI 200 := (rfl : (200 : Int32) = nI 200).trans rfl
theorem nL_255 : (255 : Int32) = nI 255 := (rfl : (255 : Int32) = nI 255).trans rfl
theorem nL_256 : (256 : Int32) = nI 256 := (rfl : (256 : Int32) = nI 256).trans rfl
theorem nL_1000 : (1000 : Int32) = nI 1000 := (rfl : (1000 : Int32) = nI 1000).trans rfl
theorem nL_8192 : (8192 : Int32) = nI 8192 := (rfl : (8192 : Int32) = nI 8192).trans rfl
theorem nL_5 : (5 : Int32) = nI 5 := (rfl : (5 : Int32) = nI 5).trans rfl
theorem nL_6 : (6 : Int32) = nI 6 := (rfl : (6 : Int32) = nI 6).trans rfl
theorem nJ_m1 : -nI 1 = nM := (rfl : -nI 1 = nM).trans rfl
theorem nJ_bs {α β : Type} (a : α) (f : α → Option β) : (some a).bind f = f a := (rfl : (some a).bind f = f a).trans rfl
theorem nM_self : (nM = nM) = True := eq_self nM
theorem nJ_mul (a b : Nat) : nI a * nI b = nI (a * b) := (Int32.ofNat_mul a b).symm
theorem nJ_sub {a b : Nat} (h : b ≤ a) (ha : a < 2147483648) : nI a - nI b = nI (a - b) := by
  have e : nI a = nI (a - b) + nI b := by rw [nI_add, Nat.sub_add_cancel h]
  rw [e, Int32.add_sub_cancel]
theorem nJ_div {a b : Nat} (ha : a < 2147483648) (hb : b < 2147483648) : nI a / nI b = nI (a / b) := (Int32.ofNat_div (a := a) (b := b) ha hb).symm
theorem nJ_lt {a b : Nat} (ha : a < 2147483648) (hb : b < 2147483648) : (nI a < nI b) = (a < b) := propext (nI_ltI ha hb)
theorem nJ_le {a b : Nat} (ha : a < 2147483648) (hb : b < 2147483648) : (nI a ≤ nI b) = (a ≤ b) := propext (nI_leI ha hb)
theorem nJ_eq {a b : Nat} (ha : a < 2147483648) (hb : b < 2147483648) : (nI a = nI b) = (a = b) := propext (nI_eq ha hb)
theorem nJ_cl {a : Nat} (ha : a < 2147483648) : (nI a).toNatClampNeg = a := nI_clamp ha
theorem nJ_in {a N : Nat} (ha : a < 2147483648) : (jin (nI a) N = true) = (a < N) := by
  unfold jin
  rw [nI_toInt ha, decide_eq_true_eq]
  exact propext ⟨fun h => by omega, fun h => by omega⟩
theorem nJ_md (a n : Nat) : a - a / n * n = a % n := by
  have := Nat.div_add_mod a n
  rw [Nat.mul_comm] at this
  omega
theorem nJ_rb (f : By) (k : Nat) : (f k).toInt32 &&& nI 255 = nI (rb f k) := by
  have h : ∀ v, v < 256 → (Int8.ofNat v).toInt32 &&& nI 255 = nI v := by decide +kernel
  have e : f k = Int8.ofNat (rb f k) := by
    refine Int8.toBitVec_inj.mp (BitVec.eq_of_toNat_eq ?_)
    rw [Int8.toBitVec_ofNat', BitVec.toNat_ofNat, Nat.mod_eq_of_lt (rb_lt f k)]
    rfl
  rw [e]
  exact h _ (rb_lt f k)
theorem nJ_i8 (x : Int8) : x.toInt32.toInt8 = x := by simp
theorem nJ_b81 (v : Nat) : (nI v).toInt8 = b8 v := by
  refine Int8.toBitVec_inj.mp (BitVec.eq_of_toNat_eq ?_)
  rw [bt8]
  show ((BitVec.ofNat 32 v).signExtend 8).toNat = _
  rw [BitVec.signExtend_eq_setWidth_of_le _ (by decide)]
  simp only [BitVec.toNat_setWidth, BitVec.toNat_ofNat]
  omega
theorem nJ_b8 (v : Nat) : (nI v).toInt8.toInt32.toInt8 = b8 v := by rw [nJ_i8, nJ_b81]
theorem nJ_ifz {p : Prop} [Decidable p] {α : Type} (A B : α) : (if nI (if p then 1 else 0) = nI 0 then A else B) = if p then B else A := by
  by_cases h : p
  · rw [if_pos h, if_pos h, if_neg (by decide)]
  · rw [if_neg h, if_neg h, if_pos rfl]
theorem nM_toInt : nM.toInt = -1 := by decide
theorem nM_eq {a : Nat} (ha : a < 2147483648) : (nI a = nM) = False := by
  refine eq_false (fun h => ?_)
  have := congrArg Int32.toInt h
  rw [nI_toInt ha, nM_toInt] at this
  omega
theorem nM_eq2 {a : Nat} (ha : a < 2147483648) : (nM = nI a) = False := by
  refine eq_false (fun h => ?_)
  have := congrArg Int32.toInt h
  rw [nI_toInt ha, nM_toInt] at this
  omega
theorem nM_lt {a : Nat} (ha : a < 2147483648) : (nM < nI a) = True := by
  refine eq_true (Int32.lt_iff_toInt_lt.mpr ?_)
  rw [nI_toInt ha, nM_toInt]
  omega
theorem nM_le {a : Nat} (ha : a < 2147483648) : (nM ≤ nI a) = True := by
  refine eq_true (Int32.le_iff_toInt_le.mpr ?_)
  rw [nI_toInt ha, nM_toInt]
  omega
theorem nM_nle {a : Nat} (ha : a < 2147483648) : (nI a ≤ nM) = False := by
  refine eq_false (fun h => ?_)
  have := Int32.le_iff_toInt_le.mp h
  rw [nI_toInt ha, nM_toInt] at this
  omega
theorem nM_nlt {a : Nat} (ha : a < 2147483648) : (nI a < nM) = False := by
  refine eq_false (fun h => ?_)
  have := Int32.lt_iff_toInt_lt.mp h
  rw [nI_toInt ha, nM_toInt] at this
  omega
set_option maxRecDepth 20000 in
theorem nT_bit : ∀ v, v < 256 → ∀ j, j < 8 → (nI v >>> (nI j &&& nI 31)) &&& nI 1 = nI (v / 2 ^ j % 2) := by decide +kernel
set_option maxRecDepth 20000 in
theorem nT_on : ∀ v, v < 256 → ∀ j, j < 8 → nI v ||| (nI 1 <<< (nI j &&& nI 31)) = nI (v + (1 - v / 2 ^ j % 2) * 2 ^ j) := by decide +kernel
set_option maxRecDepth 20000 in
theorem nT_off : ∀ v, v < 256 → ∀ j, j < 8 → nI v &&& ((nI 1 <<< (nI j &&& nI 31)) ^^^ nM) = nI (v - v / 2 ^ j % 2 * 2 ^ j) := by decide +kernel
set_option maxRecDepth 20000 in
theorem nT_shr8 : ∀ e, e < 1024 → nI e >>> (nI 8 &&& nI 31) = nI (e / 256) := by decide +kernel
theorem nT_size {a b : Nat} (ha : a < 256) (hb : b < 256) : (nI a <<< (nI 8 &&& nI 31)) ||| nI b = nI (256 * a + b) := by
  have h1 : ∀ x, x < 256 → nI x <<< (nI 8 &&& nI 31) = nI (2 ^ 8 * x) := by decide +kernel
  rw [h1 a ha, show 256 * a + b = 2 ^ 8 * a + b from rfl, Nat.two_pow_add_eq_or_of_lt (by omega)]
  exact Int32.toBitVec_inj.mp (BitVec.ofNat_or).symm
