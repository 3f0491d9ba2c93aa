/-! Bytes of a long. Own rows. -/
def nb (x : Int64) (k : Nat) : Nat := x.toBitVec.toNat / 2 ^ (8 * (7 - k)) % 256
theorem nb_lt (x : Int64) (k : Nat) : nb x k < 256 := Nat.mod_lt _ (by decide)
theorem lo8_32 (y : BitVec 64) : (Int64.ofBitVec y).toInt32 &&& nI 255 = nI (y.toNat % 256) := by
  refine Int32.toBitVec_inj.mp (BitVec.eq_of_toNat_eq ?_)
  show (y.signExtend 32 &&& BitVec.ofNat 32 255).toNat = (BitVec.ofNat 32 (y.toNat % 256)).toNat
  rw [BitVec.signExtend_eq_setWidth_of_le _ (by decide), BitVec.toNat_and, BitVec.toNat_setWidth, BitVec.toNat_ofNat, BitVec.toNat_ofNat]
  rw [show 255 % 2 ^ 32 = 2 ^ 8 - 1 by decide, Nat.and_two_pow_sub_one_eq_mod]
  omega
theorem cC_sh : ∀ k, k < 8 → (nI 8 * (nI 7 - nI k)).toInt64.toUInt64 &&& Int64.toUInt64 63 = UInt64.ofNat (8 * (7 - k)) := by decide +kernel
theorem cR_sh : ∀ k, k < 8 → (nI 56 - nI 8 * nI k).toInt64 &&& 63 = Int64.ofNat (8 * (7 - k)) := by decide +kernel
theorem sm64 : ∀ k, k < 8 → ((Int64.ofNat (8 * (7 - k))).toBitVec.smod 64#64).toNat = 8 * (7 - k) := by decide +kernel
theorem um64 : ∀ k, k < 8 → ((UInt64.ofNat (8 * (7 - k))).toBitVec % 64#64).toNat = 8 * (7 - k) := by decide +kernel
theorem C_byteOf (x : Int64) {k : Nat} (hk : k < 8) : J_LogFs_byteOf x (nI k) = some (nI (nb x k)) := by
  unfold J_LogFs_byteOf
  rw [nL_8, nL_7, nL_255, cC_sh k hk]
  congr 1
  have e : (x.toUInt64 >>> UInt64.ofNat (8 * (7 - k))).toInt64 = Int64.ofBitVec (x.toBitVec >>> (8 * (7 - k))) := by
    refine Int64.toBitVec_inj.mp ?_
    show (x.toUInt64 >>> UInt64.ofNat (8 * (7 - k))).toBitVec = _
    rw [UInt64.toBitVec_shiftRight]
    show x.toBitVec >>> ((UInt64.ofNat (8 * (7 - k))).toBitVec % 64#64) = _
    rw [BitVec.ushiftRight_eq', um64 k hk]
    rfl
  rw [e, lo8_32, BitVec.toNat_ushiftRight, Nat.shiftRight_eq_div_pow]
  rfl
theorem ssh8 (y : BitVec 64) {s : Nat} (hs : s ≤ 56) : (y.sshiftRight s).toNat % 256 = y.toNat / 2 ^ s % 256 := by
  have h : (y.sshiftRight s).setWidth 8 = (y >>> s).setWidth 8 := by
    ext i hi
    simp only [BitVec.getElem_setWidth, BitVec.getLsbD_sshiftRight, BitVec.getLsbD_ushiftRight]
    rw [if_pos (by omega)]
    simp [show i < 64 by omega]
  have h2 := congrArg BitVec.toNat h
  rw [BitVec.toNat_setWidth, BitVec.toNat_setWidth, BitVec.toNat_ushiftRight, Nat.shiftRight_eq_div_pow] at h2
  exact h2
theorem R_shr (x : Int64) {k : Nat} (hk : k < 8) : x >>> ((nI 56 - nI 8 * nI k).toInt64 &&& 63) = Int64.ofBitVec (x.toBitVec.sshiftRight (8 * (7 - k))) := by
  rw [cR_sh k hk]
  refine Int64.toBitVec_inj.mp ?_
  rw [Int64.toBitVec_shiftRight]
  show x.toBitVec.sshiftRight ((Int64.ofNat (8 * (7 - k))).toBitVec.smod 64#64).toNat = _
  rw [sm64 k hk]
  rfl
theorem R_byte (x : Int64) {k : Nat} (hk : k < 8) : ((x >>> ((nI 56 - nI 8 * nI k).toInt64 &&& 63)) &&& (255 : Int64)).toInt32 = nI (nb x k) := by
  rw [R_shr x hk]
  refine Int32.toBitVec_inj.mp (BitVec.eq_of_toNat_eq ?_)
  show ((x.toBitVec.sshiftRight (8 * (7 - k)) &&& 255#64).signExtend 32).toNat = (BitVec.ofNat 32 (nb x k)).toNat
  rw [BitVec.signExtend_eq_setWidth_of_le _ (by decide), BitVec.toNat_setWidth, BitVec.toNat_and, BitVec.toNat_ofNat, BitVec.toNat_ofNat]
  rw [show 255 % 2 ^ 64 = 2 ^ 8 - 1 by decide, Nat.and_two_pow_sub_one_eq_mod]
  have := ssh8 x.toBitVec (s := 8 * (7 - k)) (by omega)
  have h2 := nb_lt x k
  unfold nb at h2 ⊢
  omega
theorem R_byte8 (x : Int64) {k : Nat} (hk : k < 8) : (x >>> ((nI 56 - nI 8 * nI k).toInt64 &&& 63)).toInt32.toInt8 = b8 (nb x k) := by
  rw [R_shr x hk]
  refine Int8.toBitVec_inj.mp (BitVec.eq_of_toNat_eq ?_)
  rw [bt8]
  show (((x.toBitVec.sshiftRight (8 * (7 - k))).signExtend 32).signExtend 8).toNat = _
  rw [BitVec.signExtend_eq_setWidth_of_le _ (by decide), BitVec.signExtend_eq_setWidth_of_le _ (by decide), BitVec.toNat_setWidth, BitVec.toNat_setWidth]
  have := ssh8 x.toBitVec (s := 8 * (7 - k)) (by omega)
  have h2 := nb_lt x k
  unfold nb at h2 ⊢
  omega
/-- eight bytes, the highest first -/
def oL (n : Nat) : Int64 := Int64.ofNat n
theorem oL_nat (n : Nat) : (oL n).toBitVec.toNat = n % 2 ^ 64 := by
  show (BitVec.ofNat 64 n).toNat = _
  rw [BitVec.toNat_ofNat]
theorem oL_of (x : Int64) : x = oL x.toBitVec.toNat := by
  refine Int64.toBitVec_inj.mp (BitVec.eq_of_toNat_eq ?_)
  rw [oL_nat, Nat.mod_eq_of_lt x.toBitVec.isLt]
theorem oL_eq {a b : Nat} (ha : a < 2 ^ 64) (hb : b < 2 ^ 64) : oL a = oL b ↔ a = b := by
  refine ⟨fun h => ?_, fun h => by rw [h]⟩
  have := congrArg (fun z : Int64 => z.toBitVec.toNat) h
  rw [oL_nat, oL_nat, Nat.mod_eq_of_lt ha, Nat.mod_eq_of_lt hb] at this
  exact this
theorem c8_64 : (nI 8).toInt64 &&& 63 = (8 : Int64) := by decide +kernel
theorem s8_64 : ((8 : Int64).toBitVec.smod 64#64).toNat = 8 := by decide +kernel
theorem oL_shl (n : Nat) : oL n <<< ((nI 8).toInt64 &&& 63) = oL (n * 256) := by
  rw [c8_64]
  refine Int64.toBitVec_inj.mp (BitVec.eq_of_toNat_eq ?_)
  rw [Int64.toBitVec_shiftLeft]
  show ((oL n).toBitVec <<< ((8 : Int64).toBitVec.smod 64#64).toNat).toNat = _
  rw [s8_64, BitVec.toNat_shiftLeft, oL_nat, oL_nat, Nat.shiftLeft_eq]
  omega
theorem nI_oL {b : Nat} (hb : b < 2147483648) : (nI b).toInt64 = oL b := nI_l hb
theorem oL_or {n b : Nat} (hb : b < 256) : oL (n * 256) ||| oL b = oL (n * 256 + b) := by
  rw [show n * 256 + b = 2 ^ 8 * n + b by omega, Nat.two_pow_add_eq_or_of_lt (by omega), show 2 ^ 8 * n = n * 256 by omega]
  exact Int64.toBitVec_inj.mp (BitVec.ofNat_or).symm
/-- a long out of its bytes -/
theorem nb_sum (x : Int64) : x.toBitVec.toNat = 72057594037927936 * nb x 0 + 281474976710656 * nb x 1 + 1099511627776 * nb x 2 + 4294967296 * nb x 3 + 16777216 * nb x 4 + 65536 * nb x 5 + 256 * nb x 6 + nb x 7 := by
  have h := x.toBitVec.isLt
  generalize hn : x.toBitVec.toNat = n at h
  unfold nb
  rw [hn]
  simp only [Nat.reduceSub, Nat.reduceMul, Nat.reducePow]
  omega
