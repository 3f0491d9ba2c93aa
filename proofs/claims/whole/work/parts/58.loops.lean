/-! Loops that only read. Own rows. -/
def pI (M : By) : Nat → Bool := fun i => decide (ty M i = 0)
def pB (M : By) : Nat → Bool := fun b => decide (bit M b = 0)
/-- how many blocks are free; the least free one -/
def fb (M : By) : Nat := cn (pB M) 128 0
def lfb (M : By) : Nat := fi (pB M) 128 0
def lfi (M : By) : Nat := fi (pI M) 32 0
def pc8 (v : Nat) : Nat := v % 2 + v / 2 % 2 + v / 4 % 2 + v / 8 % 2 + v / 16 % 2 + v / 32 % 2 + v / 64 % 2 + v / 128 % 2
set_option maxRecDepth 20000 in
theorem bc8 : ∀ v, v < 256 → J_Integer_bitCount (nI v) = some (nI (pc8 v)) := by decide +kernel
theorem pc8_le (v : Nat) : pc8 v ≤ 8 := by unfold pc8; omega
theorem pI_eq (M : By) (v : Nat) : (pI M v = true) = (ty M v = 0) := propext decide_eq_true_iff
theorem pB_eq (M : By) (v : Nat) : (pB M v = true) = (bit M v = 0) := propext decide_eq_true_iff
theorem if01 {y : Nat} (h : y < 2) : (if y = 0 then 1 else 0) + y = 1 := by split <;> omega
theorem cn8 (M : By) (v : Nat) : cn (pB M) 8 (8 * v) + pc8 (rb M (1600 + v)) = 8 := by
  have h : ∀ j, j < 8 → (if pB M (8 * v + j) = true then 1 else 0) + rb M (1600 + v) / 2 ^ j % 2 = 1 := fun j hj => by
    have e : bit M (8 * v + j) = rb M (1600 + v) / 2 ^ j % 2 := by
      unfold bit
      rw [show (8 * v + j) / 8 = v by omega, show (8 * v + j) % 8 = j by omega]
    simp only [pB_eq, e]
    exact if01 (Nat.mod_lt _ (by decide))
  have e : cn (pB M) 8 (8 * v) = (if pB M (8 * v + 0) = true then 1 else 0) + ((if pB M (8 * v + 1) = true then 1 else 0) + ((if pB M (8 * v + 2) = true then 1 else 0) + ((if pB M (8 * v + 3) = true then 1 else 0) + ((if pB M (8 * v + 4) = true then 1 else 0) + ((if pB M (8 * v + 5) = true then 1 else 0) + ((if pB M (8 * v + 6) = true then 1 else 0) + ((if pB M (8 * v + 7) = true then 1 else 0) + 0))))))) := rfl
  have h0 := h 0 (by omega)
  have h1 := h 1 (by omega)
  have h2 := h 2 (by omega)
  have h3 := h 3 (by omega)
  have h4 := h 4 (by omega)
  have h5 := h 5 (by omega)
  have h6 := h 6 (by omega)
  have h7 := h 7 (by omega)
  rw [e]
  unfold pc8
  rw [show rb M (1600 + v) % 2 = rb M (1600 + v) / 2 ^ 0 % 2 by rw [Nat.pow_zero, Nat.div_one], show rb M (1600 + v) / 2 % 2 = rb M (1600 + v) / 2 ^ 1 % 2 from rfl, show rb M (1600 + v) / 4 % 2 = rb M (1600 + v) / 2 ^ 2 % 2 from rfl, show rb M (1600 + v) / 8 % 2 = rb M (1600 + v) / 2 ^ 3 % 2 from rfl, show rb M (1600 + v) / 16 % 2 = rb M (1600 + v) / 2 ^ 4 % 2 from rfl, show rb M (1600 + v) / 32 % 2 = rb M (1600 + v) / 2 ^ 5 % 2 from rfl, show rb M (1600 + v) / 64 % 2 = rb M (1600 + v) / 2 ^ 6 % 2 from rfl, show rb M (1600 + v) / 128 % 2 = rb M (1600 + v) / 2 ^ 7 % 2 from rfl]
  generalize rb M (1600 + v) / 2 ^ 0 % 2 = a0 at h0 ⊢
  generalize rb M (1600 + v) / 2 ^ 1 % 2 = a1 at h1 ⊢
  generalize rb M (1600 + v) / 2 ^ 2 % 2 = a2 at h2 ⊢
  generalize rb M (1600 + v) / 2 ^ 3 % 2 = a3 at h3 ⊢
  generalize rb M (1600 + v) / 2 ^ 4 % 2 = a4 at h4 ⊢
  generalize rb M (1600 + v) / 2 ^ 5 % 2 = a5 at h5 ⊢
  generalize rb M (1600 + v) / 2 ^ 6 % 2 = a6 at h6 ⊢
  generalize rb M (1600 + v) / 2 ^ 7 % 2 = a7 at h7 ⊢
  omega
section CC
variable {σ : CS} {M : By} {L : List Nat}
theorem C_lfi0 (m : CM σ M L) : ∀ d n v, v + d = 32 → d < n → J_Volume_leastFreeInode_2 n σ (nI v) = some (if fi (pI M) d v < 32 then nI (fi (pI M) d v) else nM) := by
  intro d
  induction d with
  | zero =>
    intro n v hv hn
    obtain ⟨n, rfl⟩ : ∃ k, n = k + 1 := ⟨n - 1, by omega⟩
    show J_Volume_leastFreeInode_2_b _ σ (nI v) = _
    unfold J_Volume_leastFreeInode_2_b fi
    simp (disch := omega) only [nJ_bs, nJ_ifz, nJ_m1, nI_add, nJ_mul, nJ_sub, nJ_div, nJ_lt, nJ_le, nJ_eq, nJ_cl, nJ_in, nJ_md, nJ_rb, nJ_b8, nJ_b81, nJ_i8, nM_eq, nM_eq2, nM_lt, nM_le, nM_nle, nM_nlt, nM_self, nL_0, nL_1, nL_2, nL_3, nL_4, nL_7, nL_8, nL_10, nL_14, nL_15, nL_16, nL_17, nL_25, nL_26, nL_31, nL_32, nL_33, nL_56, nL_63, nL_64, nL_65, nL_126, nL_128, nL_200, nL_255, nL_256, nL_1000, nL_8192, nL_5, nL_6, if_true, if_false, if_pos, if_neg]
  | succ d ih =>
    intro n v hv hn
    obtain ⟨n, rfl⟩ : ∃ k, n = k + 1 := ⟨n - 1, by omega⟩
    show J_Volume_leastFreeInode_2_b _ σ (nI v) = _
    have h := ty_lt M v
    unfold J_Volume_leastFreeInode_2_b fi
    simp (disch := omega) only [nJ_bs, nJ_ifz, nJ_m1, nI_add, nJ_mul, nJ_sub, nJ_div, nJ_lt, nJ_le, nJ_eq, nJ_cl, nJ_in, nJ_md, nJ_rb, nJ_b8, nJ_b81, nJ_i8, nM_eq, nM_eq2, nM_lt, nM_le, nM_nle, nM_nlt, nM_self, nL_0, nL_1, nL_2, nL_3, nL_4, nL_7, nL_8, nL_10, nL_14, nL_15, nL_16, nL_17, nL_25, nL_26, nL_31, nL_32, nL_33, nL_56, nL_63, nL_64, nL_65, nL_126, nL_128, nL_200, nL_255, nL_256, nL_1000, nL_8192, nL_5, nL_6, C_ty m (show v < 32 by omega), pI_eq]
    rw [if_neg (by omega)]
    by_cases e : ty M v = 0
    · rw [if_pos e, if_pos e, if_pos (by omega)]
    · rw [if_neg e, if_neg e]
      exact ih n (v + 1) (by omega) (by omega)
theorem C_lfi (m : CM σ M L) : J_Volume_leastFreeInode σ = some (if lfi M < 32 then nI (lfi M) else nM) := C_lfi0 m 32 9000 0 (by omega) (by omega)
theorem C_fin0 (m : CM σ M L) : ∀ d n v x, v + d = 32 → d < n → J_Volume_freeInodes_4 n σ (nI x) (nI v) = some (nI (x + cn (pI M) d v)) := by
  intro d
  induction d with
  | zero =>
    intro n v x hv hn
    obtain ⟨n, rfl⟩ : ∃ k, n = k + 1 := ⟨n - 1, by omega⟩
    show J_Volume_freeInodes_4_b _ σ (nI x) (nI v) = _
    unfold J_Volume_freeInodes_4_b cn
    simp (disch := omega) only [nJ_bs, nJ_ifz, nJ_m1, nI_add, nJ_mul, nJ_sub, nJ_div, nJ_lt, nJ_le, nJ_eq, nJ_cl, nJ_in, nJ_md, nJ_rb, nJ_b8, nJ_b81, nJ_i8, nM_eq, nM_eq2, nM_lt, nM_le, nM_nle, nM_nlt, nM_self, nL_0, nL_1, nL_2, nL_3, nL_4, nL_7, nL_8, nL_10, nL_14, nL_15, nL_16, nL_17, nL_25, nL_26, nL_31, nL_32, nL_33, nL_56, nL_63, nL_64, nL_65, nL_126, nL_128, nL_200, nL_255, nL_256, nL_1000, nL_8192, nL_5, nL_6, if_true, if_false, if_pos, if_neg]
    rfl
  | succ d ih =>
    intro n v x hv hn
    obtain ⟨n, rfl⟩ : ∃ k, n = k + 1 := ⟨n - 1, by omega⟩
    show J_Volume_freeInodes_4_b _ σ (nI x) (nI v) = _
    have h := ty_lt M v
    unfold J_Volume_freeInodes_4_b cn
    simp (disch := omega) only [nJ_bs, nJ_ifz, nJ_m1, nI_add, nJ_mul, nJ_sub, nJ_div, nJ_lt, nJ_le, nJ_eq, nJ_cl, nJ_in, nJ_md, nJ_rb, nJ_b8, nJ_b81, nJ_i8, nM_eq, nM_eq2, nM_lt, nM_le, nM_nle, nM_nlt, nM_self, nL_0, nL_1, nL_2, nL_3, nL_4, nL_7, nL_8, nL_10, nL_14, nL_15, nL_16, nL_17, nL_25, nL_26, nL_31, nL_32, nL_33, nL_56, nL_63, nL_64, nL_65, nL_126, nL_128, nL_200, nL_255, nL_256, nL_1000, nL_8192, nL_5, nL_6, C_ty m (show v < 32 by omega), pI_eq]
    rw [if_neg (by omega)]
    by_cases e : ty M v = 0
    · rw [if_pos e, if_pos e, ih n (v + 1) (x + 1) (by omega) (by omega), Nat.add_assoc]
    · rw [if_neg e, if_neg e, Nat.zero_add]
      exact ih n (v + 1) x (by omega) (by omega)
theorem C_fin (m : CM σ M L) : J_Volume_freeInodes σ = some (nI (cn (pI M) 32 0)) := by
  have := C_fin0 m 32 9000 0 0 (by omega) (by omega)
  rw [Nat.zero_add] at this
  exact this
theorem C_fb0 (m : CM σ M L) : ∀ d n v x, v + d = 16 → d < n → 8 * d ≤ x → x < 1000 → J_Volume_freeBlocks_6 n σ (nI x) (nI v) = some (nI (x + cn (pB M) (8 * d) (8 * v) - 8 * d)) := by
  intro d
  induction d with
  | zero =>
    intro n v x hv hn hx hx2
    obtain ⟨n, rfl⟩ : ∃ k, n = k + 1 := ⟨n - 1, by omega⟩
    show J_Volume_freeBlocks_6_b _ σ (nI x) (nI v) = _
    unfold J_Volume_freeBlocks_6_b
    simp (disch := omega) only [nJ_bs, nJ_ifz, nJ_m1, nI_add, nJ_mul, nJ_sub, nJ_div, nJ_lt, nJ_le, nJ_eq, nJ_cl, nJ_in, nJ_md, nJ_rb, nJ_b8, nJ_b81, nJ_i8, nM_eq, nM_eq2, nM_lt, nM_le, nM_nle, nM_nlt, nM_self, nL_0, nL_1, nL_2, nL_3, nL_4, nL_7, nL_8, nL_10, nL_14, nL_15, nL_16, nL_17, nL_25, nL_26, nL_31, nL_32, nL_33, nL_56, nL_63, nL_64, nL_65, nL_126, nL_128, nL_200, nL_255, nL_256, nL_1000, nL_8192, nL_5, nL_6, if_true, if_false, if_pos, if_neg]
    rfl
  | succ d ih =>
    intro n v x hv hn hx hx2
    obtain ⟨n, rfl⟩ : ∃ k, n = k + 1 := ⟨n - 1, by omega⟩
    show J_Volume_freeBlocks_6_b _ σ (nI x) (nI v) = _
    have h := cn8 M v
    have h2 := pc8_le (rb M (1600 + v))
    unfold J_Volume_freeBlocks_6_b
    simp (disch := omega) only [nJ_bs, nJ_ifz, nJ_m1, nI_add, nJ_mul, nJ_sub, nJ_div, nJ_lt, nJ_le, nJ_eq, nJ_cl, nJ_in, nJ_md, nJ_rb, nJ_b8, nJ_b81, nJ_i8, nM_eq, nM_eq2, nM_lt, nM_le, nM_nle, nM_nlt, nM_self, nL_0, nL_1, nL_2, nL_3, nL_4, nL_7, nL_8, nL_10, nL_14, nL_15, nL_16, nL_17, nL_25, nL_26, nL_31, nL_32, nL_33, nL_56, nL_63, nL_64, nL_65, nL_126, nL_128, nL_200, nL_255, nL_256, nL_1000, nL_8192, nL_5, nL_6, if_true, if_false, if_pos, if_neg, C_get m (show 25 < 128 by omega) (show v < 64 by omega)]
    rw [show 64 * 25 + v = 1600 + v by omega, bc8 _ (rb_lt _ _), Option.bind_some, nJ_sub (by omega) (by omega), ih n (v + 1) _ (by omega) (by omega) (by omega) (by omega), show 8 * (d + 1) = 8 + 8 * d by omega, cn_app, show 8 * v + 8 = 8 * (v + 1) by omega]
    congr 2
    omega
theorem C_fb (m : CM σ M L) : J_Volume_freeBlocks σ = some (nI (fb M)) := by
  have := C_fb0 m 16 9000 0 128 (by omega) (by omega) (by omega) (by omega)
  rw [show 128 + cn (pB M) (8 * 16) (8 * 0) - 8 * 16 = cn (pB M) 128 0 from Nat.add_sub_cancel_left ..] at this
  exact this
theorem C_lfb0 (m : CM σ M L) : ∀ d n v, v + d = 128 → d < n → J_Volume_leastFreeBlock_3 n σ (nI v) = some (if fi (pB M) d v < 128 then nI (fi (pB M) d v) else nI 0) := by
  intro d
  induction d with
  | zero =>
    intro n v hv hn
    obtain ⟨n, rfl⟩ : ∃ k, n = k + 1 := ⟨n - 1, by omega⟩
    show J_Volume_leastFreeBlock_3_b _ σ (nI v) = _
    unfold J_Volume_leastFreeBlock_3_b fi
    simp (disch := omega) only [nJ_bs, nJ_ifz, nJ_m1, nI_add, nJ_mul, nJ_sub, nJ_div, nJ_lt, nJ_le, nJ_eq, nJ_cl, nJ_in, nJ_md, nJ_rb, nJ_b8, nJ_b81, nJ_i8, nM_eq, nM_eq2, nM_lt, nM_le, nM_nle, nM_nlt, nM_self, nL_0, nL_1, nL_2, nL_3, nL_4, nL_7, nL_8, nL_10, nL_14, nL_15, nL_16, nL_17, nL_25, nL_26, nL_31, nL_32, nL_33, nL_56, nL_63, nL_64, nL_65, nL_126, nL_128, nL_200, nL_255, nL_256, nL_1000, nL_8192, nL_5, nL_6, if_true, if_false, if_pos, if_neg]
  | succ d ih =>
    intro n v hv hn
    obtain ⟨n, rfl⟩ : ∃ k, n = k + 1 := ⟨n - 1, by omega⟩
    show J_Volume_leastFreeBlock_3_b _ σ (nI v) = _
    have h := rb_lt M (1600 + v / 8)
    unfold J_Volume_leastFreeBlock_3_b fi
    simp (disch := omega) only [nJ_bs, nJ_ifz, nJ_m1, nI_add, nJ_mul, nJ_sub, nJ_div, nJ_lt, nJ_le, nJ_eq, nJ_cl, nJ_in, nJ_md, nJ_rb, nJ_b8, nJ_b81, nJ_i8, nM_eq, nM_eq2, nM_lt, nM_le, nM_nle, nM_nlt, nM_self, nL_0, nL_1, nL_2, nL_3, nL_4, nL_7, nL_8, nL_10, nL_14, nL_15, nL_16, nL_17, nL_25, nL_26, nL_31, nL_32, nL_33, nL_56, nL_63, nL_64, nL_65, nL_126, nL_128, nL_200, nL_255, nL_256, nL_1000, nL_8192, nL_5, nL_6, C_get m (show 25 < 128 by omega) (show v / 8 < 64 by omega)]
    rw [if_neg (by omega), show 64 * 25 + v / 8 = 1600 + v / 8 by omega, nT_bit _ h _ (by omega)]
    have k := bit_01 M v
    show (if nI (bit M v) = nI 0 then some (nI v) else _) = _
    simp (disch := omega) only [nJ_bs, nJ_ifz, nJ_m1, nI_add, nJ_mul, nJ_sub, nJ_div, nJ_lt, nJ_le, nJ_eq, nJ_cl, nJ_in, nJ_md, nJ_rb, nJ_b8, nJ_b81, nJ_i8, nM_eq, nM_eq2, nM_lt, nM_le, nM_nle, nM_nlt, nM_self, nL_0, nL_1, nL_2, nL_3, nL_4, nL_7, nL_8, nL_10, nL_14, nL_15, nL_16, nL_17, nL_25, nL_26, nL_31, nL_32, nL_33, nL_56, nL_63, nL_64, nL_65, nL_126, nL_128, nL_200, nL_255, nL_256, nL_1000, nL_8192, nL_5, nL_6, pB_eq]
    by_cases e : bit M v = 0
    · rw [if_pos e, if_pos e, if_pos (by omega)]
    · rw [if_neg e, if_neg e]
      exact ih n (v + 1) (by omega) (by omega)
theorem C_lfb (m : CM σ M L) (h : ∀ b, b < 26 → bit M b = 1) (h2 : lfb M < 128) : J_Volume_leastFreeBlock σ = some (nI (lfb M)) := by
  have e : lfb M = fi (pB M) 102 26 := fi_skip (pB M) 102 26 0 (fun j _ hj => decide_eq_false (by rw [h j (by omega)]; decide))
  have := C_lfb0 m 102 9000 26 (by omega) (by omega)
  rw [← e, if_pos h2] at this
  exact this
end CC
section RR
variable {σ : RS} {M : By} {L : List Nat}
theorem R_lfi0 (m : RM σ M L) : ∀ d n v, v + d = 32 → d < n → J_Model_freeInode_2 n σ (nI v) = some (if fi (pI M) d v < 32 then nI (fi (pI M) d v) else nM) := by
  intro d
  induction d with
  | zero =>
    intro n v hv hn
    obtain ⟨n, rfl⟩ : ∃ k, n = k + 1 := ⟨n - 1, by omega⟩
    show J_Model_freeInode_2_b _ σ (nI v) = _
    unfold J_Model_freeInode_2_b J_Model_freeInode_23 fi
    simp (disch := omega) only [nJ_bs, nJ_ifz, nJ_m1, nI_add, nJ_mul, nJ_sub, nJ_div, nJ_lt, nJ_le, nJ_eq, nJ_cl, nJ_in, nJ_md, nJ_rb, nJ_b8, nJ_b81, nJ_i8, nM_eq, nM_eq2, nM_lt, nM_le, nM_nle, nM_nlt, nM_self, nL_0, nL_1, nL_2, nL_3, nL_4, nL_7, nL_8, nL_10, nL_14, nL_15, nL_16, nL_17, nL_25, nL_26, nL_31, nL_32, nL_33, nL_56, nL_63, nL_64, nL_65, nL_126, nL_128, nL_200, nL_255, nL_256, nL_1000, nL_8192, nL_5, nL_6, if_true, if_false, if_pos, if_neg]
  | succ d ih =>
    intro n v hv hn
    obtain ⟨n, rfl⟩ : ∃ k, n = k + 1 := ⟨n - 1, by omega⟩
    show J_Model_freeInode_2_b _ σ (nI v) = _
    have h := ty_lt M v
    unfold J_Model_freeInode_2_b J_Model_freeInode_23 fi
    simp (disch := omega) only [nJ_bs, nJ_ifz, nJ_m1, nI_add, nJ_mul, nJ_sub, nJ_div, nJ_lt, nJ_le, nJ_eq, nJ_cl, nJ_in, nJ_md, nJ_rb, nJ_b8, nJ_b81, nJ_i8, nM_eq, nM_eq2, nM_lt, nM_le, nM_nle, nM_nlt, nM_self, nL_0, nL_1, nL_2, nL_3, nL_4, nL_7, nL_8, nL_10, nL_14, nL_15, nL_16, nL_17, nL_25, nL_26, nL_31, nL_32, nL_33, nL_56, nL_63, nL_64, nL_65, nL_126, nL_128, nL_200, nL_255, nL_256, nL_1000, nL_8192, nL_5, nL_6, R_ty m (show v < 32 by omega), pI_eq]
    rw [if_neg (by omega)]
    by_cases e : ty M v = 0
    · rw [if_pos e, if_pos e, if_neg (by omega), if_pos (by omega)]
    · rw [if_neg e, if_neg e]
      exact ih n (v + 1) (by omega) (by omega)
theorem R_lfi (m : RM σ M L) : J_Model_freeInode σ = some (if lfi M < 32 then nI (lfi M) else nM) := R_lfi0 m 32 9000 0 (by omega) (by omega)
theorem R_fb0 (m : RM σ M L) : ∀ d n v x, v + d = 128 → d < n → J_Model_freeBlocks_4 n σ (nI x) (nI v) = some (nI (x + cn (pB M) d v)) := by
  intro d
  induction d with
  | zero =>
    intro n v x hv hn
    obtain ⟨n, rfl⟩ : ∃ k, n = k + 1 := ⟨n - 1, by omega⟩
    show J_Model_freeBlocks_4_b _ σ (nI x) (nI v) = _
    unfold J_Model_freeBlocks_4_b cn
    simp (disch := omega) only [nJ_bs, nJ_ifz, nJ_m1, nI_add, nJ_mul, nJ_sub, nJ_div, nJ_lt, nJ_le, nJ_eq, nJ_cl, nJ_in, nJ_md, nJ_rb, nJ_b8, nJ_b81, nJ_i8, nM_eq, nM_eq2, nM_lt, nM_le, nM_nle, nM_nlt, nM_self, nL_0, nL_1, nL_2, nL_3, nL_4, nL_7, nL_8, nL_10, nL_14, nL_15, nL_16, nL_17, nL_25, nL_26, nL_31, nL_32, nL_33, nL_56, nL_63, nL_64, nL_65, nL_126, nL_128, nL_200, nL_255, nL_256, nL_1000, nL_8192, nL_5, nL_6, if_true, if_false, if_pos, if_neg]
    rfl
  | succ d ih =>
    intro n v x hv hn
    obtain ⟨n, rfl⟩ : ∃ k, n = k + 1 := ⟨n - 1, by omega⟩
    show J_Model_freeBlocks_4_b _ σ (nI x) (nI v) = _
    have h := bit_01 M v
    unfold J_Model_freeBlocks_4_b cn
    simp (disch := omega) only [nJ_bs, nJ_ifz, nJ_m1, nI_add, nJ_mul, nJ_sub, nJ_div, nJ_lt, nJ_le, nJ_eq, nJ_cl, nJ_in, nJ_md, nJ_rb, nJ_b8, nJ_b81, nJ_i8, nM_eq, nM_eq2, nM_lt, nM_le, nM_nle, nM_nlt, nM_self, nL_0, nL_1, nL_2, nL_3, nL_4, nL_7, nL_8, nL_10, nL_14, nL_15, nL_16, nL_17, nL_25, nL_26, nL_31, nL_32, nL_33, nL_56, nL_63, nL_64, nL_65, nL_126, nL_128, nL_200, nL_255, nL_256, nL_1000, nL_8192, nL_5, nL_6, R_used m (show v < 128 by omega), pB_eq]
    rw [if_neg (by omega)]
    by_cases e : bit M v = 0
    · rw [if_pos e, if_pos e, ih n (v + 1) (x + 1) (by omega) (by omega), Nat.add_assoc]
    · rw [if_neg e, if_neg e, Nat.zero_add]
      exact ih n (v + 1) (x + 0) (by omega) (by omega)
theorem R_fb (m : RM σ M L) : J_Model_freeBlocks σ = some (nI (fb M)) := by
  have := R_fb0 m 128 9000 0 0 (by omega) (by omega)
  rw [Nat.zero_add] at this
  exact this
end RR
theorem lfb_free {M : By} (h : lfb M < 128) : bit M (lfb M) = 0 := of_decide_eq_true (fi_at (pB M) 128 0 (by rw [Nat.zero_add]; exact h))
theorem lfb_used {M : By} {b : Nat} (h : b < lfb M) : bit M b = 1 := by
  have := fi_no (pB M) 128 0 b (Nat.zero_le _) h
  have := of_decide_eq_false this
  have := bit_01 M b
  omega
theorem lfb_lt {M : By} (h : 0 < fb M) : lfb M < 128 := by
  have := cn_pos (pB M) 128 0 h
  rw [Nat.zero_add] at this
  exact this
theorem fb_lt (M : By) : fb M ≤ 128 := cn_le _ _ _
theorem lfi_free {M : By} (h : lfi M < 32) : ty M (lfi M) = 0 := of_decide_eq_true (fi_at (pI M) 32 0 (by rw [Nat.zero_add]; exact h))
