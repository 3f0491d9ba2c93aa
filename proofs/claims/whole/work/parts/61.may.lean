/-! May a call go on: how many blocks it needs, whether they are there. Own rows. -/
def nds (M : By) (i e : Nat) : Nat := if bf (sz M i) < bf e then (if bf e ≤ 10 then bf e - bf (sz M i) else if 10 < bf (sz M i) then bf e - bf (sz M i) else bf e - bf (sz M i) + 1) else 0
theorem nds_0 {M : By} {i e : Nat} (h : e ≤ sz M i) : nds M i e = 0 := by
  unfold nds
  rw [if_neg]
  unfold bf
  omega
/-- there is place for an entry of the name x in the directory i, which has s entries -/
abbrev cE (M : By) (i : Nat) (x : Int64) (s : Nat) : Prop := ¬ fi (pN M i x) s 0 < s ∧ 8 * fi (pE M i) s 0 + 8 ≤ 1000 ∧ nds M i (8 * fi (pE M i) s 0 + 8) ≤ fb M
abbrev cP (M : By) (i a n : Nat) : Prop := ty M i = 1 ∧ a ≤ sz M i ∧ a + n ≤ 1000 ∧ nds M i (a + n) ≤ fb M
theorem bf_lt0 {n : Nat} (h : n < 1000000) : bf n < 1000000 := by unfold bf; omega
theorem if_prop {p q : Prop} [Decidable p] [Decidable q] (h : p ↔ q) : nI (if p then 1 else 0) = nI (if q then 1 else 0) := by
  by_cases e : p
  · rw [if_pos e, if_pos (h.mp e)]
  · rw [if_neg e, if_neg (fun z => e (h.mpr z))]
section CC
variable {σ : CS} {M : By} {L : List Nat} {i s : Nat} {x : Int64}
theorem C_need (m : CM σ M L) (hi : i < 32) {e : Nat} (he : e < 1000000) : J_Volume_blocksToTake σ (nI i) (nI e) = some (nI (nds M i e)) := by
  have h0 := sz_lt M i
  have h1 := bf_lt0 (show sz M i < 1000000 by omega)
  have h2 := bf_lt0 he
  unfold J_Volume_blocksToTake J_Volume_blocksToTake_40 J_Volume_blocksToTake_41
  simp (disch := omega) only [nJ_bs, nJ_ifz, nJ_m1, nI_add, nJ_mul, nJ_sub, nJ_div, nJ_lt, nJ_le, nJ_eq, nJ_cl, nJ_in, nJ_md, nJ_rb, nJ_b8, nJ_b81, nJ_i8, nM_eq, nM_eq2, nM_lt, nM_le, nM_nle, nM_nlt, nM_self, nL_0, nL_1, nL_2, nL_3, nL_4, nL_7, nL_8, nL_10, nL_14, nL_15, nL_16, nL_17, nL_25, nL_26, nL_31, nL_32, nL_33, nL_56, nL_63, nL_64, nL_65, nL_126, nL_128, nL_200, nL_255, nL_256, nL_1000, nL_8192, nL_5, nL_6, C_sz m hi, C_bf (show sz M i < 1000000 by omega), C_bf he, if_true, if_false]
  unfold nds
  by_cases q1 : bf (sz M i) < bf e
  · rw [if_pos q1, if_pos q1]
    by_cases q2 : bf e ≤ 10
    · rw [if_pos q2, if_pos q2] <;> first | rfl | (simp (disch := omega) only [nJ_bs, nJ_ifz, nJ_m1, nI_add, nJ_mul, nJ_sub, nJ_div, nJ_lt, nJ_le, nJ_eq, nJ_cl, nJ_in, nJ_md, nJ_rb, nJ_b8, nJ_b81, nJ_i8, nM_eq, nM_eq2, nM_lt, nM_le, nM_nle, nM_nlt, nM_self, nL_0, nL_1, nL_2, nL_3, nL_4, nL_7, nL_8, nL_10, nL_14, nL_15, nL_16, nL_17, nL_25, nL_26, nL_31, nL_32, nL_33, nL_56, nL_63, nL_64, nL_65, nL_126, nL_128, nL_200, nL_255, nL_256, nL_1000, nL_8192, nL_5, nL_6, if_true, if_false, if_pos, if_neg]; first | rfl | done)
    · rw [if_neg q2, if_neg q2]
      by_cases q3 : 10 < bf (sz M i)
      · rw [if_pos q3, if_pos q3] <;> first | rfl | (simp (disch := omega) only [nJ_bs, nJ_ifz, nJ_m1, nI_add, nJ_mul, nJ_sub, nJ_div, nJ_lt, nJ_le, nJ_eq, nJ_cl, nJ_in, nJ_md, nJ_rb, nJ_b8, nJ_b81, nJ_i8, nM_eq, nM_eq2, nM_lt, nM_le, nM_nle, nM_nlt, nM_self, nL_0, nL_1, nL_2, nL_3, nL_4, nL_7, nL_8, nL_10, nL_14, nL_15, nL_16, nL_17, nL_25, nL_26, nL_31, nL_32, nL_33, nL_56, nL_63, nL_64, nL_65, nL_126, nL_128, nL_200, nL_255, nL_256, nL_1000, nL_8192, nL_5, nL_6, if_true, if_false, if_pos, if_neg]; first | rfl | done)
      · rw [if_neg q3, if_neg q3] <;> first | rfl | (simp (disch := omega) only [nJ_bs, nJ_ifz, nJ_m1, nI_add, nJ_mul, nJ_sub, nJ_div, nJ_lt, nJ_le, nJ_eq, nJ_cl, nJ_in, nJ_md, nJ_rb, nJ_b8, nJ_b81, nJ_i8, nM_eq, nM_eq2, nM_lt, nM_le, nM_nle, nM_nlt, nM_self, nL_0, nL_1, nL_2, nL_3, nL_4, nL_7, nL_8, nL_10, nL_14, nL_15, nL_16, nL_17, nL_25, nL_26, nL_31, nL_32, nL_33, nL_56, nL_63, nL_64, nL_65, nL_126, nL_128, nL_200, nL_255, nL_256, nL_1000, nL_8192, nL_5, nL_6, if_true, if_false, if_pos, if_neg]; first | rfl | done)
  · rw [if_neg q1, if_neg q1]
theorem C_fits (m : CM σ M L) (hi : i < 32) {e : Nat} (he : e < 1000000) : J_Volume_fits σ (nI i) (nI e) = some (nI (if e ≤ 1000 ∧ nds M i e ≤ fb M then 1 else 0)) := by
  have h1 := fb_lt M
  have h0 := sz_lt M i
  have h3 : nds M i e < 2000000 := by
    have h2 := bf_lt0 he
    unfold nds
    split
    · split
      · omega
      · split <;> omega
    · omega
  unfold J_Volume_fits
  simp (disch := omega) only [nJ_bs, nJ_ifz, nJ_m1, nI_add, nJ_mul, nJ_sub, nJ_div, nJ_lt, nJ_le, nJ_eq, nJ_cl, nJ_in, nJ_md, nJ_rb, nJ_b8, nJ_b81, nJ_i8, nM_eq, nM_eq2, nM_lt, nM_le, nM_nle, nM_nlt, nM_self, nL_0, nL_1, nL_2, nL_3, nL_4, nL_7, nL_8, nL_10, nL_14, nL_15, nL_16, nL_17, nL_25, nL_26, nL_31, nL_32, nL_33, nL_56, nL_63, nL_64, nL_65, nL_126, nL_128, nL_200, nL_255, nL_256, nL_1000, nL_8192, nL_5, nL_6, C_need m hi he, C_fb m]
  by_cases q1 : 1000 < e
  · rw [if_pos q1, if_neg (by omega)]
  · rw [if_neg q1]
    by_cases q2 : fb M < nds M i e
    · rw [if_pos q2, if_neg (by omega)]
    · rw [if_neg q2, if_pos (by omega)]
theorem C_ce (m : CM σ M L) (G : Good M) (hi : i < 32) (ht : ty M i = 2) (hs : sz M i = 8 * s) (hx : vn x) : J_Volume_canEnter σ (nI i) x = some (nI (if cE M i x s then 1 else 0)) := by
  have h1000 := (G.2.1 i hi).1
  have hf := fi_le (pE M i) s 0
  have hp := fi_le (pN M i x) s 0
  unfold J_Volume_canEnter
  simp (disch := omega) only [nJ_bs, nJ_ifz, nJ_m1, nI_add, nJ_mul, nJ_sub, nJ_div, nJ_lt, nJ_le, nJ_eq, nJ_cl, nJ_in, nJ_md, nJ_rb, nJ_b8, nJ_b81, nJ_i8, nM_eq, nM_eq2, nM_lt, nM_le, nM_nle, nM_nlt, nM_self, nL_0, nL_1, nL_2, nL_3, nL_4, nL_7, nL_8, nL_10, nL_14, nL_15, nL_16, nL_17, nL_25, nL_26, nL_31, nL_32, nL_33, nL_56, nL_63, nL_64, nL_65, nL_126, nL_128, nL_200, nL_255, nL_256, nL_1000, nL_8192, nL_5, nL_6, if_true, if_false, if_pos, if_neg, C_dir m hi, ht, C_name x hx, C_po m G hi ht hs hx]
  by_cases q1 : fi (pN M i x) s 0 < s
  · rw [if_neg (show ¬ cE M i x s from fun z => z.1 q1), if_pos q1]
    simp (disch := omega) only [nJ_bs, nJ_ifz, nJ_m1, nI_add, nJ_mul, nJ_sub, nJ_div, nJ_lt, nJ_le, nJ_eq, nJ_cl, nJ_in, nJ_md, nJ_rb, nJ_b8, nJ_b81, nJ_i8, nM_eq, nM_eq2, nM_lt, nM_le, nM_nle, nM_nlt, nM_self, nL_0, nL_1, nL_2, nL_3, nL_4, nL_7, nL_8, nL_10, nL_14, nL_15, nL_16, nL_17, nL_25, nL_26, nL_31, nL_32, nL_33, nL_56, nL_63, nL_64, nL_65, nL_126, nL_128, nL_200, nL_255, nL_256, nL_1000, nL_8192, nL_5, nL_6, if_true, if_false, if_pos, if_neg]
  · rw [if_neg q1]
    simp (disch := omega) only [nJ_bs, nJ_ifz, nJ_m1, nI_add, nJ_mul, nJ_sub, nJ_div, nJ_lt, nJ_le, nJ_eq, nJ_cl, nJ_in, nJ_md, nJ_rb, nJ_b8, nJ_b81, nJ_i8, nM_eq, nM_eq2, nM_lt, nM_le, nM_nle, nM_nlt, nM_self, nL_0, nL_1, nL_2, nL_3, nL_4, nL_7, nL_8, nL_10, nL_14, nL_15, nL_16, nL_17, nL_25, nL_26, nL_31, nL_32, nL_33, nL_56, nL_63, nL_64, nL_65, nL_126, nL_128, nL_200, nL_255, nL_256, nL_1000, nL_8192, nL_5, nL_6, C_pfe m G hi ht hs, C_fits m hi (show 8 * fi (pE M i) s 0 + 8 < 1000000 by omega), if_true]
    by_cases q2 : 8 * fi (pE M i) s 0 + 8 ≤ 1000 ∧ nds M i (8 * fi (pE M i) s 0 + 8) ≤ fb M
    · rw [if_pos (show cE M i x s from ⟨q1, q2⟩), if_pos q2]
    · rw [if_neg (show ¬ cE M i x s from fun z => q2 z.2), if_neg q2]
theorem C_ce_name (m : CM σ M L) (hi : i < 32) (hx : ¬ vn x) : J_Volume_canEnter σ (nI i) x = some (nI 0) := by
  unfold J_Volume_canEnter
  simp (disch := omega) only [nJ_bs, nJ_ifz, nJ_m1, nI_add, nJ_mul, nJ_sub, nJ_div, nJ_lt, nJ_le, nJ_eq, nJ_cl, nJ_in, nJ_md, nJ_rb, nJ_b8, nJ_b81, nJ_i8, nM_eq, nM_eq2, nM_lt, nM_le, nM_nle, nM_nlt, nM_self, nL_0, nL_1, nL_2, nL_3, nL_4, nL_7, nL_8, nL_10, nL_14, nL_15, nL_16, nL_17, nL_25, nL_26, nL_31, nL_32, nL_33, nL_56, nL_63, nL_64, nL_65, nL_126, nL_128, nL_200, nL_255, nL_256, nL_1000, nL_8192, nL_5, nL_6, C_dir m hi, C_name_no x hx, if_true]
  by_cases e : ty M i = 2
  · rw [if_pos e]
  · rw [if_neg e]
theorem C_ce_dir {a : Int32} (h : J_Volume_isDirectory σ a = some (nI 0)) : J_Volume_canEnter σ a x = some (nI 0) := by
  unfold J_Volume_canEnter
  rw [h]
  simp (disch := omega) only [nJ_bs, nJ_ifz, nJ_m1, nI_add, nJ_mul, nJ_sub, nJ_div, nJ_lt, nJ_le, nJ_eq, nJ_cl, nJ_in, nJ_md, nJ_rb, nJ_b8, nJ_b81, nJ_i8, nM_eq, nM_eq2, nM_lt, nM_le, nM_nle, nM_nlt, nM_self, nL_0, nL_1, nL_2, nL_3, nL_4, nL_7, nL_8, nL_10, nL_14, nL_15, nL_16, nL_17, nL_25, nL_26, nL_31, nL_32, nL_33, nL_56, nL_63, nL_64, nL_65, nL_126, nL_128, nL_200, nL_255, nL_256, nL_1000, nL_8192, nL_5, nL_6, if_true, if_false, if_pos, if_neg]
theorem C_cp (m : CM σ M L) (G : Good M) (hi : i < 32) {a n : Nat} (ha : a < 2147483648) (hn : n < 1000) : J_Volume_canPut σ (nI i) (nI a) (nI n) = some (nI (if cP M i a n then 1 else 0)) := by
  have h1000 := (G.2.1 i hi).1
  unfold J_Volume_canPut
  simp (disch := omega) only [nJ_bs, nJ_ifz, nJ_m1, nI_add, nJ_mul, nJ_sub, nJ_div, nJ_lt, nJ_le, nJ_eq, nJ_cl, nJ_in, nJ_md, nJ_rb, nJ_b8, nJ_b81, nJ_i8, nM_eq, nM_eq2, nM_lt, nM_le, nM_nle, nM_nlt, nM_self, nL_0, nL_1, nL_2, nL_3, nL_4, nL_7, nL_8, nL_10, nL_14, nL_15, nL_16, nL_17, nL_25, nL_26, nL_31, nL_32, nL_33, nL_56, nL_63, nL_64, nL_65, nL_126, nL_128, nL_200, nL_255, nL_256, nL_1000, nL_8192, nL_5, nL_6, C_file m hi, C_sz m hi]
  by_cases q1 : ty M i = 1
  · rw [if_pos q1]
    by_cases q2 : a ≤ sz M i
    · rw [if_neg (by omega), if_neg (by omega), C_fits m hi (by omega)]
      simp (disch := omega) only [nJ_bs, nJ_ifz, nJ_m1, nI_add, nJ_mul, nJ_sub, nJ_div, nJ_lt, nJ_le, nJ_eq, nJ_cl, nJ_in, nJ_md, nJ_rb, nJ_b8, nJ_b81, nJ_i8, nM_eq, nM_eq2, nM_lt, nM_le, nM_nle, nM_nlt, nM_self, nL_0, nL_1, nL_2, nL_3, nL_4, nL_7, nL_8, nL_10, nL_14, nL_15, nL_16, nL_17, nL_25, nL_26, nL_31, nL_32, nL_33, nL_56, nL_63, nL_64, nL_65, nL_126, nL_128, nL_200, nL_255, nL_256, nL_1000, nL_8192, nL_5, nL_6]
      by_cases q3 : a + n ≤ 1000 ∧ nds M i (a + n) ≤ fb M
      · rw [if_pos (show cP M i a n from ⟨q1, q2, q3⟩), if_pos q3]
      · rw [if_neg (show ¬ cP M i a n from fun z => q3 z.2.2), if_neg q3]
    · rw [if_neg (show ¬ cP M i a n from fun z => q2 z.2.1), if_neg (by omega), if_pos (by omega)]
  · rw [if_neg (show ¬ cP M i a n from fun z => q1 z.1), if_neg q1]
theorem C_cp_no {a b n : Int32} (h : J_Volume_isFile σ a = some (nI 0)) : J_Volume_canPut σ a b n = some (nI 0) := by
  unfold J_Volume_canPut
  rw [h]
  simp (disch := omega) only [nJ_bs, nJ_ifz, nJ_m1, nI_add, nJ_mul, nJ_sub, nJ_div, nJ_lt, nJ_le, nJ_eq, nJ_cl, nJ_in, nJ_md, nJ_rb, nJ_b8, nJ_b81, nJ_i8, nM_eq, nM_eq2, nM_lt, nM_le, nM_nle, nM_nlt, nM_self, nL_0, nL_1, nL_2, nL_3, nL_4, nL_7, nL_8, nL_10, nL_14, nL_15, nL_16, nL_17, nL_25, nL_26, nL_31, nL_32, nL_33, nL_56, nL_63, nL_64, nL_65, nL_126, nL_128, nL_200, nL_255, nL_256, nL_1000, nL_8192, nL_5, nL_6, if_true, if_false, if_pos, if_neg]
theorem C_cp_neg (m : CM σ M L) (hi : i < 32) {b n : Int32} (h : b < (0 : Int32)) : J_Volume_canPut σ (nI i) b n = some (nI 0) := by
  unfold J_Volume_canPut
  rw [C_file m hi, nJ_bs, if_pos h]
  by_cases q1 : ty M i = 1
  · rw [if_pos q1]
    simp (disch := omega) only [nJ_bs, nJ_ifz, nJ_m1, nI_add, nJ_mul, nJ_sub, nJ_div, nJ_lt, nJ_le, nJ_eq, nJ_cl, nJ_in, nJ_md, nJ_rb, nJ_b8, nJ_b81, nJ_i8, nM_eq, nM_eq2, nM_lt, nM_le, nM_nle, nM_nlt, nM_self, nL_0, nL_1, nL_2, nL_3, nL_4, nL_7, nL_8, nL_10, nL_14, nL_15, nL_16, nL_17, nL_25, nL_26, nL_31, nL_32, nL_33, nL_56, nL_63, nL_64, nL_65, nL_126, nL_128, nL_200, nL_255, nL_256, nL_1000, nL_8192, nL_5, nL_6, if_true, if_false, if_pos, if_neg]
  · rw [if_neg q1]
    simp (disch := omega) only [nJ_bs, nJ_ifz, nJ_m1, nI_add, nJ_mul, nJ_sub, nJ_div, nJ_lt, nJ_le, nJ_eq, nJ_cl, nJ_in, nJ_md, nJ_rb, nJ_b8, nJ_b81, nJ_i8, nM_eq, nM_eq2, nM_lt, nM_le, nM_nle, nM_nlt, nM_self, nL_0, nL_1, nL_2, nL_3, nL_4, nL_7, nL_8, nL_10, nL_14, nL_15, nL_16, nL_17, nL_25, nL_26, nL_31, nL_32, nL_33, nL_56, nL_63, nL_64, nL_65, nL_126, nL_128, nL_200, nL_255, nL_256, nL_1000, nL_8192, nL_5, nL_6, if_true, if_false, if_pos, if_neg]
theorem nb_E8 (M : By) (i p : Nat) : nb (oL (E8 (ct M i) p)) 0 = ct M i p := by
  have h := E8_lt (ct_lt M i) p
  unfold nb
  rw [oL_nat, Nat.mod_eq_of_lt h]
  unfold E8
  have c0 := ct_lt M i p
  have c1 := ct_lt M i (p + 1)
  have c2 := ct_lt M i (p + 2)
  have c3 := ct_lt M i (p + 3)
  have c4 := ct_lt M i (p + 4)
  have c5 := ct_lt M i (p + 5)
  have c6 := ct_lt M i (p + 6)
  have c7 := ct_lt M i (p + 7)
  simp only [Nat.reduceSub, Nat.reduceMul, Nat.reducePow]
  omega
theorem C_ia (m : CM σ M L) (G : Good M) (hi : i < 32) {p : Nat} (hp : p < sz M i) (hp8 : p % 8 = 0) (h0 : ct M i p ≠ 0) : J_Volume_inodeAt σ (nI i) (nI p) = some (nI (ct M i p - 1)) := by
  have h := ct_lt M i p
  unfold J_Volume_inodeAt
  rw [C_en m G hi hp hp8, nJ_bs, nL_0, C_byteOf _ (by omega), nJ_bs, nb_E8, nL_1, nJ_sub (by omega) (by omega)]
end CC
section RR
variable {σ : RS} {M : By} {L : List Nat} {i s : Nat} {x : Int64}
theorem R_need (m : RM σ M L) (hi : i < 32) {e : Nat} (he : e < 1000000) : J_Model_needs σ (nI i) (nI e) = some (nI (nds M i e)) := by
  have h0 := sz_lt M i
  have h1 := bf_lt0 (show sz M i < 1000000 by omega)
  have h2 := bf_lt0 he
  unfold J_Model_needs
  simp (disch := omega) only [nJ_bs, nJ_ifz, nJ_m1, nI_add, nJ_mul, nJ_sub, nJ_div, nJ_lt, nJ_le, nJ_eq, nJ_cl, nJ_in, nJ_md, nJ_rb, nJ_b8, nJ_b81, nJ_i8, nM_eq, nM_eq2, nM_lt, nM_le, nM_nle, nM_nlt, nM_self, nL_0, nL_1, nL_2, nL_3, nL_4, nL_7, nL_8, nL_10, nL_14, nL_15, nL_16, nL_17, nL_25, nL_26, nL_31, nL_32, nL_33, nL_56, nL_63, nL_64, nL_65, nL_126, nL_128, nL_200, nL_255, nL_256, nL_1000, nL_8192, nL_5, nL_6, R_sz m hi, R_bf (show sz M i < 1000000 by omega), R_bf he, if_true, if_false]
  unfold nds
  by_cases q1 : bf (sz M i) < bf e
  · rw [if_pos q1, if_pos q1]
    by_cases q2 : bf e ≤ 10
    · rw [if_pos q2, if_pos q2] <;> first | rfl | (simp (disch := omega) only [nJ_bs, nJ_ifz, nJ_m1, nI_add, nJ_mul, nJ_sub, nJ_div, nJ_lt, nJ_le, nJ_eq, nJ_cl, nJ_in, nJ_md, nJ_rb, nJ_b8, nJ_b81, nJ_i8, nM_eq, nM_eq2, nM_lt, nM_le, nM_nle, nM_nlt, nM_self, nL_0, nL_1, nL_2, nL_3, nL_4, nL_7, nL_8, nL_10, nL_14, nL_15, nL_16, nL_17, nL_25, nL_26, nL_31, nL_32, nL_33, nL_56, nL_63, nL_64, nL_65, nL_126, nL_128, nL_200, nL_255, nL_256, nL_1000, nL_8192, nL_5, nL_6, if_true, if_false, if_pos, if_neg]; first | rfl | done)
    · rw [if_neg q2, if_neg q2]
      by_cases q3 : 10 < bf (sz M i)
      · rw [if_pos q3, if_pos q3] <;> first | rfl | (simp (disch := omega) only [nJ_bs, nJ_ifz, nJ_m1, nI_add, nJ_mul, nJ_sub, nJ_div, nJ_lt, nJ_le, nJ_eq, nJ_cl, nJ_in, nJ_md, nJ_rb, nJ_b8, nJ_b81, nJ_i8, nM_eq, nM_eq2, nM_lt, nM_le, nM_nle, nM_nlt, nM_self, nL_0, nL_1, nL_2, nL_3, nL_4, nL_7, nL_8, nL_10, nL_14, nL_15, nL_16, nL_17, nL_25, nL_26, nL_31, nL_32, nL_33, nL_56, nL_63, nL_64, nL_65, nL_126, nL_128, nL_200, nL_255, nL_256, nL_1000, nL_8192, nL_5, nL_6, if_true, if_false, if_pos, if_neg]; first | rfl | done)
      · rw [if_neg q3, if_neg q3] <;> first | rfl | (simp (disch := omega) only [nJ_bs, nJ_ifz, nJ_m1, nI_add, nJ_mul, nJ_sub, nJ_div, nJ_lt, nJ_le, nJ_eq, nJ_cl, nJ_in, nJ_md, nJ_rb, nJ_b8, nJ_b81, nJ_i8, nM_eq, nM_eq2, nM_lt, nM_le, nM_nle, nM_nlt, nM_self, nL_0, nL_1, nL_2, nL_3, nL_4, nL_7, nL_8, nL_10, nL_14, nL_15, nL_16, nL_17, nL_25, nL_26, nL_31, nL_32, nL_33, nL_56, nL_63, nL_64, nL_65, nL_126, nL_128, nL_200, nL_255, nL_256, nL_1000, nL_8192, nL_5, nL_6, if_true, if_false, if_pos, if_neg]; first | rfl | done)
  · rw [if_neg q1, if_neg q1]
theorem nds_lt {M : By} {i e : Nat} (he : e < 1000000) : nds M i e < 2000000 := by
  have h2 := bf_lt0 he
  unfold nds
  split
  · split
    · omega
    · split <;> omega
  · omega
theorem R_me (m : RM σ M L) (G : Good M) (hi : i < 32) (ht : ty M i = 2) (hs : sz M i = 8 * s) (hx : vn x) (hN : ∀ k, k < 8 → r_N σ k = b8 (nb x k)) : J_Model_mayEnter σ (nI i) = some (nI (if cE M i x s then 1 else 0)) := by
  have h1000 := (G.2.1 i hi).1
  have hf := fi_le (pE M i) s 0
  have hp := fi_le (pN M i x) s 0
  have h1 := fb_lt M
  have hn := nds_lt (M := M) (i := i) (e := 8 * fi (pE M i) s 0 + 8) (by omega)
  unfold J_Model_mayEnter J_Model_mayEnter_27
  rw [R_pfe m G hi hs, nJ_bs, R_sz m hi, nJ_bs]
  by_cases q0 : fi (pE M i) s 0 = s
  · rw [if_pos (by rw [q0, hs]), R_fe m G hi ht hs hx hN, nJ_bs]
    by_cases q1 : fi (pN M i x) s 0 < s
    · rw [if_neg (show ¬ cE M i x s from fun z => z.1 q1), if_pos q1]
      simp (disch := omega) only [nJ_bs, nJ_ifz, nJ_m1, nI_add, nJ_mul, nJ_sub, nJ_div, nJ_lt, nJ_le, nJ_eq, nJ_cl, nJ_in, nJ_md, nJ_rb, nJ_b8, nJ_b81, nJ_i8, nM_eq, nM_eq2, nM_lt, nM_le, nM_nle, nM_nlt, nM_self, nL_0, nL_1, nL_2, nL_3, nL_4, nL_7, nL_8, nL_10, nL_14, nL_15, nL_16, nL_17, nL_25, nL_26, nL_31, nL_32, nL_33, nL_56, nL_63, nL_64, nL_65, nL_126, nL_128, nL_200, nL_255, nL_256, nL_1000, nL_8192, nL_5, nL_6, if_true, if_false, if_pos, if_neg]
    · rw [if_neg q1]
      simp (disch := omega) only [nJ_bs, nJ_ifz, nJ_m1, nI_add, nJ_mul, nJ_sub, nJ_div, nJ_lt, nJ_le, nJ_eq, nJ_cl, nJ_in, nJ_md, nJ_rb, nJ_b8, nJ_b81, nJ_i8, nM_eq, nM_eq2, nM_lt, nM_le, nM_nle, nM_nlt, nM_self, nL_0, nL_1, nL_2, nL_3, nL_4, nL_7, nL_8, nL_10, nL_14, nL_15, nL_16, nL_17, nL_25, nL_26, nL_31, nL_32, nL_33, nL_56, nL_63, nL_64, nL_65, nL_126, nL_128, nL_200, nL_255, nL_256, nL_1000, nL_8192, nL_5, nL_6, if_false]
      by_cases q2 : 1000 < 8 * fi (pE M i) s 0 + 8
      · rw [if_neg (show ¬ cE M i x s from fun z => by omega), if_pos q2]
      · rw [if_neg q2, R_need m hi (by omega), nJ_bs, R_fb m, nJ_bs]
        by_cases q3 : fb M < nds M i (8 * fi (pE M i) s 0 + 8)
        · rw [if_neg (show ¬ cE M i x s from fun z => by omega), if_pos (by rw [nJ_lt (by omega) (by omega)]; exact q3)]
        · rw [if_pos (show cE M i x s from ⟨q1, by omega, by omega⟩), if_neg (by rw [nJ_lt (by omega) (by omega)]; exact q3)]
  · rw [if_neg (by rw [nJ_eq (by omega) (by omega)]; omega), nJ_bs, R_fe m G hi ht hs hx hN, nJ_bs]
    have e0 : nds M i (8 * fi (pE M i) s 0 + 8) = 0 := nds_0 (by omega)
    by_cases q1 : fi (pN M i x) s 0 < s
    · rw [if_neg (show ¬ cE M i x s from fun z => z.1 q1), if_pos q1]
      simp (disch := omega) only [nJ_bs, nJ_ifz, nJ_m1, nI_add, nJ_mul, nJ_sub, nJ_div, nJ_lt, nJ_le, nJ_eq, nJ_cl, nJ_in, nJ_md, nJ_rb, nJ_b8, nJ_b81, nJ_i8, nM_eq, nM_eq2, nM_lt, nM_le, nM_nle, nM_nlt, nM_self, nL_0, nL_1, nL_2, nL_3, nL_4, nL_7, nL_8, nL_10, nL_14, nL_15, nL_16, nL_17, nL_25, nL_26, nL_31, nL_32, nL_33, nL_56, nL_63, nL_64, nL_65, nL_126, nL_128, nL_200, nL_255, nL_256, nL_1000, nL_8192, nL_5, nL_6, if_true, if_false, if_pos, if_neg]
    · rw [if_neg q1]
      simp (disch := omega) only [nJ_bs, nJ_ifz, nJ_m1, nI_add, nJ_mul, nJ_sub, nJ_div, nJ_lt, nJ_le, nJ_eq, nJ_cl, nJ_in, nJ_md, nJ_rb, nJ_b8, nJ_b81, nJ_i8, nM_eq, nM_eq2, nM_lt, nM_le, nM_nle, nM_nlt, nM_self, nL_0, nL_1, nL_2, nL_3, nL_4, nL_7, nL_8, nL_10, nL_14, nL_15, nL_16, nL_17, nL_25, nL_26, nL_31, nL_32, nL_33, nL_56, nL_63, nL_64, nL_65, nL_126, nL_128, nL_200, nL_255, nL_256, nL_1000, nL_8192, nL_5, nL_6, if_false]
      rw [if_pos (show cE M i x s from ⟨q1, by omega, by omega⟩), if_neg (by omega), R_need m hi (by omega), nJ_bs, R_fb m, nJ_bs, nds_0 (Nat.le_refl _), if_neg (by rw [nJ_lt (by omega) (by omega)]; omega)]
theorem R_mw (m : RM σ M L) (G : Good M) (hi : i < 32) {a n : Nat} (ha : a < 2147483648) (hn : n < 1000) : J_Model_mayWrite σ (nI i) (nI a) (nI n) = some (nI (if cP M i a n then 1 else 0)) := by
  have h1000 := (G.2.1 i hi).1
  have h1 := fb_lt M
  unfold J_Model_mayWrite
  simp (disch := omega) only [nJ_bs, nJ_ifz, nJ_m1, nI_add, nJ_mul, nJ_sub, nJ_div, nJ_lt, nJ_le, nJ_eq, nJ_cl, nJ_in, nJ_md, nJ_rb, nJ_b8, nJ_b81, nJ_i8, nM_eq, nM_eq2, nM_lt, nM_le, nM_nle, nM_nlt, nM_self, nL_0, nL_1, nL_2, nL_3, nL_4, nL_7, nL_8, nL_10, nL_14, nL_15, nL_16, nL_17, nL_25, nL_26, nL_31, nL_32, nL_33, nL_56, nL_63, nL_64, nL_65, nL_126, nL_128, nL_200, nL_255, nL_256, nL_1000, nL_8192, nL_5, nL_6, R_is m hi (show 1 < 256 by omega), R_sz m hi]
  by_cases q1 : ty M i = 1
  · rw [if_pos q1]
    by_cases q2 : a ≤ sz M i
    · rw [if_neg (by omega), if_neg (by omega)]
      have h3 := nds_lt (M := M) (i := i) (e := a + n) (by omega)
      simp (disch := omega) only [nJ_bs, nJ_ifz, nJ_m1, nI_add, nJ_mul, nJ_sub, nJ_div, nJ_lt, nJ_le, nJ_eq, nJ_cl, nJ_in, nJ_md, nJ_rb, nJ_b8, nJ_b81, nJ_i8, nM_eq, nM_eq2, nM_lt, nM_le, nM_nle, nM_nlt, nM_self, nL_0, nL_1, nL_2, nL_3, nL_4, nL_7, nL_8, nL_10, nL_14, nL_15, nL_16, nL_17, nL_25, nL_26, nL_31, nL_32, nL_33, nL_56, nL_63, nL_64, nL_65, nL_126, nL_128, nL_200, nL_255, nL_256, nL_1000, nL_8192, nL_5, nL_6, R_need m hi (show a + n < 1000000 by omega), R_fb m]
      by_cases q3 : 1000 < a + n
      · rw [if_neg (show ¬ cP M i a n from fun z => by omega), if_pos q3]
      · rw [if_neg q3]
        by_cases q4 : fb M < nds M i (a + n)
        · rw [if_neg (show ¬ cP M i a n from fun z => by omega), if_pos q4]
        · rw [if_pos (show cP M i a n from ⟨q1, q2, by omega, by omega⟩), if_neg q4]
    · rw [if_neg (show ¬ cP M i a n from fun z => q2 z.2.1), if_neg (by omega), if_pos (by omega)]
  · rw [if_neg (show ¬ cP M i a n from fun z => q1 z.1), if_neg q1]
theorem R_mw_no {a b n : Int32} (h : J_Model_is σ a (nI 1) = some (nI 0)) : J_Model_mayWrite σ a b n = some (nI 0) := by
  unfold J_Model_mayWrite
  rw [nL_1, h]
  simp (disch := omega) only [nJ_bs, nJ_ifz, nJ_m1, nI_add, nJ_mul, nJ_sub, nJ_div, nJ_lt, nJ_le, nJ_eq, nJ_cl, nJ_in, nJ_md, nJ_rb, nJ_b8, nJ_b81, nJ_i8, nM_eq, nM_eq2, nM_lt, nM_le, nM_nle, nM_nlt, nM_self, nL_0, nL_1, nL_2, nL_3, nL_4, nL_7, nL_8, nL_10, nL_14, nL_15, nL_16, nL_17, nL_25, nL_26, nL_31, nL_32, nL_33, nL_56, nL_63, nL_64, nL_65, nL_126, nL_128, nL_200, nL_255, nL_256, nL_1000, nL_8192, nL_5, nL_6, if_true, if_false, if_pos, if_neg]
theorem R_mw_neg (m : RM σ M L) (hi : i < 32) {b n : Int32} (h : b < (0 : Int32)) : J_Model_mayWrite σ (nI i) b n = some (nI 0) := by
  unfold J_Model_mayWrite
  rw [nL_1, R_is m hi (by omega), nJ_bs, if_pos h]
  by_cases q1 : ty M i = 1
  · rw [if_pos q1]
    simp (disch := omega) only [nJ_bs, nJ_ifz, nJ_m1, nI_add, nJ_mul, nJ_sub, nJ_div, nJ_lt, nJ_le, nJ_eq, nJ_cl, nJ_in, nJ_md, nJ_rb, nJ_b8, nJ_b81, nJ_i8, nM_eq, nM_eq2, nM_lt, nM_le, nM_nle, nM_nlt, nM_self, nL_0, nL_1, nL_2, nL_3, nL_4, nL_7, nL_8, nL_10, nL_14, nL_15, nL_16, nL_17, nL_25, nL_26, nL_31, nL_32, nL_33, nL_56, nL_63, nL_64, nL_65, nL_126, nL_128, nL_200, nL_255, nL_256, nL_1000, nL_8192, nL_5, nL_6, if_true, if_false, if_pos, if_neg]
  · rw [if_neg q1]
    simp (disch := omega) only [nJ_bs, nJ_ifz, nJ_m1, nI_add, nJ_mul, nJ_sub, nJ_div, nJ_lt, nJ_le, nJ_eq, nJ_cl, nJ_in, nJ_md, nJ_rb, nJ_b8, nJ_b81, nJ_i8, nM_eq, nM_eq2, nM_lt, nM_le, nM_nle, nM_nlt, nM_self, nL_0, nL_1, nL_2, nL_3, nL_4, nL_7, nL_8, nL_10, nL_14, nL_15, nL_16, nL_17, nL_25, nL_26, nL_31, nL_32, nL_33, nL_56, nL_63, nL_64, nL_65, nL_126, nL_128, nL_200, nL_255, nL_256, nL_1000, nL_8192, nL_5, nL_6, if_true, if_false, if_pos, if_neg]
end RR
