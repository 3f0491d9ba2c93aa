/-! What is read of a memory: by the component, by the reference. Own rows. -/
theorem ty_lt (f : By) (i : Nat) : ty f i < 256 := rb_lt _ _
theorem ln_lt (f : By) (i : Nat) : ln f i < 256 := rb_lt _ _
theorem nd_lt0 (f : By) (i : Nat) : nd f i < 256 := rb_lt _ _
theorem GS.nd_lt {f : By} {O : Nat → Nat → Prop} (g : GS f O) {i : Nat} (hi : i < 32) : nd f i < 128 := by
  obtain ⟨-, g2, -, g4⟩ := g
  rw [← blk_16]
  by_cases o : O i 16
  · exact (g2 i 16 o).2.2.2.1
  · rw [g4 i 16 hi (by omega) o]; omega
theorem GS.cb_lt {f : By} {O : Nat → Nat → Prop} (g : GS f O) {i k : Nat} (hi : i < 32) (hk : k < 16) : cbk f i k < 128 := by
  obtain ⟨-, g2, -, g4⟩ := g
  rw [← blk_lo hk]
  by_cases o : O i k
  · exact (g2 i k o).2.2.2.1
  · rw [g4 i k hi (by omega) o]; omega
theorem i_in (a : Int32) : (J_LogFs_isInode a = some (nI 0) ∧ J_Model_isInode a = some (nI 0)) ∨ ∃ i, i < 32 ∧ a = nI i := by
  unfold J_LogFs_isInode J_Model_isInode
  by_cases h : a < (0 : Int32)
  · rw [if_pos h]; exact Or.inl ⟨rfl, rfl⟩
  · rw [if_neg h]
    by_cases h2 : (32 : Int32) ≤ a
    · rw [if_pos h2]; exact Or.inl ⟨rfl, rfl⟩
    · obtain ⟨j, hj, e⟩ := nI_of h
      refine Or.inr ⟨j, ?_, e⟩
      rw [e, nL_32, nJ_le (by omega) hj] at h2
      omega
theorem C_isI {i : Nat} (hi : i < 32) : J_LogFs_isInode (nI i) = some (nI 1) := by
  unfold J_LogFs_isInode
  simp (disch := omega) only [nJ_bs, nJ_ifz, nJ_m1, nI_add, nJ_mul, nJ_sub, nJ_div, nJ_lt, nJ_le, nJ_eq, nJ_cl, nJ_in, nJ_md, nJ_rb, nJ_b8, nJ_b81, nJ_i8, nM_eq, nM_eq2, nM_lt, nM_le, nM_nle, nM_nlt, nM_self, nL_0, nL_1, nL_2, nL_3, nL_4, nL_7, nL_8, nL_10, nL_14, nL_15, nL_16, nL_17, nL_25, nL_26, nL_31, nL_32, nL_33, nL_56, nL_63, nL_64, nL_65, nL_126, nL_128, nL_200, nL_255, nL_256, nL_1000, nL_8192, nL_5, nL_6, if_true, if_false, if_pos, if_neg]
theorem R_isI {i : Nat} (hi : i < 32) : J_Model_isInode (nI i) = some (nI 1) := by
  unfold J_Model_isInode
  simp (disch := omega) only [nJ_bs, nJ_ifz, nJ_m1, nI_add, nJ_mul, nJ_sub, nJ_div, nJ_lt, nJ_le, nJ_eq, nJ_cl, nJ_in, nJ_md, nJ_rb, nJ_b8, nJ_b81, nJ_i8, nM_eq, nM_eq2, nM_lt, nM_le, nM_nle, nM_nlt, nM_self, nL_0, nL_1, nL_2, nL_3, nL_4, nL_7, nL_8, nL_10, nL_14, nL_15, nL_16, nL_17, nL_25, nL_26, nL_31, nL_32, nL_33, nL_56, nL_63, nL_64, nL_65, nL_126, nL_128, nL_200, nL_255, nL_256, nL_1000, nL_8192, nL_5, nL_6, if_true, if_false, if_pos, if_neg]
theorem C_bf {n : Nat} (hn : n < 1000000) : J_LogFs_blocksFor (nI n) = some (nI (bf n)) := by
  unfold J_LogFs_blocksFor bf
  simp (disch := omega) only [nJ_bs, nJ_ifz, nJ_m1, nI_add, nJ_mul, nJ_sub, nJ_div, nJ_lt, nJ_le, nJ_eq, nJ_cl, nJ_in, nJ_md, nJ_rb, nJ_b8, nJ_b81, nJ_i8, nM_eq, nM_eq2, nM_lt, nM_le, nM_nle, nM_nlt, nM_self, nL_0, nL_1, nL_2, nL_3, nL_4, nL_7, nL_8, nL_10, nL_14, nL_15, nL_16, nL_17, nL_25, nL_26, nL_31, nL_32, nL_33, nL_56, nL_63, nL_64, nL_65, nL_126, nL_128, nL_200, nL_255, nL_256, nL_1000, nL_8192, nL_5, nL_6, if_true, if_false, if_pos, if_neg]
  rw [show n + 64 - 1 = n + 63 by omega]
theorem R_bf {n : Nat} (hn : n < 1000000) : J_Model_blocksFor (nI n) = some (nI (bf n)) := by
  unfold J_Model_blocksFor bf
  simp (disch := omega) only [nJ_bs, nJ_ifz, nJ_m1, nI_add, nJ_mul, nJ_sub, nJ_div, nJ_lt, nJ_le, nJ_eq, nJ_cl, nJ_in, nJ_md, nJ_rb, nJ_b8, nJ_b81, nJ_i8, nM_eq, nM_eq2, nM_lt, nM_le, nM_nle, nM_nlt, nM_self, nL_0, nL_1, nL_2, nL_3, nL_4, nL_7, nL_8, nL_10, nL_14, nL_15, nL_16, nL_17, nL_25, nL_26, nL_31, nL_32, nL_33, nL_56, nL_63, nL_64, nL_65, nL_126, nL_128, nL_200, nL_255, nL_256, nL_1000, nL_8192, nL_5, nL_6, if_true, if_false, if_pos, if_neg]
  rw [show n + 64 - 1 = n + 63 by omega]
section CC
variable {σ : CS} {M : By} {L : List Nat}
theorem C_ib (m : CM σ M L) {i k : Nat} (hi : i < 32) (hk : k < 16) : J_Volume_inodeByte σ (nI i) (nI k) = some (nI (rb M (1088 + 16 * i + k))) := by
  unfold J_Volume_inodeByte
  simp (disch := omega) only [nJ_bs, nJ_ifz, nJ_m1, nI_add, nJ_mul, nJ_sub, nJ_div, nJ_lt, nJ_le, nJ_eq, nJ_cl, nJ_in, nJ_md, nJ_rb, nJ_b8, nJ_b81, nJ_i8, nM_eq, nM_eq2, nM_lt, nM_le, nM_nle, nM_nlt, nM_self, nL_0, nL_1, nL_2, nL_3, nL_4, nL_7, nL_8, nL_10, nL_14, nL_15, nL_16, nL_17, nL_25, nL_26, nL_31, nL_32, nL_33, nL_56, nL_63, nL_64, nL_65, nL_126, nL_128, nL_200, nL_255, nL_256, nL_1000, nL_8192, nL_5, nL_6, if_true, if_false, if_pos, if_neg, C_isI hi, C_get m]
  rw [show 64 * (17 + i / 4) + (i % 4 * 16 + k) = 1088 + 16 * i + k by omega]
theorem C_ib_out {a : Int32} (h : J_LogFs_isInode a = some (nI 0)) (k : Int32) : J_Volume_inodeByte σ a k = some (nI 0) := by
  unfold J_Volume_inodeByte
  rw [h]
  simp (disch := omega) only [nJ_bs, nJ_ifz, nJ_m1, nI_add, nJ_mul, nJ_sub, nJ_div, nJ_lt, nJ_le, nJ_eq, nJ_cl, nJ_in, nJ_md, nJ_rb, nJ_b8, nJ_b81, nJ_i8, nM_eq, nM_eq2, nM_lt, nM_le, nM_nle, nM_nlt, nM_self, nL_0, nL_1, nL_2, nL_3, nL_4, nL_7, nL_8, nL_10, nL_14, nL_15, nL_16, nL_17, nL_25, nL_26, nL_31, nL_32, nL_33, nL_56, nL_63, nL_64, nL_65, nL_126, nL_128, nL_200, nL_255, nL_256, nL_1000, nL_8192, nL_5, nL_6, if_true, if_false, if_pos, if_neg]
theorem C_ty (m : CM σ M L) {i : Nat} (hi : i < 32) : J_Volume_type σ (nI i) = some (nI (ty M i)) := by
  unfold J_Volume_type
  simp (disch := omega) only [nJ_bs, nJ_ifz, nJ_m1, nI_add, nJ_mul, nJ_sub, nJ_div, nJ_lt, nJ_le, nJ_eq, nJ_cl, nJ_in, nJ_md, nJ_rb, nJ_b8, nJ_b81, nJ_i8, nM_eq, nM_eq2, nM_lt, nM_le, nM_nle, nM_nlt, nM_self, nL_0, nL_1, nL_2, nL_3, nL_4, nL_7, nL_8, nL_10, nL_14, nL_15, nL_16, nL_17, nL_25, nL_26, nL_31, nL_32, nL_33, nL_56, nL_63, nL_64, nL_65, nL_126, nL_128, nL_200, nL_255, nL_256, nL_1000, nL_8192, nL_5, nL_6, if_true, if_false, if_pos, if_neg, C_ib m hi]
  rfl
theorem C_ln (m : CM σ M L) {i : Nat} (hi : i < 32) : J_Volume_links σ (nI i) = some (nI (ln M i)) := by
  unfold J_Volume_links
  simp (disch := omega) only [nJ_bs, nJ_ifz, nJ_m1, nI_add, nJ_mul, nJ_sub, nJ_div, nJ_lt, nJ_le, nJ_eq, nJ_cl, nJ_in, nJ_md, nJ_rb, nJ_b8, nJ_b81, nJ_i8, nM_eq, nM_eq2, nM_lt, nM_le, nM_nle, nM_nlt, nM_self, nL_0, nL_1, nL_2, nL_3, nL_4, nL_7, nL_8, nL_10, nL_14, nL_15, nL_16, nL_17, nL_25, nL_26, nL_31, nL_32, nL_33, nL_56, nL_63, nL_64, nL_65, nL_126, nL_128, nL_200, nL_255, nL_256, nL_1000, nL_8192, nL_5, nL_6, if_true, if_false, if_pos, if_neg, C_ib m hi]
  rw [show 1088 + 16 * i + 1 = 1089 + 16 * i by omega]; rfl
theorem C_sz (m : CM σ M L) {i : Nat} (hi : i < 32) : J_Volume_size σ (nI i) = some (nI (sz M i)) := by
  unfold J_Volume_size
  simp (disch := omega) only [nJ_bs, nJ_ifz, nJ_m1, nI_add, nJ_mul, nJ_sub, nJ_div, nJ_lt, nJ_le, nJ_eq, nJ_cl, nJ_in, nJ_md, nJ_rb, nJ_b8, nJ_b81, nJ_i8, nM_eq, nM_eq2, nM_lt, nM_le, nM_nle, nM_nlt, nM_self, nL_0, nL_1, nL_2, nL_3, nL_4, nL_7, nL_8, nL_10, nL_14, nL_15, nL_16, nL_17, nL_25, nL_26, nL_31, nL_32, nL_33, nL_56, nL_63, nL_64, nL_65, nL_126, nL_128, nL_200, nL_255, nL_256, nL_1000, nL_8192, nL_5, nL_6, if_true, if_false, if_pos, if_neg, C_ib m hi]
  rw [nT_size (rb_lt _ _) (rb_lt _ _), show 1088 + 16 * i + 2 = 1090 + 16 * i by omega, show 1088 + 16 * i + 3 = 1091 + 16 * i by omega]; rfl
theorem C_ty_out {a : Int32} (h : J_LogFs_isInode a = some (nI 0)) : J_Volume_type σ a = some (nI 0) := by
  unfold J_Volume_type
  rw [C_ib_out h]; rfl
theorem C_sz_out {a : Int32} (h : J_LogFs_isInode a = some (nI 0)) : J_Volume_size σ a = some (nI 0) := by
  unfold J_Volume_size
  rw [C_ib_out h, C_ib_out h]; decide +kernel
theorem C_file (m : CM σ M L) {i : Nat} (hi : i < 32) : J_Volume_isFile σ (nI i) = some (nI (if ty M i = 1 then 1 else 0)) := by
  have h := ty_lt M i
  unfold J_Volume_isFile
  simp (disch := omega) only [nJ_bs, nJ_ifz, nJ_m1, nI_add, nJ_mul, nJ_sub, nJ_div, nJ_lt, nJ_le, nJ_eq, nJ_cl, nJ_in, nJ_md, nJ_rb, nJ_b8, nJ_b81, nJ_i8, nM_eq, nM_eq2, nM_lt, nM_le, nM_nle, nM_nlt, nM_self, nL_0, nL_1, nL_2, nL_3, nL_4, nL_7, nL_8, nL_10, nL_14, nL_15, nL_16, nL_17, nL_25, nL_26, nL_31, nL_32, nL_33, nL_56, nL_63, nL_64, nL_65, nL_126, nL_128, nL_200, nL_255, nL_256, nL_1000, nL_8192, nL_5, nL_6, C_ty m hi]
  by_cases e : ty M i = 1
  · rw [if_pos e, if_pos e]
  · rw [if_neg e, if_neg e]
theorem C_dir (m : CM σ M L) {i : Nat} (hi : i < 32) : J_Volume_isDirectory σ (nI i) = some (nI (if ty M i = 2 then 1 else 0)) := by
  have h := ty_lt M i
  unfold J_Volume_isDirectory
  simp (disch := omega) only [nJ_bs, nJ_ifz, nJ_m1, nI_add, nJ_mul, nJ_sub, nJ_div, nJ_lt, nJ_le, nJ_eq, nJ_cl, nJ_in, nJ_md, nJ_rb, nJ_b8, nJ_b81, nJ_i8, nM_eq, nM_eq2, nM_lt, nM_le, nM_nle, nM_nlt, nM_self, nL_0, nL_1, nL_2, nL_3, nL_4, nL_7, nL_8, nL_10, nL_14, nL_15, nL_16, nL_17, nL_25, nL_26, nL_31, nL_32, nL_33, nL_56, nL_63, nL_64, nL_65, nL_126, nL_128, nL_200, nL_255, nL_256, nL_1000, nL_8192, nL_5, nL_6, C_ty m hi]
  by_cases e : ty M i = 2
  · rw [if_pos e, if_pos e]
  · rw [if_neg e, if_neg e]
theorem C_file_out {a : Int32} (h : J_LogFs_isInode a = some (nI 0)) : J_Volume_isFile σ a = some (nI 0) := by
  unfold J_Volume_isFile
  rw [C_ty_out h]
  simp (disch := omega) only [nJ_bs, nJ_ifz, nJ_m1, nI_add, nJ_mul, nJ_sub, nJ_div, nJ_lt, nJ_le, nJ_eq, nJ_cl, nJ_in, nJ_md, nJ_rb, nJ_b8, nJ_b81, nJ_i8, nM_eq, nM_eq2, nM_lt, nM_le, nM_nle, nM_nlt, nM_self, nL_0, nL_1, nL_2, nL_3, nL_4, nL_7, nL_8, nL_10, nL_14, nL_15, nL_16, nL_17, nL_25, nL_26, nL_31, nL_32, nL_33, nL_56, nL_63, nL_64, nL_65, nL_126, nL_128, nL_200, nL_255, nL_256, nL_1000, nL_8192, nL_5, nL_6, if_true, if_false, if_pos, if_neg]
theorem C_dir_out {a : Int32} (h : J_LogFs_isInode a = some (nI 0)) : J_Volume_isDirectory σ a = some (nI 0) := by
  unfold J_Volume_isDirectory
  rw [C_ty_out h]
  simp (disch := omega) only [nJ_bs, nJ_ifz, nJ_m1, nI_add, nJ_mul, nJ_sub, nJ_div, nJ_lt, nJ_le, nJ_eq, nJ_cl, nJ_in, nJ_md, nJ_rb, nJ_b8, nJ_b81, nJ_i8, nM_eq, nM_eq2, nM_lt, nM_le, nM_nle, nM_nlt, nM_self, nL_0, nL_1, nL_2, nL_3, nL_4, nL_7, nL_8, nL_10, nL_14, nL_15, nL_16, nL_17, nL_25, nL_26, nL_31, nL_32, nL_33, nL_56, nL_63, nL_64, nL_65, nL_126, nL_128, nL_200, nL_255, nL_256, nL_1000, nL_8192, nL_5, nL_6, if_true, if_false, if_pos, if_neg]
theorem C_nd (m : CM σ M L) {i : Nat} (hi : i < 32) : J_Volume_inodeByte σ (nI i) (nI 14) = some (nI (nd M i)) := by
  rw [C_ib m hi (by omega), show 1088 + 16 * i + 14 = 1102 + 16 * i by omega]; rfl
theorem C_cb (m : CM σ M L) {i k : Nat} (hi : i < 32) (hk : k < 16) (hn : nd M i < 128) : J_Volume_contentBlock σ (nI i) (nI k) = some (nI (cbk M i k)) := by
  unfold J_Volume_contentBlock
  by_cases h : k < 10
  · simp (disch := omega) only [nJ_bs, nJ_ifz, nJ_m1, nI_add, nJ_mul, nJ_sub, nJ_div, nJ_lt, nJ_le, nJ_eq, nJ_cl, nJ_in, nJ_md, nJ_rb, nJ_b8, nJ_b81, nJ_i8, nM_eq, nM_eq2, nM_lt, nM_le, nM_nle, nM_nlt, nM_self, nL_0, nL_1, nL_2, nL_3, nL_4, nL_7, nL_8, nL_10, nL_14, nL_15, nL_16, nL_17, nL_25, nL_26, nL_31, nL_32, nL_33, nL_56, nL_63, nL_64, nL_65, nL_126, nL_128, nL_200, nL_255, nL_256, nL_1000, nL_8192, nL_5, nL_6, if_true, if_false, if_pos, if_neg, C_ib m hi]
    rw [cbk_lo h, show 1088 + 16 * i + (4 + k) = 1092 + 16 * i + k by omega]; rfl
  · simp (disch := omega) only [nJ_bs, nJ_ifz, nJ_m1, nI_add, nJ_mul, nJ_sub, nJ_div, nJ_lt, nJ_le, nJ_eq, nJ_cl, nJ_in, nJ_md, nJ_rb, nJ_b8, nJ_b81, nJ_i8, nM_eq, nM_eq2, nM_lt, nM_le, nM_nle, nM_nlt, nM_self, nL_0, nL_1, nL_2, nL_3, nL_4, nL_7, nL_8, nL_10, nL_14, nL_15, nL_16, nL_17, nL_25, nL_26, nL_31, nL_32, nL_33, nL_56, nL_63, nL_64, nL_65, nL_126, nL_128, nL_200, nL_255, nL_256, nL_1000, nL_8192, nL_5, nL_6, C_nd m hi]
    rw [if_pos (by omega)]
    by_cases e : nd M i = 0
    · rw [if_pos e, cbk_no h e]
    · rw [if_neg e, cbk_hi h e]
      simp (disch := omega) only [nJ_bs, nJ_ifz, nJ_m1, nI_add, nJ_mul, nJ_sub, nJ_div, nJ_lt, nJ_le, nJ_eq, nJ_cl, nJ_in, nJ_md, nJ_rb, nJ_b8, nJ_b81, nJ_i8, nM_eq, nM_eq2, nM_lt, nM_le, nM_nle, nM_nlt, nM_self, nL_0, nL_1, nL_2, nL_3, nL_4, nL_7, nL_8, nL_10, nL_14, nL_15, nL_16, nL_17, nL_25, nL_26, nL_31, nL_32, nL_33, nL_56, nL_63, nL_64, nL_65, nL_126, nL_128, nL_200, nL_255, nL_256, nL_1000, nL_8192, nL_5, nL_6, if_true, if_false, if_pos, if_neg, C_get m hn]
theorem C_ct (m : CM σ M L) {i p : Nat} (hi : i < 32) (hp : p < 1024) (hn : nd M i < 128) (hc : cbk M i (p / 64) < 128) : J_Volume_contentByte σ (nI i) (nI p) = some (nI (ct M i p)) := by
  unfold J_Volume_contentByte
  simp (disch := omega) only [nJ_bs, nJ_ifz, nJ_m1, nI_add, nJ_mul, nJ_sub, nJ_div, nJ_lt, nJ_le, nJ_eq, nJ_cl, nJ_in, nJ_md, nJ_rb, nJ_b8, nJ_b81, nJ_i8, nM_eq, nM_eq2, nM_lt, nM_le, nM_nle, nM_nlt, nM_self, nL_0, nL_1, nL_2, nL_3, nL_4, nL_7, nL_8, nL_10, nL_14, nL_15, nL_16, nL_17, nL_25, nL_26, nL_31, nL_32, nL_33, nL_56, nL_63, nL_64, nL_65, nL_126, nL_128, nL_200, nL_255, nL_256, nL_1000, nL_8192, nL_5, nL_6, if_true, if_false, if_pos, if_neg, C_cb m hi (show p / 64 < 16 by omega) hn, C_get m hc]
  rfl
end CC
section RR
variable {σ : RS} {M : By} {L : List Nat}
theorem R_ib (m : RM σ M L) {i k : Nat} (hi : i < 32) (hk : k < 16) : J_Model_inodeAt σ (nI i) (nI k) = some (nI (rb M (1088 + 16 * i + k))) := by
  unfold J_Model_inodeAt J_Model_blockOf J_Model_placeOf
  simp (disch := omega) only [nJ_bs, nJ_ifz, nJ_m1, nI_add, nJ_mul, nJ_sub, nJ_div, nJ_lt, nJ_le, nJ_eq, nJ_cl, nJ_in, nJ_md, nJ_rb, nJ_b8, nJ_b81, nJ_i8, nM_eq, nM_eq2, nM_lt, nM_le, nM_nle, nM_nlt, nM_self, nL_0, nL_1, nL_2, nL_3, nL_4, nL_7, nL_8, nL_10, nL_14, nL_15, nL_16, nL_17, nL_25, nL_26, nL_31, nL_32, nL_33, nL_56, nL_63, nL_64, nL_65, nL_126, nL_128, nL_200, nL_255, nL_256, nL_1000, nL_8192, nL_5, nL_6, if_true, if_false, if_pos, if_neg, R_at m]
  rw [show 64 * (17 + i / 4) + (16 * (i % 4) + k) = 1088 + 16 * i + k by omega]
theorem R_ty (m : RM σ M L) {i : Nat} (hi : i < 32) : J_Model_inodeAt σ (nI i) (nI 0) = some (nI (ty M i)) := R_ib m hi (by omega)
theorem R_ln (m : RM σ M L) {i : Nat} (hi : i < 32) : J_Model_inodeAt σ (nI i) (nI 1) = some (nI (ln M i)) := by
  rw [R_ib m hi (by omega), show 1088 + 16 * i + 1 = 1089 + 16 * i by omega]; rfl
theorem R_nd (m : RM σ M L) {i : Nat} (hi : i < 32) : J_Model_inodeAt σ (nI i) (nI 14) = some (nI (nd M i)) := by
  rw [R_ib m hi (by omega), show 1088 + 16 * i + 14 = 1102 + 16 * i by omega]; rfl
theorem R_sz (m : RM σ M L) {i : Nat} (hi : i < 32) : J_Model_sizeOf σ (nI i) = some (nI (sz M i)) := by
  have h1 := rb_lt M (1088 + 16 * i + 2)
  unfold J_Model_sizeOf
  simp (disch := omega) only [nJ_bs, nJ_ifz, nJ_m1, nI_add, nJ_mul, nJ_sub, nJ_div, nJ_lt, nJ_le, nJ_eq, nJ_cl, nJ_in, nJ_md, nJ_rb, nJ_b8, nJ_b81, nJ_i8, nM_eq, nM_eq2, nM_lt, nM_le, nM_nle, nM_nlt, nM_self, nL_0, nL_1, nL_2, nL_3, nL_4, nL_7, nL_8, nL_10, nL_14, nL_15, nL_16, nL_17, nL_25, nL_26, nL_31, nL_32, nL_33, nL_56, nL_63, nL_64, nL_65, nL_126, nL_128, nL_200, nL_255, nL_256, nL_1000, nL_8192, nL_5, nL_6, if_true, if_false, if_pos, if_neg, R_ib m hi]
  rw [show 1088 + 16 * i + 2 = 1090 + 16 * i by omega, show 1088 + 16 * i + 3 = 1091 + 16 * i by omega]; rfl
theorem R_is (m : RM σ M L) {i t : Nat} (hi : i < 32) (ht : t < 256) : J_Model_is σ (nI i) (nI t) = some (nI (if ty M i = t then 1 else 0)) := by
  have h := ty_lt M i
  unfold J_Model_is J_Model_is_20
  simp (disch := omega) only [nJ_bs, nJ_ifz, nJ_m1, nI_add, nJ_mul, nJ_sub, nJ_div, nJ_lt, nJ_le, nJ_eq, nJ_cl, nJ_in, nJ_md, nJ_rb, nJ_b8, nJ_b81, nJ_i8, nM_eq, nM_eq2, nM_lt, nM_le, nM_nle, nM_nlt, nM_self, nL_0, nL_1, nL_2, nL_3, nL_4, nL_7, nL_8, nL_10, nL_14, nL_15, nL_16, nL_17, nL_25, nL_26, nL_31, nL_32, nL_33, nL_56, nL_63, nL_64, nL_65, nL_126, nL_128, nL_200, nL_255, nL_256, nL_1000, nL_8192, nL_5, nL_6, R_isI hi, R_ty m hi]
  rw [if_neg (by omega), if_neg (by omega)]
  by_cases e : ty M i = t
  · rw [if_pos e, if_pos e]
  · rw [if_neg e, if_neg e]
theorem R_is_out {a : Int32} (h : J_Model_isInode a = some (nI 0)) (t : Int32) : J_Model_is σ a t = some (nI 0) := by
  unfold J_Model_is
  rw [h]
  simp (disch := omega) only [nJ_bs, nJ_ifz, nJ_m1, nI_add, nJ_mul, nJ_sub, nJ_div, nJ_lt, nJ_le, nJ_eq, nJ_cl, nJ_in, nJ_md, nJ_rb, nJ_b8, nJ_b81, nJ_i8, nM_eq, nM_eq2, nM_lt, nM_le, nM_nle, nM_nlt, nM_self, nL_0, nL_1, nL_2, nL_3, nL_4, nL_7, nL_8, nL_10, nL_14, nL_15, nL_16, nL_17, nL_25, nL_26, nL_31, nL_32, nL_33, nL_56, nL_63, nL_64, nL_65, nL_126, nL_128, nL_200, nL_255, nL_256, nL_1000, nL_8192, nL_5, nL_6, if_true, if_false, if_pos, if_neg]
theorem R_cb (m : RM σ M L) {i k : Nat} (hi : i < 32) (hk : k < 16) (hn : nd M i < 128) (h0 : k < 10 ∨ nd M i ≠ 0) : J_Model_contentBlock σ (nI i) (nI k) = some (nI (cbk M i k)) := by
  unfold J_Model_contentBlock
  by_cases h : k < 10
  · simp (disch := omega) only [nJ_bs, nJ_ifz, nJ_m1, nI_add, nJ_mul, nJ_sub, nJ_div, nJ_lt, nJ_le, nJ_eq, nJ_cl, nJ_in, nJ_md, nJ_rb, nJ_b8, nJ_b81, nJ_i8, nM_eq, nM_eq2, nM_lt, nM_le, nM_nle, nM_nlt, nM_self, nL_0, nL_1, nL_2, nL_3, nL_4, nL_7, nL_8, nL_10, nL_14, nL_15, nL_16, nL_17, nL_25, nL_26, nL_31, nL_32, nL_33, nL_56, nL_63, nL_64, nL_65, nL_126, nL_128, nL_200, nL_255, nL_256, nL_1000, nL_8192, nL_5, nL_6, if_true, if_false, if_pos, if_neg, R_ib m hi]
    rw [cbk_lo h, show 1088 + 16 * i + (4 + k) = 1092 + 16 * i + k by omega]; rfl
  · simp (disch := omega) only [nJ_bs, nJ_ifz, nJ_m1, nI_add, nJ_mul, nJ_sub, nJ_div, nJ_lt, nJ_le, nJ_eq, nJ_cl, nJ_in, nJ_md, nJ_rb, nJ_b8, nJ_b81, nJ_i8, nM_eq, nM_eq2, nM_lt, nM_le, nM_nle, nM_nlt, nM_self, nL_0, nL_1, nL_2, nL_3, nL_4, nL_7, nL_8, nL_10, nL_14, nL_15, nL_16, nL_17, nL_25, nL_26, nL_31, nL_32, nL_33, nL_56, nL_63, nL_64, nL_65, nL_126, nL_128, nL_200, nL_255, nL_256, nL_1000, nL_8192, nL_5, nL_6, if_true, if_false, if_pos, if_neg, R_nd m hi, R_at m hn]
    rw [cbk_hi h (by omega)]
theorem R_ct (m : RM σ M L) {i p : Nat} (hi : i < 32) (hp : p < 1024) (hn : nd M i < 128) (h0 : p / 64 < 10 ∨ nd M i ≠ 0) (hc : cbk M i (p / 64) < 128) : J_Model_contentAt σ (nI i) (nI p) = some (nI (ct M i p)) := by
  unfold J_Model_contentAt
  simp (disch := omega) only [nJ_bs, nJ_ifz, nJ_m1, nI_add, nJ_mul, nJ_sub, nJ_div, nJ_lt, nJ_le, nJ_eq, nJ_cl, nJ_in, nJ_md, nJ_rb, nJ_b8, nJ_b81, nJ_i8, nM_eq, nM_eq2, nM_lt, nM_le, nM_nle, nM_nlt, nM_self, nL_0, nL_1, nL_2, nL_3, nL_4, nL_7, nL_8, nL_10, nL_14, nL_15, nL_16, nL_17, nL_25, nL_26, nL_31, nL_32, nL_33, nL_56, nL_63, nL_64, nL_65, nL_126, nL_128, nL_200, nL_255, nL_256, nL_1000, nL_8192, nL_5, nL_6, if_true, if_false, if_pos, if_neg, R_cb m hi (show p / 64 < 16 by omega) hn h0, R_at m hc]
  rfl
theorem R_used (m : RM σ M L) {b : Nat} (hb : b < 128) : J_Model_isUsed σ (nI b) = some (nI (bit M b)) := by
  have h := rb_lt M (1600 + b / 8)
  unfold J_Model_isUsed
  simp (disch := omega) only [nJ_bs, nJ_ifz, nJ_m1, nI_add, nJ_mul, nJ_sub, nJ_div, nJ_lt, nJ_le, nJ_eq, nJ_cl, nJ_in, nJ_md, nJ_rb, nJ_b8, nJ_b81, nJ_i8, nM_eq, nM_eq2, nM_lt, nM_le, nM_nle, nM_nlt, nM_self, nL_0, nL_1, nL_2, nL_3, nL_4, nL_7, nL_8, nL_10, nL_14, nL_15, nL_16, nL_17, nL_25, nL_26, nL_31, nL_32, nL_33, nL_56, nL_63, nL_64, nL_65, nL_126, nL_128, nL_200, nL_255, nL_256, nL_1000, nL_8192, nL_5, nL_6, R_at m (show 25 < 128 by omega) (show b / 8 < 64 by omega)]
  rw [show 64 * 25 + b / 8 = 1600 + b / 8 by omega, nT_bit _ h _ (by omega)]
  show (if nI (bit M b) = nI 1 then some (nI 1) else some (nI 0)) = some (nI (bit M b))
  rcases bit_01 M b with e | e
  · rw [e]; rfl
  · rw [e]; rfl
end RR
/-- the first from v on for which p holds; v + d if there is none among d -/
def fi (p : Nat → Bool) : Nat → Nat → Nat
  | 0, v => v
  | d + 1, v => if p v = true then v else fi p d (v + 1)
def cn (p : Nat → Bool) : Nat → Nat → Nat
  | 0, _ => 0
  | d + 1, v => (if p v = true then 1 else 0) + cn p d (v + 1)
theorem fi_le (p : Nat → Bool) : ∀ d v, v ≤ fi p d v ∧ fi p d v ≤ v + d := by
  intro d
  induction d with
  | zero => intro v; exact ⟨Nat.le_refl _, Nat.le_refl _⟩
  | succ d ih =>
    intro v
    unfold fi
    split
    · omega
    · have := ih (v + 1); omega
theorem fi_at (p : Nat → Bool) : ∀ d v, fi p d v < v + d → p (fi p d v) = true := by
  intro d
  induction d with
  | zero => intro v h; exact absurd h (Nat.lt_irrefl _)
  | succ d ih =>
    intro v h
    unfold fi at h ⊢
    by_cases e : p v = true
    · rw [if_pos e]; exact e
    · rw [if_neg e] at h ⊢
      exact ih (v + 1) (by omega)
theorem fi_no (p : Nat → Bool) : ∀ d v j, v ≤ j → j < fi p d v → p j = false := by
  intro d
  induction d with
  | zero => intro v j h1 h2; exact absurd h2 (by unfold fi; omega)
  | succ d ih =>
    intro v j h1 h2
    unfold fi at h2
    by_cases e : p v = true
    · rw [if_pos e] at h2; omega
    · rw [if_neg e] at h2
      by_cases q : j = v
      · rw [q]; exact Bool.not_eq_true _ ▸ e
      · exact ih (v + 1) j (by omega) h2
theorem fi_skip (p : Nat → Bool) (d : Nat) : ∀ e v, (∀ j, v ≤ j → j < v + e → p j = false) → fi p (e + d) v = fi p d (v + e) := by
  intro e
  induction e with
  | zero => intro v _; rw [Nat.zero_add, Nat.add_zero]
  | succ e ih =>
    intro v h
    rw [show e + 1 + d = (e + d) + 1 by omega]
    show (if p v = true then v else fi p (e + d) (v + 1)) = _
    rw [if_neg (by rw [h v (by omega) (by omega)]; decide), ih (v + 1) (fun j h1 h2 => h j (by omega) (by omega)), show v + 1 + e = v + (e + 1) by omega]
theorem fi_congr {p q : Nat → Bool} : ∀ d v, (∀ j, v ≤ j → j < v + d → p j = q j) → fi p d v = fi q d v := by
  intro d
  induction d with
  | zero => intro v _; rfl
  | succ d ih =>
    intro v h
    show (if p v = true then v else fi p d (v + 1)) = (if q v = true then v else fi q d (v + 1))
    rw [h v (by omega) (by omega), ih (v + 1) (fun j h1 h2 => h j (by omega) (by omega))]
theorem cn_congr {p q : Nat → Bool} : ∀ d v, (∀ j, v ≤ j → j < v + d → p j = q j) → cn p d v = cn q d v := by
  intro d
  induction d with
  | zero => intro v _; rfl
  | succ d ih =>
    intro v h
    show (if p v = true then 1 else 0) + cn p d (v + 1) = (if q v = true then 1 else 0) + cn q d (v + 1)
    rw [h v (by omega) (by omega), ih (v + 1) (fun j h1 h2 => h j (by omega) (by omega))]
theorem cn_le (p : Nat → Bool) : ∀ d v, cn p d v ≤ d := by
  intro d
  induction d with
  | zero => intro v; exact Nat.le_refl _
  | succ d ih =>
    intro v
    have := ih (v + 1)
    unfold cn
    split <;> omega
theorem cn_pos (p : Nat → Bool) : ∀ d v, 0 < cn p d v → fi p d v < v + d := by
  intro d
  induction d with
  | zero => intro v h; exact absurd h (by unfold cn; omega)
  | succ d ih =>
    intro v h
    unfold cn at h
    unfold fi
    by_cases e : p v = true
    · rw [if_pos e]; omega
    · rw [if_neg e] at h ⊢
      have := ih (v + 1) (by omega)
      omega
theorem cn_none (p : Nat → Bool) : ∀ d v, cn p d v = 0 → ∀ j, v ≤ j → j < v + d → p j = false := by
  intro d
  induction d with
  | zero => intro v _ j h1 h2; omega
  | succ d ih =>
    intro v h j h1 h2
    unfold cn at h
    by_cases e : p v = true
    · rw [if_pos e] at h; omega
    · by_cases q : j = v
      · rw [q]; exact Bool.not_eq_true _ ▸ e
      · exact ih (v + 1) (by omega) j (by omega) (by omega)
theorem cn_app (p : Nat → Bool) (e : Nat) : ∀ d v, cn p (d + e) v = cn p d v + cn p e (v + d) := by
  intro d
  induction d with
  | zero => intro v; rw [Nat.zero_add]; show _ = 0 + _; rw [Nat.zero_add, Nat.add_zero]
  | succ d ih =>
    intro v
    rw [show d + 1 + e = (d + e) + 1 by omega]
    show (if p v = true then 1 else 0) + cn p (d + e) (v + 1) = (if p v = true then 1 else 0) + cn p d (v + 1) + cn p e (v + (d + 1))
    rw [ih (v + 1), show v + 1 + d = v + (d + 1) by omega, Nat.add_assoc]
/-- one of them is no longer counted -/
theorem cn_less {p q : Nat → Bool} {b : Nat} : ∀ d v, v ≤ b → b < v + d → p b = true → q b = false → (∀ j, v ≤ j → j < v + d → j ≠ b → q j = p j) → cn q d v + 1 = cn p d v := by
  intro d
  induction d with
  | zero => intro v h1 h2; omega
  | succ d ih =>
    intro v h1 h2 hp hq h
    unfold cn
    by_cases e : v = b
    · rw [e, hp, hq, cn_congr (p := q) (q := p) d (b + 1) (fun j j1 j2 => h j (by omega) (by omega) (by omega))]
      rw [if_neg (by decide : ¬ false = true), if_pos rfl]
      omega
    · have := ih (v + 1) (by omega) (by omega) hp hq (fun j j1 j2 j3 => h j (by omega) (by omega) j3)
      rw [h v (by omega) (by omega) e]
      omega
