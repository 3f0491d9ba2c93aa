/-! What is written: a byte of an inode, a block taken, given back, put into a slot. Own rows. -/
def CU (x : Option (Int32 × CS)) (a : Int32) (σ : CS) (M : By) (L : List Nat) : Prop := ∃ τ, x = some (a, τ) ∧ CM τ M L ∧ cK σ τ
def RU (x : Option (Int32 × RS)) (a : Int32) (σ : RS) (M : By) (L : List Nat) : Prop := ∃ τ, x = some (a, τ) ∧ RM τ M L ∧ rK σ τ
theorem CU.tr {x : Option (Int32 × CS)} {a : Int32} {σ τ : CS} {M : By} {L : List Nat} (h : cK σ τ) (c : CU x a τ M L) : CU x a σ M L := by
  obtain ⟨υ, e, m, k⟩ := c
  exact ⟨υ, e, m, h.tr k⟩
theorem RU.tr {x : Option (Int32 × RS)} {a : Int32} {σ τ : RS} {M : By} {L : List Nat} (h : rK σ τ) (c : RU x a τ M L) : RU x a σ M L := by
  obtain ⟨υ, e, m, k⟩ := c
  exact ⟨υ, e, m, h.tr k⟩
theorem CU.bt {x : Option (Int32 × CS)} {a : Int32} {k : Int32 × CS → Option CS} {σ : CS} {M M' : By} {L L' : List Nat} (h : CU x a σ M L) (hk : ∀ τ, CM τ M L → CT (k (a, τ)) τ M' L') : CT (x.bind k) σ M' L' := by
  obtain ⟨τ, e, m, c⟩ := h
  rw [e, Option.bind_some]
  exact (hk τ m).tr c
theorem RU.bt {x : Option (Int32 × RS)} {a : Int32} {k : Int32 × RS → Option RS} {σ : RS} {M M' : By} {L L' : List Nat} (h : RU x a σ M L) (hk : ∀ τ, RM τ M L → RT (k (a, τ)) τ M' L') : RT (x.bind k) σ M' L' := by
  obtain ⟨τ, e, m, c⟩ := h
  rw [e, Option.bind_some]
  exact (hk τ m).tr c
theorem CT.bu {x : Option CS} {a : Int32} {k : CS → Option (Int32 × CS)} {σ : CS} {M M' : By} {L L' : List Nat} (h : CT x σ M L) (hk : ∀ τ, CM τ M L → CU (k τ) a τ M' L') : CU (x.bind k) a σ M' L' := by
  obtain ⟨τ, e, m, c⟩ := h
  rw [e, Option.bind_some]
  exact (hk τ m).tr c
theorem RT.bu {x : Option RS} {a : Int32} {k : RS → Option (Int32 × RS)} {σ : RS} {M M' : By} {L L' : List Nat} (h : RT x σ M L) (hk : ∀ τ, RM τ M L → RU (k τ) a τ M' L') : RU (x.bind k) a σ M' L' := by
  obtain ⟨τ, e, m, c⟩ := h
  rw [e, Option.bind_some]
  exact (hk τ m).tr c
/-- room for the first of two runs of blocks -/
theorem pds_l {L T T' : List Nat} {n : Nat} (h : (pds L (T ++ T')).length ≤ n) : (pds L T).length ≤ n := by
  rw [pds_app] at h
  exact Nat.le_trans (pds_le T' _) h
theorem pds_r {L T T' : List Nat} {n : Nat} (h : (pds L (T ++ T')).length ≤ n) : (pds (pds L T) T').length ≤ n := by
  rw [pds_app] at h
  exact h
theorem pd_pd (L : List Nat) (b : Nat) : pd (pd L b) b = pd L b := pd_have (pd_in.mpr (Or.inr rfl))
section CC
variable {σ : CS} {M : By} {L : List Nat}
theorem C_si (m : CM σ M L) {i k : Nat} (hi : i < 32) (hk : k < 16) (v : Nat) (hL : (pd L (17 + i / 4)).length ≤ 15) : CT (J_Volume_setInodeByte σ (nI i) (nI k) (nI v)) σ (va_up M (1088 + 16 * i + k) (b8 v)) (pd L (17 + i / 4)) := by
  unfold J_Volume_setInodeByte
  simp (disch := omega) only [nJ_bs, nJ_ifz, nJ_m1, nI_add, nJ_mul, nJ_sub, nJ_div, nJ_lt, nJ_le, nJ_eq, nJ_cl, nJ_in, nJ_md, nJ_rb, nJ_b8, nJ_b81, nJ_i8, nM_eq, nM_eq2, nM_lt, nM_le, nM_nle, nM_nlt, nM_self, nL_0, nL_1, nL_2, nL_3, nL_4, nL_7, nL_8, nL_10, nL_14, nL_15, nL_16, nL_17, nL_25, nL_26, nL_31, nL_32, nL_33, nL_56, nL_63, nL_64, nL_65, nL_126, nL_128, nL_200, nL_255, nL_256, nL_1000, nL_8192, nL_5, nL_6, if_true, if_false, if_pos, if_neg, C_isI hi]
  rw [show 1088 + 16 * i + k = 64 * (17 + i / 4) + (i % 4 * 16 + k) by omega]
  exact (C_change m (by omega) (by omega) v hL).bd (fun τ t => CT.id t)
theorem C_take (m : CM σ M L) (h26 : ∀ b, b < 26 → bit M b = 1) (hf : lfb M < 128) (hL : (pds L [25, lfb M]).length ≤ 15) : CU (J_Volume_takeBlock σ) (nI (lfb M)) σ (tak M (lfb M)) (pds L [25, lfb M]) := by
  have hb := lfb_free hf
  have h := rb_lt M (1600 + lfb M / 8)
  have hv : rb M (1600 + lfb M / 8) / 2 ^ (lfb M % 8) % 2 = 0 := hb
  unfold J_Volume_takeBlock
  rw [C_lfb m h26 hf, nJ_bs]
  simp (disch := omega) only [nJ_bs, nJ_ifz, nJ_m1, nI_add, nJ_mul, nJ_sub, nJ_div, nJ_lt, nJ_le, nJ_eq, nJ_cl, nJ_in, nJ_md, nJ_rb, nJ_b8, nJ_b81, nJ_i8, nM_eq, nM_eq2, nM_lt, nM_le, nM_nle, nM_nlt, nM_self, nL_0, nL_1, nL_2, nL_3, nL_4, nL_7, nL_8, nL_10, nL_14, nL_15, nL_16, nL_17, nL_25, nL_26, nL_31, nL_32, nL_33, nL_56, nL_63, nL_64, nL_65, nL_126, nL_128, nL_200, nL_255, nL_256, nL_1000, nL_8192, nL_5, nL_6, if_true, if_false, if_pos, if_neg, C_get m (show 25 < 128 by omega) (show lfb M / 8 < 64 by omega)]
  rw [show 64 * 25 + lfb M / 8 = 1600 + lfb M / 8 by omega, nT_on _ h _ (by omega), hv, Nat.sub_zero, Nat.one_mul]
  have h1 := C_change m (b := 25) (k := lfb M / 8) (by omega) (by omega) (rb M (1600 + lfb M / 8) + 2 ^ (lfb M % 8)) (pds_l (T := [25]) (T' := [lfb M]) hL)
  rw [show 64 * 25 + lfb M / 8 = 1600 + lfb M / 8 by omega] at h1
  refine h1.bu (fun τ t => ?_)
  refine (C_clear t hf (pds_r (T := [25]) (T' := [lfb M]) hL)).bu (fun υ u => ?_)
  exact ⟨υ, rfl, u, cK.rf υ⟩
theorem C_give (m : CM σ M L) {b : Nat} (hb : b < 128) (hL : (pd L 25).length ≤ 15) : CT (J_Volume_giveBack σ (nI b)) σ (off M b) (pd L 25) := by
  have h := rb_lt M (1600 + b / 8)
  unfold J_Volume_giveBack
  simp (disch := omega) only [nJ_bs, nJ_ifz, nJ_m1, nI_add, nJ_mul, nJ_sub, nJ_div, nJ_lt, nJ_le, nJ_eq, nJ_cl, nJ_in, nJ_md, nJ_rb, nJ_b8, nJ_b81, nJ_i8, nM_eq, nM_eq2, nM_lt, nM_le, nM_nle, nM_nlt, nM_self, nL_0, nL_1, nL_2, nL_3, nL_4, nL_7, nL_8, nL_10, nL_14, nL_15, nL_16, nL_17, nL_25, nL_26, nL_31, nL_32, nL_33, nL_56, nL_63, nL_64, nL_65, nL_126, nL_128, nL_200, nL_255, nL_256, nL_1000, nL_8192, nL_5, nL_6, if_true, if_false, if_pos, if_neg, C_get m (show 25 < 128 by omega) (show b / 8 < 64 by omega)]
  rw [show 64 * 25 + b / 8 = 1600 + b / 8 by omega, nT_off _ h _ (by omega)]
  have h1 := C_change m (b := 25) (k := b / 8) (by omega) (by omega) (rb M (1600 + b / 8) - rb M (1600 + b / 8) / 2 ^ (b % 8) % 2 * 2 ^ (b % 8)) hL
  rw [show 64 * 25 + b / 8 = 1600 + b / 8 by omega] at h1
  exact h1.bd (fun τ t => CT.id t)
end CC
section RR
variable {σ : RS} {M : By} {L : List Nat}
theorem R_si (m : RM σ M L) {i k : Nat} (hi : i < 32) (hk : k < 16) (v : Nat) (hL : (pd L (17 + i / 4)).length ≤ 15) : RT (J_Model_setInode σ (nI i) (nI k) (nI v)) σ (va_up M (1088 + 16 * i + k) (b8 v)) (pd L (17 + i / 4)) := by
  unfold J_Model_setInode J_Model_blockOf J_Model_placeOf
  simp (disch := omega) only [nJ_bs, nJ_ifz, nJ_m1, nI_add, nJ_mul, nJ_sub, nJ_div, nJ_lt, nJ_le, nJ_eq, nJ_cl, nJ_in, nJ_md, nJ_rb, nJ_b8, nJ_b81, nJ_i8, nM_eq, nM_eq2, nM_lt, nM_le, nM_nle, nM_nlt, nM_self, nL_0, nL_1, nL_2, nL_3, nL_4, nL_7, nL_8, nL_10, nL_14, nL_15, nL_16, nL_17, nL_25, nL_26, nL_31, nL_32, nL_33, nL_56, nL_63, nL_64, nL_65, nL_126, nL_128, nL_200, nL_255, nL_256, nL_1000, nL_8192, nL_5, nL_6, if_true, if_false, if_pos, if_neg]
  rw [show 1088 + 16 * i + k = 64 * (17 + i / 4) + (16 * (i % 4) + k) by omega]
  exact (R_set m (by omega) (by omega) v hL).bd (fun τ t => RT.id t)
theorem R_clr0 {b : Nat} (hb : b < 128) : ∀ d n v (σ : RS) (M : By) (L : List Nat), RM σ M L → (pd L b).length ≤ 15 → v + d = 64 → d < n →
    RU (J_Model_takeBlock_45 n σ (nI b) (nI v)) (nI b) σ (fun j => if 64 * b + v ≤ j ∧ j < 64 * b + 64 then 0 else M j) (if d = 0 then L else pd L b) := by
  intro d
  induction d with
  | zero =>
    intro n v σ M L m hL hv hn
    obtain ⟨n, rfl⟩ : ∃ k, n = k + 1 := ⟨n - 1, by omega⟩
    show RU (J_Model_takeBlock_45_b _ σ (nI b) (nI v)) _ _ _ _
    unfold J_Model_takeBlock_45_b
    simp (disch := omega) only [nJ_bs, nJ_ifz, nJ_m1, nI_add, nJ_mul, nJ_sub, nJ_div, nJ_lt, nJ_le, nJ_eq, nJ_cl, nJ_in, nJ_md, nJ_rb, nJ_b8, nJ_b81, nJ_i8, nM_eq, nM_eq2, nM_lt, nM_le, nM_nle, nM_nlt, nM_self, nL_0, nL_1, nL_2, nL_3, nL_4, nL_7, nL_8, nL_10, nL_14, nL_15, nL_16, nL_17, nL_25, nL_26, nL_31, nL_32, nL_33, nL_56, nL_63, nL_64, nL_65, nL_126, nL_128, nL_200, nL_255, nL_256, nL_1000, nL_8192, nL_5, nL_6, if_true, if_false, if_pos, if_neg]
    exact ⟨σ, rfl, m, rK.rf σ⟩
  | succ d ih =>
    intro n v σ M L m hL hv hn
    obtain ⟨n, rfl⟩ : ∃ k, n = k + 1 := ⟨n - 1, by omega⟩
    show RU (J_Model_takeBlock_45_b _ σ (nI b) (nI v)) _ _ _ _
    unfold J_Model_takeBlock_45_b
    simp (disch := omega) only [nJ_bs, nJ_ifz, nJ_m1, nI_add, nJ_mul, nJ_sub, nJ_div, nJ_lt, nJ_le, nJ_eq, nJ_cl, nJ_in, nJ_md, nJ_rb, nJ_b8, nJ_b81, nJ_i8, nM_eq, nM_eq2, nM_lt, nM_le, nM_nle, nM_nlt, nM_self, nL_0, nL_1, nL_2, nL_3, nL_4, nL_7, nL_8, nL_10, nL_14, nL_15, nL_16, nL_17, nL_25, nL_26, nL_31, nL_32, nL_33, nL_56, nL_63, nL_64, nL_65, nL_126, nL_128, nL_200, nL_255, nL_256, nL_1000, nL_8192, nL_5, nL_6, if_true, if_false, if_pos, if_neg]
    refine (R_set m hb (show v < 64 by omega) 0 hL).bu (fun τ t => ?_)
    have := ih n (v + 1) τ _ _ t (by rw [pd_pd]; exact hL) (by omega) (by omega)
    rw [pd_pd] at this
    rw [show (if d = 0 then pd L b else pd L b) = pd L b by split <;> rfl] at this
    have e : (fun j => if 64 * b + (v + 1) ≤ j ∧ j < 64 * b + 64 then 0 else va_up M (64 * b + v) (b8 0) j) = fun j => if 64 * b + v ≤ j ∧ j < 64 * b + 64 then 0 else M j := by
      funext j
      unfold va_up
      by_cases q : j = 64 * b + v
      · rw [if_neg (by omega), if_pos q, if_pos (by omega)]; rfl
      · rw [if_neg q]
        by_cases p : 64 * b + v ≤ j ∧ j < 64 * b + 64
        · rw [if_pos (by omega), if_pos p]
        · rw [if_neg (by omega), if_neg p]
    rw [e] at this
    exact this
theorem R_take0 (m : RM σ M L) (hf : lfb M < 128) (hL : (pds L [25, lfb M]).length ≤ 15) : ∀ d n v, v + d = lfb M → d < n → RU (J_Model_takeBlock_2 n σ (nI v)) (nI (lfb M)) σ (tak M (lfb M)) (pds L [25, lfb M]) := by
  have hb := lfb_free hf
  have h := rb_lt M (1600 + lfb M / 8)
  have hv0 : rb M (1600 + lfb M / 8) / 2 ^ (lfb M % 8) % 2 = 0 := hb
  intro d
  induction d with
  | zero =>
    intro n v hv hn
    obtain ⟨n, rfl⟩ : ∃ k, n = k + 1 := ⟨n - 1, by omega⟩
    rw [show v = lfb M by omega]
    show RU (J_Model_takeBlock_2_b _ σ (nI (lfb M))) _ _ _ _
    unfold J_Model_takeBlock_2_b
    rw [R_used m hf, hb, nJ_bs, nL_0, if_pos rfl]
    simp (disch := omega) only [nJ_bs, nJ_ifz, nJ_m1, nI_add, nJ_mul, nJ_sub, nJ_div, nJ_lt, nJ_le, nJ_eq, nJ_cl, nJ_in, nJ_md, nJ_rb, nJ_b8, nJ_b81, nJ_i8, nM_eq, nM_eq2, nM_lt, nM_le, nM_nle, nM_nlt, nM_self, nL_0, nL_1, nL_2, nL_3, nL_4, nL_7, nL_8, nL_10, nL_14, nL_15, nL_16, nL_17, nL_25, nL_26, nL_31, nL_32, nL_33, nL_56, nL_63, nL_64, nL_65, nL_126, nL_128, nL_200, nL_255, nL_256, nL_1000, nL_8192, nL_5, nL_6, if_true, if_false, if_pos, if_neg, R_at m (show 25 < 128 by omega) (show lfb M / 8 < 64 by omega)]
    rw [show 64 * 25 + lfb M / 8 = 1600 + lfb M / 8 by omega, nT_on _ h _ (by omega), hv0, Nat.sub_zero, Nat.one_mul]
    have h1 := R_set m (b := 25) (k := lfb M / 8) (by omega) (by omega) (rb M (1600 + lfb M / 8) + 2 ^ (lfb M % 8)) (pds_l (T := [25]) (T' := [lfb M]) hL)
    rw [show 64 * 25 + lfb M / 8 = 1600 + lfb M / 8 by omega] at h1
    refine h1.bu (fun τ t => ?_)
    exact R_clr0 hf 64 9000 0 τ _ _ t (pds_r (T := [25]) (T' := [lfb M]) hL) (by omega) (by omega)
  | succ d ih =>
    intro n v hv hn
    obtain ⟨n, rfl⟩ : ∃ k, n = k + 1 := ⟨n - 1, by omega⟩
    show RU (J_Model_takeBlock_2_b _ σ (nI v)) _ _ _ _
    unfold J_Model_takeBlock_2_b
    rw [R_used m (show v < 128 by omega), lfb_used (show v < lfb M by omega), nJ_bs, if_neg (by decide), nL_1, nI_add]
    exact ih n (v + 1) (by omega) (by omega)
theorem R_take (m : RM σ M L) (hf : lfb M < 128) (hL : (pds L [25, lfb M]).length ≤ 15) : RU (J_Model_takeBlock σ) (nI (lfb M)) σ (tak M (lfb M)) (pds L [25, lfb M]) := R_take0 m hf hL (lfb M) 9000 0 (by omega) (by omega)
theorem R_give (m : RM σ M L) {b : Nat} (hb : b < 128) (hL : (pd L 25).length ≤ 15) : RT (J_Model_free σ (nI b)) σ (off M b) (pd L 25) := by
  have h := rb_lt M (1600 + b / 8)
  unfold J_Model_free
  simp (disch := omega) only [nJ_bs, nJ_ifz, nJ_m1, nI_add, nJ_mul, nJ_sub, nJ_div, nJ_lt, nJ_le, nJ_eq, nJ_cl, nJ_in, nJ_md, nJ_rb, nJ_b8, nJ_b81, nJ_i8, nM_eq, nM_eq2, nM_lt, nM_le, nM_nle, nM_nlt, nM_self, nL_0, nL_1, nL_2, nL_3, nL_4, nL_7, nL_8, nL_10, nL_14, nL_15, nL_16, nL_17, nL_25, nL_26, nL_31, nL_32, nL_33, nL_56, nL_63, nL_64, nL_65, nL_126, nL_128, nL_200, nL_255, nL_256, nL_1000, nL_8192, nL_5, nL_6, if_true, if_false, if_pos, if_neg, R_at m (show 25 < 128 by omega) (show b / 8 < 64 by omega)]
  rw [show 64 * 25 + b / 8 = 1600 + b / 8 by omega, nT_off _ h _ (by omega)]
  have h1 := R_set m (b := 25) (k := b / 8) (by omega) (by omega) (rb M (1600 + b / 8) - rb M (1600 + b / 8) / 2 ^ (b % 8) % 2 * 2 ^ (b % 8)) hL
  rw [show 64 * 25 + b / 8 = 1600 + b / 8 by omega] at h1
  exact h1.bd (fun τ t => RT.id t)
end RR
/-- a slot gets the least free block -/
def sA (M : By) (i k : Nat) : By := va_up (tak M (lfb M)) (sa M i k) (b8 (lfb M))
def tS (M : By) (i k : Nat) : List Nat := [25, lfb M, sa M i k / 64]
def aB (M : By) (i k : Nat) : By := if k < 10 ∨ nd M i ≠ 0 then sA M i k else sA (sA M i 16) i k
def tB (M : By) (i k : Nat) : List Nat := if k < 10 ∨ nd M i ≠ 0 then tS M i k else tS M i 16 ++ tS (sA M i 16) i k
theorem sa_lo {M : By} {i k : Nat} (h : k < 10) : sa M i k = 1092 + 16 * i + k := if_pos h
theorem sa_16 (M : By) (i : Nat) : sa M i 16 = 1102 + 16 * i := rfl
theorem sa_hi {M : By} {i k : Nat} (h : 10 ≤ k) (h2 : k < 16) : sa M i k = 64 * nd M i + (k - 10) := by
  unfold sa
  rw [if_neg (by omega), if_neg (by omega)]
theorem nd_sA16 {M : By} {i : Nat} (hf : lfb M < 128) : nd (sA M i 16) i = lfb M := by
  unfold sA nd
  rw [sa_16]
  exact rb_up_s _ _ _ (by omega)
/-- what adding a block to a content wants: free blocks -/
def aOk (M : By) (i k : Nat) : Prop := (∀ b, b < 26 → bit M b = 1) ∧ lfb M < 128 ∧ nd M i < 128 ∧ (10 ≤ k → nd M i = 0 → (∀ b, b < 26 → bit (sA M i 16) b = 1) ∧ lfb (sA M i 16) < 128)
theorem lfb_26 {M : By} (h : ∀ b, b < 26 → bit M b = 1) (hf : lfb M < 128) : 26 ≤ lfb M := by
  have := lfb_free hf
  by_cases e : lfb M < 26
  · have := h _ e; omega
  · omega
section CC
variable {σ : CS} {M : By} {L : List Nat}
theorem C_add44 (m : CM σ M L) {i k : Nat} (hi : i < 32) (hk : k < 16) (hk10 : 10 ≤ k) (h26 : ∀ b, b < 26 → bit M b = 1) (hf : lfb M < 128) (hn : nd M i < 128) (hL : (pds L (tS M i k)).length ≤ 15) : CT (J_Volume_addContentBlock_44 σ (nI i) (nI k)) σ (sA M i k) (pds L (tS M i k)) := by
  have h26b := lfb_26 h26 hf
  unfold J_Volume_addContentBlock_44
  refine (C_take m h26 hf (pds_l (T := [25, lfb M]) (T' := [sa M i k / 64]) hL)).bt (fun τ t => ?_)
  simp (disch := omega) only [nJ_bs, nJ_ifz, nJ_m1, nI_add, nJ_mul, nJ_sub, nJ_div, nJ_lt, nJ_le, nJ_eq, nJ_cl, nJ_in, nJ_md, nJ_rb, nJ_b8, nJ_b81, nJ_i8, nM_eq, nM_eq2, nM_lt, nM_le, nM_nle, nM_nlt, nM_self, nL_0, nL_1, nL_2, nL_3, nL_4, nL_7, nL_8, nL_10, nL_14, nL_15, nL_16, nL_17, nL_25, nL_26, nL_31, nL_32, nL_33, nL_56, nL_63, nL_64, nL_65, nL_126, nL_128, nL_200, nL_255, nL_256, nL_1000, nL_8192, nL_5, nL_6, if_true, if_false, if_pos, if_neg, C_nd t hi, nd_tak h26b hi]
  have e : sa M i k = 64 * nd M i + (k - 10) := sa_hi hk10 hk
  have hL2 := pds_r (T := [25, lfb M]) (T' := [sa M i k / 64]) hL
  have h1 := C_change t (b := nd M i) (k := k - 10) hn (by omega) (lfb M) (by rw [show nd M i = sa M i k / 64 by omega]; exact hL2)
  rw [← e, show pd (pds L [25, lfb M]) (nd M i) = pds L (tS M i k) by rw [show nd M i = sa M i k / 64 by omega]; rfl] at h1
  exact h1.bd (fun υ u => CT.id u)
theorem C_slot (m : CM σ M L) {i k j : Nat} (hi : i < 32) (hj : (k < 10 ∧ j = 4 + k) ∨ (k = 16 ∧ j = 14)) (h26 : ∀ b, b < 26 → bit M b = 1) (hf : lfb M < 128) (hL : (pds L (tS M i k)).length ≤ 15) {f : CS → Option CS} {M' : By} {L' : List Nat} (hk : ∀ τ, CM τ (sA M i k) (pds L (tS M i k)) → CT (f τ) τ M' L') :
    CT ((J_Volume_takeBlock σ).bind fun x => (J_Volume_setInodeByte x.2 (nI i) (nI j) x.1).bind f) σ M' L' := by
  refine (C_take m h26 hf (pds_l (T := [25, lfb M]) (T' := [sa M i k / 64]) hL)).bt (fun τ t => ?_)
  have e : sa M i k = 1088 + 16 * i + j := by
    rcases hj with ⟨a, b⟩ | ⟨a, b⟩
    · rw [sa_lo a]; omega
    · rw [a, sa_16]; omega
  have e2 : sa M i k / 64 = 17 + i / 4 := by
    have : j < 16 := by omega
    omega
  have hL2 := pds_r (T := [25, lfb M]) (T' := [sa M i k / 64]) hL
  have h1 := C_si t hi (show j < 16 by omega) (lfb M) (by rw [← e2]; exact hL2)
  rw [← e, ← e2] at h1
  exact h1.bd hk
theorem C_add (m : CM σ M L) {i k : Nat} (hi : i < 32) (hk : k < 16) (ha : aOk M i k) (hL : (pds L (tB M i k)).length ≤ 15) : CT (J_Volume_addContentBlock σ (nI i) (nI k)) σ (aB M i k) (pds L (tB M i k)) := by
  obtain ⟨h26, hf, hn, h2⟩ := ha
  unfold J_Volume_addContentBlock
  by_cases h : k < 10
  · have c : k < 10 ∨ nd M i ≠ 0 := Or.inl h
    have e1 : aB M i k = sA M i k := if_pos c
    have e2 : tB M i k = tS M i k := if_pos c
    rw [e2] at hL
    rw [e1, e2, nL_10, if_neg (by rw [nJ_le (by omega) (by omega)]; omega), nL_4, nI_add]
    exact C_slot m hi (Or.inl ⟨h, rfl⟩) h26 hf hL (fun τ t => CT.id t)
  · rw [nL_10, if_pos (by rw [nJ_le (by omega) (by omega)]; omega), nL_14, C_nd m hi, nJ_bs, nL_0]
    by_cases c : nd M i = 0
    · have c2 : ¬ (k < 10 ∨ nd M i ≠ 0) := fun z => z.elim h (fun y => y c)
      have e1 : aB M i k = sA (sA M i 16) i k := if_neg c2
      have e2 : tB M i k = tS M i 16 ++ tS (sA M i 16) i k := if_neg c2
      obtain ⟨g26, gf⟩ := h2 (by omega) c
      rw [e2] at hL
      rw [e1, e2, if_pos (by rw [c]), pds_app]
      refine C_slot m hi (Or.inr ⟨rfl, rfl⟩) h26 hf (pds_l hL) (fun τ t => ?_)
      exact C_add44 t hi hk (by omega) g26 gf (by rw [nd_sA16 hf]; exact hf) (pds_r hL)
    · have c2 : k < 10 ∨ nd M i ≠ 0 := Or.inr c
      have e1 : aB M i k = sA M i k := if_pos c2
      have e2 : tB M i k = tS M i k := if_pos c2
      rw [e2] at hL
      rw [e1, e2, if_neg (by rw [nJ_eq (by omega) (by omega)]; exact c)]
      exact C_add44 m hi hk (by omega) h26 hf hn hL
end CC
section RR
variable {σ : RS} {M : By} {L : List Nat}
theorem R_add46 (m : RM σ M L) {i k : Nat} (hi : i < 32) (hk : k < 16) (hk10 : 10 ≤ k) (h26 : ∀ b, b < 26 → bit M b = 1) (hf : lfb M < 128) (hn : nd M i < 128) (hL : (pds L (tS M i k)).length ≤ 15) : RT (J_Model_blockFor_46 σ (nI i) (nI k)) σ (sA M i k) (pds L (tS M i k)) := by
  have h26b := lfb_26 h26 hf
  unfold J_Model_blockFor_46
  refine (R_take m hf (pds_l (T := [25, lfb M]) (T' := [sa M i k / 64]) hL)).bt (fun τ t => ?_)
  simp (disch := omega) only [nJ_bs, nJ_ifz, nJ_m1, nI_add, nJ_mul, nJ_sub, nJ_div, nJ_lt, nJ_le, nJ_eq, nJ_cl, nJ_in, nJ_md, nJ_rb, nJ_b8, nJ_b81, nJ_i8, nM_eq, nM_eq2, nM_lt, nM_le, nM_nle, nM_nlt, nM_self, nL_0, nL_1, nL_2, nL_3, nL_4, nL_7, nL_8, nL_10, nL_14, nL_15, nL_16, nL_17, nL_25, nL_26, nL_31, nL_32, nL_33, nL_56, nL_63, nL_64, nL_65, nL_126, nL_128, nL_200, nL_255, nL_256, nL_1000, nL_8192, nL_5, nL_6, if_true, if_false, if_pos, if_neg, R_nd t hi, nd_tak h26b hi]
  have e : sa M i k = 64 * nd M i + (k - 10) := sa_hi hk10 hk
  have hL2 := pds_r (T := [25, lfb M]) (T' := [sa M i k / 64]) hL
  have h1 := R_set t (b := nd M i) (k := k - 10) hn (by omega) (lfb M) (by rw [show nd M i = sa M i k / 64 by omega]; exact hL2)
  rw [← e, show pd (pds L [25, lfb M]) (nd M i) = pds L (tS M i k) by rw [show nd M i = sa M i k / 64 by omega]; rfl] at h1
  exact h1.bd (fun υ u => RT.id u)
theorem R_slot (m : RM σ M L) {i k j : Nat} (hi : i < 32) (hj : (k < 10 ∧ j = 4 + k) ∨ (k = 16 ∧ j = 14)) (hf : lfb M < 128) (hL : (pds L (tS M i k)).length ≤ 15) {f : RS → Option RS} {M' : By} {L' : List Nat} (hk : ∀ τ, RM τ (sA M i k) (pds L (tS M i k)) → RT (f τ) τ M' L') :
    RT ((J_Model_takeBlock σ).bind fun x => (J_Model_setInode x.2 (nI i) (nI j) x.1).bind f) σ M' L' := by
  refine (R_take m hf (pds_l (T := [25, lfb M]) (T' := [sa M i k / 64]) hL)).bt (fun τ t => ?_)
  have e : sa M i k = 1088 + 16 * i + j := by
    rcases hj with ⟨a, b⟩ | ⟨a, b⟩
    · rw [sa_lo a]; omega
    · rw [a, sa_16]; omega
  have e2 : sa M i k / 64 = 17 + i / 4 := by
    have : j < 16 := by omega
    omega
  have hL2 := pds_r (T := [25, lfb M]) (T' := [sa M i k / 64]) hL
  have h1 := R_si t hi (show j < 16 by omega) (lfb M) (by rw [← e2]; exact hL2)
  rw [← e, ← e2] at h1
  exact h1.bd hk
theorem R_add (m : RM σ M L) {i k : Nat} (hi : i < 32) (hk : k < 16) (ha : aOk M i k) (hL : (pds L (tB M i k)).length ≤ 15) : RT (J_Model_blockFor σ (nI i) (nI k)) σ (aB M i k) (pds L (tB M i k)) := by
  obtain ⟨h26, hf, hn, h2⟩ := ha
  unfold J_Model_blockFor
  by_cases h : k < 10
  · have c : k < 10 ∨ nd M i ≠ 0 := Or.inl h
    have e1 : aB M i k = sA M i k := if_pos c
    have e2 : tB M i k = tS M i k := if_pos c
    rw [e2] at hL
    rw [e1, e2, nL_10, if_neg (by rw [nJ_le (by omega) (by omega)]; omega), nL_4, nI_add]
    exact R_slot m hi (Or.inl ⟨h, rfl⟩) hf hL (fun τ t => RT.id t)
  · rw [nL_10, if_pos (by rw [nJ_le (by omega) (by omega)]; omega), nL_14, R_nd m hi, nJ_bs, nL_0]
    by_cases c : nd M i = 0
    · have c2 : ¬ (k < 10 ∨ nd M i ≠ 0) := fun z => z.elim h (fun y => y c)
      have e1 : aB M i k = sA (sA M i 16) i k := if_neg c2
      have e2 : tB M i k = tS M i 16 ++ tS (sA M i 16) i k := if_neg c2
      obtain ⟨g26, gf⟩ := h2 (by omega) c
      rw [e2] at hL
      rw [e1, e2, if_pos (by rw [c]), pds_app]
      refine R_slot m hi (Or.inr ⟨rfl, rfl⟩) hf (pds_l hL) (fun τ t => ?_)
      exact R_add46 t hi hk (by omega) g26 gf (by rw [nd_sA16 hf]; exact hf) (pds_r hL)
    · have c2 : k < 10 ∨ nd M i ≠ 0 := Or.inr c
      have e1 : aB M i k = sA M i k := if_pos c2
      have e2 : tB M i k = tS M i k := if_pos c2
      rw [e2] at hL
      rw [e1, e2, if_neg (by rw [nJ_eq (by omega) (by omega)]; exact c)]
      exact R_add46 m hi hk (by omega) h26 hf hn hL
end RR
