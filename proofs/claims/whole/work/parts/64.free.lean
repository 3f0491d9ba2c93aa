/-! A content is emptied. Own rows. -/
def zr (M : By) (a n : Nat) : By := fun j => if a ≤ j ∧ j < a + n then 0 else M j
theorem rb_zr (M : By) (a n j : Nat) : rb (zr M a n) j = if a ≤ j ∧ j < a + n then 0 else rb M j := by
  unfold rb zr
  by_cases h : a ≤ j ∧ j < a + n
  · rw [if_pos h, if_pos h]; rfl
  · rw [if_neg h, if_neg h]
theorem zr_nil (M : By) (a : Nat) : zr M a 0 = M := funext fun j => if_neg (by omega)
theorem zr_cons (M : By) (a n : Nat) : zr (va_up M a (b8 0)) (a + 1) n = zr M a (n + 1) := by
  funext j
  unfold zr va_up
  by_cases q : j = a
  · rw [if_neg (by omega), if_pos q, if_pos (by omega)]; rfl
  · rw [if_neg q]
    by_cases p : a ≤ j ∧ j < a + (n + 1)
    · rw [if_pos (by omega), if_pos p]
    · rw [if_neg (by omega), if_neg p]
/-- blocks given back -/
def gvc (c : Nat → Nat) : Nat → Nat → By → By
  | 0, _, M => M
  | d + 1, v, M => gvc c d (v + 1) (off M (c v))
/-- outside of the map all is as before -/
def oM (M M' : By) : Prop := ∀ a, ¬ (1600 ≤ a ∧ a < 1664) → rb M' a = rb M a
theorem oM.rf (M : By) : oM M M := fun _ _ => rfl
theorem oM.off {M M' : By} (h : oM M M') {b : Nat} (hb : b < 128) : oM M (off M' b) := fun a ha => by
  rw [rb_off _ _ (by omega)]; exact h a ha
theorem oM.q_nd {M M' : By} (h : oM M M') {i : Nat} (hi : i < 32) : nd M' i = nd M i := h _ (by omega)
theorem oM.q_sz {M M' : By} (h : oM M M') {i : Nat} (hi : i < 32) : sz M' i = sz M i := by
  unfold sz
  rw [h _ (by omega), h _ (by omega)]
theorem oM.q_cbk {M M' : By} (h : oM M M') {i k : Nat} (hi : i < 32) (hk : k < 16) (h25 : nd M i ≠ 25) : cbk M' i k = cbk M i k := by
  unfold cbk
  by_cases h1 : k < 10
  · rw [if_pos h1, if_pos h1]; exact h _ (by omega)
  · rw [if_neg h1, if_neg h1, h.q_nd hi]
    by_cases h2 : nd M i = 0
    · rw [if_pos h2, if_pos h2]
    · rw [if_neg h2, if_neg h2]; exact h _ (by omega)
theorem oM_gvc {c : Nat → Nat} : ∀ d v (M0 M : By), oM M0 M → (∀ k, v ≤ k → k < v + d → c k < 128) → oM M0 (gvc c d v M) := by
  intro d
  induction d with
  | zero => intro v M0 M h _; exact h
  | succ d ih =>
    intro v M0 M h hc
    exact ih (v + 1) M0 _ (h.off (hc v (by omega) (by omega))) (fun k h1 h2 => hc k (by omega) (by omega))
def emA (M : By) (i h : Nat) : By := gvc (cbk M i) h 0 M
/-- all blocks of the inode i, of which its content has h, given back -/
def emB (M : By) (i h : Nat) : By := if nd M i = 0 then emA M i h else off (emA M i h) (nd M i)
def tE (M : By) (i h : Nat) : List Nat := List.replicate h 25 ++ (if nd M i = 0 then [] else [25])
section CC
variable {σ : CS} {M : By} {L : List Nat}
theorem C_zero0 {i : Nat} (hi : i < 32) : ∀ d n v (σ : CS) (M : By) (L : List Nat), CM σ M L → v + d = 16 → d < n → (pd L (17 + i / 4)).length ≤ 15 → CT (J_Volume_empty_52 n σ (nI i) (nI v)) σ (zr M (1088 + 16 * i + v) d) (if d = 0 then L else pd L (17 + i / 4)) := by
  intro d
  induction d with
  | zero =>
    intro n v σ M L m hv hn hL
    obtain ⟨n, rfl⟩ : ∃ k, n = k + 1 := ⟨n - 1, by omega⟩
    show CT (J_Volume_empty_52_b _ σ (nI i) (nI v)) _ _ _
    unfold J_Volume_empty_52_b
    rw [nL_16, if_pos (by rw [nJ_le (by omega) (by omega)]; omega), zr_nil]
    exact CT.id m
  | succ d ih =>
    intro n v σ M L m hv hn hL
    obtain ⟨n, rfl⟩ : ∃ k, n = k + 1 := ⟨n - 1, by omega⟩
    show CT (J_Volume_empty_52_b _ σ (nI i) (nI v)) _ _ _
    unfold J_Volume_empty_52_b
    rw [nL_16, if_neg (by rw [nJ_le (by omega) (by omega)]; omega), nL_0, nL_1, nI_add, ← zr_cons]
    refine (C_si m hi (by omega) 0 hL).bd (fun τ t => ?_)
    have := ih n (v + 1) τ _ _ t (by omega) (by omega) (by rw [pd_pd]; exact hL)
    rw [pd_pd, show (if d = 0 then pd L (17 + i / 4) else pd L (17 + i / 4)) = pd L (17 + i / 4) by split <;> rfl] at this
    exact this
theorem C_empty0 {M0 : By} {i h : Nat} (hi : i < 32) (hh : h ≤ 16) (hc : ∀ k, k < 16 → cbk M0 i k < 128) (hn0 : nd M0 i < 128) (h25 : nd M0 i ≠ 25) : ∀ d n v (σ : CS) (M : By) (L : List Nat), CM σ M L → oM M0 M → v + d = h → d < n →
    (pds L (List.replicate d 25 ++ ((if nd M0 i = 0 then [] else [25]) ++ [17 + i / 4]))).length ≤ 15 → CT (J_Volume_empty_11 n σ (nI i) (nI h) (nI v)) σ (zr (if nd M0 i = 0 then gvc (cbk M0 i) d v M else off (gvc (cbk M0 i) d v M) (nd M0 i)) (1090 + 16 * i) 14) (pds L (List.replicate d 25 ++ ((if nd M0 i = 0 then [] else [25]) ++ [17 + i / 4]))) := by
  intro d
  induction d with
  | zero =>
    intro n v σ M L m hM hv hn hL
    obtain ⟨n, rfl⟩ : ∃ k, n = k + 1 := ⟨n - 1, by omega⟩
    show CT (J_Volume_empty_11_b _ σ (nI i) (nI h) (nI v)) _ _ _
    have hL : (pds L ((if nd M0 i = 0 then [] else [25]) ++ [17 + i / 4])).length ≤ 15 := hL
    show CT _ _ (zr (if nd M0 i = 0 then M else off M (nd M0 i)) (1090 + 16 * i) 14) (pds L ((if nd M0 i = 0 then [] else [25]) ++ [17 + i / 4]))
    unfold J_Volume_empty_11_b
    rw [if_pos (by rw [nJ_le (by omega) (by omega)]; omega), nL_14, C_nd m hi, nJ_bs, nL_0, hM.q_nd hi, nL_2]
    by_cases q : nd M0 i = 0
    · rw [if_pos q] at hL
      rw [if_pos q, if_pos q, if_pos (by rw [q])]
      have := C_zero0 hi 14 9000 2 σ M L m (by omega) (by omega) hL
      rw [show 1088 + 16 * i + 2 = 1090 + 16 * i by omega] at this
      exact this
    · rw [if_neg q] at hL
      rw [if_neg q, if_neg q, if_neg (by rw [nJ_eq (by omega) (by omega)]; exact q), pds_app]
      refine (C_give m hn0 (pds_l hL)).bd (fun τ t => ?_)
      have := C_zero0 hi 14 9000 2 τ _ _ t (by omega) (by omega) (pds_r hL)
      rw [show 1088 + 16 * i + 2 = 1090 + 16 * i by omega] at this
      exact this
  | succ d ih =>
    intro n v σ M L m hM hv hn hL
    obtain ⟨n, rfl⟩ : ∃ k, n = k + 1 := ⟨n - 1, by omega⟩
    show CT (J_Volume_empty_11_b _ σ (nI i) (nI h) (nI v)) _ _ _
    have e : List.replicate (d + 1) 25 ++ ((if nd M0 i = 0 then [] else [25]) ++ [17 + i / 4]) = [25] ++ (List.replicate d 25 ++ ((if nd M0 i = 0 then [] else [25]) ++ [17 + i / 4])) := rfl
    rw [e] at hL ⊢
    have hcv := hc v (by omega)
    unfold J_Volume_empty_11_b
    rw [if_neg (by rw [nJ_le (by omega) (by omega)]; omega), C_cb m hi (by omega) (by rw [hM.q_nd hi]; exact hn0), nJ_bs, hM.q_cbk hi (by omega) h25, nL_1, nI_add, pds_app]
    refine (C_give m hcv (pds_l hL)).bd (fun τ t => ?_)
    exact ih n (v + 1) τ _ _ t (hM.off hcv) (by omega) (by omega) (pds_r hL)
theorem C_empty (m : CM σ M L) {i : Nat} (hi : i < 32) (hs : sz M i ≤ 1000) (hc : ∀ k, k < 16 → cbk M i k < 128) (hn0 : nd M i < 128) (h25 : nd M i ≠ 25) (hL : (pds L (tE M i (bf (sz M i)) ++ [17 + i / 4])).length ≤ 15) : CT (J_Volume_empty σ (nI i)) σ (zr (emB M i (bf (sz M i))) (1090 + 16 * i) 14) (pds L (tE M i (bf (sz M i)) ++ [17 + i / 4])) := by
  have := bf_le hs
  unfold tE at hL ⊢
  rw [List.append_assoc] at hL ⊢
  unfold J_Volume_empty
  rw [C_sz m hi, nJ_bs, C_bf (by omega), nJ_bs]
  exact C_empty0 hi (by omega) hc hn0 h25 (bf (sz M i)) 9000 0 σ M L m (oM.rf M) (by omega) (by omega) hL
theorem zr_two (M : By) (a : Nat) : va_up (va_up (zr M (a + 2) 14) a (b8 0)) (a + 1) (b8 0) = zr M a 16 := by
  funext j
  unfold va_up zr
  by_cases q : j = a + 1
  · rw [if_pos q, if_pos (by omega)]; rfl
  · rw [if_neg q]
    by_cases p : j = a
    · rw [if_pos p, if_pos (by omega)]; rfl
    · rw [if_neg p]
      by_cases w : a ≤ j ∧ j < a + 16
      · rw [if_pos (by omega), if_pos w]
      · rw [if_neg (by omega), if_neg w]
theorem C_drop1 (m : CM σ M L) {i : Nat} (hi : i < 32) (hl : ¬ ln M i ≤ 1) (hL : (pd L (17 + i / 4)).length ≤ 15) : CT (J_Volume_dropLink σ (nI i)) σ (va_up M (1089 + 16 * i) (b8 (ln M i - 1))) (pd L (17 + i / 4)) := by
  have h := ln_lt M i
  unfold J_Volume_dropLink
  rw [C_ln m hi, nJ_bs, nL_1, if_neg (by rw [nJ_le (by omega) (by omega)]; exact hl), nJ_bs, nJ_sub (by omega) (by omega)]
  have := C_si m hi (show 1 < 16 by omega) (ln M i - 1) hL
  rw [show 1088 + 16 * i + 1 = 1089 + 16 * i by omega] at this
  exact this.bd (fun τ t => CT.id t)
theorem C_drop0 (m : CM σ M L) {i : Nat} (hi : i < 32) (hl : ln M i ≤ 1) (hs : sz M i ≤ 1000) (hc : ∀ k, k < 16 → cbk M i k < 128) (hn0 : nd M i < 128) (h25 : nd M i ≠ 25) (hL : (pds L (tE M i (bf (sz M i)) ++ [17 + i / 4])).length ≤ 15) : CT (J_Volume_dropLink σ (nI i)) σ (zr (emB M i (bf (sz M i))) (1088 + 16 * i) 16) (pds L (tE M i (bf (sz M i)) ++ [17 + i / 4])) := by
  have h := ln_lt M i
  unfold J_Volume_dropLink
  rw [C_ln m hi, nJ_bs, nL_1, if_pos (by rw [nJ_le (by omega) (by omega)]; exact hl), nL_0]
  refine (C_empty m hi hs hc hn0 h25 hL).bd (fun τ t => ?_)
  have hin : pd (pds L (tE M i (bf (sz M i)) ++ [17 + i / 4])) (17 + i / 4) = pds L (tE M i (bf (sz M i)) ++ [17 + i / 4]) := pd_have (pds_in.mpr (Or.inr (List.mem_append_right _ (List.mem_singleton.mpr rfl))))
  have h1 := C_si t hi (show 0 < 16 by omega) 0 (by rw [hin]; exact hL)
  rw [hin] at h1
  refine h1.bd (fun υ u => ?_)
  have h2 := C_si u hi (show 1 < 16 by omega) 0 (by rw [hin]; exact hL)
  rw [hin, show 1088 + 16 * i + 0 = 1088 + 16 * i by omega, show 1090 + 16 * i = 1088 + 16 * i + 2 by omega, zr_two] at h2
  exact h2.bd (fun w W => CT.id W)
end CC
section RR
variable {σ : RS} {M : By} {L : List Nat}
theorem R_zero0 {i : Nat} (hi : i < 32) : ∀ d n v (σ : RS) (M : By) (L : List Nat), RM σ M L → v + d = 16 → d < n → (pd L (17 + i / 4)).length ≤ 15 → RT (J_Model_clear_2 n σ (nI i) (nI v)) σ (zr M (1088 + 16 * i + v) d) (if d = 0 then L else pd L (17 + i / 4)) := by
  intro d
  induction d with
  | zero =>
    intro n v σ M L m hv hn hL
    obtain ⟨n, rfl⟩ : ∃ k, n = k + 1 := ⟨n - 1, by omega⟩
    show RT (J_Model_clear_2_b _ σ (nI i) (nI v)) _ _ _
    unfold J_Model_clear_2_b
    rw [nL_16, if_pos (by rw [nJ_le (by omega) (by omega)]; omega), zr_nil]
    exact RT.id m
  | succ d ih =>
    intro n v σ M L m hv hn hL
    obtain ⟨n, rfl⟩ : ∃ k, n = k + 1 := ⟨n - 1, by omega⟩
    show RT (J_Model_clear_2_b _ σ (nI i) (nI v)) _ _ _
    unfold J_Model_clear_2_b
    rw [nL_16, if_neg (by rw [nJ_le (by omega) (by omega)]; omega), nL_0, nL_1, nI_add, ← zr_cons]
    refine (R_si m hi (by omega) 0 hL).bd (fun τ t => ?_)
    have := ih n (v + 1) τ _ _ t (by omega) (by omega) (by rw [pd_pd]; exact hL)
    rw [pd_pd, show (if d = 0 then pd L (17 + i / 4) else pd L (17 + i / 4)) = pd L (17 + i / 4) by split <;> rfl] at this
    exact this
theorem R_clear (m : RM σ M L) {i v d : Nat} (hi : i < 32) (hv : v + d = 16) (h0 : 0 < d) (hL : (pd L (17 + i / 4)).length ≤ 15) : RT (J_Model_clear σ (nI i) (nI v)) σ (zr M (1088 + 16 * i + v) d) (pd L (17 + i / 4)) := by
  have := R_zero0 hi d 9000 v σ M L m hv (by omega) hL
  rw [if_neg (by omega)] at this
  exact this
theorem R_rel0 {M0 : By} {i h : Nat} (hi : i < 32) (hh : h ≤ 16) (hc : ∀ k, k < 16 → cbk M0 i k < 128) (hn0 : nd M0 i < 128) (h25 : nd M0 i ≠ 25) (h10 : nd M0 i = 0 ↔ h ≤ 10) : ∀ d n v (σ : RS) (M : By) (L : List Nat), RM σ M L → oM M0 M → v + d = h → d < n →
    (pds L (List.replicate d 25 ++ (if nd M0 i = 0 then [] else [25]))).length ≤ 15 → RT (J_Model_release_11 n σ (nI i) (nI h) (nI v)) σ (if nd M0 i = 0 then gvc (cbk M0 i) d v M else off (gvc (cbk M0 i) d v M) (nd M0 i)) (pds L (List.replicate d 25 ++ (if nd M0 i = 0 then [] else [25]))) := by
  intro d
  induction d with
  | zero =>
    intro n v σ M L m hM hv hn hL
    obtain ⟨n, rfl⟩ : ∃ k, n = k + 1 := ⟨n - 1, by omega⟩
    show RT (J_Model_release_11_b _ σ (nI i) (nI h) (nI v)) _ _ _
    have hL : (pds L (if nd M0 i = 0 then [] else [25])).length ≤ 15 := hL
    show RT _ _ (if nd M0 i = 0 then M else off M (nd M0 i)) (pds L (if nd M0 i = 0 then [] else [25]))
    unfold J_Model_release_11_b
    rw [if_pos (by rw [nJ_le (by omega) (by omega)]; omega), nL_10]
    by_cases q : nd M0 i = 0
    · rw [if_pos q, if_pos q, if_pos (by rw [nJ_le (by omega) (by omega)]; exact h10.mp q)]
      exact RT.id m
    · rw [if_neg q] at hL
      rw [if_neg q, if_neg q, if_neg (by rw [nJ_le (by omega) (by omega)]; exact fun z => q (h10.mpr z)), nL_14, R_nd m hi, nJ_bs, hM.q_nd hi]
      exact (R_give m hn0 hL).bd (fun τ t => RT.id t)
  | succ d ih =>
    intro n v σ M L m hM hv hn hL
    obtain ⟨n, rfl⟩ : ∃ k, n = k + 1 := ⟨n - 1, by omega⟩
    show RT (J_Model_release_11_b _ σ (nI i) (nI h) (nI v)) _ _ _
    have e : List.replicate (d + 1) 25 ++ (if nd M0 i = 0 then [] else [25]) = [25] ++ (List.replicate d 25 ++ (if nd M0 i = 0 then [] else [25])) := rfl
    rw [e] at hL ⊢
    have hcv := hc v (by omega)
    unfold J_Model_release_11_b
    rw [if_neg (by rw [nJ_le (by omega) (by omega)]; omega), R_cb m hi (by omega) (by rw [hM.q_nd hi]; exact hn0) (by
      rw [hM.q_nd hi]
      by_cases q : v < 10
      · exact Or.inl q
      · exact Or.inr (fun z => by have := h10.mp z; omega)), nJ_bs, hM.q_cbk hi (by omega) h25, nL_1, nI_add, pds_app]
    refine (R_give m hcv (pds_l hL)).bd (fun τ t => ?_)
    exact ih n (v + 1) τ _ _ t (hM.off hcv) (by omega) (by omega) (pds_r hL)
theorem R_rel (m : RM σ M L) {i : Nat} (hi : i < 32) (hs : sz M i ≤ 1000) (hc : ∀ k, k < 16 → cbk M i k < 128) (hn0 : nd M i < 128) (h25 : nd M i ≠ 25) (h10 : nd M i = 0 ↔ bf (sz M i) ≤ 10) (hL : (pds L (tE M i (bf (sz M i)))).length ≤ 15) : RT (J_Model_release σ (nI i)) σ (emB M i (bf (sz M i))) (pds L (tE M i (bf (sz M i)))) := by
  have := bf_le hs
  unfold J_Model_release
  rw [R_sz m hi, nJ_bs, R_bf (by omega), nJ_bs]
  exact R_rel0 hi (by omega) hc hn0 h25 h10 (bf (sz M i)) 9000 0 σ M L m (oM.rf M) (by omega) (by omega) hL
end RR
