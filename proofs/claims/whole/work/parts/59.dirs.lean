/-! Directories: what component and reference read of them. Own rows. -/
theorem Good.own {M : By} (G : Good M) {i p : Nat} (hi : i < 32) (hp : p < sz M i) : OS M i (p / 64) ∧ p / 64 < 16 ∧ p < 1000 := by
  have h := (G.2.1 i hi).1
  have h1 : p / 64 < bf (sz M i) := bf_lt hp
  have h2 := bf_le h
  exact ⟨⟨hi, Or.inl ⟨h1, by omega⟩⟩, by omega, by omega⟩
theorem Good.idx {M : By} (G : Good M) {i p : Nat} (hi : i < 32) (hp : p < sz M i) : p / 64 < 10 ∨ nd M i ≠ 0 := by
  by_cases h : p / 64 < 10
  · exact Or.inl h
  · exact Or.inr (G.1.ind (G.own hi hp).1 (by omega))
theorem CG_ct {σ : CS} {M : By} {L : List Nat} (m : CM σ M L) (G : Good M) {i p : Nat} (hi : i < 32) (hp : p < sz M i) : J_Volume_contentByte σ (nI i) (nI p) = some (nI (ct M i p)) := by
  obtain ⟨h1, h2, h3⟩ := G.own hi hp
  exact C_ct m hi (by omega) (G.1.nd_lt hi) (G.1.cb_lt hi h2)
theorem RG_ct {σ : RS} {M : By} {L : List Nat} (m : RM σ M L) (G : Good M) {i p : Nat} (hi : i < 32) (hp : p < sz M i) : J_Model_contentAt σ (nI i) (nI p) = some (nI (ct M i p)) := by
  obtain ⟨h1, h2, h3⟩ := G.own hi hp
  exact R_ct m hi (by omega) (G.1.nd_lt hi) (G.idx hi hp) (G.1.cb_lt hi h2)
theorem ct_lt (f : By) (i p : Nat) : ct f i p < 256 := rb_lt _ _
theorem oL_shl2 (n : Nat) : oL n <<< (oL 8 &&& 63) = oL (n * 256) := by
  rw [show oL 8 = (nI 8).toInt64 from (nI_oL (by omega)).symm]; exact oL_shl n
/-- eight bytes of a content as a long -/
def e8 (M : By) : Nat → Nat → Nat → Nat
  | 0, _, x => x
  | d + 1, a, x => e8 M d (a + 1) (x * 256 + rb M a)
theorem e8_x1 (M : By) (a : Nat) : e8 M 8 a 0 = (((((((0 * 256 + rb M a) * 256 + rb M (a + 1)) * 256 + rb M (a + 2)) * 256 + rb M (a + 3)) * 256 + rb M (a + 4)) * 256 + rb M (a + 5)) * 256 + rb M (a + 6)) * 256 + rb M (a + 7) := by
  simp only [e8, Nat.add_assoc, Nat.reduceAdd]
theorem e8_x2 (a b c d e f g h : Nat) : (((((((0 * 256 + a) * 256 + b) * 256 + c) * 256 + d) * 256 + e) * 256 + f) * 256 + g) * 256 + h = 72057594037927936 * a + 281474976710656 * b + 1099511627776 * c + 4294967296 * d + 16777216 * e + 65536 * f + 256 * g + h := by
  omega
def E8 (c : Nat → Nat) (p : Nat) : Nat := 72057594037927936 * c p + 281474976710656 * c (p + 1) + 1099511627776 * c (p + 2) + 4294967296 * c (p + 3) + 16777216 * c (p + 4) + 65536 * c (p + 5) + 256 * c (p + 6) + c (p + 7)
theorem C_en0 {σ : CS} {M : By} {L : List Nat} (m : CM σ M L) {p b : Nat} (hp : p < 1024) (hp8 : p % 8 = 0) (hb : b < 128) : ∀ d n v x, v + d = 8 → d < n → J_Volume_entryAt_16 n σ (nI p) (nI b) (oL x) (nI v) = some (oL (e8 M d (64 * b + p % 64 + v) x)) := by
  intro d
  induction d with
  | zero =>
    intro n v x hv hn
    obtain ⟨n, rfl⟩ : ∃ k, n = k + 1 := ⟨n - 1, by omega⟩
    show J_Volume_entryAt_16_b _ σ (nI p) (nI b) (oL x) (nI v) = _
    unfold J_Volume_entryAt_16_b e8
    simp (disch := omega) only [nJ_bs, nJ_ifz, nJ_m1, nI_add, nJ_mul, nJ_sub, nJ_div, nJ_lt, nJ_le, nJ_eq, nJ_cl, nJ_in, nJ_md, nJ_rb, nJ_b8, nJ_b81, nJ_i8, nM_eq, nM_eq2, nM_lt, nM_le, nM_nle, nM_nlt, nM_self, nL_0, nL_1, nL_2, nL_3, nL_4, nL_7, nL_8, nL_10, nL_14, nL_15, nL_16, nL_17, nL_25, nL_26, nL_31, nL_32, nL_33, nL_56, nL_63, nL_64, nL_65, nL_126, nL_128, nL_200, nL_255, nL_256, nL_1000, nL_8192, nL_5, nL_6, if_true, if_false, if_pos, if_neg]
  | succ d ih =>
    intro n v x hv hn
    obtain ⟨n, rfl⟩ : ∃ k, n = k + 1 := ⟨n - 1, by omega⟩
    show J_Volume_entryAt_16_b _ σ (nI p) (nI b) (oL x) (nI v) = _
    have h := rb_lt M (64 * b + (p % 64 + v))
    unfold J_Volume_entryAt_16_b e8
    simp (disch := omega) only [nJ_bs, nJ_ifz, nJ_m1, nI_add, nJ_mul, nJ_sub, nJ_div, nJ_lt, nJ_le, nJ_eq, nJ_cl, nJ_in, nJ_md, nJ_rb, nJ_b8, nJ_b81, nJ_i8, nM_eq, nM_eq2, nM_lt, nM_le, nM_nle, nM_nlt, nM_self, nL_0, nL_1, nL_2, nL_3, nL_4, nL_7, nL_8, nL_10, nL_14, nL_15, nL_16, nL_17, nL_25, nL_26, nL_31, nL_32, nL_33, nL_56, nL_63, nL_64, nL_65, nL_126, nL_128, nL_200, nL_255, nL_256, nL_1000, nL_8192, nL_5, nL_6, if_true, if_false, if_pos, if_neg, C_get m hb, nI_oL, oL_shl2]
    rw [oL_or h, ih n (v + 1) _ (by omega) (by omega), show 64 * b + (p % 64 + v) = 64 * b + p % 64 + v by omega]; rfl
theorem C_en {σ : CS} {M : By} {L : List Nat} (m : CM σ M L) (G : Good M) {i p : Nat} (hi : i < 32) (hp : p < sz M i) (hp8 : p % 8 = 0) : J_Volume_entryAt σ (nI i) (nI p) = some (oL (E8 (ct M i) p)) := by
  obtain ⟨h1, h2, h3⟩ := G.own hi hp
  have hc := G.1.cb_lt hi h2
  unfold J_Volume_entryAt
  simp (disch := omega) only [nJ_bs, nJ_ifz, nJ_m1, nI_add, nJ_mul, nJ_sub, nJ_div, nJ_lt, nJ_le, nJ_eq, nJ_cl, nJ_in, nJ_md, nJ_rb, nJ_b8, nJ_b81, nJ_i8, nM_eq, nM_eq2, nM_lt, nM_le, nM_nle, nM_nlt, nM_self, nL_0, nL_1, nL_2, nL_3, nL_4, nL_7, nL_8, nL_10, nL_14, nL_15, nL_16, nL_17, nL_25, nL_26, nL_31, nL_32, nL_33, nL_56, nL_63, nL_64, nL_65, nL_126, nL_128, nL_200, nL_255, nL_256, nL_1000, nL_8192, nL_5, nL_6, if_true, if_false, if_pos, if_neg, C_cb m hi h2 (G.1.nd_lt hi)]
  rw [show (0 : Int64) = oL 0 from rfl, C_en0 m (by omega) hp8 hc 8 9000 0 0 (by omega) (by omega)]
  have hk : ∀ k, k < 8 → ct M i (p + k) = rb M (64 * cbk M i (p / 64) + p % 64 + k) := fun k hk => by
    unfold ct
    rw [show (p + k) / 64 = p / 64 by omega, show (p + k) % 64 = p % 64 + k by omega, Nat.add_assoc]
  have hk0 := hk 0 (by omega)
  simp only [Nat.add_zero] at hk0
  unfold E8
  rw [hk0, hk 1 (by omega), hk 2 (by omega), hk 3 (by omega), hk 4 (by omega), hk 5 (by omega), hk 6 (by omega), hk 7 (by omega)]
  rw [Nat.add_zero, e8_x1, e8_x2]
theorem E8_lt {c : Nat → Nat} (h : ∀ p, c p < 256) (p : Nat) : E8 c p < 2 ^ 64 := by
  have h0 := h p
  have h1 := h (p + 1)
  have h2 := h (p + 2)
  have h3 := h (p + 3)
  have h4 := h (p + 4)
  have h5 := h (p + 5)
  have h6 := h (p + 6)
  have h7 := h (p + 7)
  unfold E8
  omega
/-- an entry is 0 if its first byte is -/
theorem E8_0 {s : Nat} {c : Nat → Nat} (h : GDc s c) {e : Nat} (he : 8 * e < s) : E8 c (8 * e) = 0 ↔ c (8 * e) = 0 := by
  refine ⟨fun z => by unfold E8 at z; omega, fun z => ?_⟩
  have k := (h.2.1 e he).2 z
  unfold E8
  rw [z, k 1 (by omega), k 2 (by omega), k 3 (by omega), k 4 (by omega), k 5 (by omega), k 6 (by omega), k 7 (by omega)]
theorem cmp0 {a : Nat} (ha : a < 2 ^ 64) : (lg_cmp (oL a) (0 : Int64) = nI 0) = (a = 0) := by
  refine propext ((lg_cmp_eq _ _).trans ?_)
  rw [show (0 : Int64) = oL 0 from rfl, oL_eq ha (by decide)]
def pE (M : By) (i : Nat) : Nat → Bool := fun e => decide (ct M i (8 * e) = 0)
def pF (M : By) (i : Nat) : Nat → Bool := fun e => decide (ct M i (8 * e) ≠ 0)
theorem pE_eq (M : By) (i v : Nat) : (pE M i v = true) = (ct M i (8 * v) = 0) := propext decide_eq_true_iff
theorem pF_eq (M : By) (i v : Nat) : (pF M i v = true) = (ct M i (8 * v) ≠ 0) := propext decide_eq_true_iff
section CC
variable {σ : CS} {M : By} {L : List Nat} {i s : Nat}
theorem C_pfe0 (m : CM σ M L) (G : Good M) (hi : i < 32) (ht : ty M i = 2) (hs : sz M i = 8 * s) : ∀ d n v, v + d = s → d < n → J_Volume_placeForEntry_8 n σ (nI i) (nI (8 * s)) (nI (8 * v)) = some (nI (8 * fi (pE M i) d v)) := by
  have hd := G.2.2 i hi ht
  have h1000 := (G.2.1 i hi).1
  intro d
  induction d with
  | zero =>
    intro n v hv hn
    obtain ⟨n, rfl⟩ : ∃ k, n = k + 1 := ⟨n - 1, by omega⟩
    show J_Volume_placeForEntry_8_b _ σ (nI i) (nI (8 * s)) (nI (8 * v)) = _
    unfold J_Volume_placeForEntry_8_b fi
    simp (disch := omega) only [nJ_bs, nJ_ifz, nJ_m1, nI_add, nJ_mul, nJ_sub, nJ_div, nJ_lt, nJ_le, nJ_eq, nJ_cl, nJ_in, nJ_md, nJ_rb, nJ_b8, nJ_b81, nJ_i8, nM_eq, nM_eq2, nM_lt, nM_le, nM_nle, nM_nlt, nM_self, nL_0, nL_1, nL_2, nL_3, nL_4, nL_7, nL_8, nL_10, nL_14, nL_15, nL_16, nL_17, nL_25, nL_26, nL_31, nL_32, nL_33, nL_56, nL_63, nL_64, nL_65, nL_126, nL_128, nL_200, nL_255, nL_256, nL_1000, nL_8192, nL_5, nL_6, if_true, if_false, if_pos, if_neg]
    rw [show s = v by omega]
  | succ d ih =>
    intro n v hv hn
    obtain ⟨n, rfl⟩ : ∃ k, n = k + 1 := ⟨n - 1, by omega⟩
    show J_Volume_placeForEntry_8_b _ σ (nI i) (nI (8 * s)) (nI (8 * v)) = _
    have h := E8_lt (ct_lt M i) (8 * v)
    have h8 : 8 * v % 8 = 0 := by omega
    unfold J_Volume_placeForEntry_8_b fi
    simp (disch := omega) only [nJ_bs, nJ_ifz, nJ_m1, nI_add, nJ_mul, nJ_sub, nJ_div, nJ_lt, nJ_le, nJ_eq, nJ_cl, nJ_in, nJ_md, nJ_rb, nJ_b8, nJ_b81, nJ_i8, nM_eq, nM_eq2, nM_lt, nM_le, nM_nle, nM_nlt, nM_self, nL_0, nL_1, nL_2, nL_3, nL_4, nL_7, nL_8, nL_10, nL_14, nL_15, nL_16, nL_17, nL_25, nL_26, nL_31, nL_32, nL_33, nL_56, nL_63, nL_64, nL_65, nL_126, nL_128, nL_200, nL_255, nL_256, nL_1000, nL_8192, nL_5, nL_6, C_en m G hi (show 8 * v < sz M i by omega) h8, cmp0 h, E8_0 hd (show 8 * v < sz M i by omega), pE_eq]
    rw [if_neg (by omega)]
    by_cases e : ct M i (8 * v) = 0
    · rw [if_pos e, if_pos e]
    · rw [if_neg e, if_neg e]
      exact ih n (v + 1) (by omega) (by omega)
theorem C_pfe (m : CM σ M L) (G : Good M) (hi : i < 32) (ht : ty M i = 2) (hs : sz M i = 8 * s) : J_Volume_placeForEntry σ (nI i) = some (nI (8 * fi (pE M i) s 0)) := by
  unfold J_Volume_placeForEntry
  rw [C_sz m hi, Option.bind_some, hs]
  have h1000 := (G.2.1 i hi).1
  exact C_pfe0 m G hi ht hs s 9000 0 (by omega) (by omega)
theorem C_ent0 (m : CM σ M L) (G : Good M) (hi : i < 32) (ht : ty M i = 2) (hs : sz M i = 8 * s) : ∀ d n v x, v + d = s → d < n → J_Volume_entries_23 n σ (nI i) (nI x) (nI (8 * s)) (nI (8 * v)) = some (nI (x + cn (pF M i) d v)) := by
  have hd := G.2.2 i hi ht
  have h1000 := (G.2.1 i hi).1
  intro d
  induction d with
  | zero =>
    intro n v x hv hn
    obtain ⟨n, rfl⟩ : ∃ k, n = k + 1 := ⟨n - 1, by omega⟩
    show J_Volume_entries_23_b _ σ (nI i) (nI x) (nI (8 * s)) (nI (8 * v)) = _
    unfold J_Volume_entries_23_b cn
    simp (disch := omega) only [nJ_bs, nJ_ifz, nJ_m1, nI_add, nJ_mul, nJ_sub, nJ_div, nJ_lt, nJ_le, nJ_eq, nJ_cl, nJ_in, nJ_md, nJ_rb, nJ_b8, nJ_b81, nJ_i8, nM_eq, nM_eq2, nM_lt, nM_le, nM_nle, nM_nlt, nM_self, nL_0, nL_1, nL_2, nL_3, nL_4, nL_7, nL_8, nL_10, nL_14, nL_15, nL_16, nL_17, nL_25, nL_26, nL_31, nL_32, nL_33, nL_56, nL_63, nL_64, nL_65, nL_126, nL_128, nL_200, nL_255, nL_256, nL_1000, nL_8192, nL_5, nL_6, if_true, if_false, if_pos, if_neg]
    rfl
  | succ d ih =>
    intro n v x hv hn
    obtain ⟨n, rfl⟩ : ∃ k, n = k + 1 := ⟨n - 1, by omega⟩
    show J_Volume_entries_23_b _ σ (nI i) (nI x) (nI (8 * s)) (nI (8 * v)) = _
    have h := E8_lt (ct_lt M i) (8 * v)
    have h8 : 8 * v % 8 = 0 := by omega
    unfold J_Volume_entries_23_b cn
    simp (disch := omega) only [nJ_bs, nJ_ifz, nJ_m1, nI_add, nJ_mul, nJ_sub, nJ_div, nJ_lt, nJ_le, nJ_eq, nJ_cl, nJ_in, nJ_md, nJ_rb, nJ_b8, nJ_b81, nJ_i8, nM_eq, nM_eq2, nM_lt, nM_le, nM_nle, nM_nlt, nM_self, nL_0, nL_1, nL_2, nL_3, nL_4, nL_7, nL_8, nL_10, nL_14, nL_15, nL_16, nL_17, nL_25, nL_26, nL_31, nL_32, nL_33, nL_56, nL_63, nL_64, nL_65, nL_126, nL_128, nL_200, nL_255, nL_256, nL_1000, nL_8192, nL_5, nL_6, C_en m G hi (show 8 * v < sz M i by omega) h8, cmp0 h, E8_0 hd (show 8 * v < sz M i by omega), pF_eq]
    rw [if_neg (by omega)]
    by_cases e : ct M i (8 * v) = 0
    · rw [if_pos e, if_neg (fun z => z e), Nat.zero_add]
      exact ih n (v + 1) x (by omega) (by omega)
    · rw [if_neg e, if_pos e, ← Nat.add_assoc]
      exact ih n (v + 1) (x + 1) (by omega) (by omega)
theorem C_ent (m : CM σ M L) (G : Good M) (hi : i < 32) (ht : ty M i = 2) (hs : sz M i = 8 * s) : J_Volume_entries σ (nI i) = some (nI (cn (pF M i) s 0)) := by
  have h1000 := (G.2.1 i hi).1
  unfold J_Volume_entries
  simp (disch := omega) only [nJ_bs, nJ_ifz, nJ_m1, nI_add, nJ_mul, nJ_sub, nJ_div, nJ_lt, nJ_le, nJ_eq, nJ_cl, nJ_in, nJ_md, nJ_rb, nJ_b8, nJ_b81, nJ_i8, nM_eq, nM_eq2, nM_lt, nM_le, nM_nle, nM_nlt, nM_self, nL_0, nL_1, nL_2, nL_3, nL_4, nL_7, nL_8, nL_10, nL_14, nL_15, nL_16, nL_17, nL_25, nL_26, nL_31, nL_32, nL_33, nL_56, nL_63, nL_64, nL_65, nL_126, nL_128, nL_200, nL_255, nL_256, nL_1000, nL_8192, nL_5, nL_6, if_true, if_false, if_pos, if_neg, C_dir m hi, C_sz m hi, hs, ht]
  have := C_ent0 m G hi ht hs s 9000 0 0 (by omega) (by omega)
  rw [Nat.zero_add] at this
  exact this
theorem C_ent_no {a : Int32} (h : J_Volume_isDirectory σ a = some (nI 0)) : J_Volume_entries σ a = some (nI 0) := by
  unfold J_Volume_entries
  rw [h]
  simp (disch := omega) only [nJ_bs, nJ_ifz, nJ_m1, nI_add, nJ_mul, nJ_sub, nJ_div, nJ_lt, nJ_le, nJ_eq, nJ_cl, nJ_in, nJ_md, nJ_rb, nJ_b8, nJ_b81, nJ_i8, nM_eq, nM_eq2, nM_lt, nM_le, nM_nle, nM_nlt, nM_self, nL_0, nL_1, nL_2, nL_3, nL_4, nL_7, nL_8, nL_10, nL_14, nL_15, nL_16, nL_17, nL_25, nL_26, nL_31, nL_32, nL_33, nL_56, nL_63, nL_64, nL_65, nL_126, nL_128, nL_200, nL_255, nL_256, nL_1000, nL_8192, nL_5, nL_6, if_true, if_false, if_pos, if_neg]
  show J_Volume_entries_23_b _ σ a (nI 0) (nI 0) (nI 0) = _
  unfold J_Volume_entries_23_b
  simp (disch := omega) only [nJ_bs, nJ_ifz, nJ_m1, nI_add, nJ_mul, nJ_sub, nJ_div, nJ_lt, nJ_le, nJ_eq, nJ_cl, nJ_in, nJ_md, nJ_rb, nJ_b8, nJ_b81, nJ_i8, nM_eq, nM_eq2, nM_lt, nM_le, nM_nle, nM_nlt, nM_self, nL_0, nL_1, nL_2, nL_3, nL_4, nL_7, nL_8, nL_10, nL_14, nL_15, nL_16, nL_17, nL_25, nL_26, nL_31, nL_32, nL_33, nL_56, nL_63, nL_64, nL_65, nL_126, nL_128, nL_200, nL_255, nL_256, nL_1000, nL_8192, nL_5, nL_6, if_true, if_false, if_pos, if_neg]
end CC
section RR
variable {σ : RS} {M : By} {L : List Nat} {i s : Nat}
theorem R_pfe0 (m : RM σ M L) (G : Good M) (hi : i < 32) (hs : sz M i = 8 * s) : ∀ d n v, v + d = s → d < n → J_Model_placeForEntry_2 n σ (nI i) (nI (8 * v)) = some (nI (8 * fi (pE M i) d v)) := by
  have h1000 := (G.2.1 i hi).1
  intro d
  induction d with
  | zero =>
    intro n v hv hn
    obtain ⟨n, rfl⟩ : ∃ k, n = k + 1 := ⟨n - 1, by omega⟩
    show J_Model_placeForEntry_2_b _ σ (nI i) (nI (8 * v)) = _
    unfold J_Model_placeForEntry_2_b fi
    simp (disch := omega) only [nJ_bs, nJ_ifz, nJ_m1, nI_add, nJ_mul, nJ_sub, nJ_div, nJ_lt, nJ_le, nJ_eq, nJ_cl, nJ_in, nJ_md, nJ_rb, nJ_b8, nJ_b81, nJ_i8, nM_eq, nM_eq2, nM_lt, nM_le, nM_nle, nM_nlt, nM_self, nL_0, nL_1, nL_2, nL_3, nL_4, nL_7, nL_8, nL_10, nL_14, nL_15, nL_16, nL_17, nL_25, nL_26, nL_31, nL_32, nL_33, nL_56, nL_63, nL_64, nL_65, nL_126, nL_128, nL_200, nL_255, nL_256, nL_1000, nL_8192, nL_5, nL_6, if_true, if_false, if_pos, if_neg, R_sz m hi, hs]
  | succ d ih =>
    intro n v hv hn
    obtain ⟨n, rfl⟩ : ∃ k, n = k + 1 := ⟨n - 1, by omega⟩
    show J_Model_placeForEntry_2_b _ σ (nI i) (nI (8 * v)) = _
    have h := ct_lt M i (8 * v)
    unfold J_Model_placeForEntry_2_b fi
    simp (disch := omega) only [nJ_bs, nJ_ifz, nJ_m1, nI_add, nJ_mul, nJ_sub, nJ_div, nJ_lt, nJ_le, nJ_eq, nJ_cl, nJ_in, nJ_md, nJ_rb, nJ_b8, nJ_b81, nJ_i8, nM_eq, nM_eq2, nM_lt, nM_le, nM_nle, nM_nlt, nM_self, nL_0, nL_1, nL_2, nL_3, nL_4, nL_7, nL_8, nL_10, nL_14, nL_15, nL_16, nL_17, nL_25, nL_26, nL_31, nL_32, nL_33, nL_56, nL_63, nL_64, nL_65, nL_126, nL_128, nL_200, nL_255, nL_256, nL_1000, nL_8192, nL_5, nL_6, R_sz m hi, hs, RG_ct m G hi (show 8 * v < sz M i by omega), pE_eq]
    rw [if_neg (by omega)]
    by_cases e : ct M i (8 * v) = 0
    · rw [if_pos e, if_pos e]
    · rw [if_neg e, if_neg e]
      exact ih n (v + 1) (by omega) (by omega)
theorem R_pfe (m : RM σ M L) (G : Good M) (hi : i < 32) (hs : sz M i = 8 * s) : J_Model_placeForEntry σ (nI i) = some (nI (8 * fi (pE M i) s 0)) := by
  have h1000 := (G.2.1 i hi).1
  exact R_pfe0 m G hi hs s 9000 0 (by omega) (by omega)
theorem R_ent0 (m : RM σ M L) (G : Good M) (hi : i < 32) (hs : sz M i = 8 * s) : ∀ d n v x, v + d = s → d < n → J_Model_entries_4 n σ (nI i) (nI x) (nI (8 * v)) = some (nI (x + cn (pF M i) d v)) := by
  have h1000 := (G.2.1 i hi).1
  intro d
  induction d with
  | zero =>
    intro n v x hv hn
    obtain ⟨n, rfl⟩ : ∃ k, n = k + 1 := ⟨n - 1, by omega⟩
    show J_Model_entries_4_b _ σ (nI i) (nI x) (nI (8 * v)) = _
    unfold J_Model_entries_4_b cn
    simp (disch := omega) only [nJ_bs, nJ_ifz, nJ_m1, nI_add, nJ_mul, nJ_sub, nJ_div, nJ_lt, nJ_le, nJ_eq, nJ_cl, nJ_in, nJ_md, nJ_rb, nJ_b8, nJ_b81, nJ_i8, nM_eq, nM_eq2, nM_lt, nM_le, nM_nle, nM_nlt, nM_self, nL_0, nL_1, nL_2, nL_3, nL_4, nL_7, nL_8, nL_10, nL_14, nL_15, nL_16, nL_17, nL_25, nL_26, nL_31, nL_32, nL_33, nL_56, nL_63, nL_64, nL_65, nL_126, nL_128, nL_200, nL_255, nL_256, nL_1000, nL_8192, nL_5, nL_6, if_true, if_false, if_pos, if_neg, R_sz m hi, hs]
    rfl
  | succ d ih =>
    intro n v x hv hn
    obtain ⟨n, rfl⟩ : ∃ k, n = k + 1 := ⟨n - 1, by omega⟩
    show J_Model_entries_4_b _ σ (nI i) (nI x) (nI (8 * v)) = _
    have h := ct_lt M i (8 * v)
    unfold J_Model_entries_4_b cn
    simp (disch := omega) only [nJ_bs, nJ_ifz, nJ_m1, nI_add, nJ_mul, nJ_sub, nJ_div, nJ_lt, nJ_le, nJ_eq, nJ_cl, nJ_in, nJ_md, nJ_rb, nJ_b8, nJ_b81, nJ_i8, nM_eq, nM_eq2, nM_lt, nM_le, nM_nle, nM_nlt, nM_self, nL_0, nL_1, nL_2, nL_3, nL_4, nL_7, nL_8, nL_10, nL_14, nL_15, nL_16, nL_17, nL_25, nL_26, nL_31, nL_32, nL_33, nL_56, nL_63, nL_64, nL_65, nL_126, nL_128, nL_200, nL_255, nL_256, nL_1000, nL_8192, nL_5, nL_6, R_sz m hi, hs, RG_ct m G hi (show 8 * v < sz M i by omega), pF_eq]
    rw [if_neg (by omega)]
    by_cases e : ct M i (8 * v) = 0
    · rw [if_pos e, if_neg (fun z => z e), Nat.zero_add]
      exact ih n (v + 1) x (by omega) (by omega)
    · rw [if_neg e, if_pos e, ← Nat.add_assoc]
      exact ih n (v + 1) (x + 1) (by omega) (by omega)
theorem R_ent (m : RM σ M L) (G : Good M) (hi : i < 32) (hs : sz M i = 8 * s) : J_Model_entries σ (nI i) = some (nI (cn (pF M i) s 0)) := by
  have h1000 := (G.2.1 i hi).1
  have := R_ent0 m G hi hs s 9000 0 0 (by omega) (by omega)
  rw [Nat.zero_add] at this
  exact this
end RR
