/-! Bytes put into a content, and its size. Own rows. -/
def m1 (M : By) (i k : Nat) : By := if cbk M i k = 0 then aB M i k else M
def t1 (M : By) (i k : Nat) : List Nat := if cbk M i k = 0 then tB M i k else []
/-- a byte at the place p of a content -/
def p1 (M : By) (i p v : Nat) : By := va_up (m1 M i (p / 64)) (64 * cbk (m1 M i (p / 64)) i (p / 64) + p % 64) (b8 v)
def T1 (M : By) (i p : Nat) : List Nat := t1 M i (p / 64) ++ [cbk (m1 M i (p / 64)) i (p / 64)]
/-- what it wants -/
def okP (M : By) (i p : Nat) : Prop := nd M i < 128 ∧ (cbk M i (p / 64) = 0 → aOk M i (p / 64)) ∧ nd (m1 M i (p / 64)) i < 128 ∧ cbk (m1 M i (p / 64)) i (p / 64) < 128 ∧ cbk (m1 M i (p / 64)) i (p / 64) ≠ 0
/-- d bytes more, from the v-th on, of those that f says, at the place a -/
def pn (i a : Nat) (f : Nat → Nat) : Nat → Nat → By → By
  | 0, _, M => M
  | d + 1, v, M => pn i a f d (v + 1) (p1 M i (a + v) (f v))
def Tn (i a : Nat) (f : Nat → Nat) : Nat → Nat → By → List Nat
  | 0, _, _ => []
  | d + 1, v, M => T1 M i (a + v) ++ Tn i a f d (v + 1) (p1 M i (a + v) (f v))
def aN (Q : By → Nat → Prop) (i a : Nat) (f : Nat → Nat) : Nat → Nat → By → Prop
  | 0, _, _ => True
  | d + 1, v, M => Q M (a + v) ∧ aN Q i a f d (v + 1) (p1 M i (a + v) (f v))
/-- a content is e bytes long at least -/
def gr (M : By) (i e : Nat) : By := if e ≤ sz M i then M else va_up (va_up M (1090 + 16 * i) (b8 (e / 256))) (1091 + 16 * i) (b8 e)
def tG (M : By) (i e : Nat) : List Nat := if e ≤ sz M i then [] else [17 + i / 4]
theorem b8_md (e : Nat) : b8 (e % 256) = b8 e := by
  refine Int8.toBitVec_inj.mp (BitVec.eq_of_toNat_eq ?_)
  rw [bt8, bt8, Nat.mod_mod]
section CC
variable {σ : CS} {M : By} {L : List Nat}
theorem C_put23 (m : CM σ M L) {i p : Nat} (hi : i < 32) (hp : p < 1024) (hn : nd M i < 128) (hc : cbk M i (p / 64) < 128) (v : Nat) (hL : (pd L (cbk M i (p / 64))).length ≤ 15) : CT (J_Volume_putByte_23 σ (nI i) (nI p) (nI v) (nI (p / 64))) σ (va_up M (64 * cbk M i (p / 64) + p % 64) (b8 v)) (pd L (cbk M i (p / 64))) := by
  unfold J_Volume_putByte_23
  rw [C_cb m hi (by omega) hn, nJ_bs, nL_64, nJ_div (by omega) (by omega), nJ_mul, nJ_sub (by omega) (by omega), nJ_md]
  exact (C_change m hc (by omega) v hL).bd (fun τ t => CT.id t)
theorem C_put (m : CM σ M L) {i p : Nat} (hi : i < 32) (hp : p < 1024) (v : Nat) (ho : okP M i p) (hL : (pds L (T1 M i p)).length ≤ 15) : CT (J_Volume_putByte σ (nI i) (nI p) (nI v)) σ (p1 M i p v) (pds L (T1 M i p)) := by
  obtain ⟨h1, h2, h3, h4, h5⟩ := ho
  unfold J_Volume_putByte
  rw [nL_64, nJ_div (by omega) (by omega), C_cb m hi (by omega) h1, nJ_bs, nL_0]
  have hc := cbk_lt M i (p / 64)
  by_cases e : cbk M i (p / 64) = 0
  · have e1 : m1 M i (p / 64) = aB M i (p / 64) := if_pos e
    have e2 : t1 M i (p / 64) = tB M i (p / 64) := if_pos e
    unfold T1 at hL ⊢
    unfold p1
    rw [e1] at h3 h4
    rw [e1, e2] at hL
    rw [e1, e2, if_pos (by rw [e]), pds_app]
    refine (C_add m hi (by omega) (h2 e) (pds_l hL)).bd (fun τ t => ?_)
    exact C_put23 t hi hp h3 h4 v (pds_r hL)
  · have e1 : m1 M i (p / 64) = M := if_neg e
    have e2 : t1 M i (p / 64) = [] := if_neg e
    unfold T1 at hL ⊢
    unfold p1
    rw [e1] at h3 h4
    rw [e1, e2] at hL
    rw [e1, e2, if_neg (by rw [nJ_eq (by omega) (by omega)]; exact e)]
    exact C_put23 m hi hp h3 h4 v hL
theorem C_grow (m : CM σ M L) {i e : Nat} (hi : i < 32) (he : e < 1024) (hL : (pds L (tG M i e)).length ≤ 15) : CT (J_Volume_growTo σ (nI i) (nI e)) σ (gr M i e) (pds L (tG M i e)) := by
  have h := sz_lt M i
  unfold J_Volume_growTo
  rw [C_sz m hi, nJ_bs]
  unfold gr tG
  unfold tG at hL
  by_cases q : e ≤ sz M i
  · rw [if_pos (by rw [nJ_le (by omega) (by omega)]; exact q), if_pos q, if_pos q]
    exact CT.id m
  · rw [if_neg q] at hL
    rw [if_neg (by rw [nJ_le (by omega) (by omega)]; exact q), if_neg q, if_neg q, nL_2, nL_8, nL_3, show (31 : Int32) = nI 31 from rfl, nT_shr8 e he]
    refine (C_si m hi (by omega) (e / 256) hL).bd (fun τ t => ?_)
    have h2 := C_si t hi (show 3 < 16 by omega) e (by rw [pd_pd]; exact hL)
    rw [pd_pd, show 1088 + 16 * i + 2 = 1090 + 16 * i by omega, show 1088 + 16 * i + 3 = 1091 + 16 * i by omega] at h2
    exact h2.bd (fun υ u => CT.id u)
theorem C_long0 {i a N : Nat} {x : Int64} (hi : i < 32) (ha : a + N ≤ 1000) (hN : N ≤ 8) : ∀ d n v (σ : CS) (M : By) (L : List Nat), CM σ M L → v + d = N → d < n → aN (fun M p => okP M i p) i a (nb x) d v M →
    (pds L (Tn i a (nb x) d v M ++ tG (pn i a (nb x) d v M) i (a + N))).length ≤ 15 → CT (J_Volume_putLong_3 n σ (nI i) (nI a) x (nI N) (nI v)) σ (gr (pn i a (nb x) d v M) i (a + N)) (pds L (Tn i a (nb x) d v M ++ tG (pn i a (nb x) d v M) i (a + N))) := by
  intro d
  induction d with
  | zero =>
    intro n v σ M L m hv hn ho hL
    obtain ⟨n, rfl⟩ : ∃ k, n = k + 1 := ⟨n - 1, by omega⟩
    show CT (J_Volume_putLong_3_b _ σ (nI i) (nI a) x (nI N) (nI v)) _ _ _
    unfold J_Volume_putLong_3_b
    rw [if_pos (by rw [nJ_le (by omega) (by omega)]; omega), nI_add]
    exact (C_grow m hi (by omega) hL).bd (fun τ t => CT.id t)
  | succ d ih =>
    intro n v σ M L m hv hn ho hL
    obtain ⟨n, rfl⟩ : ∃ k, n = k + 1 := ⟨n - 1, by omega⟩
    show CT (J_Volume_putLong_3_b _ σ (nI i) (nI a) x (nI N) (nI v)) _ _ _
    obtain ⟨o1, o2⟩ := ho
    unfold J_Volume_putLong_3_b
    rw [if_neg (by rw [nJ_le (by omega) (by omega)]; omega), nI_add, C_byteOf x (by omega), nJ_bs, nL_1, nI_add]
    have e : Tn i a (nb x) (d + 1) v M = T1 M i (a + v) ++ Tn i a (nb x) d (v + 1) (p1 M i (a + v) (nb x v)) := rfl
    rw [e, List.append_assoc] at hL ⊢
    rw [pds_app]
    refine (C_put m hi (by omega) (nb x v) o1 (pds_l hL)).bd (fun τ t => ?_)
    exact ih n (v + 1) τ _ _ t (by omega) (by omega) o2 (pds_r hL)
theorem C_long (m : CM σ M L) {i a N : Nat} {x : Int64} (hi : i < 32) (ha : a + N ≤ 1000) (hN : N ≤ 8) (ho : aN (fun M p => okP M i p) i a (nb x) N 0 M) (hL : (pds L (Tn i a (nb x) N 0 M ++ tG (pn i a (nb x) N 0 M) i (a + N))).length ≤ 15) : CT (J_Volume_putLong σ (nI i) (nI a) x (nI N)) σ (gr (pn i a (nb x) N 0 M) i (a + N)) (pds L (Tn i a (nb x) N 0 M ++ tG (pn i a (nb x) N 0 M) i (a + N))) :=
  C_long0 hi ha hN N 9000 0 σ M L m (by omega) (by omega) ho hL
theorem C_same0 {i a N w : Nat} (hi : i < 32) (ha : a + N ≤ 1000) (hN : N ≤ 64) : ∀ d n v (σ : CS) (M : By) (L : List Nat), CM σ M L → v + d = N → d < n → aN (fun M p => okP M i p) i a (fun _ => w) d v M →
    (pds L (Tn i a (fun _ => w) d v M ++ tG (pn i a (fun _ => w) d v M) i (a + N))).length ≤ 15 → CT (J_Volume_putSame_3 n σ (nI i) (nI a) (nI w) (nI N) (nI v)) σ (gr (pn i a (fun _ => w) d v M) i (a + N)) (pds L (Tn i a (fun _ => w) d v M ++ tG (pn i a (fun _ => w) d v M) i (a + N))) := by
  intro d
  induction d with
  | zero =>
    intro n v σ M L m hv hn ho hL
    obtain ⟨n, rfl⟩ : ∃ k, n = k + 1 := ⟨n - 1, by omega⟩
    show CT (J_Volume_putSame_3_b _ σ (nI i) (nI a) (nI w) (nI N) (nI v)) _ _ _
    unfold J_Volume_putSame_3_b
    rw [if_pos (by rw [nJ_le (by omega) (by omega)]; omega), nI_add]
    exact (C_grow m hi (by omega) hL).bd (fun τ t => CT.id t)
  | succ d ih =>
    intro n v σ M L m hv hn ho hL
    obtain ⟨n, rfl⟩ : ∃ k, n = k + 1 := ⟨n - 1, by omega⟩
    show CT (J_Volume_putSame_3_b _ σ (nI i) (nI a) (nI w) (nI N) (nI v)) _ _ _
    obtain ⟨o1, o2⟩ := ho
    unfold J_Volume_putSame_3_b
    rw [if_neg (by rw [nJ_le (by omega) (by omega)]; omega), nI_add, nL_1, nI_add]
    have e : Tn i a (fun _ => w) (d + 1) v M = T1 M i (a + v) ++ Tn i a (fun _ => w) d (v + 1) (p1 M i (a + v) w) := rfl
    rw [e, List.append_assoc] at hL ⊢
    rw [pds_app]
    refine (C_put m hi (by omega) w o1 (pds_l hL)).bd (fun τ t => ?_)
    exact ih n (v + 1) τ _ _ t (by omega) (by omega) o2 (pds_r hL)
theorem C_same (m : CM σ M L) {i a N w : Nat} (hi : i < 32) (ha : a + N ≤ 1000) (hN : N ≤ 64) (ho : aN (fun M p => okP M i p) i a (fun _ => w) N 0 M) (hL : (pds L (Tn i a (fun _ => w) N 0 M ++ tG (pn i a (fun _ => w) N 0 M) i (a + N))).length ≤ 15) : CT (J_Volume_putSame σ (nI i) (nI a) (nI w) (nI N)) σ (gr (pn i a (fun _ => w) N 0 M) i (a + N)) (pds L (Tn i a (fun _ => w) N 0 M ++ tG (pn i a (fun _ => w) N 0 M) i (a + N))) :=
  C_same0 hi ha hN N 9000 0 σ M L m (by omega) (by omega) ho hL
end CC
section RR
variable {σ : RS} {M : By} {L : List Nat}
theorem R_setx (m : RM σ M L) {b k : Nat} (hb : b < 128) (hk : k < 64) (v : Int8) (hL : (pd L b).length ≤ 15) : RT (J_Model_set σ (nI b) (nI k) v.toInt32) σ (va_up M (64 * b + k) v) (pd L b) := by
  unfold J_Model_set
  simp (disch := omega) only [nJ_bs, nJ_ifz, nJ_m1, nI_add, nJ_mul, nJ_sub, nJ_div, nJ_lt, nJ_le, nJ_eq, nJ_cl, nJ_in, nJ_md, nJ_rb, nJ_b8, nJ_b81, nJ_i8, nM_eq, nM_eq2, nM_lt, nM_le, nM_nle, nM_nlt, nM_self, nL_0, nL_1, nL_2, nL_3, nL_4, nL_7, nL_8, nL_10, nL_14, nL_15, nL_16, nL_17, nL_25, nL_26, nL_31, nL_32, nL_33, nL_56, nL_63, nL_64, nL_65, nL_126, nL_128, nL_200, nL_255, nL_256, nL_1000, nL_8192, nL_5, nL_6, if_true, if_false, if_pos, if_neg, m.1]
  have h := R_pend (σ := q_M σ (va_up M (64 * b + k) v)) (M := va_up M (64 * b + k) v) (L := L) ⟨rfl, m.2⟩ hb hL
  exact RT.tr (τ := q_M σ (va_up M (64 * b + k) v)) ⟨rfl, rfl, rfl, rfl, rfl, rfl, rfl, rfl, rfl⟩ (h.bd (fun τ t => RT.id t))
theorem R_size (m : RM σ M L) {i e : Nat} (hi : i < 32) (he : e < 1024) (hL : (pd L (17 + i / 4)).length ≤ 15) : RT (J_Model_setSize σ (nI i) (nI e)) σ (va_up (va_up M (1090 + 16 * i) (b8 (e / 256))) (1091 + 16 * i) (b8 e)) (pd L (17 + i / 4)) := by
  unfold J_Model_setSize
  simp (disch := omega) only [nJ_bs, nJ_ifz, nJ_m1, nI_add, nJ_mul, nJ_sub, nJ_div, nJ_lt, nJ_le, nJ_eq, nJ_cl, nJ_in, nJ_md, nJ_rb, nJ_b8, nJ_b81, nJ_i8, nM_eq, nM_eq2, nM_lt, nM_le, nM_nle, nM_nlt, nM_self, nL_0, nL_1, nL_2, nL_3, nL_4, nL_7, nL_8, nL_10, nL_14, nL_15, nL_16, nL_17, nL_25, nL_26, nL_31, nL_32, nL_33, nL_56, nL_63, nL_64, nL_65, nL_126, nL_128, nL_200, nL_255, nL_256, nL_1000, nL_8192, nL_5, nL_6, if_true, if_false, if_pos, if_neg]
  refine (R_si m hi (by omega) (e / 256) hL).bd (fun τ t => ?_)
  have h2 := R_si t hi (show 3 < 16 by omega) (e % 256) (by rw [pd_pd]; exact hL)
  rw [pd_pd, b8_md, show 1088 + 16 * i + 2 = 1090 + 16 * i by omega, show 1088 + 16 * i + 3 = 1091 + 16 * i by omega] at h2
  exact h2.bd (fun υ u => RT.id u)
/-- what the reference asks before it adds a block -/
def okW (i a h : Nat) (M : By) (p : Nat) : Prop := okP M i p ∧ (cbk M i (p / 64) = 0 ↔ h ≤ p / 64 ∧ (p = a ∨ p % 64 = 0))
theorem R_writes0 {i a N h : Nat} {f : Nat → Nat} (hi : i < 32) (ha : a + N ≤ 1000) (hN : N ≤ 64) (hh : h < 1000) : ∀ d n v (σ : RS) (M : By) (L : List Nat), RM σ M L → (∀ j, j < N → r_G σ j = b8 (f j)) → v + d = N → d < n → aN (okW i a h) i a f d v M →
    (pds L (Tn i a f d v M ++ tG (pn i a f d v M) i (a + N))).length ≤ 15 → RU (J_Model_writes_13 n σ (nI i) (nI a) (nI N) (nI h) (nI (a + v))) (nI (sz (gr (pn i a f d v M) i (a + N)) i)) σ (gr (pn i a f d v M) i (a + N)) (pds L (Tn i a f d v M ++ tG (pn i a f d v M) i (a + N))) := by
  intro d
  induction d with
  | zero =>
    intro n v σ M L m hG hv hn ho hL
    obtain ⟨n, rfl⟩ : ∃ k, n = k + 1 := ⟨n - 1, by omega⟩
    show RU (J_Model_writes_13_b _ σ (nI i) (nI a) (nI N) (nI h) (nI (a + v))) _ _ _ _
    have hs := sz_lt M i
    unfold J_Model_writes_13_b J_Model_writes_108
    rw [nI_add, if_pos (by rw [nJ_le (by omega) (by omega)]; omega), R_sz m hi, nJ_bs]
    show RU _ (nI (sz (gr M i (a + N)) i)) σ (gr M i (a + N)) (pds L (tG M i (a + N)))
    have hL : (pds L (tG M i (a + N))).length ≤ 15 := hL
    unfold gr tG
    unfold tG at hL
    by_cases q : a + N ≤ sz M i
    · rw [if_pos (by rw [nJ_le (by omega) (by omega)]; exact q), if_pos q, if_pos q, nJ_bs]
      exact ⟨σ, rfl, m, rK.rf σ⟩
    · rw [if_neg q] at hL
      rw [if_neg (by rw [nJ_le (by omega) (by omega)]; exact q), if_neg q, if_neg q]
      refine (R_size m hi (by omega) hL).bu (fun τ t => ?_)
      rw [R_sz t hi, nJ_bs]
      exact ⟨τ, rfl, t, rK.rf τ⟩
  | succ d ih =>
    intro n v σ M L m hG hv hn ho hL
    obtain ⟨n, rfl⟩ : ∃ k, n = k + 1 := ⟨n - 1, by omega⟩
    show RU (J_Model_writes_13_b _ σ (nI i) (nI a) (nI N) (nI h) (nI (a + v))) _ _ _ _
    obtain ⟨⟨⟨o1, o2, o3, o4, o5⟩, oi⟩, o6⟩ := ho
    have e : Tn i a f (d + 1) v M = (t1 M i ((a + v) / 64) ++ [cbk (m1 M i ((a + v) / 64)) i ((a + v) / 64)]) ++ Tn i a f d (v + 1) (p1 M i (a + v) (f v)) := rfl
    rw [e, List.append_assoc, List.append_assoc] at hL ⊢
    have hG0 := hG v (by omega)
    -- what comes behind the block
    have rest : ∀ (τ : RS) (L2 : List Nat), RM τ (m1 M i ((a + v) / 64)) L2 → (∀ j, j < N → r_G τ j = b8 (f j)) → (pds L2 ([cbk (m1 M i ((a + v) / 64)) i ((a + v) / 64)] ++ (Tn i a f d (v + 1) (p1 M i (a + v) (f v)) ++ tG (pn i a f (d + 1) v M) i (a + N)))).length ≤ 15 →
        RU (J_Model_writes_55 (J_Model_writes_13 n) τ (nI i) (nI a) (nI N) (nI h) (nI (a + v))) (nI (sz (gr (pn i a f (d + 1) v M) i (a + N)) i)) τ (gr (pn i a f (d + 1) v M) i (a + N)) (pds L2 ([cbk (m1 M i ((a + v) / 64)) i ((a + v) / 64)] ++ (Tn i a f d (v + 1) (p1 M i (a + v) (f v)) ++ tG (pn i a f (d + 1) v M) i (a + N)))) := by
      intro τ L2 t tG' hL2
      have hidx : (a + v) / 64 < 10 ∨ nd (m1 M i ((a + v) / 64)) i ≠ 0 := by
        by_cases q : (a + v) / 64 < 10
        · exact Or.inl q
        · refine Or.inr (fun z => o5 (cbk_no q z))
      unfold J_Model_writes_55
      rw [nL_64, nJ_div (by omega) (by omega), R_cb t hi (by omega) o3 hidx, nJ_bs, nJ_sub (by omega) (by omega), if_pos (by rw [nJ_in (by omega)]; omega), nJ_cl (by omega), nJ_mul, nJ_sub (by omega) (by omega), nJ_md, show a + v - a = v by omega, tG' v (by omega), nL_1, nI_add, pds_app]
      obtain ⟨υ, e1, u, ku⟩ := R_setx t o4 (show (a + v) % 64 < 64 by omega) (b8 (f v)) (pds_l hL2)
      rw [e1, nJ_bs]
      refine RU.tr ku ?_
      have hh := ih n (v + 1) υ _ _ u (fun j hj => by rw [ku.2.2.2.2.2.2.2.2]; exact tG' j hj) (by omega) (by omega) o6 (pds_r hL2)
      exact hh
    unfold J_Model_writes_13_b
    rw [nI_add, if_neg (by rw [nJ_le (by omega) (by omega)]; omega), nL_64, nJ_div (by omega) (by omega), nJ_mul, nJ_sub (by omega) (by omega), nJ_md, nL_0]
    by_cases q : cbk M i ((a + v) / 64) = 0
    · obtain ⟨q1, q2⟩ := oi.mp q
      have e1 : m1 M i ((a + v) / 64) = aB M i ((a + v) / 64) := if_pos q
      have e2 : t1 M i ((a + v) / 64) = tB M i ((a + v) / 64) := if_pos q
      have key : RU (J_Model_writes_45 (J_Model_writes_13 n) σ (nI i) (nI a) (nI N) (nI h) (nI (a + v))) (nI (sz (gr (pn i a f (d + 1) v M) i (a + N)) i)) σ (gr (pn i a f (d + 1) v M) i (a + N)) (pds L (t1 M i ((a + v) / 64) ++ ([cbk (m1 M i ((a + v) / 64)) i ((a + v) / 64)] ++ (Tn i a f d (v + 1) (p1 M i (a + v) (f v)) ++ tG (pn i a f (d + 1) v M) i (a + N))))) := by
        unfold J_Model_writes_45
        rw [nL_64, nJ_div (by omega) (by omega), pds_app, e2]
        rw [e2] at hL
        obtain ⟨τ, x1, t, kt⟩ := R_add m hi (show (a + v) / 64 < 16 by omega) (o2 q) (pds_l hL)
        rw [x1, nJ_bs]
        refine RU.tr kt ?_
        rw [← e1] at t
        exact rest τ _ t (fun j hj => by rw [kt.2.2.2.2.2.2.2.2]; exact hG j hj) (pds_r hL)
      rw [if_neg (by rw [nJ_lt (by omega) (by omega)]; omega)]
      rcases q2 with q2 | q2
      · rw [if_pos (by rw [q2])]
        exact key
      · by_cases q3 : nI (a + v) = nI a
        · rw [if_pos q3]; exact key
        · rw [if_neg q3, if_pos (by rw [q2])]; exact key
    · have e1 : m1 M i ((a + v) / 64) = M := if_neg q
      have e2 : t1 M i ((a + v) / 64) = [] := if_neg q
      have key : RU (J_Model_writes_55 (J_Model_writes_13 n) σ (nI i) (nI a) (nI N) (nI h) (nI (a + v))) (nI (sz (gr (pn i a f (d + 1) v M) i (a + N)) i)) σ (gr (pn i a f (d + 1) v M) i (a + N)) (pds L (t1 M i ((a + v) / 64) ++ ([cbk (m1 M i ((a + v) / 64)) i ((a + v) / 64)] ++ (Tn i a f d (v + 1) (p1 M i (a + v) (f v)) ++ tG (pn i a f (d + 1) v M) i (a + N))))) := by
        rw [e2] at hL ⊢
        exact rest σ L (by rw [e1]; exact m) hG hL
      by_cases q1 : (a + v) / 64 < h
      · rw [if_pos (by rw [nJ_lt (by omega) (by omega)]; exact q1)]
        exact key
      · rw [if_neg (by rw [nJ_lt (by omega) (by omega)]; exact q1), if_neg (by rw [nJ_eq (by omega) (by omega)]; exact fun z => q (oi.mpr ⟨by omega, Or.inl z⟩)), if_neg (by rw [nJ_eq (by omega) (by omega)]; exact fun z => q (oi.mpr ⟨by omega, Or.inr z⟩))]
        exact key
theorem R_writes (m : RM σ M L) {i a N : Nat} {f : Nat → Nat} (hi : i < 32) (ha : a + N ≤ 1000) (hN : N ≤ 64) (hs : sz M i ≤ 1000) (hG : ∀ j, j < N → r_G σ j = b8 (f j)) (ho : aN (okW i a (bf (sz M i))) i a f N 0 M) (hL : (pds L (Tn i a f N 0 M ++ tG (pn i a f N 0 M) i (a + N))).length ≤ 15) : RU (J_Model_writes σ (nI i) (nI a) (nI N)) (nI (sz (gr (pn i a f N 0 M) i (a + N)) i)) σ (gr (pn i a f N 0 M) i (a + N)) (pds L (Tn i a f N 0 M ++ tG (pn i a f N 0 M) i (a + N))) := by
  have := bf_le hs
  unfold J_Model_writes
  rw [R_sz m hi, nJ_bs, R_bf (by omega), nJ_bs]
  exact R_writes0 hi ha hN (by omega) N 9000 0 σ M L m hG (by omega) (by omega) ho hL
end RR
