/-! Names, and where their entries are. Own rows. -/
/-- from the byte v on, d bytes are a name's: characters, and zeros once there is one -/
def vr (b : Nat → Nat) : Nat → Nat → Bool → Bool
  | 0, _, o => o
  | d + 1, v, o => if o = true ∨ b v = 0 then (if b v = 0 then vr b d (v + 1) true else false) else (if 33 ≤ b v ∧ b v ≤ 126 then vr b d (v + 1) false else false)
def vn (x : Int64) : Prop := nb x 0 ≠ 0 ∧ vr (nb x) 8 0 false = true
theorem vr_0 {b : Nat → Nat} {d v : Nat} {o : Bool} (h : b v = 0) : vr b (d + 1) v o = vr b d (v + 1) true := by
  show (if o = true ∨ b v = 0 then _ else _) = _
  rw [if_pos (Or.inr h), if_pos h]
theorem vr_1 {b : Nat → Nat} {d v : Nat} (h : 33 ≤ b v ∧ b v ≤ 126) : vr b (d + 1) v false = vr b d (v + 1) false := by
  show (if false = true ∨ b v = 0 then _ else _) = _
  rw [if_neg (fun z => z.elim (fun y => absurd y (by decide)) (fun y => by omega)), if_pos h]
theorem vr_b {b : Nat → Nat} {d v : Nat} (h0 : ¬ b v = 0) (h : ¬ (33 ≤ b v ∧ b v ≤ 126)) : vr b (d + 1) v false = false := by
  show (if false = true ∨ b v = 0 then _ else _) = _
  rw [if_neg (fun z => z.elim (fun y => absurd y (by decide)) h0), if_neg h]
theorem vr_t {b : Nat → Nat} {d v : Nat} (h0 : ¬ b v = 0) : vr b (d + 1) v true = false := by
  show (if true = true ∨ b v = 0 then _ else _) = _
  rw [if_pos (Or.inl rfl), if_neg h0]
theorem vr_z (b : Nat → Nat) : ∀ d v, vr b d v true = true ↔ ∀ j, v ≤ j → j < v + d → b j = 0 := by
  intro d
  induction d with
  | zero => intro v; exact ⟨fun _ j h1 h2 => by omega, fun _ => rfl⟩
  | succ d ih =>
    intro v
    unfold vr
    rw [if_pos (Or.inl rfl)]
    by_cases e : b v = 0
    · rw [if_pos e, ih (v + 1)]
      refine ⟨fun h j h1 h2 => ?_, fun h j h1 h2 => h j (by omega) (by omega)⟩
      by_cases q : j = v
      · rw [q]; exact e
      · exact h j (by omega) (by omega)
    · rw [if_neg e]
      exact ⟨fun h => absurd h (by decide), fun h => absurd (h v (by omega) (by omega)) e⟩
theorem c8k_64 : ∀ k, k < 8 → (nI (8 * k)).toInt64 &&& 63 = Int64.ofNat (8 * k) := by decide +kernel
theorem s8k_64 : ∀ k, k < 8 → ((Int64.ofNat (8 * k)).toBitVec.smod 64#64).toNat = 8 * k := by decide +kernel
theorem x_shl (x : Int64) {k : Nat} (hk : k < 8) : (x <<< ((nI (8 * k)).toInt64 &&& 63)).toBitVec.toNat = x.toBitVec.toNat * 2 ^ (8 * k) % 2 ^ 64 := by
  rw [c8k_64 k hk, Int64.toBitVec_shiftLeft]
  show (x.toBitVec <<< ((Int64.ofNat (8 * k)).toBitVec.smod 64#64).toNat).toNat = _
  rw [s8k_64 k hk, BitVec.toNat_shiftLeft, Nat.shiftLeft_eq]
theorem x_shl0 (x : Int64) {k : Nat} (hk : k < 8) (hk0 : 0 < k) : (lg_cmp (x <<< ((nI (8 * k)).toInt64 &&& 63)) (0 : Int64) = nI 0) = (∀ j, k ≤ j → j < 8 → nb x j = 0) := by
  refine propext ((lg_cmp_eq _ _).trans ?_)
  have e : (x <<< ((nI (8 * k)).toInt64 &&& 63) = (0 : Int64)) ↔ x.toBitVec.toNat * 2 ^ (8 * k) % 2 ^ 64 = 0 := by
    rw [← x_shl x hk]
    refine ⟨fun h => by rw [h]; rfl, fun h => Int64.toBitVec_inj.mp (BitVec.eq_of_toNat_eq ?_)⟩
    rw [h]; rfl
  rw [e, nb_sum x]
  have h0 := nb_lt x 0
  have h1 := nb_lt x 1
  have h2 := nb_lt x 2
  have h3 := nb_lt x 3
  have h4 := nb_lt x 4
  have h5 := nb_lt x 5
  have h6 := nb_lt x 6
  have h7 := nb_lt x 7
  have key : (∀ j, k ≤ j → j < 8 → nb x j = 0) ↔ (k ≤ 1 → nb x 1 = 0) ∧ (k ≤ 2 → nb x 2 = 0) ∧ (k ≤ 3 → nb x 3 = 0) ∧ (k ≤ 4 → nb x 4 = 0) ∧ (k ≤ 5 → nb x 5 = 0) ∧ (k ≤ 6 → nb x 6 = 0) ∧ nb x 7 = 0 := by
    refine ⟨fun h => ⟨fun q => h 1 q (by omega), fun q => h 2 q (by omega), fun q => h 3 q (by omega), fun q => h 4 q (by omega), fun q => h 5 q (by omega), fun q => h 6 q (by omega), h 7 (by omega) (by omega)⟩, fun ⟨q1, q2, q3, q4, q5, q6, q7⟩ j j1 j2 => ?_⟩
    rcases (show j = 0 ∨ j = 1 ∨ j = 2 ∨ j = 3 ∨ j = 4 ∨ j = 5 ∨ j = 6 ∨ j = 7 by omega) with rfl | rfl | rfl | rfl | rfl | rfl | rfl | rfl
    · omega
    · exact q1 j1
    · exact q2 j1
    · exact q3 j1
    · exact q4 j1
    · exact q5 j1
    · exact q6 j1
    · exact q7
  rw [key]
  generalize nb x 0 = a0 at *
  generalize nb x 1 = a1 at *
  generalize nb x 2 = a2 at *
  generalize nb x 3 = a3 at *
  generalize nb x 4 = a4 at *
  generalize nb x 5 = a5 at *
  generalize nb x 6 = a6 at *
  generalize nb x 7 = a7 at *
  clear key e
  rcases (show k = 1 ∨ k = 2 ∨ k = 3 ∨ k = 4 ∨ k = 5 ∨ k = 6 ∨ k = 7 by omega) with rfl | rfl | rfl | rfl | rfl | rfl | rfl <;> simp only [Nat.reduceMul, Nat.reducePow] <;> omega
theorem C_name0 (x : Int64) : ∀ d n v, v + d = 8 → d < n → (0 < v → nb x 0 ≠ 0) → J_LogFs_isName_2 n x (nI v) = some (nI (if (nb x 0 ≠ 0 ∧ vr (nb x) d v false = true) then 1 else 0)) := by
  intro d
  induction d with
  | zero =>
    intro n v hv hn h0
    obtain ⟨n, rfl⟩ : ∃ k, n = k + 1 := ⟨n - 1, by omega⟩
    show J_LogFs_isName_2_b _ x (nI v) = _
    unfold J_LogFs_isName_2_b J_LogFs_isName_42 vr
    simp (disch := omega) only [nJ_bs, nJ_ifz, nJ_m1, nI_add, nJ_mul, nJ_sub, nJ_div, nJ_lt, nJ_le, nJ_eq, nJ_cl, nJ_in, nJ_md, nJ_rb, nJ_b8, nJ_b81, nJ_i8, nM_eq, nM_eq2, nM_lt, nM_le, nM_nle, nM_nlt, nM_self, nL_0, nL_1, nL_2, nL_3, nL_4, nL_7, nL_8, nL_10, nL_14, nL_15, nL_16, nL_17, nL_25, nL_26, nL_31, nL_32, nL_33, nL_56, nL_63, nL_64, nL_65, nL_126, nL_128, nL_200, nL_255, nL_256, nL_1000, nL_8192, nL_5, nL_6, if_true, if_false, if_pos, if_neg]
    rw [if_neg (fun z => absurd z.2 (by decide))]
  | succ d ih =>
    intro n v hv hn h0
    obtain ⟨n, rfl⟩ : ∃ k, n = k + 1 := ⟨n - 1, by omega⟩
    show J_LogFs_isName_2_b _ x (nI v) = _
    have h := nb_lt x v
    unfold J_LogFs_isName_2_b J_LogFs_isName_42
    simp (disch := omega) only [nJ_bs, nJ_ifz, nJ_m1, nI_add, nJ_mul, nJ_sub, nJ_div, nJ_lt, nJ_le, nJ_eq, nJ_cl, nJ_in, nJ_md, nJ_rb, nJ_b8, nJ_b81, nJ_i8, nM_eq, nM_eq2, nM_lt, nM_le, nM_nle, nM_nlt, nM_self, nL_0, nL_1, nL_2, nL_3, nL_4, nL_7, nL_8, nL_10, nL_14, nL_15, nL_16, nL_17, nL_25, nL_26, nL_31, nL_32, nL_33, nL_56, nL_63, nL_64, nL_65, nL_126, nL_128, nL_200, nL_255, nL_256, nL_1000, nL_8192, nL_5, nL_6, C_byteOf x (show v < 8 by omega)]
    rw [if_neg (by omega)]
    by_cases e : nb x v = 0
    · rw [if_pos e, vr_0 e]
      by_cases v0 : v = 0
      · subst v0
        rw [if_pos (by omega), if_neg (fun z => z.1 e)]
      · rw [if_neg (by omega), if_neg (by omega)]
        have hx := x_shl0 x (show v < 8 by omega) (show 0 < v by omega)
        by_cases q : ∀ j, v ≤ j → j < 8 → nb x j = 0
        · rw [if_pos (hx.mpr q), if_pos ⟨h0 (by omega), (vr_z _ _ _).mpr (fun j h1 h2 => q j (by omega) (by omega))⟩]
        · rw [if_neg (fun z => q (hx.mp z)), if_neg]
          intro z
          refine q (fun j h1 h2 => ?_)
          by_cases w : j = v
          · rw [w]; exact e
          · exact (vr_z _ _ _).mp z.2 j (by omega) (by omega)
    · rw [if_neg e]
      by_cases q1 : nb x v < 33
      · rw [if_pos q1, vr_b e (by omega), if_neg (fun z => absurd z.2 (by decide))]
      · rw [if_neg q1]
        by_cases q2 : nb x v ≤ 126
        · rw [if_pos q2, vr_1 ⟨by omega, q2⟩]
          refine ih n (v + 1) (by omega) (by omega) (fun _ => ?_)
          by_cases v0 : v = 0
          · subst v0; exact e
          · exact h0 (by omega)
        · rw [if_neg q2, vr_b e (by omega), if_neg (fun z => absurd z.2 (by decide))]
theorem C_name (x : Int64) (h : vn x) : J_LogFs_isName x = some (nI 1) := by
  have := C_name0 x 8 9000 0 (by omega) (by omega) (fun z => by omega)
  rw [if_pos (show nb x 0 ≠ 0 ∧ vr (nb x) 8 0 false = true from h)] at this
  exact this
theorem C_name_no (x : Int64) (h : ¬ vn x) : J_LogFs_isName x = some (nI 0) := by
  have := C_name0 x 8 9000 0 (by omega) (by omega) (fun z => by omega)
  rw [if_neg (show ¬ (nb x 0 ≠ 0 ∧ vr (nb x) 8 0 false = true) from h)] at this
  exact this
theorem b8_0 {c : Nat} (h : c < 256) : ((b8 c).toInt32 = nI 0) = (c = 0) := by
  have k : ∀ c, c < 256 → ((b8 c).toInt32 = nI 0 ↔ c = 0) := by decide +kernel
  exact propext (k c h)
/-- the reference's, which also writes the name down -/
theorem R_name0 (x : Int64) : ∀ d n v (σ : RS) (g o : Bool), v + d = 8 → d < n → (0 < v → r_N σ 0 = b8 (nb x 0)) → ∃ N : By,
    J_Model_isName_8 n σ x (nI (if g = true then 1 else 0)) (nI (if o = true then 1 else 0)) (nI v) = some (nI (if (g = true ∧ nb x 0 ≠ 0 ∧ vr (nb x) d v o = true) then 1 else 0), q_N σ N) ∧ (∀ k, v ≤ k → k < 8 → N k = b8 (nb x k)) ∧ ∀ k, k < v → N k = r_N σ k := by
  intro d
  induction d with
  | zero =>
    intro n v σ g o hv hn h0
    obtain ⟨n, rfl⟩ : ∃ k, n = k + 1 := ⟨n - 1, by omega⟩
    refine ⟨r_N σ, ?_, fun k h1 h2 => by omega, fun k _ => rfl⟩
    show J_Model_isName_8_b _ σ x _ _ (nI v) = _
    have h := nb_lt x 0
    have e8 := h0 (by omega)
    unfold J_Model_isName_8_b vr
    cases g <;> cases o <;> simp (disch := omega) only [nJ_bs, nJ_ifz, nJ_m1, nI_add, nJ_mul, nJ_sub, nJ_div, nJ_lt, nJ_le, nJ_eq, nJ_cl, nJ_in, nJ_md, nJ_rb, nJ_b8, nJ_b81, nJ_i8, nM_eq, nM_eq2, nM_lt, nM_le, nM_nle, nM_nlt, nM_self, nL_0, nL_1, nL_2, nL_3, nL_4, nL_7, nL_8, nL_10, nL_14, nL_15, nL_16, nL_17, nL_25, nL_26, nL_31, nL_32, nL_33, nL_56, nL_63, nL_64, nL_65, nL_126, nL_128, nL_200, nL_255, nL_256, nL_1000, nL_8192, nL_5, nL_6, if_true, if_false, if_pos, if_neg, reduceCtorEq, false_and, true_and, and_false, e8, b8_0 h]
    · rfl
    · rfl
    · by_cases e : nb x 0 = 0
      · rw [if_pos e]; rfl
      · rw [if_neg e]; rfl
    · by_cases e : nb x 0 = 0
      · rw [if_pos e, if_neg (fun z => z.1 e)]; rfl
      · rw [if_neg e, if_pos ⟨e, trivial⟩]; rfl
  | succ d ih =>
    intro n v σ g o hv hn h0
    obtain ⟨n, rfl⟩ : ∃ k, n = k + 1 := ⟨n - 1, by omega⟩
    have h := nb_lt x v
    have step : ∀ (t g2 : Bool), vr (nb x) (d + 1) v o = (if g2 = true then vr (nb x) d (v + 1) t else false) → J_Model_isName_8_b (J_Model_isName_8 n) σ x (nI (if g = true then 1 else 0)) (nI (if o = true then 1 else 0)) (nI v) = J_Model_isName_8 n (q_N σ (va_up (r_N σ) v (b8 (nb x v)))) x (nI (if (g && g2) = true then 1 else 0)) (nI (if t = true then 1 else 0)) (nI (v + 1)) →
        ∃ N : By, J_Model_isName_8 (n + 1) σ x (nI (if g = true then 1 else 0)) (nI (if o = true then 1 else 0)) (nI v) = some (nI (if (g = true ∧ nb x 0 ≠ 0 ∧ vr (nb x) (d + 1) v o = true) then 1 else 0), q_N σ N) ∧ (∀ k, v ≤ k → k < 8 → N k = b8 (nb x k)) ∧ ∀ k, k < v → N k = r_N σ k := by
      intro t g2 hvr hJ
      obtain ⟨N, e1, e2, e3⟩ := ih n (v + 1) (q_N σ (va_up (r_N σ) v (b8 (nb x v)))) (g && g2) t (by omega) (by omega) (fun _ => by
        show va_up (r_N σ) v (b8 (nb x v)) 0 = _
        by_cases v0 : v = 0
        · rw [v0, va_up_self]
        · rw [va_up_ne _ _ (by omega)]; exact h0 (by omega))
      refine ⟨N, ?_, fun k h1 h2 => ?_, fun k hk => ?_⟩
      · refine Eq.trans (show J_Model_isName_8 (n + 1) σ x _ _ (nI v) = J_Model_isName_8_b (J_Model_isName_8 n) σ x _ _ (nI v) from rfl) (hJ.trans (e1.trans ?_))
        rw [hvr]
        cases g <;> cases g2 <;> simp only [Bool.and_true, Bool.and_false, Bool.false_and, Bool.true_and, reduceCtorEq, false_and, and_false, if_true, if_false, true_and] <;> rfl
      · by_cases q : k = v
        · rw [e3 k (by omega)]
          show va_up (r_N σ) v (b8 (nb x v)) k = _
          rw [q, va_up_self]
        · exact e2 k (by omega) h2
      · rw [e3 k (by omega)]
        exact va_up_ne _ _ (by omega)
    have hb := R_byte x (show v < 8 by omega)
    by_cases e : nb x v = 0
    · refine step true true (by rw [vr_0 e]; rfl) ?_
      unfold J_Model_isName_8_b J_Model_isName_42 J_Model_isName_47 J_Model_isName_84 J_Model_isName_80 J_Model_isName_85
      rw [nL_8, nL_56, nL_0, nL_1, nL_33, nL_126, hb, e]
      cases g <;> cases o <;> simp (disch := omega) only [nJ_bs, nJ_ifz, nJ_m1, nI_add, nJ_mul, nJ_sub, nJ_div, nJ_lt, nJ_le, nJ_eq, nJ_cl, nJ_in, nJ_md, nJ_rb, nJ_b8, nJ_b81, nJ_i8, nM_eq, nM_eq2, nM_lt, nM_le, nM_nle, nM_nlt, nM_self, nL_0, nL_1, nL_2, nL_3, nL_4, nL_7, nL_8, nL_10, nL_14, nL_15, nL_16, nL_17, nL_25, nL_26, nL_31, nL_32, nL_33, nL_56, nL_63, nL_64, nL_65, nL_126, nL_128, nL_200, nL_255, nL_256, nL_1000, nL_8192, nL_5, nL_6, if_true, if_false, if_pos, if_neg, reduceCtorEq, Bool.and_true, Bool.and_false]
    · cases o
      · by_cases e2 : 33 ≤ nb x v ∧ nb x v ≤ 126
        · refine step false true (by rw [vr_1 e2]; rfl) ?_
          unfold J_Model_isName_8_b J_Model_isName_42 J_Model_isName_47 J_Model_isName_84 J_Model_isName_80 J_Model_isName_85
          rw [nL_8, nL_56, nL_0, nL_1, nL_33, nL_126, hb]
          cases g <;> simp (disch := omega) only [nJ_bs, nJ_ifz, nJ_m1, nI_add, nJ_mul, nJ_sub, nJ_div, nJ_lt, nJ_le, nJ_eq, nJ_cl, nJ_in, nJ_md, nJ_rb, nJ_b8, nJ_b81, nJ_i8, nM_eq, nM_eq2, nM_lt, nM_le, nM_nle, nM_nlt, nM_self, nL_0, nL_1, nL_2, nL_3, nL_4, nL_7, nL_8, nL_10, nL_14, nL_15, nL_16, nL_17, nL_25, nL_26, nL_31, nL_32, nL_33, nL_56, nL_63, nL_64, nL_65, nL_126, nL_128, nL_200, nL_255, nL_256, nL_1000, nL_8192, nL_5, nL_6, if_true, if_false, if_pos, if_neg, reduceCtorEq, Bool.and_true, Bool.and_false]
        · refine step false false (by rw [vr_b e e2]; rfl) ?_
          unfold J_Model_isName_8_b J_Model_isName_42 J_Model_isName_47 J_Model_isName_84 J_Model_isName_80 J_Model_isName_85
          rw [nL_8, nL_56, nL_0, nL_1, nL_33, nL_126, hb]
          by_cases e3 : nb x v < 33
          · cases g <;> simp (disch := omega) only [nJ_bs, nJ_ifz, nJ_m1, nI_add, nJ_mul, nJ_sub, nJ_div, nJ_lt, nJ_le, nJ_eq, nJ_cl, nJ_in, nJ_md, nJ_rb, nJ_b8, nJ_b81, nJ_i8, nM_eq, nM_eq2, nM_lt, nM_le, nM_nle, nM_nlt, nM_self, nL_0, nL_1, nL_2, nL_3, nL_4, nL_7, nL_8, nL_10, nL_14, nL_15, nL_16, nL_17, nL_25, nL_26, nL_31, nL_32, nL_33, nL_56, nL_63, nL_64, nL_65, nL_126, nL_128, nL_200, nL_255, nL_256, nL_1000, nL_8192, nL_5, nL_6, if_true, if_false, if_pos, if_neg, reduceCtorEq, Bool.and_true, Bool.and_false]
          · cases g <;> simp (disch := omega) only [nJ_bs, nJ_ifz, nJ_m1, nI_add, nJ_mul, nJ_sub, nJ_div, nJ_lt, nJ_le, nJ_eq, nJ_cl, nJ_in, nJ_md, nJ_rb, nJ_b8, nJ_b81, nJ_i8, nM_eq, nM_eq2, nM_lt, nM_le, nM_nle, nM_nlt, nM_self, nL_0, nL_1, nL_2, nL_3, nL_4, nL_7, nL_8, nL_10, nL_14, nL_15, nL_16, nL_17, nL_25, nL_26, nL_31, nL_32, nL_33, nL_56, nL_63, nL_64, nL_65, nL_126, nL_128, nL_200, nL_255, nL_256, nL_1000, nL_8192, nL_5, nL_6, if_true, if_false, if_pos, if_neg, reduceCtorEq, Bool.and_true, Bool.and_false]
      · refine step true false (by rw [vr_t e]; rfl) ?_
        unfold J_Model_isName_8_b J_Model_isName_42 J_Model_isName_47 J_Model_isName_84 J_Model_isName_80 J_Model_isName_85
        rw [nL_8, nL_56, nL_0, nL_1, nL_33, nL_126, hb]
        cases g <;> simp (disch := omega) only [nJ_bs, nJ_ifz, nJ_m1, nI_add, nJ_mul, nJ_sub, nJ_div, nJ_lt, nJ_le, nJ_eq, nJ_cl, nJ_in, nJ_md, nJ_rb, nJ_b8, nJ_b81, nJ_i8, nM_eq, nM_eq2, nM_lt, nM_le, nM_nle, nM_nlt, nM_self, nL_0, nL_1, nL_2, nL_3, nL_4, nL_7, nL_8, nL_10, nL_14, nL_15, nL_16, nL_17, nL_25, nL_26, nL_31, nL_32, nL_33, nL_56, nL_63, nL_64, nL_65, nL_126, nL_128, nL_200, nL_255, nL_256, nL_1000, nL_8192, nL_5, nL_6, if_true, if_false, if_pos, if_neg, reduceCtorEq, Bool.and_true, Bool.and_false]
theorem R_name (σ : RS) (x : Int64) (h : vn x) : ∃ N : By, J_Model_isName σ x = some (nI 1, q_N σ N) ∧ ∀ k, k < 8 → N k = b8 (nb x k) := by
  obtain ⟨N, e1, e2, -⟩ := R_name0 x 8 9000 0 σ true false (by omega) (by omega) (fun z => by omega)
  rw [if_pos (show true = true ∧ nb x 0 ≠ 0 ∧ vr (nb x) 8 0 false = true from ⟨rfl, h⟩)] at e1
  exact ⟨N, e1, fun k hk => e2 k (by omega) hk⟩
theorem R_name_no (σ : RS) (x : Int64) (h : ¬ vn x) : ∃ N : By, J_Model_isName σ x = some (nI 0, q_N σ N) := by
  obtain ⟨N, e1, e2, -⟩ := R_name0 x 8 9000 0 σ true false (by omega) (by omega) (fun z => by omega)
  rw [if_neg (show ¬ (true = true ∧ nb x 0 ≠ 0 ∧ vr (nb x) 8 0 false = true) from fun z => h z.2)] at e1
  exact ⟨N, e1⟩
/-- entry e of the directory i is that of the name x -/
def eN (M : By) (i : Nat) (x : Int64) (e : Nat) : Prop := ct M i (8 * e) ≠ 0 ∧ ct M i (8 * e + 1) = nb x 0 ∧ ct M i (8 * e + 2) = nb x 1 ∧ ct M i (8 * e + 3) = nb x 2 ∧ ct M i (8 * e + 4) = nb x 3 ∧ ct M i (8 * e + 5) = nb x 4 ∧ ct M i (8 * e + 6) = nb x 5 ∧ ct M i (8 * e + 7) = nb x 6
def pN (M : By) (i : Nat) (x : Int64) : Nat → Bool := fun e => decide (ct M i (8 * e) ≠ 0 ∧ ct M i (8 * e + 1) = nb x 0 ∧ ct M i (8 * e + 2) = nb x 1 ∧ ct M i (8 * e + 3) = nb x 2 ∧ ct M i (8 * e + 4) = nb x 3 ∧ ct M i (8 * e + 5) = nb x 4 ∧ ct M i (8 * e + 6) = nb x 5 ∧ ct M i (8 * e + 7) = nb x 6)
theorem pN_eq (M : By) (i : Nat) (x : Int64) (e : Nat) : (pN M i x e = true) = eN M i x e := propext decide_eq_true_iff
theorem vn_7 {x : Int64} (h : vn x) : nb x 7 = 0 := by
  obtain ⟨-, h⟩ := h
  have key : ∀ d v, v + d = 8 → 0 < d → vr (nb x) d v false = true → nb x 7 = 0 := by
    intro d
    induction d with
    | zero => intro v _ h; omega
    | succ d ih =>
      intro v hv _ hr
      by_cases e : nb x v = 0
      · rw [vr_0 e, vr_z] at hr
        by_cases q : v = 7
        · rw [q] at e; exact e
        · exact hr 7 (by omega) (by omega)
      · by_cases e2 : 33 ≤ nb x v ∧ nb x v ≤ 126
        · rw [vr_1 e2] at hr
          by_cases d0 : d = 0
          · rw [d0] at hr; exact absurd (show false = true from hr) (by decide)
          · exact ih (v + 1) (by omega) (by omega) hr
        · rw [vr_b e e2] at hr; exact absurd hr (by decide)
  exact key 8 0 (by omega) (by omega) h
theorem vn_126 {x : Int64} (h : vn x) : ∀ k, k < 8 → nb x k ≤ 126 := by
  obtain ⟨-, h⟩ := h
  have key : ∀ d v, vr (nb x) d v false = true → ∀ k, v ≤ k → k < v + d → nb x k ≤ 126 := by
    intro d
    induction d with
    | zero => intro v _ k h1 h2; omega
    | succ d ih =>
      intro v hr k h1 h2
      by_cases e : nb x v = 0
      · rw [vr_0 e, vr_z] at hr
        by_cases q : k = v
        · rw [q, e]; omega
        · rw [hr k (by omega) (by omega)]; omega
      · by_cases e2 : 33 ≤ nb x v ∧ nb x v ≤ 126
        · rw [vr_1 e2] at hr
          by_cases q : k = v
          · rw [q]; exact e2.2
          · exact ih (v + 1) hr k (by omega) (by omega)
        · rw [vr_b e e2] at hr; exact absurd hr (by decide)
  exact fun k hk => key 8 0 h k (by omega) (by omega)
/-- the component's test of an entry -/
theorem C_match {M : By} {i e s : Nat} {x : Int64} (hd : GDc s (ct M i)) (he : 8 * e < s) (hx : vn x) : (lg_cmp (oL (E8 (ct M i) (8 * e)) <<< ((nI 8).toInt64 &&& 63)) x = nI 0) = eN M i x e := by
  refine propext ((lg_cmp_eq _ _).trans ?_)
  have h7 := vn_7 hx
  have h00 := hx.1
  have hz := (hd.2.1 e he).2
  rw [oL_shl]
  have e1 : (oL (E8 (ct M i) (8 * e) * 256) = x) ↔ E8 (ct M i) (8 * e) * 256 % 2 ^ 64 = x.toBitVec.toNat := by
    rw [← oL_nat]
    exact ⟨fun h => by rw [h], fun h => Int64.toBitVec_inj.mp (BitVec.eq_of_toNat_eq h)⟩
  rw [e1, nb_sum x]
  have z1 := hz
  unfold E8 eN
  have c0 := ct_lt M i (8 * e)
  have c1 := ct_lt M i (8 * e + 1)
  have c2 := ct_lt M i (8 * e + 2)
  have c3 := ct_lt M i (8 * e + 3)
  have c4 := ct_lt M i (8 * e + 4)
  have c5 := ct_lt M i (8 * e + 5)
  have c6 := ct_lt M i (8 * e + 6)
  have c7 := ct_lt M i (8 * e + 7)
  have n0 := nb_lt x 0
  have n1 := nb_lt x 1
  have n2 := nb_lt x 2
  have n3 := nb_lt x 3
  have n4 := nb_lt x 4
  have n5 := nb_lt x 5
  have n6 := nb_lt x 6
  have k1 : ct M i (8 * e) = 0 → ct M i (8 * e + 1) = 0 := fun z => hz z 1 (by omega)
  rw [h7]
  clear hz z1 e1 hd
  generalize ct M i (8 * e) = a0 at *
  generalize ct M i (8 * e + 1) = a1 at *
  generalize ct M i (8 * e + 2) = a2 at *
  generalize ct M i (8 * e + 3) = a3 at *
  generalize ct M i (8 * e + 4) = a4 at *
  generalize ct M i (8 * e + 5) = a5 at *
  generalize ct M i (8 * e + 6) = a6 at *
  generalize ct M i (8 * e + 7) = a7 at *
  generalize nb x 0 = b0 at *
  generalize nb x 1 = b1 at *
  generalize nb x 2 = b2 at *
  generalize nb x 3 = b3 at *
  generalize nb x 4 = b4 at *
  generalize nb x 5 = b5 at *
  generalize nb x 6 = b6 at *
  omega
section CC
variable {σ : CS} {M : By} {L : List Nat} {i s : Nat} {x : Int64}
theorem C_po0 (m : CM σ M L) (G : Good M) (hi : i < 32) (ht : ty M i = 2) (hs : sz M i = 8 * s) (hx : vn x) : ∀ d n v, v + d = s → d < n → J_Volume_placeOf_27 n σ (nI i) x (nI (8 * s)) (nI (8 * v)) = some (if fi (pN M i x) d v < s then nI (8 * fi (pN M i x) d v) else nM) := by
  have hd := G.2.2 i hi ht
  have h1000 := (G.2.1 i hi).1
  intro d
  induction d with
  | zero =>
    intro n v hv hn
    obtain ⟨n, rfl⟩ : ∃ k, n = k + 1 := ⟨n - 1, by omega⟩
    show J_Volume_placeOf_27_b _ σ (nI i) x (nI (8 * s)) (nI (8 * v)) = _
    unfold J_Volume_placeOf_27_b fi
    simp (disch := omega) only [nJ_bs, nJ_ifz, nJ_m1, nI_add, nJ_mul, nJ_sub, nJ_div, nJ_lt, nJ_le, nJ_eq, nJ_cl, nJ_in, nJ_md, nJ_rb, nJ_b8, nJ_b81, nJ_i8, nM_eq, nM_eq2, nM_lt, nM_le, nM_nle, nM_nlt, nM_self, nL_0, nL_1, nL_2, nL_3, nL_4, nL_7, nL_8, nL_10, nL_14, nL_15, nL_16, nL_17, nL_25, nL_26, nL_31, nL_32, nL_33, nL_56, nL_63, nL_64, nL_65, nL_126, nL_128, nL_200, nL_255, nL_256, nL_1000, nL_8192, nL_5, nL_6, if_true, if_false, if_pos, if_neg]
  | succ d ih =>
    intro n v hv hn
    obtain ⟨n, rfl⟩ : ∃ k, n = k + 1 := ⟨n - 1, by omega⟩
    show J_Volume_placeOf_27_b _ σ (nI i) x (nI (8 * s)) (nI (8 * v)) = _
    have h8 : 8 * v % 8 = 0 := by omega
    unfold J_Volume_placeOf_27_b
    simp (disch := omega) only [nJ_bs, nJ_ifz, nJ_m1, nI_add, nJ_mul, nJ_sub, nJ_div, nJ_lt, nJ_le, nJ_eq, nJ_cl, nJ_in, nJ_md, nJ_rb, nJ_b8, nJ_b81, nJ_i8, nM_eq, nM_eq2, nM_lt, nM_le, nM_nle, nM_nlt, nM_self, nL_0, nL_1, nL_2, nL_3, nL_4, nL_7, nL_8, nL_10, nL_14, nL_15, nL_16, nL_17, nL_25, nL_26, nL_31, nL_32, nL_33, nL_56, nL_63, nL_64, nL_65, nL_126, nL_128, nL_200, nL_255, nL_256, nL_1000, nL_8192, nL_5, nL_6, C_en m G hi (show 8 * v < sz M i by omega) h8]
    rw [if_neg (by omega)]
    have hm := C_match (x := x) hd (show 8 * v < sz M i by omega) hx
    show _ = some (if (if pN M i x v = true then v else fi (pN M i x) d (v + 1)) < s then nI (8 * (if pN M i x v = true then v else fi (pN M i x) d (v + 1))) else nM)
    by_cases e : eN M i x v
    · rw [if_pos (hm.mpr e), if_pos ((pN_eq M i x v).mpr e), if_pos (by omega)]
    · rw [if_neg (fun z => e (hm.mp z)), if_neg (fun z => e ((pN_eq M i x v).mp z))]
      exact ih n (v + 1) (by omega) (by omega)
theorem C_po (m : CM σ M L) (G : Good M) (hi : i < 32) (ht : ty M i = 2) (hs : sz M i = 8 * s) (hx : vn x) : J_Volume_placeOf σ (nI i) x = some (if fi (pN M i x) s 0 < s then nI (8 * fi (pN M i x) s 0) else nM) := by
  have h1000 := (G.2.1 i hi).1
  unfold J_Volume_placeOf
  simp (disch := omega) only [nJ_bs, nJ_ifz, nJ_m1, nI_add, nJ_mul, nJ_sub, nJ_div, nJ_lt, nJ_le, nJ_eq, nJ_cl, nJ_in, nJ_md, nJ_rb, nJ_b8, nJ_b81, nJ_i8, nM_eq, nM_eq2, nM_lt, nM_le, nM_nle, nM_nlt, nM_self, nL_0, nL_1, nL_2, nL_3, nL_4, nL_7, nL_8, nL_10, nL_14, nL_15, nL_16, nL_17, nL_25, nL_26, nL_31, nL_32, nL_33, nL_56, nL_63, nL_64, nL_65, nL_126, nL_128, nL_200, nL_255, nL_256, nL_1000, nL_8192, nL_5, nL_6, if_true, if_false, if_pos, if_neg, C_dir m hi, C_sz m hi, hs, ht, C_name x hx]
  exact C_po0 m G hi ht hs hx s 9000 0 (by omega) (by omega)
end CC
def lsN (p : Nat → Bool) : Nat → Nat → Int32 → Int32
  | 0, _, f => f
  | d + 1, v, f => lsN p d (v + 1) (if p v = true then nI (8 * v) else f)
theorem ls_no {p : Nat → Bool} : ∀ d v f, (∀ j, v ≤ j → j < v + d → p j = false) → lsN p d v f = f := by
  intro d
  induction d with
  | zero => intro v f _; rfl
  | succ d ih =>
    intro v f h
    show lsN p d (v + 1) (if p v = true then nI (8 * v) else f) = f
    rw [if_neg (by rw [h v (by omega) (by omega)]; decide)]
    exact ih (v + 1) f (fun j h1 h2 => h j (by omega) (by omega))
/-- the last is the first, if there is one at most -/
theorem ls_fi {p : Nat → Bool} {s : Nat} (h : ∀ j k, j < s → k < s → p j = true → p k = true → j = k) : ∀ d v, v + d = s → lsN p d v nM = if fi p d v < s then nI (8 * fi p d v) else nM := by
  intro d
  induction d with
  | zero =>
    intro v hv
    show nM = if v < s then _ else nM
    rw [if_neg (by omega)]
  | succ d ih =>
    intro v hv
    show lsN p d (v + 1) (if p v = true then nI (8 * v) else nM) = if (if p v = true then v else fi p d (v + 1)) < s then nI (8 * (if p v = true then v else fi p d (v + 1))) else nM
    by_cases e : p v = true
    · rw [if_pos e, if_pos e, if_pos (by omega)]
      refine ls_no d (v + 1) _ (fun j h1 h2 => ?_)
      cases q : p j
      · rfl
      · exact absurd (h v j (by omega) (by omega) e q) (by omega)
    · rw [if_neg e, if_neg e]
      exact ih (v + 1) (by omega)
theorem eN_one {M : By} {i s : Nat} {x : Int64} (hd : GDc s (ct M i)) {j k : Nat} (hj : 8 * j < s) (hk : 8 * k < s) (a : eN M i x j) (b : eN M i x k) : j = k := by
  obtain ⟨a0, a1, a2, a3, a4, a5, a6, a7⟩ := a
  obtain ⟨b0, b1, b2, b3, b4, b5, b6, b7⟩ := b
  refine hd.2.2 j k hj hk a0 b0 (fun q q1 q2 => ?_)
  rcases (show q = 1 ∨ q = 2 ∨ q = 3 ∨ q = 4 ∨ q = 5 ∨ q = 6 ∨ q = 7 by omega) with rfl | rfl | rfl | rfl | rfl | rfl | rfl
  · rw [a1, b1]
  · rw [a2, b2]
  · rw [a3, b3]
  · rw [a4, b4]
  · rw [a5, b5]
  · rw [a6, b6]
  · rw [a7, b7]
theorem b8_i : ∀ c, c < 127 → (b8 c).toInt32 = nI c := by decide +kernel
def mt (c b : Nat → Nat) : Nat → Nat → Bool
  | 0, _ => true
  | d + 1, v => decide (c v = b v) && mt c b d (v + 1)
section RR
variable {σ : RS} {M : By} {L : List Nat} {i s : Nat} {x : Int64}
/-- the reference's test of an entry -/
theorem R_match0 (m : RM σ M L) (G : Good M) (hi : i < 32) (hx : vn x) (hN : ∀ k, k < 8 → r_N σ k = b8 (nb x k)) {e : Nat} (he : 8 * e + 7 < sz M i) (f : Int32) : ∀ d n v (t : Bool), v + d = 7 → d < n → J_Model_findEntry_32 n σ (nI i) f (nI (8 * e)) (nI (if t = true then 1 else 0)) (nI v) = some (nI i, f, nI (8 * e), nI (if (t && mt (fun k => ct M i (8 * e + 1 + k)) (nb x) d v) = true then 1 else 0)) := by
  have h1000 := (G.2.1 i hi).1
  intro d
  induction d with
  | zero =>
    intro n v t hv hn
    obtain ⟨n, rfl⟩ : ∃ k, n = k + 1 := ⟨n - 1, by omega⟩
    show J_Model_findEntry_32_b _ σ (nI i) f (nI (8 * e)) _ (nI v) = _
    unfold J_Model_findEntry_32_b mt
    simp (disch := omega) only [nJ_bs, nJ_ifz, nJ_m1, nI_add, nJ_mul, nJ_sub, nJ_div, nJ_lt, nJ_le, nJ_eq, nJ_cl, nJ_in, nJ_md, nJ_rb, nJ_b8, nJ_b81, nJ_i8, nM_eq, nM_eq2, nM_lt, nM_le, nM_nle, nM_nlt, nM_self, nL_0, nL_1, nL_2, nL_3, nL_4, nL_7, nL_8, nL_10, nL_14, nL_15, nL_16, nL_17, nL_25, nL_26, nL_31, nL_32, nL_33, nL_56, nL_63, nL_64, nL_65, nL_126, nL_128, nL_200, nL_255, nL_256, nL_1000, nL_8192, nL_5, nL_6, if_true, if_false, if_pos, if_neg, Bool.and_true]
  | succ d ih =>
    intro n v t hv hn
    obtain ⟨n, rfl⟩ : ∃ k, n = k + 1 := ⟨n - 1, by omega⟩
    show J_Model_findEntry_32_b _ σ (nI i) f (nI (8 * e)) _ (nI v) = _
    have hc := RG_ct m G hi (show 8 * e + 1 + v < sz M i by omega)
    have hl := ct_lt M i (8 * e + 1 + v)
    have h126 := vn_126 hx v (by omega)
    have it := ih n (v + 1) true (by omega) (by omega)
    have iF := ih n (v + 1) false (by omega) (by omega)
    rw [if_pos rfl, Bool.true_and] at it
    rw [if_neg (by decide), Bool.false_and, if_neg (by decide)] at iF
    unfold J_Model_findEntry_32_b mt
    cases t
    · rw [Bool.false_and]
      simp (disch := omega) only [nJ_bs, nJ_ifz, nJ_m1, nI_add, nJ_mul, nJ_sub, nJ_div, nJ_lt, nJ_le, nJ_eq, nJ_cl, nJ_in, nJ_md, nJ_rb, nJ_b8, nJ_b81, nJ_i8, nM_eq, nM_eq2, nM_lt, nM_le, nM_nle, nM_nlt, nM_self, nL_0, nL_1, nL_2, nL_3, nL_4, nL_7, nL_8, nL_10, nL_14, nL_15, nL_16, nL_17, nL_25, nL_26, nL_31, nL_32, nL_33, nL_56, nL_63, nL_64, nL_65, nL_126, nL_128, nL_200, nL_255, nL_256, nL_1000, nL_8192, nL_5, nL_6, if_true, if_false, if_pos, if_neg, reduceCtorEq]
      exact iF
    · rw [Bool.true_and]
      simp (disch := omega) only [nJ_bs, nJ_ifz, nJ_m1, nI_add, nJ_mul, nJ_sub, nJ_div, nJ_lt, nJ_le, nJ_eq, nJ_cl, nJ_in, nJ_md, nJ_rb, nJ_b8, nJ_b81, nJ_i8, nM_eq, nM_eq2, nM_lt, nM_le, nM_nle, nM_nlt, nM_self, nL_0, nL_1, nL_2, nL_3, nL_4, nL_7, nL_8, nL_10, nL_14, nL_15, nL_16, nL_17, nL_25, nL_26, nL_31, nL_32, nL_33, nL_56, nL_63, nL_64, nL_65, nL_126, nL_128, nL_200, nL_255, nL_256, nL_1000, nL_8192, nL_5, nL_6, reduceCtorEq, if_true, if_false, hc, hN v (show v < 8 by omega), b8_i (nb x v) (show nb x v < 127 by omega)]
      rw [if_neg (by omega), if_pos (by omega)]
      by_cases q : ct M i (8 * e + 1 + v) = nb x v
      · rw [if_pos q, decide_eq_true q, Bool.true_and]
        exact it
      · rw [if_neg q, decide_eq_false q, Bool.false_and, if_neg (by decide)]
        exact iF
theorem mt_eN {M : By} {i e : Nat} {x : Int64} : (decide (ct M i (8 * e) ≠ 0) && mt (fun k => ct M i (8 * e + 1 + k)) (nb x) 7 0) = pN M i x e := by
  have h : (decide (ct M i (8 * e) ≠ 0) && mt (fun k => ct M i (8 * e + 1 + k)) (nb x) 7 0) = true ↔ pN M i x e = true := by
    rw [pN_eq]
    unfold eN
    simp only [mt, Bool.and_eq_true, decide_eq_true_eq, Bool.and_true, Nat.add_zero, Nat.zero_add, Nat.add_assoc, Nat.reduceAdd]
  exact Bool.eq_iff_iff.mpr h
theorem R_fe0 (m : RM σ M L) (G : Good M) (hi : i < 32) (hs : sz M i = 8 * s) (hx : vn x) (hN : ∀ k, k < 8 → r_N σ k = b8 (nb x k)) : ∀ d n v (f : Int32), v + d = s → d < n → J_Model_findEntry_4 n σ (nI i) f (nI (8 * v)) = some (lsN (pN M i x) d v f) := by
  have h1000 := (G.2.1 i hi).1
  intro d
  induction d with
  | zero =>
    intro n v f hv hn
    obtain ⟨n, rfl⟩ : ∃ k, n = k + 1 := ⟨n - 1, by omega⟩
    show J_Model_findEntry_4_b _ σ (nI i) f (nI (8 * v)) = _
    unfold J_Model_findEntry_4_b lsN
    simp (disch := omega) only [nJ_bs, nJ_ifz, nJ_m1, nI_add, nJ_mul, nJ_sub, nJ_div, nJ_lt, nJ_le, nJ_eq, nJ_cl, nJ_in, nJ_md, nJ_rb, nJ_b8, nJ_b81, nJ_i8, nM_eq, nM_eq2, nM_lt, nM_le, nM_nle, nM_nlt, nM_self, nL_0, nL_1, nL_2, nL_3, nL_4, nL_7, nL_8, nL_10, nL_14, nL_15, nL_16, nL_17, nL_25, nL_26, nL_31, nL_32, nL_33, nL_56, nL_63, nL_64, nL_65, nL_126, nL_128, nL_200, nL_255, nL_256, nL_1000, nL_8192, nL_5, nL_6, if_true, if_false, if_pos, if_neg, R_sz m hi, hs]
  | succ d ih =>
    intro n v f hv hn
    obtain ⟨n, rfl⟩ : ∃ k, n = k + 1 := ⟨n - 1, by omega⟩
    show J_Model_findEntry_4_b _ σ (nI i) f (nI (8 * v)) = _
    have hc := RG_ct m G hi (show 8 * v < sz M i by omega)
    have hl := ct_lt M i (8 * v)
    have hme := mt_eN (M := M) (i := i) (e := v) (x := x)
    have it := R_match0 m G hi hx hN (show 8 * v + 7 < sz M i by omega) f 7 9000 0 true (by omega) (by omega)
    have iF := R_match0 m G hi hx hN (show 8 * v + 7 < sz M i by omega) f 7 9000 0 false (by omega) (by omega)
    rw [if_pos rfl, Bool.true_and] at it
    rw [if_neg (by decide), Bool.false_and, if_neg (by decide)] at iF
    unfold J_Model_findEntry_4_b
    rw [R_sz m hi, hs, nJ_bs, if_neg (by rw [nJ_le (by omega) (by omega)]; omega), hc, nJ_bs, nL_0, nL_1, nL_8]
    have hi2 := ih n (v + 1)
    rw [Nat.mul_add 8 v 1, ← nI_add] at hi2
    show _ = some (lsN (pN M i x) d (v + 1) (if pN M i x v = true then nI (8 * v) else f))
    by_cases q : ct M i (8 * v) = 0
    · rw [if_pos (by rw [q]), iF, nJ_bs, ← hme, decide_eq_false (fun z => z q), Bool.false_and, if_pos rfl, if_neg (by decide)]
      exact hi2 f (by omega) (by omega)
    · rw [if_neg (by rw [nJ_eq (by omega) (by omega)]; exact q), it, nJ_bs, ← hme, decide_eq_true q, Bool.true_and]
      by_cases w : mt (fun k => ct M i (8 * v + 1 + k)) (nb x) 7 0 = true
      · rw [if_pos w, if_pos w, if_neg (by rw [nJ_eq (by omega) (by omega)]; omega)]
        exact hi2 _ (by omega) (by omega)
      · rw [if_neg w, if_neg w, if_pos rfl]
        exact hi2 _ (by omega) (by omega)
theorem R_fe (m : RM σ M L) (G : Good M) (hi : i < 32) (ht : ty M i = 2) (hs : sz M i = 8 * s) (hx : vn x) (hN : ∀ k, k < 8 → r_N σ k = b8 (nb x k)) : J_Model_findEntry σ (nI i) = some (if fi (pN M i x) s 0 < s then nI (8 * fi (pN M i x) s 0) else nM) := by
  have h1000 := (G.2.1 i hi).1
  have hd := G.2.2 i hi ht
  have h := R_fe0 m G hi hs hx hN s 9000 0 nM (by omega) (by omega)
  rw [ls_fi (s := s) (fun j k hj hk a b => eN_one hd (show 8 * j < sz M i by omega) (show 8 * k < sz M i by omega) ((pN_eq M i x j).mp a) ((pN_eq M i x k).mp b)) s 0 (by omega)] at h
  exact h
end RR
