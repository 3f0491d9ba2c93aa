/-! The new file system: component and reference begin alike. Own rows. -/
/-- the new disk, after v bits of the map -/
def d0 (v : Nat) : By := fun a => if a = 1088 then b8 2 else if a = 1089 then b8 1 else if 1600 ≤ a then b8 (2 ^ (min 8 (v - 8 * (a - 1600))) - 1) else 0
theorem d0_0 : va_up (va_up (fun _ => (0 : Int8)) 1088 (b8 2)) 1089 (b8 1) = d0 0 := by
  funext a
  unfold va_up d0
  by_cases h1 : a = 1089
  · rw [if_pos h1, if_neg (by omega), if_pos h1]
  · rw [if_neg h1]
    by_cases h2 : a = 1088
    · rw [if_pos h2, if_pos h2]
    · rw [if_neg h2, if_neg h2, if_neg h1, Nat.zero_sub]
      by_cases h3 : 1600 ≤ a
      · rw [if_pos h3]; rfl
      · rw [if_neg h3]
theorem d0_up {v : Nat} (h : v < 26) : va_up (d0 v) (1600 + v / 8) (b8 (2 ^ (min 8 (v + 1 - 8 * (v / 8))) - 1)) = d0 (v + 1) := by
  funext a
  unfold va_up d0
  by_cases h1 : a = 1600 + v / 8
  · rw [if_pos h1, if_neg (by omega), if_neg (by omega), if_pos (by omega), show a - 1600 = v / 8 by omega]
  · rw [if_neg h1]
    by_cases h3 : 1600 ≤ a
    · rw [if_pos h3, if_pos h3, show min 8 (v - 8 * (a - 1600)) = min 8 (v + 1 - 8 * (a - 1600)) by omega]
    · rw [if_neg h3, if_neg h3]
theorem d0_at {v : Nat} (h : v < 26) : d0 v (1600 + v / 8) = b8 (2 ^ (min 8 (v - 8 * (v / 8))) - 1) := by
  unfold d0
  rw [if_neg (by omega), if_neg (by omega), if_pos (by omega), show 1600 + v / 8 - 1600 = v / 8 by omega]
theorem d0_c : ∀ v, v < 26 → (((b8 (2 ^ (min 8 (v - 8 * (v / 8))) - 1)).toInt32 &&& (255 : Int32)) ||| ((1 : Int32) <<< ((nI v - nI v / (8 : Int32) * (8 : Int32)) &&& 31))).toInt8.toInt32.toInt8 = b8 (2 ^ (min 8 (v + 1 - 8 * (v / 8))) - 1) := by decide +kernel
theorem d0_r : ∀ v, v < 26 → ((b8 (2 ^ (min 8 (v - 8 * (v / 8))) - 1)).toInt32 ||| ((1 : Int32) <<< ((nI v - nI v / (8 : Int32) * (8 : Int32)) &&& 31))).toInt8.toInt32.toInt8 = b8 (2 ^ (min 8 (v + 1 - 8 * (v / 8))) - 1) := by decide +kernel
theorem z_get (σ : ZS) {j : Nat} (h : j < 4) : J_Blocks_get_z σ (25 : Int32) (nI j) = some ((z_D σ (1600 + j)).toInt32 &&& (255 : Int32)) := by
  unfold J_Blocks_get_z
  rw [if_neg (by decide), if_neg (by decide), nL_0, if_neg (nng (by omega)), nL_64, if_pos (by rw [nJ_lt (by omega) (by omega)]; omega), nL_25, nJ_mul, nI_add, if_pos (by rw [nJ_in (by omega)]; omega), nJ_cl (by omega)]
theorem z_set (σ : ZS) (x : Int32) {j : Nat} (h : j < 4) : J_Blocks_set_z σ (25 : Int32) (nI j) x = some (sz_D σ (va_up (z_D σ) (1600 + j) x.toInt8.toInt32.toInt8)) := by
  unfold J_Blocks_set_z
  rw [if_neg (by decide), if_neg (by decide), nL_0, if_neg (nng (by omega)), nL_64, if_neg (by rw [nJ_le (by omega) (by omega)]; omega), nL_25, nJ_mul, nI_add, if_pos (by rw [nJ_in (by omega)]; omega), nJ_cl (by omega)]
theorem v8 {v : Nat} (h : v < 26) : nI v / (8 : Int32) = nI (v / 8) := by rw [nL_8, nJ_div (by omega) (by omega)]
theorem z_loop (w f o : Int32) : ∀ (d n v : Nat), v + d = 26 → d < n → J_Disk_init_54 n (d0 v, w, f, o) (nI v) = some (d0 26, w, f, o) := by
  intro d
  induction d with
  | zero =>
    intro n v hv hn
    obtain ⟨n, rfl⟩ : ∃ k, n = k + 1 := ⟨n - 1, by omega⟩
    show J_Disk_init_54_b (J_Disk_init_54 n) _ _ = _
    unfold J_Disk_init_54_b
    rw [show v = 26 by omega, nL_26, if_pos (by decide)]
  | succ d ih =>
    intro n v hv hn
    obtain ⟨n, rfl⟩ : ∃ k, n = k + 1 := ⟨n - 1, by omega⟩
    have h : v < 26 := by omega
    show J_Disk_init_54_b (J_Disk_init_54 n) _ _ = _
    unfold J_Disk_init_54_b
    rw [if_neg (show ¬ (26 : Int32) ≤ nI v by rw [nL_26, nJ_le (by omega) (by omega)]; omega)]
    have e0 := d0_c v h
    rw [v8 h] at e0 ⊢
    rw [z_get _ (show v / 8 < 4 by omega), nJ_bs, z_set _ _ (show v / 8 < 4 by omega), nJ_bs, show z_D (d0 v, w, f, o) = d0 v from rfl, d0_at h, e0, d0_up h, nL_1, nI_add]
    exact ih n (v + 1) (by omega) (by omega)
theorem z_init (w f o : Int32) : J_Disk_init ((fun _ => (0 : Int8)), w, f, o) = some (d0 26, w, f, o) := by
  unfold J_Disk_init
  have s1 : ∀ (σ : ZS) (x : Int32) (j : Nat), j < 4 → J_Blocks_set_z σ (17 : Int32) (nI j) x = some (sz_D σ (va_up (z_D σ) (1088 + j) x.toInt8.toInt32.toInt8)) := fun σ x j h => by
    unfold J_Blocks_set_z
    rw [if_neg (by decide), if_neg (by decide), nL_0, if_neg (nng (by omega)), nL_64, if_neg (by rw [nJ_le (by omega) (by omega)]; omega), nL_17, nJ_mul, nI_add, if_pos (by rw [nJ_in (by omega)]; omega), nJ_cl (by omega)]
  have e1 : (2 : Int32).toInt8.toInt32.toInt8 = b8 2 := by decide
  have e2 : (1 : Int32).toInt8.toInt32.toInt8 = b8 1 := by decide
  have s2 := s1 ((fun _ => (0 : Int8)), w, f, o) (2 : Int32) 0 (by omega)
  have s3 := s1 (va_up (fun _ => (0 : Int8)) 1088 (b8 2), w, f, o) (1 : Int32) 1 (by omega)
  rw [e1] at s2
  rw [e2] at s3
  have s2 : J_Blocks_set_z ((fun _ => (0 : Int8)), w, f, o) (17 : Int32) (0 : Int32) (2 : Int32) = some (va_up (fun _ => (0 : Int8)) 1088 (b8 2), w, f, o) := s2
  have s3 : J_Blocks_set_z (va_up (fun _ => (0 : Int8)) 1088 (b8 2), w, f, o) (17 : Int32) (1 : Int32) (1 : Int32) = some (va_up (va_up (fun _ => (0 : Int8)) 1088 (b8 2)) 1089 (b8 1), w, f, o) := s3
  rw [s2, nJ_bs, s3, nJ_bs, d0_0]
  exact z_loop w f o 26 9000 0 (by omega) (by omega)
theorem r_loop : ∀ (d n v : Nat) (σ : RS), r_D σ = d0 v → v + d = 26 → d < n → J_Model_init_72 n σ (nI v) = J_Model_load (q_D σ (d0 26)) := by
  intro d
  induction d with
  | zero =>
    intro n v σ hD hv hn
    obtain ⟨n, rfl⟩ : ∃ k, n = k + 1 := ⟨n - 1, by omega⟩
    show J_Model_init_72_b (J_Model_init_72 n) _ _ = _
    unfold J_Model_init_72_b
    have e : q_D σ (d0 26) = σ := by
      rw [← show v = 26 by omega, ← hD]
      rfl
    rw [e, show v = 26 by omega, nL_26, if_pos (by decide), R_load, nJ_bs]
  | succ d ih =>
    intro n v σ hD hv hn
    obtain ⟨n, rfl⟩ : ∃ k, n = k + 1 := ⟨n - 1, by omega⟩
    have h : v < 26 := by omega
    show J_Model_init_72_b (J_Model_init_72 n) _ _ = _
    unfold J_Model_init_72_b
    rw [if_neg (show ¬ (26 : Int32) ≤ nI v by rw [nL_26, nJ_le (by omega) (by omega)]; omega)]
    have e0 := d0_r v h
    have e1 : (1600 : Int32) + nI (v / 8) = nI (1600 + v / 8) := nI_add 1600 (v / 8)
    rw [v8 h] at e0 ⊢
    rw [e1, if_pos (by rw [nJ_in (by omega)]; omega), if_pos (by rw [nJ_in (by omega)]; omega), nJ_cl (by omega), hD, d0_at h, e0, d0_up h, nL_1, nI_add]
    exact ih n (v + 1) (q_D σ (d0 (v + 1))) rfl (by omega) (by omega)
theorem d0_z {a : Nat} (h1 : a ≠ 1088) (h2 : a ≠ 1089) (h3 : a < 1600) : rb (d0 26) a = 0 := by
  unfold rb d0
  rw [if_neg h1, if_neg h2, if_neg (by omega)]
  rfl
theorem d0_sz {i : Nat} (h : i < 32) : sz (d0 26) i = 0 := by
  unfold sz
  rw [d0_z (by omega) (by omega) (by omega), d0_z (by omega) (by omega) (by omega)]
theorem d0_bl {i k : Nat} (h : i < 32) (hk : k ≤ 16) : blk (d0 26) i k = 0 := by
  have e : nd (d0 26) i = 0 := d0_z (by omega) (by omega) (by omega)
  unfold blk cbk
  by_cases h1 : k = 16
  · rw [if_pos h1, e]
  · rw [if_neg h1]
    by_cases h2 : k < 10
    · rw [if_pos h2]
      exact d0_z (by omega) (by omega) (by omega)
    · rw [if_neg h2, if_pos e]
theorem d0_good : Good (d0 26) := by
  have no : ∀ i k, ¬ OS (d0 26) i k := fun i k h => by
    obtain ⟨h1, h2⟩ := h
    rw [d0_sz h1, show bf 0 = 0 from rfl] at h2
    omega
  refine ⟨⟨?_, fun i k h => absurd h (no i k), fun i k j n h => absurd h (no i k), fun i k h1 h2 _ => d0_bl h1 h2⟩, fun i h => ?_, fun i h _ => ?_⟩
  · have e : ∀ b, b < 26 → (b8 (2 ^ (min 8 (26 - 8 * (b / 8))) - 1)).toBitVec.toNat / 2 ^ (b % 8) % 2 = 1 := by decide +kernel
    intro b hb
    have e1 : d0 26 (1600 + b / 8) = b8 (2 ^ (min 8 (26 - 8 * (b / 8))) - 1) := by
      unfold d0
      rw [if_neg (by omega), if_neg (by omega), if_pos (by omega), show 1600 + b / 8 - 1600 = b / 8 by omega]
    unfold bit rb
    rw [e1]
    exact e b hb
  · rw [d0_sz h]
    refine ⟨by omega, ?_, fun _ => rfl⟩
    unfold ln
    by_cases q : i = 0
    · rw [q]; decide +kernel
    · rw [d0_z (by omega) (by omega) (by omega)]; omega
  · rw [d0_sz h]
    exact ⟨rfl, fun e he => absurd he (by omega), fun e d he => absurd he (by omega)⟩
theorem law_pure : lawPure := by
  intro xs L hL
  have hR : J_Model_init ((0 : Int32), (fun _ => (0 : Int8)), (fun _ => (0 : Int8)), (fun _ => (0 : Int32)), (0 : Int32), (0 : Int32), (0 : Int32), ((-1) : Int32), (0 : Int32), (0 : Int32), (fun _ => (0 : Int8)), (fun _ => (0 : Int8))) = some ((0 : Int32), d0 26, ld (d0 26) (fun _ => (0 : Int8)), (fun _ => (0 : Int32)), nI 0, (0 : Int32), (0 : Int32), ((-1) : Int32), (0 : Int32), (0 : Int32), (fun _ => (0 : Int8)), (fun _ => (0 : Int8))) := by
    unfold J_Model_init
    rw [if_pos (by decide), if_pos (by decide)]
    refine (r_loop 26 9000 0 _ ?_ (by omega) (by omega)).trans ?_
    · exact d0_0
    · rw [R_load]
      rfl
  have hC : J_LogFs_init (d0 26, (fun _ => (0 : Int8)), (fun _ => (0 : Int32)), (0 : Int32), (0 : Int32), ((-1) : Int32), (0 : Int32), (0 : Int32)) = some (d0 26, ld (d0 26) (fun _ => (0 : Int8)), (fun _ => (0 : Int32)), nI 0, (0 : Int32), ((-1) : Int32), (0 : Int32), (0 : Int32)) := by
    unfold J_LogFs_init
    rw [C_load, nJ_bs]
    rfl
  refine ⟨(d0 26, (0 : Int32), ((-1) : Int32), (0 : Int32)), (d0 26, ld (d0 26) (fun _ => (0 : Int8)), (fun _ => (0 : Int32)), nI 0, (0 : Int32), ((-1) : Int32), (0 : Int32), (0 : Int32)), _, z_init _ _ _, hC, hR, ?_⟩
  refine L_loop xs L hL 513 0 _ ?_ (by omega) (by omega)
  refine ⟨rfl, rfl, rfl, Or.inl rfl, Or.inl ⟨rfl, [], ⟨rfl, rfl, fun i hi => absurd hi (Nat.not_lt_zero _), fun x hx => (nomatch hx)⟩, ⟨rfl, rfl, fun i hi => absurd hi (Nat.not_lt_zero _), fun x hx => (nomatch hx)⟩, fun x hx => (nomatch hx), Nat.zero_le _, Good_ld d0_good, d0_good, ?_, fun a h1 h2 _ => (show ld (d0 26) (fun _ => (0 : Int8)) a = d0 26 a from ld_at h2)⟩⟩
  exact d0_z (by omega) (by omega) (by omega)
