/-! Mounting. Own rows. -/
theorem R_load0 : ∀ (d n v : Nat) (σ : RS), v + d = 8192 → d < n → J_Model_load_2 n σ (nI v) = some (q_n (q_M σ (fun j => if v ≤ j ∧ j < 8192 then r_D σ j else r_M σ j)) (nI 0)) := by
  intro d
  induction d with
  | zero =>
    intro n v σ hv hn
    obtain ⟨n, rfl⟩ : ∃ k, n = k + 1 := ⟨n - 1, by omega⟩
    show J_Model_load_2_b _ σ (nI v) = _
    unfold J_Model_load_2_b
    rw [nL_8192, if_pos (by rw [nJ_le (by omega) (by omega)]; omega), show (fun j => if v ≤ j ∧ j < 8192 then r_D σ j else r_M σ j) = r_M σ from funext fun j => if_neg (by omega)]
    rfl
  | succ d ih =>
    intro n v σ hv hn
    obtain ⟨n, rfl⟩ : ∃ k, n = k + 1 := ⟨n - 1, by omega⟩
    show J_Model_load_2_b _ σ (nI v) = _
    unfold J_Model_load_2_b
    simp (disch := omega) only [nJ_bs, nJ_ifz, nJ_m1, nI_add, nJ_mul, nJ_sub, nJ_div, nJ_lt, nJ_le, nJ_eq, nJ_cl, nJ_in, nJ_md, nJ_rb, nJ_b8, nJ_b81, nJ_i8, nM_eq, nM_eq2, nM_lt, nM_le, nM_nle, nM_nlt, nM_self, nL_0, nL_1, nL_2, nL_3, nL_4, nL_7, nL_8, nL_10, nL_14, nL_15, nL_16, nL_17, nL_25, nL_26, nL_31, nL_32, nL_33, nL_56, nL_63, nL_64, nL_65, nL_126, nL_128, nL_200, nL_255, nL_256, nL_1000, nL_8192, nL_5, nL_6, if_true, if_false, if_pos, if_neg]
    rw [ih n (v + 1) _ (by omega) (by omega)]
    have e : (fun j => if v + 1 ≤ j ∧ j < 8192 then r_D σ j else va_up (r_M σ) v (r_D σ v) j) = fun j => if v ≤ j ∧ j < 8192 then r_D σ j else r_M σ j := by
      funext j
      unfold va_up
      by_cases q : j = v
      · rw [if_neg (by omega), if_pos q, if_pos (by omega), q]
      · rw [if_neg q]
        by_cases p : v ≤ j ∧ j < 8192
        · rw [if_pos (by omega), if_pos p]
        · rw [if_neg (by omega), if_neg p]
    show some (q_n (q_M σ (fun j => if v + 1 ≤ j ∧ j < 8192 then r_D σ j else va_up (r_M σ) v (r_D σ v) j)) (nI 0)) = _
    rw [e]
theorem R_load (σ : RS) : J_Model_load σ = some (q_n (q_M σ (ld (r_D σ) (r_M σ))) (nI 0)) := by
  have h := R_load0 8192 9000 0 σ (by omega) (by omega)
  have e : (fun j => if 0 ≤ j ∧ j < 8192 then r_D σ j else r_M σ j) = ld (r_D σ) (r_M σ) := by
    funext j
    unfold ld
    by_cases p : j < 8192
    · rw [if_pos ⟨Nat.zero_le _, p⟩, if_pos p]
    · rw [if_neg (fun z => p z.2), if_neg p]
  rw [e] at h
  exact h
theorem R_pgd0 {b v1 : Nat} (hb : b < 15) : ∀ (d n v : Nat) (σ : RS), v + d = 64 → d < n → ∃ G : By, J_Model_mount_39 n σ (nI v1) (nI b) (nI v) = some (nI v1, nI b, q_G σ G) ∧ (∀ o, v ≤ o → o < 64 → G o = pg (r_D σ) (2 + b) o) ∧ ∀ o, o < v → G o = r_G σ o := by
  intro d
  induction d with
  | zero =>
    intro n v σ hv hn
    obtain ⟨n, rfl⟩ : ∃ k, n = k + 1 := ⟨n - 1, by omega⟩
    refine ⟨r_G σ, ?_, fun o h1 h2 => by omega, fun _ _ => rfl⟩
    show J_Model_mount_39_b _ σ (nI v1) (nI b) (nI v) = _
    unfold J_Model_mount_39_b
    rw [nL_64, if_pos (by rw [nJ_le (by omega) (by omega)]; omega)]
    rfl
  | succ d ih =>
    intro n v σ hv hn
    obtain ⟨n, rfl⟩ : ∃ k, n = k + 1 := ⟨n - 1, by omega⟩
    obtain ⟨G, g1, g2, g3⟩ := ih n (v + 1) (q_G σ (va_up (r_G σ) v (r_D σ (64 * (2 + b) + v)))) (by omega) (by omega)
    refine ⟨G, ?_, fun o h1 h2 => ?_, fun o h => ?_⟩
    · show J_Model_mount_39_b _ σ (nI v1) (nI b) (nI v) = _
      unfold J_Model_mount_39_b
      simp (disch := omega) only [nJ_bs, nJ_ifz, nJ_m1, nI_add, nJ_mul, nJ_sub, nJ_div, nJ_lt, nJ_le, nJ_eq, nJ_cl, nJ_in, nJ_md, nJ_rb, nJ_b8, nJ_b81, nJ_i8, nM_eq, nM_eq2, nM_lt, nM_le, nM_nle, nM_nlt, nM_self, nL_0, nL_1, nL_2, nL_3, nL_4, nL_7, nL_8, nL_10, nL_14, nL_15, nL_16, nL_17, nL_25, nL_26, nL_31, nL_32, nL_33, nL_56, nL_63, nL_64, nL_65, nL_126, nL_128, nL_200, nL_255, nL_256, nL_1000, nL_8192, nL_5, nL_6, if_true, if_false, if_pos, if_neg]
      exact g1
    · by_cases e : o = v
      · rw [g3 o (by omega), e]
        exact va_up_self _ _ _
      · exact g2 o (by omega) h2
    · rw [g3 o (by omega)]
      exact va_up_ne _ _ (by omega)
theorem R_rep0 {D0 : By} {L : List Nat} (hL : L.length ≤ 15) (hx : ∀ x ∈ L, 17 ≤ x ∧ x < 128) (hh : ∀ j, j < L.length → rb D0 (65 + j) = L.getD j 0) : ∀ (d n v : Nat) (σ : RS), (∀ a, a < 1088 → r_D σ a = D0 a) → r_f σ = nI 0 → fOk (r_l σ) → v + d = L.length → d < n →
    ∃ υ, J_Model_mount_25 n σ (nI L.length) (nI v) = J_Model_mount_89 υ (nI L.length) ∧ r_f υ = b10 (rn (rpL D0 L d v) (zR σ)).1 ∧ zR υ = (rn (rpL D0 L d v) (zR σ)).2 ∧ eK σ υ := by
  intro d
  induction d with
  | zero =>
    intro n v σ hD hf0 hf hv hn
    obtain ⟨n, rfl⟩ : ∃ k, n = k + 1 := ⟨n - 1, by omega⟩
    refine ⟨σ, ?_, hf0, rfl, eK.rf σ⟩
    show J_Model_mount_25_b _ σ (nI L.length) (nI v) = _
    unfold J_Model_mount_25_b
    rw [if_pos (by rw [nJ_le (by omega) (by omega)]; omega)]
  | succ d ih =>
    intro n v σ hD hf0 hf hv hn
    obtain ⟨n, rfl⟩ : ∃ k, n = k + 1 := ⟨n - 1, by omega⟩
    show ∃ υ, J_Model_mount_25_b _ σ (nI L.length) (nI v) = _ ∧ r_f υ = b10 (rn ([(L.getD v 0, pg D0 (2 + v))] ++ rpL D0 L d (v + 1)) (zR σ)).1 ∧ zR υ = (rn ([(L.getD v 0, pg D0 (2 + v))] ++ rpL D0 L d (v + 1)) (zR σ)).2 ∧ eK σ υ
    obtain ⟨x1, x2⟩ := hx _ (L_mem (show v < L.length by omega))
    have hr : (r_D σ (65 + v)).toInt32 = nI (L.getD v 0) := by
      rw [hD _ (by omega), rb_b8 D0, hh v (by omega), b8_i7 _ x2]
    obtain ⟨G, g1, g2, -⟩ := R_pgd0 (b := v) (v1 := L.length) (by omega) 64 9000 0 σ (by omega) (by omega)
    have hrG : r_D (q_G σ G) (65 + v) = r_D σ (65 + v) := rfl
    unfold J_Model_mount_25_b
    rw [if_neg (by rw [nJ_le (by omega) (by omega)]; omega), nL_0, if_pos hf0, g1, nJ_bs, nL_65, nI_add, if_pos (by rw [nJ_in (by omega)]; omega), nJ_cl (by omega), hrG, hr, nL_1, nI_add]
    have hp := R_put (σ := q_G σ G) hf0 hf x2 (p := pg D0 (2 + v)) (fun o ho => (g2 o (by omega) ho).trans (pg_lo hD (by omega) o ho))
    refine RD.seq (σ := σ) (F := fun τ => J_Model_mount_89 τ (nI L.length)) hp (fun τ f => ?_) (fun τ f z dk => ?_)
    · obtain ⟨n, rfl⟩ : ∃ k, n = k + 1 := ⟨n - 1, by omega⟩
      show J_Model_mount_25_b _ τ (nI L.length) (nI (v + 1)) = _
      unfold J_Model_mount_25_b
      rw [nL_0, if_neg (show ¬ r_f τ = nI 0 by rw [f]; exact nz2)]
      split <;> rfl
    · have hD2 : ∀ a, a < 1088 → r_D τ a = D0 a := by
        have := rn_lo (p := pg D0 (2 + v)) x1 (z := zR σ) hD
        have z' : zR τ = (rn [(L.getD v 0, pg D0 (2 + v))] (zR σ)).2 := z
        rw [← z'] at this
        exact this
      exact ih n (v + 1) τ hD2 f (fOk_z hf z) (by omega) (by omega)
def rpl (D : By) (L : List Nat) : List (Nat × By) := rpL D L L.length 0 ++ [(1, fun _ => 0)]
/-- what mounting leaves -/
theorem R_mount {σ : RS} {L : List Nat} (hL : L.length ≤ 15) (h0 : L.length ≠ 0) (hn : rb (r_D σ) 64 = L.length) (hx : ∀ x ∈ L, 17 ≤ x ∧ x < 128) (hh : ∀ j, j < L.length → rb (r_D σ) (65 + j) = L.getD j 0) (hf : fOk (r_l σ)) :
    ∃ τ, J_Model_mount σ = some ((if (rn (rpl (r_D σ) L) (r_D σ, r_w σ, r_l σ, nI 0)).1 = true then nI L.length else nI 0), τ) ∧ zR τ = (rn (rpl (r_D σ) L) (r_D σ, r_w σ, r_l σ, nI 0)).2 ∧ r_t τ = b10 (rn (rpl (r_D σ) L) (r_D σ, r_w σ, r_l σ, nI 0)).1 ∧ r_n τ = nI 0 ∧ r_c τ = r_c σ ∧ ((rn (rpl (r_D σ) L) (r_D σ, r_w σ, r_l σ, nI 0)).1 = true → r_M τ = ld (r_D τ) (r_M σ)) ∧ (¬ (rn (rpl (r_D σ) L) (r_D σ, r_w σ, r_l σ, nI 0)).1 = true → r_M τ = r_M σ) := by
  obtain ⟨ρ, hρ⟩ : ∃ ρ, ρ = q_t (q_f (q_o σ (nI 0)) (nI 0)) (nI 0) := ⟨_, rfl⟩
  have hz : zR ρ = (r_D σ, r_w σ, r_l σ, nI 0) := by rw [hρ]; rfl
  have hn2 : (r_D ρ 64).toInt32 = nI L.length := by
    have e : r_D ρ = r_D σ := by rw [hρ]; rfl
    rw [e, rb_b8 (r_D σ), hn, b8_i7 _ (by omega)]
  -- until the end
  have main : ∃ υ, J_Model_mount_25 9000 ρ (nI L.length) (nI 0) = J_Model_mount_110 υ (nI L.length) ∧ r_f υ = b10 (rn (rpl (r_D σ) L) (zR ρ)).1 ∧ zR υ = (rn (rpl (r_D σ) L) (zR ρ)).2 ∧ eK ρ υ := by
    obtain ⟨a, a1, a2, a3, a4⟩ := R_rep0 (D0 := r_D σ) hL hx hh L.length 9000 0 ρ (fun _ _ => by rw [hρ]; rfl) (by rw [hρ]; rfl) (by rw [hρ]; exact hf) (by omega) (by omega)
    have hfr : fOk (r_l ρ) := by rw [hρ]; exact hf
    rw [a1]
    unfold rpl
    rw [rn_app]
    unfold J_Model_mount_89
    rw [nL_0, if_neg (show ¬ nI L.length ≤ nI 0 by rw [nJ_le (by omega) (by omega)]; omega)]
    by_cases q : (rn (rpL (r_D σ) L L.length 0) (zR ρ)).1 = true
    · rw [if_pos q, ← a3]
      rw [b10_t q] at a2
      rw [if_pos a2]
      obtain ⟨y, y1, y2, y3, y4⟩ := R_clr a2 (fOk_z hfr a3)
      rw [nL_0] at y1
      refine ⟨y, ?_, y2, y3, a4.tr y4⟩
      rw [← Option.bind_assoc, y1]
      rfl
    · rw [if_neg q]
      rw [b10_f q] at a2
      rw [if_neg (show ¬ r_f a = nI 0 by rw [a2]; exact nz2)]
      exact ⟨a, rfl, a2.trans (b10_f q).symm, a3, a4⟩
  obtain ⟨υ, u1, u2, u3, u4⟩ := main
  obtain ⟨k1, k2, k3, k4, k5, k6⟩ := u4
  rw [hz] at u2 u3
  have kM : r_M υ = r_M σ := by rw [k1, hρ]; rfl
  have kc : r_c υ = r_c σ := by rw [k5, hρ]; rfl
  have e0 : J_Model_mount σ = J_Model_mount_110 υ (nI L.length) := by
    unfold J_Model_mount
    rw [if_pos (by decide +kernel), show (64 : Int32).toNatClampNeg = 64 by decide, nL_0, ← hρ, hn2, u1]
  rw [e0]
  unfold J_Model_mount_110 J_Model_mount_128
  rw [nL_0, nL_1]
  by_cases q : (rn (rpl (r_D σ) L) (r_D σ, r_w σ, r_l σ, nI 0)).1 = true
  · rw [b10_t q] at u2
    rw [if_pos (show r_f (q_n υ (nI 0)) = nI 0 from u2), if_pos (show r_f (q_t (q_n υ (nI 0)) (nI 0)) = nI 0 from u2), R_load, nJ_bs, if_pos q]
    refine ⟨_, rfl, u3, (b10_t q).symm, rfl, kc, fun _ => ?_, fun z => absurd q z⟩
    show ld (r_D υ) (r_M υ) = ld (r_D υ) (r_M σ)
    rw [kM]
  · rw [b10_f q] at u2
    have hne : ¬ r_f υ = nI 0 := by rw [u2]; exact nz2
    rw [if_neg (show ¬ r_f (q_n υ (nI 0)) = nI 0 from hne), if_neg (show ¬ r_f (q_t (q_n υ (nI 0)) (nI 1)) = nI 0 from hne), if_neg q]
    exact ⟨_, rfl, u3, (b10_f q).symm, rfl, kc, fun z => absurd z q, fun _ => kM⟩
theorem R_mount0 {σ : RS} (hn : rb (r_D σ) 64 = 0) : J_Model_mount σ = some (nI 0, q_n (q_M (q_t (q_n (q_t (q_f (q_o σ (nI 0)) (nI 0)) (nI 0)) (nI 0)) (nI 0)) (ld (r_D σ) (r_M σ))) (nI 0)) := by
  obtain ⟨ρ, hρ⟩ : ∃ ρ, ρ = q_t (q_f (q_o σ (nI 0)) (nI 0)) (nI 0) := ⟨_, rfl⟩
  have eD : r_D ρ = r_D σ := by rw [hρ]; rfl
  have eM : r_M ρ = r_M σ := by rw [hρ]; rfl
  have hf0 : r_f ρ = nI 0 := by rw [hρ]; rfl
  have hn2 : (r_D ρ 64).toInt32 = nI 0 := by
    rw [eD, rb_b8 (r_D σ), hn, b8_i7 _ (by omega)]
  unfold J_Model_mount
  rw [if_pos (by decide +kernel), show (64 : Int32).toNatClampNeg = 64 by decide, nL_0, ← hρ, hn2]
  show J_Model_mount_25_b _ ρ (nI 0) (nI 0) = _
  unfold J_Model_mount_25_b J_Model_mount_89 J_Model_mount_110 J_Model_mount_128
  rw [nL_0, if_pos (by decide), if_pos (by decide), if_pos (show r_f (q_n ρ (nI 0)) = nI 0 from hf0), if_pos (show r_f (q_t (q_n ρ (nI 0)) (nI 0)) = nI 0 from hf0), R_load, nJ_bs]
  show some (nI 0, q_n (q_M (q_t (q_n ρ (nI 0)) (nI 0)) (ld (r_D ρ) (r_M ρ))) (nI 0)) = _
  rw [eD, eM]
theorem C_mount0 {σ : CS} (hn : rb (c_D σ) 64 = 0) : J_LogFs_mount σ = some (0, nI 0, s_n (s_M (s_o σ (nI 0)) (ld (c_D σ) (c_M σ))) (nI 0)) := by
  unfold J_LogFs_mount J_LogFs_mount_46
  rw [nL_0, nL_1, C_getd _ (by omega) (by omega), nJ_bs, show rb (c_D (s_o σ (nI 0))) (64 * 1 + 0) = 0 from hn, if_pos (by decide), C_load, nJ_bs]
  rfl
theorem C_mount {σ : CS} {L : List Nat} (hL : L.length ≤ 15) (h0 : L.length ≠ 0) (hn : rb (c_D σ) 64 = L.length) (hx : ∀ x ∈ L, 17 ≤ x ∧ x < 128) (hh : ∀ j, j < L.length → rb (c_D σ) (65 + j) = L.getD j 0) (hf : fOk (c_f σ)) :
    ∃ τ, J_LogFs_mount σ = some ((if (rn (rpl (c_D σ) L) (c_D σ, c_w σ, c_f σ, nI 0)).1 = true then 0 else 2), (if (rn (rpl (c_D σ) L) (c_D σ, c_w σ, c_f σ, nI 0)).1 = true then nI L.length else nI 0), τ) ∧ zC τ = (rn (rpl (c_D σ) L) (c_D σ, c_w σ, c_f σ, nI 0)).2 ∧ c_c τ = c_c σ ∧ ((rn (rpl (c_D σ) L) (c_D σ, c_w σ, c_f σ, nI 0)).1 = true → c_M τ = ld (c_D τ) (c_M σ) ∧ c_n τ = nI 0) ∧ (¬ (rn (rpl (c_D σ) L) (c_D σ, c_w σ, c_f σ, nI 0)).1 = true → c_M τ = c_M σ ∧ c_n τ = c_n σ ∧ c_P τ = c_P σ) := by
  obtain ⟨τ, t1, t2, t3⟩ := C_rep0 (D0 := c_D σ) hL hx hh L.length 9000 0 (s_o σ (nI 0)) (fun _ _ => rfl) hf (by omega) (by omega)
  have t2 : zC τ = (rn (rpl (c_D σ) L) (c_D σ, c_w σ, c_f σ, nI 0)).2 := t2
  have t1 : J_Disk_replayLog_2 9000 (s_o σ (nI 0)) (nI L.length) (nI 0) = some (b01 (rn (rpl (c_D σ) L) (c_D σ, c_w σ, c_f σ, nI 0)).1, τ) := t1
  obtain ⟨k1, k2, k3, k4⟩ := t3
  unfold J_LogFs_mount J_LogFs_mount_46 J_Disk_replayLog
  rw [nL_0, nL_1, C_getd _ (by omega) (by omega), nJ_bs, show rb (c_D (s_o σ (nI 0))) (64 * 1 + 0) = L.length from hn, if_neg (by rw [nJ_le (by omega) (by omega)]; omega), t1, nJ_bs]
  by_cases q : (rn (rpl (c_D σ) L) (c_D σ, c_w σ, c_f σ, nI 0)).1 = true
  · have e1 : b01 (rn (rpl (c_D σ) L) (c_D σ, c_w σ, c_f σ, nI 0)).1 = nI 1 := by rw [q]; rfl
    rw [e1, if_neg nz2, C_load, nJ_bs, if_pos q, if_pos q]
    refine ⟨_, rfl, t2, k4, fun _ => ⟨?_, rfl⟩, fun z => absurd q z⟩
    show ld (c_D τ) (c_M τ) = ld (c_D τ) (c_M σ)
    rw [k1]; rfl
  · have e1 : b01 (rn (rpl (c_D σ) L) (c_D σ, c_w σ, c_f σ, nI 0)).1 = nI 0 := by
      unfold b01
      rw [if_neg q]
    rw [e1, if_pos rfl, if_neg q, if_neg q]
    exact ⟨τ, rfl, t2, k4, fun z => absurd z q, fun _ => ⟨k1, k2, k3⟩⟩
