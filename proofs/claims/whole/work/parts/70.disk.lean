/-! Writes to the disk, one block after the other, until the power fails: the component's. Own rows. -/
theorem nz1 : ¬ nI 1 = (0 : Int32) := by decide
theorem nz2 : ¬ nI 1 = nI 0 := by decide
theorem nft : ¬ false = true := by decide
theorem nng {a : Nat} (h : a < 2147483648) : ¬ nI a < nI 0 := nI_pos h
def wB (D : By) (b : Nat) (p : By) : By := fun j => if 64 * b ≤ j ∧ j < 64 * b + 64 then p (j - 64 * b) else D j
def pg (M : By) (b : Nat) : By := fun o => M (64 * b + o)
def fOk (f : Int32) : Prop := f = nM ∨ ∃ k : Nat, k < 2147483648 ∧ f = nI k
def fdec (f : Int32) : Int32 := if f = nM then nM else f - nI 1
/-- a write: nothing, and the power is off, if none is left -/
def rn : List (Nat × By) → ZS → Bool × ZS
  | [], z => (true, z)
  | q :: l, z => if z_f z = nI 0 then (false, (z_D z, z_w z, nM, nI 1)) else rn l (wB (z_D z) q.1 q.2, z_w z + nI 1, fdec (z_f z), z_o z)
theorem rn_app (l l' : List (Nat × By)) : ∀ z, rn (l ++ l') z = if (rn l z).1 = true then rn l' (rn l z).2 else rn l z := by
  induction l with
  | nil => intro z; rfl
  | cons q l ih =>
    intro z
    show (if z_f z = nI 0 then _ else rn (l ++ l') _) = if (if z_f z = nI 0 then _ else rn l _).1 = true then rn l' (if z_f z = nI 0 then _ else rn l _).2 else (if z_f z = nI 0 then _ else rn l _)
    by_cases h : z_f z = nI 0
    · rw [if_pos h, if_pos h, if_neg nft]
    · rw [if_neg h, if_neg h]; exact ih _
theorem fOk_dec {f : Int32} (h : fOk f) (h0 : ¬ f = nI 0) : fOk (fdec f) := by
  unfold fdec
  rcases h with h | ⟨k, hk, h⟩
  · rw [if_pos h]; exact Or.inl rfl
  · rw [h] at h0 ⊢
    rw [nJ_eq hk (by omega)] at h0
    rw [if_neg (by rw [nM_eq hk]; exact id), nJ_sub (by omega) hk]
    exact Or.inr ⟨k - 1, by omega, rfl⟩
theorem fOk_rn : ∀ (l : List (Nat × By)) (z : ZS), fOk (z_f z) → fOk (z_f (rn l z).2) := by
  intro l
  induction l with
  | nil => intro z h; exact h
  | cons q l ih =>
    intro z h
    show fOk (z_f (if z_f z = nI 0 then _ else rn l _).2)
    by_cases e : z_f z = nI 0
    · rw [if_pos e]; exact Or.inl rfl
    · rw [if_neg e]
      exact ih _ (fOk_dec h e)
def zC (σ : CS) : ZS := (c_D σ, c_w σ, c_f σ, c_o σ)
def dK (σ τ : CS) : Prop := c_M τ = c_M σ ∧ c_n τ = c_n σ ∧ c_P τ = c_P σ ∧ c_c τ = c_c σ
theorem dK.tr {σ τ υ : CS} (a : dK σ τ) (b : dK τ υ) : dK σ υ := ⟨b.1.trans a.1, b.2.1.trans a.2.1, b.2.2.1.trans a.2.2.1, b.2.2.2.trans a.2.2.2⟩
theorem dK.rf (σ : CS) : dK σ σ := ⟨rfl, rfl, rfl, rfl⟩
theorem dK.cm {σ τ : CS} (h : dK σ τ) {M : By} {L : List Nat} (m : CM σ M L) : CM τ M L := by
  obtain ⟨m1, m2, m3, m4⟩ := m
  exact ⟨h.1.trans m1, h.2.1.trans m2, fun i hi => by rw [h.2.2.1]; exact m3 i hi, m4⟩
def b01 (b : Bool) : Int32 := nI (if b = true then 1 else 0)
/-- it does these writes -/
def CD (x : Option (Int32 × CS)) (σ : CS) (l : List (Nat × By)) : Prop := ∃ τ, x = some (b01 (rn l (zC σ)).1, τ) ∧ zC τ = (rn l (zC σ)).2 ∧ dK σ τ
theorem CD.seq {x : Option (Int32 × CS)} {k : Int32 × CS → Option (Int32 × CS)} {σ : CS} {l l' : List (Nat × By)} (h : CD x σ l) (h0 : ∀ τ, k (nI 0, τ) = some (nI 0, τ)) (h1 : ∀ τ, zC τ = (rn l (zC σ)).2 → dK σ τ → CD (k (nI 1, τ)) τ l') : CD (x.bind k) σ (l ++ l') := by
  obtain ⟨τ, e, z, d⟩ := h
  rw [e, Option.bind_some]
  unfold CD
  rw [rn_app]
  by_cases q : (rn l (zC σ)).1 = true
  · rw [if_pos q]
    have e1 : b01 (rn l (zC σ)).1 = nI 1 := by rw [q]; rfl
    rw [e1]
    obtain ⟨υ, a1, a2, a3⟩ := h1 τ z d
    rw [z] at a1 a2
    exact ⟨υ, a1, a2, d.tr a3⟩
  · rw [if_neg q]
    have e1 : b01 (rn l (zC σ)).1 = nI 0 := by
      unfold b01
      rw [if_neg q]
    rw [e1, h0]
    exact ⟨τ, rfl, z, d⟩
/-- one write, by what it does to the bytes -/
theorem C_one {σ : CS} (hf : fOk (c_f σ)) {k : CS → Option CS} {b : Nat} {p : By} (hk : ∀ τ, c_D τ = c_D σ → dK σ τ → ∃ D, k τ = some (s_D τ D) ∧ D = wB (c_D σ) b p) : CD ((J_Disk_spendWrite σ).bind fun x => (if x.1 = (0 : Int32) then some ((0 : Int32), x.2) else (k x.2).bind fun y => some ((1 : Int32), y))) σ [(b, p)] := by
  unfold J_Disk_spendWrite
  rw [nL_0, nL_1]
  have e : rn [(b, p)] (zC σ) = if c_f σ = nI 0 then (false, (c_D σ, c_w σ, nM, nI 1)) else (true, (wB (c_D σ) b p, c_w σ + nI 1, fdec (c_f σ), c_o σ)) := rfl
  unfold CD
  rw [e]
  by_cases q : c_f σ = nI 0
  · rw [if_pos q, if_pos q, nJ_bs, if_pos rfl]
    exact ⟨_, rfl, rfl, rfl, rfl, rfl, rfl⟩
  · rw [if_neg q, if_neg q]
    rcases hf with h | ⟨n, hn, h⟩
    · rw [if_pos (show c_f σ ≤ nI 0 by rw [h]; decide), nJ_bs, if_neg nz2]
      obtain ⟨D, a1, a2⟩ := hk (s_w σ (c_w σ + nI 1)) rfl ⟨rfl, rfl, rfl, rfl⟩
      rw [a1, nJ_bs]
      refine ⟨_, rfl, ?_, rfl, rfl, rfl, rfl⟩
      show (D, c_w σ + nI 1, c_f σ, c_o σ) = (wB (c_D σ) b p, c_w σ + nI 1, fdec (c_f σ), c_o σ)
      rw [a2, h]
      rfl
    · have hn0 : n ≠ 0 := fun z => q (by rw [h, z])
      rw [if_neg (show ¬ c_f σ ≤ nI 0 by rw [h, nJ_le hn (by omega)]; omega), nJ_bs, if_neg nz2]
      obtain ⟨D, a1, a2⟩ := hk (s_w (s_f σ (c_f σ - nI 1)) (c_w (s_f σ (c_f σ - nI 1)) + nI 1)) rfl ⟨rfl, rfl, rfl, rfl⟩
      rw [a1, nJ_bs]
      refine ⟨_, rfl, ?_, rfl, rfl, rfl, rfl⟩
      show (D, c_w σ + nI 1, c_f σ - nI 1, c_o σ) = (wB (c_D σ) b p, c_w σ + nI 1, fdec (c_f σ), c_o σ)
      have e2 : fdec (c_f σ) = c_f σ - nI 1 := by
        unfold fdec
        rw [if_neg (by rw [h, nM_eq hn]; exact id)]
      rw [a2, e2]
theorem cpyI {a b : Nat} (ha : a < 128) (hb : b < 128) : jcp (nI a * (64 : Int32)) (nI b * (64 : Int32)) (64 : Int32) 8192 8192 = true := by
  unfold jcp
  rw [nL_64, nJ_mul, nJ_mul, nJ_cl (by omega), nJ_cl (by omega), nJ_cl (by omega)]
  refine decide_eq_true ⟨nI_pos (by omega), nI_pos (by omega), nI_pos (by omega), by omega, by omega⟩
theorem cpy_wB (F D : By) (a b : Nat) : va_cpy F D (a * 64) (b * 64) 64 = wB D b (pg F a) := by
  funext j
  unfold va_cpy wB pg
  rw [Nat.mul_comm b 64, Nat.mul_comm a 64]
theorem C_stm {σ : CS} {M : By} {L : List Nat} (m : CM σ M L) (hf : fOk (c_f σ)) {a b : Nat} (ha : a < 128) (hb : b < 128) : CD (J_Disk_storeBlock_m σ (nI a) (nI b)) σ [(b, pg M a)] := by
  unfold J_Disk_storeBlock_m
  refine C_one hf (k := fun τ => J_Blocks_copyBlock_md τ (nI a) (nI b)) (fun τ h d => ?_)
  unfold J_Blocks_copyBlock_md
  rw [nL_0, nL_128, if_neg (nng (by omega)), if_neg (by rw [nJ_le (by omega) (by omega)]; omega), if_neg (nng (by omega)), if_neg (by rw [nJ_le (by omega) (by omega)]; omega), if_pos (cpyI ha hb), nL_64, nJ_mul, nJ_mul, nJ_cl (by omega), nJ_cl (by omega), nJ_cl (by omega), cpy_wB, h, d.1, m.1]
  exact ⟨_, rfl, rfl⟩
theorem C_std {σ : CS} (hf : fOk (c_f σ)) {a b : Nat} (ha : a < 128) (hb : b < 128) : CD (J_Disk_storeBlock_d σ (nI a) (nI b)) σ [(b, pg (c_D σ) a)] := by
  unfold J_Disk_storeBlock_d
  refine C_one hf (k := fun τ => J_Blocks_copyBlock_dd τ (nI a) (nI b)) (fun τ h d => ?_)
  unfold J_Blocks_copyBlock_dd
  rw [nL_0, nL_128, if_neg (nng (by omega)), if_neg (by rw [nJ_le (by omega) (by omega)]; omega), if_neg (nng (by omega)), if_neg (by rw [nJ_le (by omega) (by omega)]; omega), if_pos (cpyI ha hb), nL_64, nJ_mul, nJ_mul, nJ_cl (by omega), nJ_cl (by omega), nJ_cl (by omega), cpy_wB, h]
  exact ⟨_, rfl, rfl⟩
theorem C_setd (σ : CS) {b k : Nat} (hb : b < 128) (hk : k < 64) (v : Nat) : J_Blocks_set_d σ (nI b) (nI k) (nI v) = some (s_D σ (va_up (c_D σ) (64 * b + k) (b8 v))) := by
  unfold J_Blocks_set_d
  simp (disch := omega) only [nJ_bs, nJ_ifz, nJ_m1, nI_add, nJ_mul, nJ_sub, nJ_div, nJ_lt, nJ_le, nJ_eq, nJ_cl, nJ_in, nJ_md, nJ_rb, nJ_b8, nJ_b81, nJ_i8, nM_eq, nM_eq2, nM_lt, nM_le, nM_nle, nM_nlt, nM_self, nL_0, nL_1, nL_2, nL_3, nL_4, nL_7, nL_8, nL_10, nL_14, nL_15, nL_16, nL_17, nL_25, nL_26, nL_31, nL_32, nL_33, nL_56, nL_63, nL_64, nL_65, nL_126, nL_128, nL_200, nL_255, nL_256, nL_1000, nL_8192, nL_5, nL_6, if_true, if_false, if_pos, if_neg]
  rw [Nat.mul_comm]
theorem C_getd (σ : CS) {b k : Nat} (hb : b < 128) (hk : k < 64) : J_Blocks_get_d σ (nI b) (nI k) = some (nI (rb (c_D σ) (64 * b + k))) := by
  unfold J_Blocks_get_d
  simp (disch := omega) only [nJ_bs, nJ_ifz, nJ_m1, nI_add, nJ_mul, nJ_sub, nJ_div, nJ_lt, nJ_le, nJ_eq, nJ_cl, nJ_in, nJ_md, nJ_rb, nJ_b8, nJ_b81, nJ_i8, nM_eq, nM_eq2, nM_lt, nM_le, nM_nle, nM_nlt, nM_self, nL_0, nL_1, nL_2, nL_3, nL_4, nL_7, nL_8, nL_10, nL_14, nL_15, nL_16, nL_17, nL_25, nL_26, nL_31, nL_32, nL_33, nL_56, nL_63, nL_64, nL_65, nL_126, nL_128, nL_200, nL_255, nL_256, nL_1000, nL_8192, nL_5, nL_6, if_true, if_false, if_pos, if_neg]
  rw [Nat.mul_comm]
theorem C_clrd0 {b : Nat} (hb : b < 128) : ∀ (d n v : Nat) (σ : CS), v + d = 64 → d < n → J_Blocks_clear_d_2 n σ (nI b) (nI v) = some (s_D σ (fun j => if 64 * b + v ≤ j ∧ j < 64 * b + 64 then 0 else c_D σ j)) := by
  intro d
  induction d with
  | zero =>
    intro n v σ hv hn
    obtain ⟨n, rfl⟩ : ∃ k, n = k + 1 := ⟨n - 1, by omega⟩
    show J_Blocks_clear_d_2_b (J_Blocks_clear_d_2 n) σ (nI b) (nI v) = _
    unfold J_Blocks_clear_d_2_b
    simp (disch := omega) only [nJ_bs, nJ_ifz, nJ_m1, nI_add, nJ_mul, nJ_sub, nJ_div, nJ_lt, nJ_le, nJ_eq, nJ_cl, nJ_in, nJ_md, nJ_rb, nJ_b8, nJ_b81, nJ_i8, nM_eq, nM_eq2, nM_lt, nM_le, nM_nle, nM_nlt, nM_self, nL_0, nL_1, nL_2, nL_3, nL_4, nL_7, nL_8, nL_10, nL_14, nL_15, nL_16, nL_17, nL_25, nL_26, nL_31, nL_32, nL_33, nL_56, nL_63, nL_64, nL_65, nL_126, nL_128, nL_200, nL_255, nL_256, nL_1000, nL_8192, nL_5, nL_6, if_true, if_false, if_pos, if_neg]
    rfl
  | succ d ih =>
    intro n v σ hv hn
    obtain ⟨n, rfl⟩ : ∃ k, n = k + 1 := ⟨n - 1, by omega⟩
    show J_Blocks_clear_d_2_b (J_Blocks_clear_d_2 n) σ (nI b) (nI v) = _
    unfold J_Blocks_clear_d_2_b
    simp (disch := omega) only [nJ_bs, nJ_ifz, nJ_m1, nI_add, nJ_mul, nJ_sub, nJ_div, nJ_lt, nJ_le, nJ_eq, nJ_cl, nJ_in, nJ_md, nJ_rb, nJ_b8, nJ_b81, nJ_i8, nM_eq, nM_eq2, nM_lt, nM_le, nM_nle, nM_nlt, nM_self, nL_0, nL_1, nL_2, nL_3, nL_4, nL_7, nL_8, nL_10, nL_14, nL_15, nL_16, nL_17, nL_25, nL_26, nL_31, nL_32, nL_33, nL_56, nL_63, nL_64, nL_65, nL_126, nL_128, nL_200, nL_255, nL_256, nL_1000, nL_8192, nL_5, nL_6, if_true, if_false, if_pos, if_neg, C_setd σ hb (show v < 64 by omega)]
    rw [ih n (v + 1) _ (by omega) (by omega)]
    have e : (fun j => if 64 * b + (v + 1) ≤ j ∧ j < 64 * b + 64 then 0 else va_up (c_D σ) (64 * b + v) (b8 0) j) = fun j => if 64 * b + v ≤ j ∧ j < 64 * b + 64 then 0 else c_D σ j := by
      funext j
      unfold va_up
      by_cases q : j = 64 * b + v
      · rw [if_neg (by omega), if_pos q, if_pos (by omega)]; rfl
      · rw [if_neg q]
        by_cases p : 64 * b + v ≤ j ∧ j < 64 * b + 64
        · rw [if_pos (by omega), if_pos p]
        · rw [if_neg (by omega), if_neg p]
    show some (s_D σ (fun j => if 64 * b + (v + 1) ≤ j ∧ j < 64 * b + 64 then 0 else va_up (c_D σ) (64 * b + v) (b8 0) j)) = _
    rw [e]
theorem C_clrd (σ : CS) : J_Blocks_clear_d σ (1 : Int32) = some (s_D σ (wB (c_D σ) 1 (fun _ => 0))) := C_clrd0 (b := 1) (by omega) 64 9000 0 σ (by omega) (by omega)
theorem C_clh {σ : CS} (hf : fOk (c_f σ)) : CD (J_Disk_clearHead σ) σ [(1, fun _ => 0)] := by
  unfold J_Disk_clearHead
  refine C_one hf (k := fun τ => J_Blocks_clear_d τ (1 : Int32)) (fun τ h d => ?_)
  rw [C_clrd, h]
  exact ⟨_, rfl, rfl⟩
/-- the head block of a log of the blocks L -/
def hp (L : List Nat) : By := fun o => if o = 0 then b8 L.length else if o ≤ L.length then b8 (L.getD (o - 1) 0) else 0
theorem C_pat {σ : CS} {M : By} {L : List Nat} (m : CM σ M L) (hL : L.length ≤ 15) {v : Nat} (hv : v < L.length) : J_Memory_pendingAt σ (nI v) = some (nI (L.getD v 0)) := by
  obtain ⟨m1, m2, m3, m4⟩ := m
  unfold J_Memory_pendingAt
  rw [m2]
  simp (disch := omega) only [nJ_bs, nJ_ifz, nJ_m1, nI_add, nJ_mul, nJ_sub, nJ_div, nJ_lt, nJ_le, nJ_eq, nJ_cl, nJ_in, nJ_md, nJ_rb, nJ_b8, nJ_b81, nJ_i8, nM_eq, nM_eq2, nM_lt, nM_le, nM_nle, nM_nlt, nM_self, nL_0, nL_1, nL_2, nL_3, nL_4, nL_7, nL_8, nL_10, nL_14, nL_15, nL_16, nL_17, nL_25, nL_26, nL_31, nL_32, nL_33, nL_56, nL_63, nL_64, nL_65, nL_126, nL_128, nL_200, nL_255, nL_256, nL_1000, nL_8192, nL_5, nL_6, if_true, if_false, if_pos, if_neg, m3 v hv]
theorem C_hd0 {M : By} {L : List Nat} (hL : L.length ≤ 15) : ∀ (d n v : Nat) (σ : CS), CM σ M L → v + d = L.length → d < n → J_Disk_storeHead_32 n σ (nI v) = some (nI 1, s_D σ (fun j => if 65 + v ≤ j ∧ j < 65 + L.length then b8 (L.getD (j - 65) 0) else c_D σ j)) := by
  intro d
  induction d with
  | zero =>
    intro n v σ m hv hn
    obtain ⟨n, rfl⟩ : ∃ k, n = k + 1 := ⟨n - 1, by omega⟩
    show J_Disk_storeHead_32_b (J_Disk_storeHead_32 n) σ (nI v) = _
    unfold J_Disk_storeHead_32_b
    rw [m.2.1, if_pos (by rw [nJ_le (by omega) (by omega)]; omega), show (fun j => if 65 + v ≤ j ∧ j < 65 + L.length then b8 (L.getD (j - 65) 0) else c_D σ j) = c_D σ from funext fun j => if_neg (by omega)]
    rfl
  | succ d ih =>
    intro n v σ m hv hn
    obtain ⟨n, rfl⟩ : ∃ k, n = k + 1 := ⟨n - 1, by omega⟩
    show J_Disk_storeHead_32_b (J_Disk_storeHead_32 n) σ (nI v) = _
    unfold J_Disk_storeHead_32_b
    rw [m.2.1, if_neg (by rw [nJ_le (by omega) (by omega)]; omega), C_pat m hL (by omega), nJ_bs, nL_1, nI_add, C_setd σ (by omega) (by omega), nJ_bs, nI_add, ih n (v + 1) _ (by exact m) (by omega) (by omega)]
    have e : (fun j => if 65 + (v + 1) ≤ j ∧ j < 65 + L.length then b8 (L.getD (j - 65) 0) else va_up (c_D σ) (64 * 1 + (1 + v)) (b8 (L.getD v 0)) j) = fun j => if 65 + v ≤ j ∧ j < 65 + L.length then b8 (L.getD (j - 65) 0) else c_D σ j := by
      funext j
      unfold va_up
      by_cases q : j = 64 * 1 + (1 + v)
      · rw [if_neg (by omega), if_pos q, if_pos (by omega), show j - 65 = v by omega]
      · rw [if_neg q]
        by_cases p : 65 + v ≤ j ∧ j < 65 + L.length
        · rw [if_pos (by omega), if_pos p]
        · rw [if_neg (by omega), if_neg p]
    show some (nI 1, s_D σ (fun j => if 65 + (v + 1) ≤ j ∧ j < 65 + L.length then b8 (L.getD (j - 65) 0) else va_up (c_D σ) (64 * 1 + (1 + v)) (b8 (L.getD v 0)) j)) = _
    rw [e]
theorem C_shd {σ : CS} {M : By} {L : List Nat} (m : CM σ M L) (hL : L.length ≤ 15) (hf : fOk (c_f σ)) : CD (J_Disk_storeHead σ) σ [(1, hp L)] := by
  have h := C_one hf (k := fun τ => some (s_D τ (wB (c_D τ) 1 (hp L)))) (b := 1) (p := hp L) (fun τ e d => ⟨_, rfl, by rw [e]⟩)
  unfold J_Disk_storeHead
  have e : ∀ x : Int32 × CS, dK σ x.2 → (if x.1 = (0 : Int32) then some ((0 : Int32), x.2) else (J_Blocks_clear_d x.2 (1 : Int32)).bind fun x3 => (J_Blocks_set_d x3 (1 : Int32) (0 : Int32) (c_n x3)).bind fun x4 => J_Disk_storeHead_32 9000 x4 (0 : Int32)) = (if x.1 = (0 : Int32) then some ((0 : Int32), x.2) else (some (s_D x.2 (wB (c_D x.2) 1 (hp L)))).bind fun y => some ((1 : Int32), y)) := by
    intro x dk
    by_cases q : x.1 = (0 : Int32)
    · rw [if_pos q, if_pos q]
    · have mx := dk.cm m
      rw [if_neg q, if_neg q, C_clrd, nJ_bs, nL_1, nL_0, show c_n (s_D x.2 (wB (c_D x.2) 1 fun _ => 0)) = nI L.length from mx.2.1, C_setd _ (by omega) (by omega), nJ_bs, C_hd0 hL L.length 9000 0 _ (by exact mx) (by omega) (by omega), nJ_bs]
      congr 2
      show s_D x.2 _ = s_D x.2 _
      congr 1
      funext j
      show (if 65 + 0 ≤ j ∧ j < 65 + L.length then b8 (L.getD (j - 65) 0) else va_up (wB (c_D x.2) 1 fun _ => 0) (64 * 1 + 0) (b8 L.length) j) = wB (c_D x.2) 1 (hp L) j
      unfold va_up wB hp
      by_cases p : 64 * 1 ≤ j ∧ j < 64 * 1 + 64
      · rw [if_pos p, if_pos p]
        by_cases p1 : j = 64 * 1 + 0
        · rw [if_neg (by omega), if_pos p1, if_pos (by omega)]
        · rw [if_neg p1, if_neg (show ¬ j - 64 * 1 = 0 by omega)]
          by_cases p2 : j < 65 + L.length
          · rw [if_pos (by omega), if_pos (by omega), show j - 64 * 1 - 1 = j - 65 by omega]
          · rw [if_neg (by omega), if_neg (by omega)]
      · rw [if_neg p, if_neg p, if_neg (by omega), if_neg (by omega)]
  have e2 : ((J_Disk_spendWrite σ).bind fun x => (if x.1 = (0 : Int32) then some ((0 : Int32), x.2) else (J_Blocks_clear_d x.2 (1 : Int32)).bind fun x3 => (J_Blocks_set_d x3 (1 : Int32) (0 : Int32) (c_n x3)).bind fun x4 => J_Disk_storeHead_32 9000 x4 (0 : Int32))) = ((J_Disk_spendWrite σ).bind fun x => (if x.1 = (0 : Int32) then some ((0 : Int32), x.2) else (some (s_D x.2 (wB (c_D x.2) 1 (hp L)))).bind fun y => some ((1 : Int32), y))) := by
    unfold J_Disk_spendWrite
    split
    · rw [Option.bind_some, Option.bind_some]; exact e _ ⟨rfl, rfl, rfl, rfl⟩
    · split
      · rw [Option.bind_some, Option.bind_some]; exact e _ ⟨rfl, rfl, rfl, rfl⟩
      · rw [Option.bind_some, Option.bind_some]; exact e _ ⟨rfl, rfl, rfl, rfl⟩
  rw [e2]
  exact h
/-- the blocks L into the log; into their places -/
def lgL (M : By) (L : List Nat) : Nat → Nat → List (Nat × By)
  | 0, _ => []
  | d + 1, v => (2 + v, pg M (L.getD v 0)) :: lgL M L d (v + 1)
def plL (M : By) (L : List Nat) : Nat → Nat → List (Nat × By)
  | 0, _ => []
  | d + 1, v => (L.getD v 0, pg M (L.getD v 0)) :: plL M L d (v + 1)
theorem C_log0 {M : By} {L : List Nat} (hL : L.length ≤ 15) : ∀ (d n v : Nat) (σ : CS), CM σ M L → fOk (c_f σ) → v + d = L.length → d < n → CD (J_Disk_storeInLog_2 n σ (nI v)) σ (lgL M L d v) := by
  intro d
  induction d with
  | zero =>
    intro n v σ m hf hv hn
    obtain ⟨n, rfl⟩ : ∃ k, n = k + 1 := ⟨n - 1, by omega⟩
    show CD (J_Disk_storeInLog_2_b _ σ (nI v)) _ _
    unfold J_Disk_storeInLog_2_b
    rw [m.2.1, if_pos (by rw [nJ_le (by omega) (by omega)]; omega)]
    exact ⟨σ, rfl, rfl, dK.rf σ⟩
  | succ d ih =>
    intro n v σ m hf hv hn
    obtain ⟨n, rfl⟩ : ∃ k, n = k + 1 := ⟨n - 1, by omega⟩
    show CD (J_Disk_storeInLog_2_b _ σ (nI v)) _ ([(2 + v, pg M (L.getD v 0))] ++ lgL M L d (v + 1))
    have hx : L.getD v 0 < 128 := m.2.2.2 _ (L_mem (by omega))
    unfold J_Disk_storeInLog_2_b
    rw [m.2.1, if_neg (by rw [nJ_le (by omega) (by omega)]; omega), C_pat m hL (by omega), nJ_bs, nL_2, nI_add]
    refine (C_stm m hf hx (by omega)).seq (fun τ => by rw [if_pos (show nI 0 = (0 : Int32) from rfl)]; rfl) (fun τ z dk => ?_)
    rw [if_neg nz1, nL_1, nI_add]
    have hf2 : fOk (c_f τ) := by
      have := fOk_rn [(2 + v, pg M (L.getD v 0))] (zC σ) hf
      rw [← z] at this
      exact this
    exact ih n (v + 1) τ (dk.cm m) hf2 (by omega) (by omega)
theorem C_pla0 {M : By} {L : List Nat} (hL : L.length ≤ 15) : ∀ (d n v : Nat) (σ : CS), CM σ M L → fOk (c_f σ) → v + d = L.length → d < n → CD (J_Disk_storeInPlace_2 n σ (nI v)) σ (plL M L d v) := by
  intro d
  induction d with
  | zero =>
    intro n v σ m hf hv hn
    obtain ⟨n, rfl⟩ : ∃ k, n = k + 1 := ⟨n - 1, by omega⟩
    show CD (J_Disk_storeInPlace_2_b _ σ (nI v)) _ _
    unfold J_Disk_storeInPlace_2_b
    rw [m.2.1, if_pos (by rw [nJ_le (by omega) (by omega)]; omega)]
    exact ⟨σ, rfl, rfl, dK.rf σ⟩
  | succ d ih =>
    intro n v σ m hf hv hn
    obtain ⟨n, rfl⟩ : ∃ k, n = k + 1 := ⟨n - 1, by omega⟩
    show CD (J_Disk_storeInPlace_2_b _ σ (nI v)) _ ([(L.getD v 0, pg M (L.getD v 0))] ++ plL M L d (v + 1))
    have hx : L.getD v 0 < 128 := m.2.2.2 _ (L_mem (by omega))
    unfold J_Disk_storeInPlace_2_b
    rw [m.2.1, if_neg (by rw [nJ_le (by omega) (by omega)]; omega), C_pat m hL (by omega), nJ_bs, nJ_bs]
    refine (C_stm m hf hx hx).seq (fun τ => by rw [if_pos (show nI 0 = (0 : Int32) from rfl)]; rfl) (fun τ z dk => ?_)
    rw [if_neg nz1, nL_1, nI_add]
    have hf2 : fOk (c_f τ) := by
      have := fOk_rn [(L.getD v 0, pg M (L.getD v 0))] (zC σ) hf
      rw [← z] at this
      exact this
    exact ih n (v + 1) τ (dk.cm m) hf2 (by omega) (by omega)
/-- all writes of a commit -/
def plan (M : By) (L : List Nat) : List (Nat × By) := lgL M L L.length 0 ++ ([(1, hp L)] ++ (plL M L L.length 0 ++ [(1, fun _ => 0)]))
theorem C_store {σ : CS} {M : By} {L : List Nat} (m : CM σ M L) (hL : L.length ≤ 15) (hf : fOk (c_f σ)) : CD (J_Disk_storePending σ) σ (plan M L) := by
  have step : ∀ {l : List (Nat × By)} {σ τ : CS}, fOk (c_f σ) → zC τ = (rn l (zC σ)).2 → fOk (c_f τ) := fun {l σ τ} h z => by
    have := fOk_rn l (zC σ) h
    rw [← z] at this
    exact this
  unfold J_Disk_storePending plan
  refine (C_log0 hL L.length 9000 0 σ m hf (by omega) (by omega)).seq (fun τ => by rw [if_pos (show nI 0 = (0 : Int32) from rfl)]; rfl) (fun τ z1 d1 => ?_)
  rw [if_neg nz1]
  have f1 := step hf z1
  refine (C_shd (d1.cm m) hL f1).seq (fun τ => by rw [if_pos (show nI 0 = (0 : Int32) from rfl)]; rfl) (fun υ z2 d2 => ?_)
  rw [if_neg nz1]
  have f2 := step f1 z2
  refine (C_pla0 hL L.length 9000 0 υ (d2.cm (d1.cm m)) f2 (by omega) (by omega)).seq (fun τ => by rw [if_pos (show nI 0 = (0 : Int32) from rfl)]; rfl) (fun w z3 d3 => ?_)
  rw [if_neg nz1]
  have f3 := step f2 z3
  have h := (C_clh f3).seq (k := fun x => if x.1 = (0 : Int32) then some ((0 : Int32), x.2) else some ((1 : Int32), x.2)) (l' := []) (fun τ => by rw [if_pos (show nI 0 = (0 : Int32) from rfl)]; rfl) (fun τ _ _ => by rw [if_neg nz1]; exact ⟨τ, rfl, rfl, dK.rf τ⟩)
  rw [List.append_nil] at h
  exact h
-- mounting: the log is written into its places
theorem rb_b8 (D : By) (a : Nat) : D a = b8 (rb D a) := by
  refine Int8.toBitVec_inj.mp (BitVec.eq_of_toNat_eq ?_)
  rw [bt8, Nat.mod_eq_of_lt (rb_lt D a)]
  rfl
theorem b8_i7 : ∀ c, c < 128 → (b8 c).toInt32 = nI c := by decide +kernel
def rpL (D : By) (L : List Nat) : Nat → Nat → List (Nat × By)
  | 0, _ => []
  | d + 1, v => (L.getD v 0, pg D (2 + v)) :: rpL D L d (v + 1)
theorem wB_lo {D : By} {b : Nat} {p : By} (hb : 17 ≤ b) {a : Nat} (ha : a < 1088) : wB D b p a = D a := if_neg (by omega)
theorem rn_lo {D0 : By} {b : Nat} {p : By} (hb : 17 ≤ b) {z : ZS} (h : ∀ a, a < 1088 → z_D z a = D0 a) : ∀ a, a < 1088 → z_D (rn [(b, p)] z).2 a = D0 a := fun a ha => by
  show z_D (if z_f z = nI 0 then (false, (z_D z, z_w z, nM, nI 1)) else (true, (wB (z_D z) b p, z_w z + nI 1, fdec (z_f z), z_o z))).2 a = _
  split
  · exact h a ha
  · exact (wB_lo hb ha).trans (h a ha)
theorem pg_lo {D D0 : By} (h : ∀ a, a < 1088 → D a = D0 a) {v : Nat} (hv : v < 15) : ∀ o, o < 64 → pg D (2 + v) o = pg D0 (2 + v) o := fun o ho => h _ (by omega)
theorem wB_congr {D : By} {b : Nat} {p q : By} (h : ∀ o, o < 64 → p o = q o) : wB D b p = wB D b q := by
  funext j
  unfold wB
  by_cases e : 64 * b ≤ j ∧ j < 64 * b + 64
  · rw [if_pos e, if_pos e]; exact h _ (by omega)
  · rw [if_neg e, if_neg e]
theorem rn_congr {b : Nat} {p q : By} (h : ∀ o, o < 64 → p o = q o) (z : ZS) : rn [(b, p)] z = rn [(b, q)] z := by
  show (if z_f z = nI 0 then _ else (true, (wB (z_D z) b p, z_w z + nI 1, fdec (z_f z), z_o z))) = (if z_f z = nI 0 then _ else (true, (wB (z_D z) b q, z_w z + nI 1, fdec (z_f z), z_o z)))
  rw [wB_congr h]
theorem C_rep0 {D0 : By} {L : List Nat} (hL : L.length ≤ 15) (hx : ∀ x ∈ L, 17 ≤ x ∧ x < 128) (hh : ∀ j, j < L.length → rb D0 (65 + j) = L.getD j 0) : ∀ (d n v : Nat) (σ : CS), (∀ a, a < 1088 → c_D σ a = D0 a) → fOk (c_f σ) → v + d = L.length → d < n → CD (J_Disk_replayLog_2 n σ (nI L.length) (nI v)) σ (rpL D0 L d v ++ [(1, fun _ => 0)]) := by
  intro d
  induction d with
  | zero =>
    intro n v σ hD hf hv hn
    obtain ⟨n, rfl⟩ : ∃ k, n = k + 1 := ⟨n - 1, by omega⟩
    show CD (J_Disk_replayLog_2_b _ σ (nI L.length) (nI v)) _ [(1, fun _ => 0)]
    unfold J_Disk_replayLog_2_b
    rw [if_pos (by rw [nJ_le (by omega) (by omega)]; omega)]
    have h := (C_clh hf).seq (k := fun x => if jbl x.1 = true then some (x.1, x.2) else none) (l' := []) (fun τ => by rw [if_pos (show jbl (nI 0) = true by decide)]) (fun τ _ _ => by rw [if_pos (show jbl (nI 1) = true by decide)]; exact ⟨τ, rfl, rfl, dK.rf τ⟩)
    rw [List.append_nil] at h
    exact h
  | succ d ih =>
    intro n v σ hD hf hv hn
    obtain ⟨n, rfl⟩ : ∃ k, n = k + 1 := ⟨n - 1, by omega⟩
    show CD (J_Disk_replayLog_2_b _ σ (nI L.length) (nI v)) _ ([(L.getD v 0, pg D0 (2 + v))] ++ (rpL D0 L d (v + 1) ++ [(1, fun _ => 0)]))
    obtain ⟨x1, x2⟩ := hx _ (L_mem (show v < L.length by omega))
    have hr : rb (c_D σ) (64 * 1 + (1 + v)) = L.getD v 0 := by
      rw [← hh v (by omega)]
      unfold rb
      rw [hD _ (by omega), show 64 * 1 + (1 + v) = 65 + v by omega]
    unfold J_Disk_replayLog_2_b
    rw [if_neg (by rw [nJ_le (by omega) (by omega)]; omega), nL_1, nI_add, C_getd σ (by omega) (by omega), nJ_bs, hr, nL_2, nI_add]
    have h1 := C_std hf (show 2 + v < 128 by omega) x2
    have e0 := rn_congr (b := L.getD v 0) (pg_lo hD (show v < 15 by omega)) (zC σ)
    have h2 : CD (J_Disk_storeBlock_d σ (nI (2 + v)) (nI (L.getD v 0))) σ [(L.getD v 0, pg D0 (2 + v))] := by
      unfold CD at h1 ⊢
      rw [← e0]
      exact h1
    refine h2.seq (fun τ => by rw [if_pos (show nI 0 = (0 : Int32) from rfl)]; rfl) (fun τ z dk => ?_)
    rw [if_neg nz1, nI_add]
    have hf2 : fOk (c_f τ) := by
      have := fOk_rn [(L.getD v 0, pg D0 (2 + v))] (zC σ) hf
      rw [← z] at this
      exact this
    have hD2 : ∀ a, a < 1088 → c_D τ a = D0 a := by
      have := rn_lo (p := pg D0 (2 + v)) x1 (z := zC σ) hD
      rw [← z] at this
      exact this
    exact ih n (v + 1) τ hD2 hf2 (by omega) (by omega)
def ld (D M : By) : By := fun j => if j < 8192 then D j else M j
theorem C_load (σ : CS) : J_Memory_load σ = some (s_n (s_M σ (ld (c_D σ) (c_M σ))) (nI 0)) := by
  unfold J_Memory_load J_Blocks_copyAll J_Memory_forgetPending
  rw [if_pos (by decide +kernel), nJ_bs, nJ_bs]
  congr 2
  show s_M σ _ = s_M σ _
  congr 1
  funext j
  unfold va_cpy ld
  rw [show (0 : Int32).toNatClampNeg = 0 by decide, show (8192 : Int32).toNatClampNeg = 8192 by decide]
  by_cases h : j < 8192
  · rw [if_pos h, if_pos (by omega), show 0 + (j - 0) = j by omega]
  · rw [if_neg h, if_neg (by omega)]
