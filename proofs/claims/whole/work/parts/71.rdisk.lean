/-! The same writes, the reference's. Own rows. -/
def zR (σ : RS) : ZS := (r_D σ, r_w σ, r_l σ, r_o σ)
def eK (σ τ : RS) : Prop := r_M τ = r_M σ ∧ r_n τ = r_n σ ∧ r_P τ = r_P σ ∧ r_t τ = r_t σ ∧ r_c τ = r_c σ ∧ r_N τ = r_N σ
theorem eK.tr {σ τ υ : RS} (a : eK σ τ) (b : eK τ υ) : eK σ υ := by
  obtain ⟨a1, a2, a3, a4, a5, a6⟩ := a
  obtain ⟨b1, b2, b3, b4, b5, b6⟩ := b
  exact ⟨b1.trans a1, b2.trans a2, b3.trans a3, b4.trans a4, b5.trans a5, b6.trans a6⟩
theorem eK.rf (σ : RS) : eK σ σ := ⟨rfl, rfl, rfl, rfl, rfl, rfl⟩
theorem eK.rm {σ τ : RS} (h : eK σ τ) {M : By} {L : List Nat} (m : RM σ M L) : RM τ M L := by
  obtain ⟨m1, m2, m3, m4⟩ := m
  exact ⟨h.1.trans m1, h.2.1.trans m2, fun i hi => by rw [h.2.2.1]; exact m3 i hi, m4⟩
/-- 1 if it failed -/
def b10 (b : Bool) : Int32 := nI (if b = true then 0 else 1)
theorem R_put65 {b : Nat} (hb : b < 128) : ∀ (d n v : Nat) (σ : RS), v + d = 64 → d < n → J_Model_put_65 n σ (nI b) (nI v) = some (q_w (q_D σ (fun j => if 64 * b + v ≤ j ∧ j < 64 * b + 64 then r_G σ (j - 64 * b) else r_D σ j)) (r_w σ + nI 1)) := by
  intro d
  induction d with
  | zero =>
    intro n v σ hv hn
    obtain ⟨n, rfl⟩ : ∃ k, n = k + 1 := ⟨n - 1, by omega⟩
    show J_Model_put_65_b _ σ (nI b) (nI v) = _
    unfold J_Model_put_65_b
    rw [nL_64, if_pos (by rw [nJ_le (by omega) (by omega)]; omega), show (fun j => if 64 * b + v ≤ j ∧ j < 64 * b + 64 then r_G σ (j - 64 * b) else r_D σ j) = r_D σ from funext fun j => if_neg (by omega)]
    rfl
  | succ d ih =>
    intro n v σ hv hn
    obtain ⟨n, rfl⟩ : ∃ k, n = k + 1 := ⟨n - 1, by omega⟩
    show J_Model_put_65_b _ σ (nI b) (nI v) = _
    unfold J_Model_put_65_b
    simp (disch := omega) only [nJ_bs, nJ_ifz, nJ_m1, nI_add, nJ_mul, nJ_sub, nJ_div, nJ_lt, nJ_le, nJ_eq, nJ_cl, nJ_in, nJ_md, nJ_rb, nJ_b8, nJ_b81, nJ_i8, nM_eq, nM_eq2, nM_lt, nM_le, nM_nle, nM_nlt, nM_self, nL_0, nL_1, nL_2, nL_3, nL_4, nL_7, nL_8, nL_10, nL_14, nL_15, nL_16, nL_17, nL_25, nL_26, nL_31, nL_32, nL_33, nL_56, nL_63, nL_64, nL_65, nL_126, nL_128, nL_200, nL_255, nL_256, nL_1000, nL_8192, nL_5, nL_6, if_true, if_false, if_pos, if_neg]
    rw [ih n (v + 1) _ (by omega) (by omega)]
    have e : (fun j => if 64 * b + (v + 1) ≤ j ∧ j < 64 * b + 64 then r_G σ (j - 64 * b) else va_up (r_D σ) (64 * b + v) (r_G σ v) j) = fun j => if 64 * b + v ≤ j ∧ j < 64 * b + 64 then r_G σ (j - 64 * b) else r_D σ j := by
      funext j
      unfold va_up
      by_cases q : j = 64 * b + v
      · rw [if_neg (by omega), if_pos q, if_pos (by omega), show j - 64 * b = v by omega]
      · rw [if_neg q]
        by_cases p : 64 * b + v ≤ j ∧ j < 64 * b + 64
        · rw [if_pos (by omega), if_pos p]
        · rw [if_neg (by omega), if_neg p]
    show some (q_w (q_D σ (fun j => if 64 * b + (v + 1) ≤ j ∧ j < 64 * b + 64 then r_G σ (j - 64 * b) else va_up (r_D σ) (64 * b + v) (r_G σ v) j)) (r_w σ + nI 1)) = _
    rw [e]
/-- it does these writes, and says so in its flag -/
def RD (x : Option RS) (σ : RS) (l : List (Nat × By)) : Prop := ∃ τ, x = some τ ∧ r_f τ = b10 (rn l (zR σ)).1 ∧ zR τ = (rn l (zR σ)).2 ∧ eK σ τ
theorem R_put {σ : RS} (hf0 : r_f σ = nI 0) (hf : fOk (r_l σ)) {b : Nat} (hb : b < 128) {p : By} (hp : ∀ o, o < 64 → r_G σ o = p o) : RD (J_Model_put σ (nI b)) σ [(b, p)] := by
  unfold RD
  rw [← rn_congr hp]
  have e : rn [(b, r_G σ)] (zR σ) = if r_l σ = nI 0 then (false, (r_D σ, r_w σ, nM, nI 1)) else (true, (wB (r_D σ) b (r_G σ), r_w σ + nI 1, fdec (r_l σ), r_o σ)) := rfl
  rw [e]
  unfold J_Model_put J_Model_put_15 J_Model_put_20
  rw [nL_0, hf0, if_pos rfl, nL_1]
  by_cases q : r_l σ = nI 0
  · rw [if_pos q, if_pos q, if_pos (show jbl (nI 1) = true by decide), if_neg (show ¬ r_f (q_f σ (nI 1)) = nI 0 from nz2)]
    exact ⟨_, rfl, rfl, rfl, rfl, rfl, rfl, rfl, rfl, rfl⟩
  · rw [if_neg q, if_neg q, if_pos (show jbl (nI 0) = true by decide), if_pos (show r_f (q_f σ (nI 0)) = nI 0 from rfl)]
    have hw : (fun j => if 64 * b + 0 ≤ j ∧ j < 64 * b + 64 then r_G σ (j - 64 * b) else r_D σ j) = wB (r_D σ) b (r_G σ) := rfl
    by_cases q2 : r_l σ = nM
    · rw [if_pos (show r_l (q_f σ (nI 0)) = -nI 1 from q2), R_put65 hb 64 9000 0 _ (by omega) (by omega)]
      refine ⟨_, rfl, rfl, ?_, rfl, rfl, rfl, rfl, rfl, rfl⟩
      show (_, r_w σ + nI 1, nM, r_o σ) = (wB (r_D σ) b (r_G σ), r_w σ + nI 1, fdec (r_l σ), r_o σ)
      unfold fdec
      rw [if_pos q2]
      rfl
    · rw [if_neg (show ¬ r_l (q_f σ (nI 0)) = -nI 1 from q2), R_put65 hb 64 9000 0 _ (by omega) (by omega)]
      refine ⟨_, rfl, rfl, ?_, rfl, rfl, rfl, rfl, rfl, rfl⟩
      show (_, r_w σ + nI 1, r_l σ - nI 1, r_o σ) = (wB (r_D σ) b (r_G σ), r_w σ + nI 1, fdec (r_l σ), r_o σ)
      unfold fdec
      rw [if_neg q2]
      rfl
theorem R_fetch0 {M : By} {L : List Nat} {b : Nat} (hb : b < 128) : ∀ (d n v : Nat) (σ : RS), RM σ M L → v + d = 64 → d < n → ∃ G : By, J_Model_fetch_2 n σ (nI b) (nI v) = some (q_G σ G) ∧ (∀ o, v ≤ o → o < 64 → G o = pg M b o) ∧ ∀ o, o < v → G o = r_G σ o := by
  intro d
  induction d with
  | zero =>
    intro n v σ m hv hn
    obtain ⟨n, rfl⟩ : ∃ k, n = k + 1 := ⟨n - 1, by omega⟩
    refine ⟨r_G σ, ?_, fun o h1 h2 => by omega, fun _ _ => rfl⟩
    show J_Model_fetch_2_b _ σ (nI b) (nI v) = _
    unfold J_Model_fetch_2_b
    rw [nL_64, if_pos (by rw [nJ_le (by omega) (by omega)]; omega)]
    rfl
  | succ d ih =>
    intro n v σ m hv hn
    obtain ⟨n, rfl⟩ : ∃ k, n = k + 1 := ⟨n - 1, by omega⟩
    obtain ⟨G, g1, g2, g3⟩ := ih n (v + 1) (q_G σ (va_up (r_G σ) v (M (64 * b + v)))) m (by omega) (by omega)
    refine ⟨G, ?_, fun o h1 h2 => ?_, fun o h => ?_⟩
    · show J_Model_fetch_2_b _ σ (nI b) (nI v) = _
      unfold J_Model_fetch_2_b
      simp (disch := omega) only [nJ_bs, nJ_ifz, nJ_m1, nI_add, nJ_mul, nJ_sub, nJ_div, nJ_lt, nJ_le, nJ_eq, nJ_cl, nJ_in, nJ_md, nJ_rb, nJ_b8, nJ_b81, nJ_i8, nM_eq, nM_eq2, nM_lt, nM_le, nM_nle, nM_nlt, nM_self, nL_0, nL_1, nL_2, nL_3, nL_4, nL_7, nL_8, nL_10, nL_14, nL_15, nL_16, nL_17, nL_25, nL_26, nL_31, nL_32, nL_33, nL_56, nL_63, nL_64, nL_65, nL_126, nL_128, nL_200, nL_255, nL_256, nL_1000, nL_8192, nL_5, nL_6, if_true, if_false, if_pos, if_neg, m.1]
      exact g1
    · by_cases e : o = v
      · rw [g3 o (by omega), e]
        exact va_up_self _ _ _
      · exact g2 o (by omega) h2
    · rw [g3 o (by omega)]
      exact va_up_ne _ _ (by omega)
theorem R_fetch {σ : RS} {M : By} {L : List Nat} (m : RM σ M L) {b : Nat} (hb : b < 128) : ∃ G : By, J_Model_fetch σ (nI b) = some (q_G σ G) ∧ ∀ o, o < 64 → G o = pg M b o := by
  obtain ⟨G, g1, g2, -⟩ := R_fetch0 hb 64 9000 0 σ m (by omega) (by omega)
  exact ⟨G, g1, fun o h => g2 o (by omega) h⟩
/-- the head block's page, of the first N of the pending blocks -/
theorem R_head0 {P : Nat → Int32} {N : Nat} {f : Nat → Nat} (hN : N ≤ 15) (hP : ∀ i, i < N → P i = nI (f i)) : ∀ (d n v : Nat) (σ : RS), r_P σ = P → v + d = 64 → d < n → ∃ G : By, J_Model_head_2 n σ (nI N) (nI v) = some (q_G σ G) ∧ (∀ o, v ≤ o → o < 64 → G o = (if o = 0 then b8 N else if o ≤ N then b8 (f (o - 1)) else 0)) ∧ ∀ o, o < v → G o = r_G σ o := by
  intro d
  induction d with
  | zero =>
    intro n v σ hp hv hn
    obtain ⟨n, rfl⟩ : ∃ k, n = k + 1 := ⟨n - 1, by omega⟩
    refine ⟨r_G σ, ?_, fun o h1 h2 => by omega, fun _ _ => rfl⟩
    show J_Model_head_2_b _ σ (nI N) (nI v) = _
    unfold J_Model_head_2_b
    rw [nL_64, if_pos (by rw [nJ_le (by omega) (by omega)]; omega)]
    rfl
  | succ d ih =>
    intro n v σ hp hv hn
    obtain ⟨n, rfl⟩ : ∃ k, n = k + 1 := ⟨n - 1, by omega⟩
    obtain ⟨y, hy⟩ : ∃ y : Int8, y = (if v = 0 then b8 N else if v ≤ N then b8 (f (v - 1)) else 0) := ⟨_, rfl⟩
    obtain ⟨G, g1, g2, g3⟩ := ih n (v + 1) (q_G σ (va_up (r_G σ) v y)) hp (by omega) (by omega)
    refine ⟨G, ?_, fun o h1 h2 => ?_, fun o h => ?_⟩
    · show J_Model_head_2_b _ σ (nI N) (nI v) = _
      unfold J_Model_head_2_b
      rw [nL_64, if_neg (by rw [nJ_le (by omega) (by omega)]; omega), nL_0, nL_1, nI_add, if_pos (show jin (nI v) 64 = true by rw [nJ_in (by omega)]; omega), nJ_cl (by omega), nJ_b8, nJ_b8]
      by_cases q : v = 0
      · rw [if_pos (by rw [q])]
        rw [if_pos q] at hy
        rw [hy] at g1
        exact g1
      · rw [if_neg (by rw [nJ_eq (by omega) (by omega)]; exact q)]
        rw [if_neg q] at hy
        by_cases q2 : v ≤ N
        · rw [if_pos q2] at hy
          rw [if_neg (by rw [nJ_lt (by omega) (by omega)]; omega), nJ_sub (by omega) (by omega), if_pos (by rw [nJ_in (by omega)]; omega), nJ_cl (by omega), hp, hP _ (by omega), nJ_b8, if_pos (show jin (nI v) 64 = true by rw [nJ_in (by omega)]; omega)]
          rw [hy] at g1
          exact g1
        · rw [if_neg q2] at hy
          rw [if_pos (by rw [nJ_lt (by omega) (by omega)]; omega), if_pos (show jin (nI v) 64 = true by rw [nJ_in (by omega)]; omega)]
          rw [hy, show (0 : Int8) = b8 0 from rfl] at g1
          exact g1
    · by_cases e : o = v
      · rw [g3 o (by omega), e, ← hy]
        exact va_up_self _ _ _
      · exact g2 o (by omega) h2
    · rw [g3 o (by omega)]
      exact va_up_ne _ _ (by omega)
theorem R_head {σ : RS} {M : By} {L : List Nat} (m : RM σ M L) (hL : L.length ≤ 15) : ∃ G : By, J_Model_head σ (nI L.length) = some (q_G σ G) ∧ ∀ o, o < 64 → G o = hp L o := by
  obtain ⟨G, g1, g2, -⟩ := R_head0 (N := L.length) (f := fun i => L.getD i 0) hL m.2.2.1 64 9000 0 σ rfl (by omega) (by omega)
  exact ⟨G, g1, fun o h => g2 o (by omega) h⟩
theorem R_headz (σ : RS) : ∃ G : By, J_Model_head σ (nI 0) = some (q_G σ G) ∧ ∀ o, o < 64 → G o = 0 := by
  obtain ⟨G, g1, g2, -⟩ := R_head0 (N := 0) (P := r_P σ) (f := fun _ => 0) (by omega) (fun i h => by omega) 64 9000 0 σ rfl (by omega) (by omega)
  refine ⟨G, g1, fun o h => ?_⟩
  rw [g2 o (by omega) h]
  split
  · rfl
  · rw [if_neg (by omega)]
theorem b10_t {b : Bool} (h : b = true) : b10 b = nI 0 := by rw [h]; rfl
theorem b10_f {b : Bool} (h : ¬ b = true) : b10 b = nI 1 := by
  unfold b10
  rw [if_neg h]
theorem R_clr {σ : RS} (hf0 : r_f σ = nI 0) (hf : fOk (r_l σ)) : RD ((J_Model_head σ (0 : Int32)).bind fun x => J_Model_put x (1 : Int32)) σ [(1, fun _ => 0)] := by
  obtain ⟨G, g1, g2⟩ := R_headz σ
  rw [nL_0, g1, nJ_bs, nL_1]
  exact R_put (σ := q_G σ G) (b := 1) hf0 hf (by omega) g2
/-- writes one after the other -/
theorem RD.seq {α : Type} {x : Option RS} {k : RS → Option α} {σ : RS} {l l' : List (Nat × By)} {F : RS → Option α} (h : RD x σ l) (hF : ∀ τ, r_f τ = nI 1 → k τ = F τ) (h1 : ∀ τ, r_f τ = nI 0 → zR τ = (rn l (zR σ)).2 → eK σ τ → ∃ υ, k τ = F υ ∧ r_f υ = b10 (rn l' (zR τ)).1 ∧ zR υ = (rn l' (zR τ)).2 ∧ eK τ υ) :
    ∃ υ, x.bind k = F υ ∧ r_f υ = b10 (rn (l ++ l') (zR σ)).1 ∧ zR υ = (rn (l ++ l') (zR σ)).2 ∧ eK σ υ := by
  obtain ⟨τ, e, f, z, d⟩ := h
  rw [e, Option.bind_some, rn_app]
  by_cases q : (rn l (zR σ)).1 = true
  · rw [if_pos q]
    rw [b10_t q] at f
    obtain ⟨υ, a1, a2, a3, a4⟩ := h1 τ f z d
    rw [z] at a2 a3
    exact ⟨υ, a1, a2, a3, d.tr a4⟩
  · rw [if_neg q]
    rw [b10_f q] at f
    exact ⟨τ, hF τ f, f.trans (b10_f q).symm, z, d⟩
theorem fOk_z {l : List (Nat × By)} {σ τ : RS} (h : fOk (r_l σ)) (z : zR τ = (rn l (zR σ)).2) : fOk (r_l τ) := by
  have := fOk_rn l (zR σ) h
  rw [← z] at this
  exact this
theorem R_log0 {M : By} {L : List Nat} (hL : L.length ≤ 15) : ∀ (d n v : Nat) (σ : RS), RM σ M L → r_f σ = nI 0 → fOk (r_l σ) → v + d = L.length → d < n → ∃ υ, J_Model_commit_31 n σ (nI L.length) (nI v) = J_Model_commit_66 υ (nI L.length) ∧ r_f υ = b10 (rn (lgL M L d v) (zR σ)).1 ∧ zR υ = (rn (lgL M L d v) (zR σ)).2 ∧ eK σ υ := by
  intro d
  induction d with
  | zero =>
    intro n v σ m hf0 hf hv hn
    obtain ⟨n, rfl⟩ : ∃ k, n = k + 1 := ⟨n - 1, by omega⟩
    refine ⟨σ, ?_, hf0, rfl, eK.rf σ⟩
    show J_Model_commit_31_b _ σ (nI L.length) (nI v) = _
    unfold J_Model_commit_31_b
    rw [if_pos (by rw [nJ_le (by omega) (by omega)]; omega)]
  | succ d ih =>
    intro n v σ m hf0 hf hv hn
    obtain ⟨n, rfl⟩ : ∃ k, n = k + 1 := ⟨n - 1, by omega⟩
    show ∃ υ, J_Model_commit_31_b _ σ (nI L.length) (nI v) = _ ∧ r_f υ = b10 (rn ([(2 + v, pg M (L.getD v 0))] ++ lgL M L d (v + 1)) (zR σ)).1 ∧ zR υ = (rn ([(2 + v, pg M (L.getD v 0))] ++ lgL M L d (v + 1)) (zR σ)).2 ∧ eK σ υ
    have hx : L.getD v 0 < 128 := m.2.2.2 _ (L_mem (by omega))
    obtain ⟨G, g1, g2⟩ := R_fetch m hx
    unfold J_Model_commit_31_b
    rw [if_neg (by rw [nJ_le (by omega) (by omega)]; omega), nL_0, if_pos hf0, if_pos (by rw [nJ_in (by omega)]; omega), nJ_cl (by omega), m.2.2.1 v (by omega), g1, nJ_bs, nL_2, nI_add, nL_1, nI_add]
    have hp := R_put (σ := q_G σ G) hf0 hf (show 2 + v < 128 by omega) g2
    refine RD.seq (σ := σ) (F := fun τ => J_Model_commit_66 τ (nI L.length)) hp (fun τ f => ?_) (fun τ f z dk => ?_)
    · obtain ⟨n, rfl⟩ : ∃ k, n = k + 1 := ⟨n - 1, by omega⟩
      show J_Model_commit_31_b _ τ (nI L.length) (nI (v + 1)) = _
      unfold J_Model_commit_31_b
      rw [nL_0, if_neg (show ¬ r_f τ = nI 0 by rw [f]; exact nz2)]
      split <;> rfl
    · exact ih n (v + 1) τ (dk.rm m) f (fOk_z hf z) (by omega) (by omega)
theorem R_pla0 {M : By} {L : List Nat} (hL : L.length ≤ 15) : ∀ (d n v : Nat) (σ : RS), RM σ M L → r_f σ = nI 0 → fOk (r_l σ) → v + d = L.length → d < n → ∃ υ, J_Model_commit_85 n σ (nI L.length) (nI v) = J_Model_commit_123 υ ∧ r_f υ = b10 (rn (plL M L d v) (zR σ)).1 ∧ zR υ = (rn (plL M L d v) (zR σ)).2 ∧ eK σ υ := by
  intro d
  induction d with
  | zero =>
    intro n v σ m hf0 hf hv hn
    obtain ⟨n, rfl⟩ : ∃ k, n = k + 1 := ⟨n - 1, by omega⟩
    refine ⟨σ, ?_, hf0, rfl, eK.rf σ⟩
    show J_Model_commit_85_b _ σ (nI L.length) (nI v) = _
    unfold J_Model_commit_85_b
    rw [if_pos (by rw [nJ_le (by omega) (by omega)]; omega)]
  | succ d ih =>
    intro n v σ m hf0 hf hv hn
    obtain ⟨n, rfl⟩ : ∃ k, n = k + 1 := ⟨n - 1, by omega⟩
    show ∃ υ, J_Model_commit_85_b _ σ (nI L.length) (nI v) = _ ∧ r_f υ = b10 (rn ([(L.getD v 0, pg M (L.getD v 0))] ++ plL M L d (v + 1)) (zR σ)).1 ∧ zR υ = (rn ([(L.getD v 0, pg M (L.getD v 0))] ++ plL M L d (v + 1)) (zR σ)).2 ∧ eK σ υ
    have hx : L.getD v 0 < 128 := m.2.2.2 _ (L_mem (by omega))
    obtain ⟨G, g1, g2⟩ := R_fetch m hx
    have hP : r_P (q_G σ G) v = nI (L.getD v 0) := m.2.2.1 v (by omega)
    unfold J_Model_commit_85_b
    rw [if_neg (by rw [nJ_le (by omega) (by omega)]; omega), nL_0, if_pos hf0, if_pos (by rw [nJ_in (by omega)]; omega), nJ_cl (by omega), m.2.2.1 v (by omega), g1, nJ_bs, if_pos (by rw [nJ_in (by omega)]; omega), hP, nL_1, nI_add]
    have hp := R_put (σ := q_G σ G) hf0 hf hx g2
    refine RD.seq (σ := σ) (F := fun τ => J_Model_commit_123 τ) hp (fun τ f => ?_) (fun τ f z dk => ?_)
    · obtain ⟨n, rfl⟩ : ∃ k, n = k + 1 := ⟨n - 1, by omega⟩
      show J_Model_commit_85_b _ τ (nI L.length) (nI (v + 1)) = _
      unfold J_Model_commit_85_b
      rw [nL_0, if_neg (show ¬ r_f τ = nI 0 by rw [f]; exact nz2)]
      split <;> rfl
    · exact ih n (v + 1) τ (dk.rm m) f (fOk_z hf z) (by omega) (by omega)
/-- a commit of the reference's -/
theorem R_commit {σ : RS} {M : By} {L : List Nat} (m : RM σ M L) (hL : L.length ≤ 15) (h0 : L.length ≠ 0) (hf : fOk (r_l σ)) : ∃ τ, J_Model_commit σ = some (b01 (rn (plan M L) (zR σ)).1, τ) ∧ zR τ = (rn (plan M L) (zR σ)).2 ∧ r_M τ = M ∧ r_n τ = nI 0 ∧ r_t τ = r_t σ ∧ r_c τ = r_c σ + nI 1 ∧ r_N τ = r_N σ := by
  have main : ∃ υ, J_Model_commit_31 9000 (q_f (q_c σ (r_c σ + nI 1)) (nI 0)) (nI L.length) (nI 0) = J_Model_commit_140 υ ∧ r_f υ = b10 (rn (plan M L) (zR σ)).1 ∧ zR υ = (rn (plan M L) (zR σ)).2 ∧ eK (q_f (q_c σ (r_c σ + nI 1)) (nI 0)) υ := by
    obtain ⟨a, a1, a2, a3, a4⟩ := R_log0 (M := M) hL L.length 9000 0 (q_f (q_c σ (r_c σ + nI 1)) (nI 0)) m rfl hf (by omega) (by omega)
    rw [a1]
    have a3 : zR a = (rn (lgL M L L.length 0) (zR σ)).2 := a3
    have a2 : r_f a = b10 (rn (lgL M L L.length 0) (zR σ)).1 := a2
    have F85 : ∀ τ, r_f τ = nI 1 → J_Model_commit_85 9000 τ (nI L.length) (nI 0) = J_Model_commit_140 τ := fun τ f => by
      show J_Model_commit_85_b _ τ (nI L.length) (nI 0) = _
      have hn : ¬ r_f τ = nI 0 := by rw [f]; exact nz2
      unfold J_Model_commit_85_b J_Model_commit_123
      rw [nL_0, if_neg hn, if_neg hn]
      split <;> rfl
    unfold plan
    rw [rn_app]
    by_cases q : (rn (lgL M L L.length 0) (zR σ)).1 = true
    · rw [if_pos q, ← a3]
      rw [b10_t q] at a2
      have ma : RM a M L := a4.rm m
      have fa : fOk (r_l a) := fOk_z (σ := σ) hf a3
      obtain ⟨G, g1, g2⟩ := R_head ma hL
      unfold J_Model_commit_66
      rw [nL_0, if_pos a2, g1, nJ_bs, nL_1]
      have hp := R_put (σ := q_G a G) a2 fa (show 1 < 128 by omega) g2
      have := RD.seq (σ := a) (l' := plL M L L.length 0 ++ [(1, fun _ => 0)]) (F := fun τ => J_Model_commit_140 τ) hp F85 (fun τ f z dk => ?_)
      · obtain ⟨υ, u1, u2, u3, u4⟩ := this
        exact ⟨υ, u1, u2, u3, a4.tr u4⟩
      · obtain ⟨c, c1, c2, c3, c4⟩ := R_pla0 (M := M) hL L.length 9000 0 τ (dk.rm ma) f (fOk_z fa z) (by omega) (by omega)
        rw [c1, rn_app]
        by_cases w : (rn (plL M L L.length 0) (zR τ)).1 = true
        · rw [if_pos w, ← c3]
          rw [b10_t w] at c2
          unfold J_Model_commit_123
          rw [nL_0, if_pos c2]
          obtain ⟨y, y1, y2, y3, y4⟩ := R_clr c2 (fOk_z (σ := τ) (fOk_z fa z) c3)
          rw [nL_0] at y1
          refine ⟨y, ?_, y2, y3, c4.tr y4⟩
          rw [← Option.bind_assoc, y1]
          rfl
        · rw [if_neg w]
          rw [b10_f w] at c2
          refine ⟨c, ?_, c2.trans (b10_f w).symm, c3, c4⟩
          unfold J_Model_commit_123
          rw [nL_0, if_neg (show ¬ r_f c = nI 0 by rw [c2]; exact nz2)]
    · rw [if_neg q]
      rw [b10_f q] at a2
      refine ⟨a, ?_, a2.trans (b10_f q).symm, a3, a4⟩
      unfold J_Model_commit_66
      rw [nL_0, if_neg (show ¬ r_f a = nI 0 by rw [a2]; exact nz2)]
      exact F85 a a2
  obtain ⟨υ, u1, u2, u3, u4⟩ := main
  obtain ⟨k1, k2, k3, k4, k5, k6⟩ := u4
  unfold J_Model_commit
  rw [m.2.1, nL_0, if_neg (by rw [nJ_eq (by omega) (by omega)]; exact h0), nL_1, u1]
  unfold J_Model_commit_140
  rw [nL_0]
  refine ⟨q_n υ (nI 0), ?_, u3, k1.trans m.1, rfl, k4, k5, k6⟩
  by_cases q : (rn (plan M L) (zR σ)).1 = true
  · rw [b10_t q] at u2
    rw [if_pos (show r_f (q_n υ (nI 0)) = nI 0 from u2), q]
    rfl
  · rw [b10_f q] at u2
    rw [if_neg (show ¬ r_f (q_n υ (nI 0)) = nI 0 by show ¬ r_f υ = nI 0; rw [u2]; exact nz2)]
    rw [Bool.not_eq_true] at q
    rw [q]
    rfl
