/-! The pending blocks; how a state of the component, or of the reference, shows a memory and its pending blocks. Own rows. -/
def pd (L : List Nat) (b : Nat) : List Nat := if b ∈ L then L else L ++ [b]
def pds (L T : List Nat) : List Nat := T.foldl pd L
theorem pds_nil (L : List Nat) : pds L [] = L := rfl
theorem pds_one (L : List Nat) (b : Nat) : pds L [b] = pd L b := rfl
theorem pds_cons (L : List Nat) (b : Nat) (T : List Nat) : pds L (b :: T) = pds (pd L b) T := rfl
theorem pds_app (L T T' : List Nat) : pds L (T ++ T') = pds (pds L T) T' := List.foldl_append
theorem pd_le (L : List Nat) (b : Nat) : L.length ≤ (pd L b).length := by
  unfold pd; split
  · exact Nat.le_refl _
  · rw [List.length_append]; exact Nat.le_add_right _ _
theorem pds_le (T : List Nat) : ∀ L, L.length ≤ (pds L T).length := by
  induction T with
  | nil => intro L; exact Nat.le_refl _
  | cons b T ih => intro L; exact Nat.le_trans (pd_le L b) (ih (pd L b))
theorem pd_in {L : List Nat} {b x : Nat} : x ∈ pd L b ↔ x ∈ L ∨ x = b := by
  unfold pd; split
  · exact ⟨Or.inl, fun h => h.elim id (fun e => by rw [e]; assumption)⟩
  · rw [List.mem_append, List.mem_singleton]
theorem pds_in {T : List Nat} : ∀ {L : List Nat} {x : Nat}, x ∈ pds L T ↔ x ∈ L ∨ x ∈ T := by
  induction T with
  | nil => intro L x; exact ⟨Or.inl, fun h => h.elim id (fun z => nomatch z)⟩
  | cons b T ih =>
    intro L x
    rw [pds_cons, ih, pd_in, List.mem_cons, or_assoc]
theorem pd_have {L : List Nat} {b : Nat} (h : b ∈ L) : pd L b = L := if_pos h
theorem pds_have {T : List Nat} : ∀ {L : List Nat}, (∀ x ∈ T, x ∈ L) → pds L T = L := by
  induction T with
  | nil => intro L _; rfl
  | cons b T ih =>
    intro L h
    rw [pds_cons, pd_have (h b List.mem_cons_self)]
    exact ih (fun x hx => h x (List.mem_cons_of_mem _ hx))
/-- what comes to be pending are blocks of U -/
theorem pds_grow {U : List Nat} : ∀ (T L : List Nat), (∀ x ∈ T, x ∈ U) → ∃ X : List Nat, pds L T = L ++ X ∧ X.Nodup ∧ ∀ x ∈ X, x ∈ U ∧ x ∉ L := by
  intro T
  induction T with
  | nil => intro L _; exact ⟨[], (List.append_nil L).symm, List.nodup_nil, fun x hx => nomatch hx⟩
  | cons b T ih =>
    intro L h
    obtain ⟨X, e, n, u⟩ := ih (pd L b) (fun x hx => h x (List.mem_cons_of_mem _ hx))
    by_cases hb : b ∈ L
    · rw [pd_have hb] at e u
      exact ⟨X, by rw [pds_cons, pd_have hb]; exact e, n, u⟩
    · refine ⟨b :: X, ?_, List.nodup_cons.mpr ⟨fun z => (u b z).2 (pd_in.mpr (Or.inr rfl)), n⟩, fun x hx => ?_⟩
      · rw [pds_cons, e]
        unfold pd
        rw [if_neg hb, List.append_assoc]; rfl
      · rcases List.mem_cons.mp hx with rfl | hx
        · exact ⟨h _ List.mem_cons_self, hb⟩
        · exact ⟨(u x hx).1, fun z => (u x hx).2 (pd_in.mpr (Or.inl z))⟩
theorem nodup_le : ∀ (X U : List Nat), X.Nodup → (∀ x ∈ X, x ∈ U) → X.length ≤ U.length := by
  intro X
  induction X with
  | nil => intro U _ _; exact Nat.zero_le _
  | cons b X ih =>
    intro U n h
    have hb := h b List.mem_cons_self
    have h1 := ih (U.erase b) (List.nodup_cons.mp n).2 (fun x hx => by
      refine (List.mem_erase_of_ne ?_).mpr (h x (List.mem_cons_of_mem _ hx))
      intro e
      rw [e] at hx
      exact (List.nodup_cons.mp n).1 hx)
    rw [List.length_erase_of_mem hb] at h1
    have h2 : 0 < U.length := List.length_pos_of_mem hb
    rw [List.length_cons]
    omega
theorem pds_room {U T : List Nat} (L : List Nat) (h : ∀ x ∈ T, x ∈ U) : (pds L T).length ≤ L.length + U.length := by
  obtain ⟨X, e, n, u⟩ := pds_grow T L h
  rw [e, List.length_append]
  exact Nat.add_le_add_left (nodup_le X U n (fun x hx => (u x hx).1)) _
-- the state of the component
def CM (σ : CS) (M : By) (L : List Nat) : Prop := c_M σ = M ∧ c_n σ = nI L.length ∧ (∀ i, i < L.length → c_P σ i = nI (L.getD i 0)) ∧ ∀ x ∈ L, x < 128
def cK (σ τ : CS) : Prop := c_D τ = c_D σ ∧ c_w τ = c_w σ ∧ c_f τ = c_f σ ∧ c_o τ = c_o σ ∧ c_c τ = c_c σ
theorem cK.rf (σ : CS) : cK σ σ := ⟨rfl, rfl, rfl, rfl, rfl⟩
theorem cK.tr {σ τ υ : CS} (a : cK σ τ) (b : cK τ υ) : cK σ υ := ⟨b.1.trans a.1, b.2.1.trans a.2.1, b.2.2.1.trans a.2.2.1, b.2.2.2.1.trans a.2.2.2.1, b.2.2.2.2.trans a.2.2.2.2⟩
def CT (x : Option CS) (σ : CS) (M : By) (L : List Nat) : Prop := ∃ τ, x = some τ ∧ CM τ M L ∧ cK σ τ
theorem CT.tr {x : Option CS} {σ τ : CS} {M : By} {L : List Nat} (h : cK σ τ) (c : CT x τ M L) : CT x σ M L := by
  obtain ⟨υ, e, m, k⟩ := c
  exact ⟨υ, e, m, h.tr k⟩
theorem CT.bd {x : Option CS} {k : CS → Option CS} {σ : CS} {M M' : By} {L L' : List Nat} (h : CT x σ M L) (hk : ∀ τ, CM τ M L → CT (k τ) τ M' L') : CT (x.bind k) σ M' L' := by
  obtain ⟨τ, e, m, c⟩ := h
  rw [e, Option.bind_some]
  exact (hk τ m).tr c
theorem CT.id {σ : CS} {M : By} {L : List Nat} (m : CM σ M L) : CT (some σ) σ M L := ⟨σ, rfl, m, cK.rf σ⟩
-- the state of the reference
def RM (σ : RS) (M : By) (L : List Nat) : Prop := r_M σ = M ∧ r_n σ = nI L.length ∧ (∀ i, i < L.length → r_P σ i = nI (L.getD i 0)) ∧ ∀ x ∈ L, x < 128
def rK (σ τ : RS) : Prop := r_t τ = r_t σ ∧ r_D τ = r_D σ ∧ r_w τ = r_w σ ∧ r_c τ = r_c σ ∧ r_l τ = r_l σ ∧ r_o τ = r_o σ ∧ r_f τ = r_f σ ∧ r_N τ = r_N σ ∧ r_G τ = r_G σ
theorem rK.rf (σ : RS) : rK σ σ := ⟨rfl, rfl, rfl, rfl, rfl, rfl, rfl, rfl, rfl⟩
theorem rK.tr {σ τ υ : RS} (a : rK σ τ) (b : rK τ υ) : rK σ υ := by
  obtain ⟨a1, a2, a3, a4, a5, a6, a7, a8, a9⟩ := a
  obtain ⟨b1, b2, b3, b4, b5, b6, b7, b8, b9⟩ := b
  exact ⟨b1.trans a1, b2.trans a2, b3.trans a3, b4.trans a4, b5.trans a5, b6.trans a6, b7.trans a7, b8.trans a8, b9.trans a9⟩
def RT (x : Option RS) (σ : RS) (M : By) (L : List Nat) : Prop := ∃ τ, x = some τ ∧ RM τ M L ∧ rK σ τ
theorem RT.tr {x : Option RS} {σ τ : RS} {M : By} {L : List Nat} (h : rK σ τ) (c : RT x τ M L) : RT x σ M L := by
  obtain ⟨υ, e, m, k⟩ := c
  exact ⟨υ, e, m, h.tr k⟩
theorem RT.bd {x : Option RS} {k : RS → Option RS} {σ : RS} {M M' : By} {L L' : List Nat} (h : RT x σ M L) (hk : ∀ τ, RM τ M L → RT (k τ) τ M' L') : RT (x.bind k) σ M' L' := by
  obtain ⟨τ, e, m, c⟩ := h
  rw [e, Option.bind_some]
  exact (hk τ m).tr c
theorem RT.id {σ : RS} {M : By} {L : List Nat} (m : RM σ M L) : RT (some σ) σ M L := ⟨σ, rfl, m, rK.rf σ⟩
/-- the list of pending blocks, one more -/
theorem P_push {P : Nat → Int32} {L : List Nat} (h : ∀ i, i < L.length → P i = nI (L.getD i 0)) (b : Nat) : ∀ i, i < (L ++ [b]).length → upd P L.length (nI b) i = nI ((L ++ [b]).getD i 0) := by
  intro i hi
  rw [List.length_append, List.length_singleton] at hi
  unfold upd
  by_cases e : i = L.length
  · rw [if_pos e, e]
    simp [List.getD]
  · rw [if_neg e, h i (by omega)]
    congr 1
    simp only [List.getD]
    rw [List.getElem?_append_left (by omega)]
theorem L_ne {L : List Nat} {b : Nat} (h : ∀ i, i < L.length → L.getD i 0 ≠ b) : b ∉ L := by
  intro z
  obtain ⟨i, hi, e⟩ := List.getElem_of_mem z
  refine h i hi ?_
  simp [List.getD, hi, e]
theorem L_mem {L : List Nat} {i : Nat} (hi : i < L.length) : L.getD i 0 ∈ L := by
  simp [List.getD, hi]
theorem bytes_lt {b k : Nat} (hb : b < 128) (hk : k < 64) : 64 * b + k < 8192 := by omega
-- reading and writing a byte: the component
theorem C_get {σ : CS} {M : By} {L : List Nat} (m : CM σ M L) {b k : Nat} (hb : b < 128) (hk : k < 64) : J_Blocks_get_m σ (nI b) (nI k) = some (nI (rb M (64 * b + k))) := by
  unfold J_Blocks_get_m
  simp (disch := omega) only [nJ_bs, nJ_ifz, nJ_m1, nI_add, nJ_mul, nJ_sub, nJ_div, nJ_lt, nJ_le, nJ_eq, nJ_cl, nJ_in, nJ_md, nJ_rb, nJ_b8, nJ_b81, nJ_i8, nM_eq, nM_eq2, nM_lt, nM_le, nM_nle, nM_nlt, nM_self, nL_0, nL_1, nL_2, nL_3, nL_4, nL_7, nL_8, nL_10, nL_14, nL_15, nL_16, nL_17, nL_25, nL_26, nL_31, nL_32, nL_33, nL_56, nL_63, nL_64, nL_65, nL_126, nL_128, nL_200, nL_255, nL_256, nL_1000, nL_8192, nL_5, nL_6, if_true, if_false, if_pos, if_neg, m.1]
  rw [Nat.mul_comm]
theorem C_set (σ : CS) {b k : Nat} (hb : b < 128) (hk : k < 64) (v : Nat) : J_Blocks_set_m σ (nI b) (nI k) (nI v) = some (s_M σ (va_up (c_M σ) (64 * b + k) (b8 v))) := by
  unfold J_Blocks_set_m
  simp (disch := omega) only [nJ_bs, nJ_ifz, nJ_m1, nI_add, nJ_mul, nJ_sub, nJ_div, nJ_lt, nJ_le, nJ_eq, nJ_cl, nJ_in, nJ_md, nJ_rb, nJ_b8, nJ_b81, nJ_i8, nM_eq, nM_eq2, nM_lt, nM_le, nM_nle, nM_nlt, nM_self, nL_0, nL_1, nL_2, nL_3, nL_4, nL_7, nL_8, nL_10, nL_14, nL_15, nL_16, nL_17, nL_25, nL_26, nL_31, nL_32, nL_33, nL_56, nL_63, nL_64, nL_65, nL_126, nL_128, nL_200, nL_255, nL_256, nL_1000, nL_8192, nL_5, nL_6, if_true, if_false, if_pos, if_neg]
  rw [Nat.mul_comm]
theorem C_mark0 {σ : CS} {M : By} {L : List Nat} (m : CM σ M L) {b : Nat} (hb : b < 128) (hL : (pd L b).length ≤ 15) : ∀ (d n v : Nat), v + d = L.length → d < n → (∀ i, i < v → L.getD i 0 ≠ b) → CT (J_Memory_markPending_2 n σ (nI b) (nI v)) σ M (pd L b) := by
  obtain ⟨m1, m2, m3, m4⟩ := m
  have hL0 := pd_le L b
  intro d
  induction d with
  | zero =>
    intro n v hv hn hne
    obtain ⟨n, rfl⟩ : ∃ k, n = k + 1 := ⟨n - 1, by omega⟩
    show CT (J_Memory_markPending_2_b (J_Memory_markPending_2 n) σ (nI b) (nI v)) σ M (pd L b)
    have hnot : b ∉ L := L_ne (fun i hi => hne i (by omega))
    have e : pd L b = L ++ [b] := if_neg hnot
    rw [e, List.length_append, List.length_singleton] at hL
    unfold J_Memory_markPending_2_b
    rw [m2]
    simp (disch := omega) only [nJ_bs, nJ_ifz, nJ_m1, nI_add, nJ_mul, nJ_sub, nJ_div, nJ_lt, nJ_le, nJ_eq, nJ_cl, nJ_in, nJ_md, nJ_rb, nJ_b8, nJ_b81, nJ_i8, nM_eq, nM_eq2, nM_lt, nM_le, nM_nle, nM_nlt, nM_self, nL_0, nL_1, nL_2, nL_3, nL_4, nL_7, nL_8, nL_10, nL_14, nL_15, nL_16, nL_17, nL_25, nL_26, nL_31, nL_32, nL_33, nL_56, nL_63, nL_64, nL_65, nL_126, nL_128, nL_200, nL_255, nL_256, nL_1000, nL_8192, nL_5, nL_6, if_true, if_false, if_pos, if_neg]
    rw [e]
    refine ⟨_, rfl, ⟨m1, ?_, P_push m3 b, fun x hx => ?_⟩, rfl, rfl, rfl, rfl, rfl⟩
    · show c_n σ + nI 1 = _
      rw [m2, nI_add, List.length_append, List.length_singleton]
    · rcases List.mem_append.mp hx with h | h
      · exact m4 x h
      · rw [List.mem_singleton.mp h]; exact hb
  | succ d ih =>
    intro n v hv hn hne
    obtain ⟨n, rfl⟩ : ∃ k, n = k + 1 := ⟨n - 1, by omega⟩
    show CT (J_Memory_markPending_2_b (J_Memory_markPending_2 n) σ (nI b) (nI v)) σ M (pd L b)
    have hlt : L.getD v 0 < 128 := m4 _ (L_mem (by omega))
    unfold J_Memory_markPending_2_b
    rw [m2]
    simp (disch := omega) only [nJ_bs, nJ_ifz, nJ_m1, nI_add, nJ_mul, nJ_sub, nJ_div, nJ_lt, nJ_le, nJ_eq, nJ_cl, nJ_in, nJ_md, nJ_rb, nJ_b8, nJ_b81, nJ_i8, nM_eq, nM_eq2, nM_lt, nM_le, nM_nle, nM_nlt, nM_self, nL_0, nL_1, nL_2, nL_3, nL_4, nL_7, nL_8, nL_10, nL_14, nL_15, nL_16, nL_17, nL_25, nL_26, nL_31, nL_32, nL_33, nL_56, nL_63, nL_64, nL_65, nL_126, nL_128, nL_200, nL_255, nL_256, nL_1000, nL_8192, nL_5, nL_6, m3 v (by omega)]
    rw [if_neg (by omega), if_pos (by omega)]
    by_cases e : L.getD v 0 = b
    · rw [if_pos e]
      have hin : b ∈ L := by rw [← e]; exact L_mem (by omega)
      rw [pd_have hin]
      exact CT.id ⟨m1, m2, m3, m4⟩
    · rw [if_neg e]
      refine ih n (v + 1) (by omega) (by omega) (fun i hi => ?_)
      by_cases q : i = v
      · rw [q]; exact e
      · exact hne i (by omega)
theorem C_mark {σ : CS} {M : By} {L : List Nat} (m : CM σ M L) {b : Nat} (hb : b < 128) (hL : (pd L b).length ≤ 15) : CT (J_Memory_markPending σ (nI b)) σ M (pd L b) := by
  have := pd_le L b
  exact C_mark0 m hb hL L.length 9000 0 (by omega) (by omega) (fun i hi => by omega)
theorem C_change {σ : CS} {M : By} {L : List Nat} (m : CM σ M L) {b k : Nat} (hb : b < 128) (hk : k < 64) (v : Nat) (hL : (pd L b).length ≤ 15) : CT (J_Memory_change σ (nI b) (nI k) (nI v)) σ (va_up M (64 * b + k) (b8 v)) (pd L b) := by
  unfold J_Memory_change
  refine (C_mark m hb hL).bd (fun τ t => ?_)
  rw [C_set τ hb hk, Option.bind_some, t.1]
  exact ⟨_, rfl, ⟨rfl, t.2⟩, rfl, rfl, rfl, rfl, rfl⟩
theorem C_clear0 {b : Nat} (hb : b < 128) : ∀ (d n v : Nat) (σ : CS), v + d = 64 → d < n → J_Blocks_clear_m_2 n σ (nI b) (nI v) = some (s_M σ (fun j => if 64 * b + v ≤ j ∧ j < 64 * b + 64 then 0 else c_M σ j)) := by
  intro d
  induction d with
  | zero =>
    intro n v σ hv hn
    obtain ⟨n, rfl⟩ : ∃ k, n = k + 1 := ⟨n - 1, by omega⟩
    show J_Blocks_clear_m_2_b (J_Blocks_clear_m_2 n) σ (nI b) (nI v) = _
    unfold J_Blocks_clear_m_2_b
    simp (disch := omega) only [nJ_bs, nJ_ifz, nJ_m1, nI_add, nJ_mul, nJ_sub, nJ_div, nJ_lt, nJ_le, nJ_eq, nJ_cl, nJ_in, nJ_md, nJ_rb, nJ_b8, nJ_b81, nJ_i8, nM_eq, nM_eq2, nM_lt, nM_le, nM_nle, nM_nlt, nM_self, nL_0, nL_1, nL_2, nL_3, nL_4, nL_7, nL_8, nL_10, nL_14, nL_15, nL_16, nL_17, nL_25, nL_26, nL_31, nL_32, nL_33, nL_56, nL_63, nL_64, nL_65, nL_126, nL_128, nL_200, nL_255, nL_256, nL_1000, nL_8192, nL_5, nL_6, if_true, if_false, if_pos, if_neg]
    rfl
  | succ d ih =>
    intro n v σ hv hn
    obtain ⟨n, rfl⟩ : ∃ k, n = k + 1 := ⟨n - 1, by omega⟩
    show J_Blocks_clear_m_2_b (J_Blocks_clear_m_2 n) σ (nI b) (nI v) = _
    unfold J_Blocks_clear_m_2_b
    simp (disch := omega) only [nJ_bs, nJ_ifz, nJ_m1, nI_add, nJ_mul, nJ_sub, nJ_div, nJ_lt, nJ_le, nJ_eq, nJ_cl, nJ_in, nJ_md, nJ_rb, nJ_b8, nJ_b81, nJ_i8, nM_eq, nM_eq2, nM_lt, nM_le, nM_nle, nM_nlt, nM_self, nL_0, nL_1, nL_2, nL_3, nL_4, nL_7, nL_8, nL_10, nL_14, nL_15, nL_16, nL_17, nL_25, nL_26, nL_31, nL_32, nL_33, nL_56, nL_63, nL_64, nL_65, nL_126, nL_128, nL_200, nL_255, nL_256, nL_1000, nL_8192, nL_5, nL_6, if_true, if_false, if_pos, if_neg, C_set σ hb (show v < 64 by omega)]
    rw [ih n (v + 1) _ (by omega) (by omega)]
    have e : (fun j => if 64 * b + (v + 1) ≤ j ∧ j < 64 * b + 64 then 0 else va_up (c_M σ) (64 * b + v) (b8 0) j) = fun j => if 64 * b + v ≤ j ∧ j < 64 * b + 64 then 0 else c_M σ j := by
      funext j
      unfold va_up
      by_cases q : j = 64 * b + v
      · rw [if_neg (by omega), if_pos q, if_pos (by omega)]; rfl
      · rw [if_neg q]
        by_cases p : 64 * b + v ≤ j ∧ j < 64 * b + 64
        · rw [if_pos (by omega), if_pos p]
        · rw [if_neg (by omega), if_neg p]
    show some (s_M σ (fun j => if 64 * b + (v + 1) ≤ j ∧ j < 64 * b + 64 then 0 else va_up (c_M σ) (64 * b + v) (b8 0) j)) = _
    rw [e]
theorem C_clear {σ : CS} {M : By} {L : List Nat} (m : CM σ M L) {b : Nat} (hb : b < 128) (hL : (pd L b).length ≤ 15) : CT (J_Memory_clear σ (nI b)) σ (zro M b) (pd L b) := by
  unfold J_Memory_clear
  refine (C_mark m hb hL).bd (fun τ t => ?_)
  unfold J_Blocks_clear_m
  rw [nL_0, C_clear0 hb 64 9000 0 τ (by omega) (by omega), Option.bind_some, t.1]
  exact ⟨_, rfl, ⟨rfl, t.2⟩, rfl, rfl, rfl, rfl, rfl⟩
-- the reference
theorem R_at {σ : RS} {M : By} {L : List Nat} (m : RM σ M L) {b k : Nat} (hb : b < 128) (hk : k < 64) : J_Model_at σ (nI b) (nI k) = some (nI (rb M (64 * b + k))) := by
  unfold J_Model_at
  simp (disch := omega) only [nJ_bs, nJ_ifz, nJ_m1, nI_add, nJ_mul, nJ_sub, nJ_div, nJ_lt, nJ_le, nJ_eq, nJ_cl, nJ_in, nJ_md, nJ_rb, nJ_b8, nJ_b81, nJ_i8, nM_eq, nM_eq2, nM_lt, nM_le, nM_nle, nM_nlt, nM_self, nL_0, nL_1, nL_2, nL_3, nL_4, nL_7, nL_8, nL_10, nL_14, nL_15, nL_16, nL_17, nL_25, nL_26, nL_31, nL_32, nL_33, nL_56, nL_63, nL_64, nL_65, nL_126, nL_128, nL_200, nL_255, nL_256, nL_1000, nL_8192, nL_5, nL_6, if_true, if_false, if_pos, if_neg, m.1]
theorem R_pend1 {σ : RS} {M : By} {L : List Nat} (m : RM σ M L) (hL : L.length ≤ 15) {b : Nat} : ∀ (d n v : Nat), v + d = L.length → d < n → J_Model_pend_4 n σ (nI b) (nI 1) (nI v) = some σ := by
  obtain ⟨m1, m2, m3, m4⟩ := m
  intro d
  induction d with
  | zero =>
    intro n v hv hn
    obtain ⟨n, rfl⟩ : ∃ k, n = k + 1 := ⟨n - 1, by omega⟩
    show J_Model_pend_4_b (J_Model_pend_4 n) σ (nI b) (nI 1) (nI v) = _
    unfold J_Model_pend_4_b
    rw [m2]
    simp (disch := omega) only [nJ_bs, nJ_ifz, nJ_m1, nI_add, nJ_mul, nJ_sub, nJ_div, nJ_lt, nJ_le, nJ_eq, nJ_cl, nJ_in, nJ_md, nJ_rb, nJ_b8, nJ_b81, nJ_i8, nM_eq, nM_eq2, nM_lt, nM_le, nM_nle, nM_nlt, nM_self, nL_0, nL_1, nL_2, nL_3, nL_4, nL_7, nL_8, nL_10, nL_14, nL_15, nL_16, nL_17, nL_25, nL_26, nL_31, nL_32, nL_33, nL_56, nL_63, nL_64, nL_65, nL_126, nL_128, nL_200, nL_255, nL_256, nL_1000, nL_8192, nL_5, nL_6, if_true, if_false, if_pos, if_neg]
  | succ d ih =>
    intro n v hv hn
    obtain ⟨n, rfl⟩ : ∃ k, n = k + 1 := ⟨n - 1, by omega⟩
    show J_Model_pend_4_b (J_Model_pend_4 n) σ (nI b) (nI 1) (nI v) = _
    unfold J_Model_pend_4_b
    rw [m2]
    simp (disch := omega) only [nJ_bs, nJ_ifz, nJ_m1, nI_add, nJ_mul, nJ_sub, nJ_div, nJ_lt, nJ_le, nJ_eq, nJ_cl, nJ_in, nJ_md, nJ_rb, nJ_b8, nJ_b81, nJ_i8, nM_eq, nM_eq2, nM_lt, nM_le, nM_nle, nM_nlt, nM_self, nL_0, nL_1, nL_2, nL_3, nL_4, nL_7, nL_8, nL_10, nL_14, nL_15, nL_16, nL_17, nL_25, nL_26, nL_31, nL_32, nL_33, nL_56, nL_63, nL_64, nL_65, nL_126, nL_128, nL_200, nL_255, nL_256, nL_1000, nL_8192, nL_5, nL_6, if_true, if_false, if_pos, if_neg]
    exact ih n (v + 1) (by omega) (by omega)
theorem R_pend0 {σ : RS} {M : By} {L : List Nat} (m : RM σ M L) {b : Nat} (hb : b < 128) (hL : (pd L b).length ≤ 15) : ∀ (d n v : Nat), v + d = L.length → d < n → (∀ i, i < v → L.getD i 0 ≠ b) → RT (J_Model_pend_4 n σ (nI b) (nI 0) (nI v)) σ M (pd L b) := by
  have m0 := m
  obtain ⟨m1, m2, m3, m4⟩ := m
  have hL0 := pd_le L b
  intro d
  induction d with
  | zero =>
    intro n v hv hn hne
    obtain ⟨n, rfl⟩ : ∃ k, n = k + 1 := ⟨n - 1, by omega⟩
    show RT (J_Model_pend_4_b (J_Model_pend_4 n) σ (nI b) (nI 0) (nI v)) σ M (pd L b)
    have hnot : b ∉ L := L_ne (fun i hi => hne i (by omega))
    have e : pd L b = L ++ [b] := if_neg hnot
    rw [e, List.length_append, List.length_singleton] at hL
    unfold J_Model_pend_4_b
    rw [m2]
    simp (disch := omega) only [nJ_bs, nJ_ifz, nJ_m1, nI_add, nJ_mul, nJ_sub, nJ_div, nJ_lt, nJ_le, nJ_eq, nJ_cl, nJ_in, nJ_md, nJ_rb, nJ_b8, nJ_b81, nJ_i8, nM_eq, nM_eq2, nM_lt, nM_le, nM_nle, nM_nlt, nM_self, nL_0, nL_1, nL_2, nL_3, nL_4, nL_7, nL_8, nL_10, nL_14, nL_15, nL_16, nL_17, nL_25, nL_26, nL_31, nL_32, nL_33, nL_56, nL_63, nL_64, nL_65, nL_126, nL_128, nL_200, nL_255, nL_256, nL_1000, nL_8192, nL_5, nL_6, if_true, if_false, if_pos, if_neg]
    rw [e]
    refine ⟨_, rfl, ⟨m1, ?_, P_push m3 b, fun x hx => ?_⟩, rfl, rfl, rfl, rfl, rfl, rfl, rfl, rfl, rfl⟩
    · show r_n σ + nI 1 = _
      rw [m2, nI_add, List.length_append, List.length_singleton]
    · rcases List.mem_append.mp hx with h | h
      · exact m4 x h
      · rw [List.mem_singleton.mp h]; exact hb
  | succ d ih =>
    intro n v hv hn hne
    obtain ⟨n, rfl⟩ : ∃ k, n = k + 1 := ⟨n - 1, by omega⟩
    show RT (J_Model_pend_4_b (J_Model_pend_4 n) σ (nI b) (nI 0) (nI v)) σ M (pd L b)
    have hlt : L.getD v 0 < 128 := m4 _ (L_mem (by omega))
    unfold J_Model_pend_4_b
    rw [m2]
    simp (disch := omega) only [nJ_bs, nJ_ifz, nJ_m1, nI_add, nJ_mul, nJ_sub, nJ_div, nJ_lt, nJ_le, nJ_eq, nJ_cl, nJ_in, nJ_md, nJ_rb, nJ_b8, nJ_b81, nJ_i8, nM_eq, nM_eq2, nM_lt, nM_le, nM_nle, nM_nlt, nM_self, nL_0, nL_1, nL_2, nL_3, nL_4, nL_7, nL_8, nL_10, nL_14, nL_15, nL_16, nL_17, nL_25, nL_26, nL_31, nL_32, nL_33, nL_56, nL_63, nL_64, nL_65, nL_126, nL_128, nL_200, nL_255, nL_256, nL_1000, nL_8192, nL_5, nL_6, m3 v (by omega)]
    rw [if_neg (by omega), if_pos trivial, if_pos (by omega)]
    by_cases e : L.getD v 0 = b
    · rw [if_pos e]
      have hin : b ∈ L := by rw [← e]; exact L_mem (by omega)
      rw [pd_have hin, R_pend1 m0 (by omega) d n (v + 1) (by omega) (by omega)]
      exact RT.id m0
    · rw [if_neg e]
      refine ih n (v + 1) (by omega) (by omega) (fun i hi => ?_)
      by_cases q : i = v
      · rw [q]; exact e
      · exact hne i (by omega)
theorem R_pend {σ : RS} {M : By} {L : List Nat} (m : RM σ M L) {b : Nat} (hb : b < 128) (hL : (pd L b).length ≤ 15) : RT (J_Model_pend σ (nI b)) σ M (pd L b) := by
  have := pd_le L b
  exact R_pend0 m hb hL L.length 9000 0 (by omega) (by omega) (fun i hi => by omega)
theorem R_set {σ : RS} {M : By} {L : List Nat} (m : RM σ M L) {b k : Nat} (hb : b < 128) (hk : k < 64) (v : Nat) (hL : (pd L b).length ≤ 15) : RT (J_Model_set σ (nI b) (nI k) (nI v)) σ (va_up M (64 * b + k) (b8 v)) (pd L b) := by
  unfold J_Model_set
  simp (disch := omega) only [nJ_bs, nJ_ifz, nJ_m1, nI_add, nJ_mul, nJ_sub, nJ_div, nJ_lt, nJ_le, nJ_eq, nJ_cl, nJ_in, nJ_md, nJ_rb, nJ_b8, nJ_b81, nJ_i8, nM_eq, nM_eq2, nM_lt, nM_le, nM_nle, nM_nlt, nM_self, nL_0, nL_1, nL_2, nL_3, nL_4, nL_7, nL_8, nL_10, nL_14, nL_15, nL_16, nL_17, nL_25, nL_26, nL_31, nL_32, nL_33, nL_56, nL_63, nL_64, nL_65, nL_126, nL_128, nL_200, nL_255, nL_256, nL_1000, nL_8192, nL_5, nL_6, if_true, if_false, if_pos, if_neg, m.1]
  have h := R_pend (σ := q_M σ (va_up M (64 * b + k) (b8 v))) (M := va_up M (64 * b + k) (b8 v)) (L := L) ⟨rfl, m.2⟩ hb hL
  exact RT.tr (τ := q_M σ (va_up M (64 * b + k) (b8 v))) ⟨rfl, rfl, rfl, rfl, rfl, rfl, rfl, rfl, rfl⟩ (h.bd (fun τ t => RT.id t))
