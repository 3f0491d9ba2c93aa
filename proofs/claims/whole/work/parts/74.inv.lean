/-! What holds between component and reference from call to call. Own rows. -/
theorem n20 : ¬ (2 : Nat) = 0 := by decide
theorem n10 : ¬ (1 : Nat) = 0 := by decide
def OnL (σ : CS) (ρ : RS) (L : List Nat) : Prop := CM σ (c_M σ) L ∧ RM ρ (c_M σ) L ∧ (∀ x ∈ L, 17 ≤ x ∧ x < 128) ∧ L.length ≤ 15 ∧ Good (c_M σ) ∧ Good (c_D σ) ∧ rb (c_D σ) 64 = 0 ∧ ∀ a, 1088 ≤ a → a < 8192 → a / 64 ∉ L → c_M σ a = c_D σ a
def IV (σ : CS) (ρ : RS) : Prop := zC σ = zR ρ ∧ c_M σ = r_M ρ ∧ c_c σ = r_c ρ ∧ fOk (c_f σ) ∧ ((c_o σ = nI 0 ∧ ∃ L, OnL σ ρ L) ∨ (c_o σ = nI 1 ∧ Rc (c_D σ) ∧ r_n ρ = nI 0))
theorem IV.qt {σ : CS} {ρ : RS} (h : IV σ ρ) (x : Int32) : IV σ (q_t ρ x) := h
theorem IV.qN {σ : CS} {ρ : RS} (h : IV σ ρ) (x : By) : IV σ (q_N ρ x) := h
theorem IV.ro {σ : CS} {ρ : RS} (h : IV σ ρ) : r_o ρ = c_o σ := (congrArg z_o h.1).symm
theorem pw_on {σ : CS} {ρ : RS} (h : IV σ ρ) (ho : c_o σ = nI 0) : J_LogFs_requirePower σ = some 0 ∧ J_Model_dead ρ = some (nI 0, q_t ρ (nI 0)) := by
  have hr := h.ro.trans ho
  unfold J_LogFs_requirePower J_Model_dead
  rw [nL_0, if_pos ho, if_pos hr]
  refine ⟨rfl, ?_⟩
  rw [show r_o (q_t ρ (nI 0)) = nI 0 from hr, if_pos (by decide)]
theorem pw_off {σ : CS} {ρ : RS} (h : IV σ ρ) (ho : c_o σ = nI 1) : J_LogFs_requirePower σ = some 1 ∧ J_Model_dead ρ = some (nI 1, q_t ρ (nI 1)) := by
  have hr := h.ro.trans ho
  unfold J_LogFs_requirePower J_Model_dead
  rw [nL_0, nL_1, if_neg (show ¬ c_o σ = nI 0 by rw [ho]; exact nz2), if_neg (show ¬ r_o ρ = nI 0 by rw [hr]; exact nz2)]
  refine ⟨rfl, ?_⟩
  rw [show r_o (q_t ρ (nI 1)) = nI 1 from hr, if_pos (by decide)]
/-- a commit: all is on the disk, or the power is off -/
theorem commit_both {σ : CS} {ρ : RS} {L : List Nat} (h : IV σ ρ) (ho : c_o σ = nI 0) (hL : OnL σ ρ L) (h0 : L.length ≠ 0) :
    (∃ τ υ, J_LogFs_commit σ = some (0, τ) ∧ J_Model_commit ρ = some (nI 1, υ) ∧ IV τ υ ∧ c_o τ = nI 0 ∧ OnL τ υ [] ∧ c_M τ = c_M σ ∧ r_N υ = r_N ρ ∧ r_t υ = r_t ρ) ∨ (∃ τ υ, J_LogFs_commit σ = some (2, τ) ∧ J_Model_commit ρ = some (nI 0, υ) ∧ IV τ υ ∧ r_t υ = r_t ρ) := by
  obtain ⟨i1, i2, i3, i4, -⟩ := h
  obtain ⟨l1, l2, l3, l4, l5, l6, l7, l8⟩ := hL
  have hf : fOk (r_l ρ) := by rw [show r_l ρ = c_f σ from (congrArg z_f i1).symm]; exact i4
  obtain ⟨τ, t1, t2, t3⟩ := C_store (σ := s_c σ (c_c σ + nI 1)) (M := c_M σ) l1 l4 i4
  have t1 : J_Disk_storePending (s_c σ (c_c σ + nI 1)) = some (b01 (rn (plan (c_M σ) L) (zC σ)).1, τ) := t1
  have t2 : zC τ = (rn (plan (c_M σ) L) (zC σ)).2 := t2
  obtain ⟨k1, k2, k3, k4⟩ := t3
  have k1 : c_M τ = c_M σ := k1
  have k4 : c_c τ = c_c σ + nI 1 := k4
  obtain ⟨υ, u1, u2, u3, u4, u5, u6, u7⟩ := R_commit l2 l4 h0 hf
  rw [← i1] at u1 u2
  have hfo := fOk_rn (plan (c_M σ) L) (zC σ) i4
  obtain ⟨rc1, rc2⟩ := commit_rc (z := zC σ) h0 l4 l3 l5 l6 l7 l8
  have hc : J_LogFs_commit σ = (if b01 (rn (plan (c_M σ) L) (zC σ)).1 = (0 : Int32) then some (2, τ) else some (0, s_n τ (nI 0))) := by
    unfold J_LogFs_commit J_Memory_forgetPending
    rw [l1.2.1, nL_0, if_neg (by rw [nJ_eq (by omega) (by omega)]; exact h0), nL_1, t1, nJ_bs]
    rfl
  by_cases q : (rn (plan (c_M σ) L) (zC σ)).1 = true
  · refine Or.inl ⟨s_n τ (nI 0), υ, ?_, ?_, ?_⟩
    · rw [hc, q, if_neg (show ¬ b01 true = (0 : Int32) by decide)]
    · rw [u1, q]; rfl
    · obtain ⟨r1, r2, r3⟩ := rc1 q
      rw [← t2] at r1 r2 r3 hfo
      have r1 : rb (c_D τ) 64 = 0 := r1
      have r2 : ∀ a, 1088 ≤ a → a < 8192 → c_D τ a = c_M σ a := r2
      have r3 : c_o τ = c_o σ := r3
      have hon : OnL (s_n τ (nI 0)) υ [] := by
        refine ⟨⟨rfl, rfl, fun i hi => absurd hi (Nat.not_lt_zero _), fun x hx => (nomatch hx)⟩, ⟨u3.trans k1.symm, u4, fun i hi => absurd hi (Nat.not_lt_zero _), fun x hx => (nomatch hx)⟩, fun x hx => (nomatch hx), Nat.zero_le _, ?_, Good_congr r2 l5, r1, fun a h1 h2 _ => ?_⟩
        · show Good (c_M τ)
          rw [k1]; exact l5
        · show c_M τ a = c_D τ a
          rw [k1]; exact (r2 a h1 h2).symm
      refine ⟨⟨t2.trans u2.symm, k1.trans u3.symm, ?_, hfo, Or.inl ⟨r3.trans ho, [], hon⟩⟩, r3.trans ho, hon, k1, u7, u5⟩
      show c_c τ = r_c υ
      rw [k4, u6, i3]
  · refine Or.inr ⟨τ, υ, ?_, ?_, ?_⟩
    · have e : b01 (rn (plan (c_M σ) L) (zC σ)).1 = (0 : Int32) := by
        unfold b01
        rw [if_neg q]; rfl
      rw [hc, if_pos e]
    · have e : b01 (rn (plan (c_M σ) L) (zC σ)).1 = nI 0 := by
        unfold b01
        rw [if_neg q]
      rw [u1, e]
    · obtain ⟨r1, r2⟩ := rc2 q
      rw [← t2] at r1 r2 hfo
      refine ⟨⟨t2.trans u2.symm, k1.trans u3.symm, ?_, hfo, Or.inr ⟨r2, r1, u4⟩⟩, u5⟩
      rw [k4, u6, i3]
/-- before a change: at most ten blocks are pending, or the power is off -/
theorem ready_both {σ : CS} {ρ : RS} {L : List Nat} (h : IV σ ρ) (ho : c_o σ = nI 0) (hL : OnL σ ρ L) (ht : r_t ρ = nI 0) :
    (∃ τ υ L1, J_LogFs_commitIfMany σ = some (0, τ) ∧ J_Model_ready ρ = some (nI 1, υ) ∧ IV τ υ ∧ c_o τ = nI 0 ∧ OnL τ υ L1 ∧ L1.length ≤ 10 ∧ c_M τ = c_M σ ∧ r_N υ = r_N ρ ∧ r_t υ = nI 0) ∨ (∃ τ υ, J_LogFs_commitIfMany σ = some (2, τ) ∧ J_Model_ready ρ = some (nI 0, υ) ∧ IV τ υ ∧ r_t υ = nI 2) := by
  have n1 := hL.1.2.1
  have n2 := hL.2.1.2.1
  have n3 := hL.2.2.2.1
  unfold J_LogFs_commitIfMany J_Model_ready
  rw [n1, n2, nL_10, nL_0, nL_2, nL_1]
  by_cases q : L.length ≤ 10
  · rw [if_pos (by rw [nJ_le (by omega) (by omega)]; exact q), if_neg (by rw [nJ_lt (by omega) (by omega)]; omega)]
    exact Or.inl ⟨σ, ρ, L, rfl, rfl, h, ho, hL, q, rfl, rfl, ht⟩
  · rw [if_neg (by rw [nJ_le (by omega) (by omega)]; exact q), if_pos (by rw [nJ_lt (by omega) (by omega)]; omega)]
    rcases commit_both h ho hL (by omega) with ⟨τ, υ, a1, a2, a3, a4, a5, a6, a7, a8⟩ | ⟨τ, υ, a1, a2, a3, a4⟩
    · refine Or.inl ⟨τ, q_t υ (nI 0), [], ?_, ?_, a3, a4, a5, Nat.zero_le _, a6, a7, rfl⟩
      · rw [a1, nJ_bs, if_pos rfl]
      · rw [a2, nJ_bs, if_neg nz2, if_pos (show jbl (nI 1) = true by decide)]
    · refine Or.inr ⟨τ, q_t υ (nI 2), ?_, ?_, a3, rfl⟩
      · rw [a1, nJ_bs, if_neg n20]
      · rw [a2, nJ_bs, if_pos rfl, if_pos (show jbl (nI 0) = true by decide)]
/-- after a change -/
theorem IV_fin {σ τ : CS} {ρ υ : RS} {L T : List Nat} {N : By} (h : IV σ ρ) (ho : c_o σ = nI 0) (hL : OnL σ ρ L) (G : Good N) (hT : ∀ x ∈ T, 17 ≤ x ∧ x < 128) (hc : CB (c_M σ) N T) (hl : (pds L T).length ≤ 15) (c1 : CM τ N (pds L T)) (k1 : cK σ τ) (c2 : RM υ N (pds L T)) (k2 : rK ρ υ) : IV τ υ := by
  obtain ⟨i1, i2, i3, i4, -⟩ := h
  obtain ⟨l1, l2, l3, l4, l5, l6, l7, l8⟩ := hL
  obtain ⟨a1, a2, a3, a4, a5⟩ := k1
  obtain ⟨b1, b2, b3, b4, b5, b6, b7, b8', b9⟩ := k2
  have z1 : zC τ = zC σ := by unfold zC; rw [a1, a2, a3, a4]
  have z2 : zR υ = zR ρ := by unfold zR; rw [b2, b3, b5, b6]
  have eM := c1.1
  refine ⟨by rw [z1, z2]; exact i1, by rw [eM, c2.1], by rw [a5, b4]; exact i3, by rw [a3]; exact i4, Or.inl ⟨by rw [a4]; exact ho, pds L T, ?_⟩⟩
  refine ⟨by rw [eM]; exact c1, by rw [eM]; exact c2, fun x hx => ?_, hl, by rw [eM]; exact G, by rw [a1]; exact l6, by rw [a1]; exact l7, fun a h1 h2 h3 => ?_⟩
  · rcases pds_in.mp hx with z | z
    · exact l3 x z
    · exact hT x z
  · rw [eM, a1, hc a (fun z => h3 (pds_in.mpr (Or.inr z)))]
    exact l8 a h1 h2 (fun z => h3 (pds_in.mpr (Or.inl z)))
/-- the answers are alike -/
def AG (x : Option (Nat × Int32 × CS)) (y : Option (Int32 × RS)) : Prop := ∃ e a τ b υ, x = some (e, a, τ) ∧ y = some (b, υ) ∧ IV τ υ ∧ ((e = 0 ∧ r_t υ = nI 0 ∧ a = b) ∨ (e = 1 ∧ r_t υ = nI 1) ∨ (e = 2 ∧ r_t υ = nI 2))
theorem AG.same {σ : CS} {ρ : RS} (h : IV σ ρ) (ht : r_t ρ = nI 0) (a : Int32) : AG (some (0, a, σ)) (some (a, ρ)) := ⟨0, a, σ, a, ρ, rfl, rfl, h, Or.inl ⟨rfl, ht, rfl⟩⟩
theorem AG.fail {τ : CS} {υ : RS} (h : IV τ υ) (ht : r_t υ = nI 2) (a b : Int32) : AG (some (2, a, τ)) (some (b, υ)) := ⟨2, a, τ, b, υ, rfl, rfl, h, Or.inr (Or.inr ⟨rfl, ht⟩)⟩
theorem AG.off {σ : CS} {ρ : RS} (h : IV σ ρ) (a b : Int32) : AG (some (1, a, σ)) (some (b, q_t ρ (nI 1))) := ⟨1, a, σ, b, _, rfl, rfl, h.qt _, Or.inr (Or.inl ⟨rfl, rfl⟩)⟩
theorem IV.cs {σ : CS} {ρ : RS} (h : IV σ ρ) : (c_o σ = nI 0 ∧ ∃ L, OnL σ ρ L) ∨ c_o σ = nI 1 := h.2.2.2.2.elim Or.inl (fun z => Or.inr z.1)
theorem AG_sync {σ : CS} {ρ : RS} (h : IV σ ρ) : AG (J_LogFs_sync σ) (J_Model_sync ρ) := by
  unfold J_LogFs_sync J_Model_sync J_Model_sync_27
  rcases h.cs with ⟨ho, L, hL⟩ | ho
  · obtain ⟨p1, p2⟩ := pw_on h ho
    rw [p1, p2, Option.bind_some, nJ_bs, if_pos rfl, nL_0, if_pos rfl]
    have hw : r_w (q_t ρ (nI 0)) = c_w σ := (congrArg z_w h.1).symm
    rw [hw, nL_2]
    by_cases q : L.length = 0
    · have e1 : J_LogFs_commit σ = some (0, σ) := by
        unfold J_LogFs_commit
        rw [hL.1.2.1, q, nL_0, if_pos rfl]
      have e2 : J_Model_commit (q_t ρ (nI 0)) = some (nI 1, q_t ρ (nI 0)) := by
        unfold J_Model_commit
        rw [show r_n (q_t ρ (nI 0)) = nI L.length from hL.2.1.2.1, q, nL_0, if_pos rfl]; rfl
      rw [e1, e2, Option.bind_some, nJ_bs, if_pos rfl, if_neg nz2, if_pos (show r_t (q_t (q_t ρ (nI 0)) (nI 0)) ≤ nI 0 by show nI 0 ≤ nI 0; decide)]
      have hw2 : r_w (q_t (q_t ρ (nI 0)) (nI 0)) = c_w σ := hw
      rw [hw2]
      exact AG.same (ρ := q_t (q_t ρ (nI 0)) (nI 0)) h rfl _
    · rcases commit_both (h.qt (nI 0)) ho hL q with ⟨τ, υ, a1, a2, a3, a4, a5, a6, a7, a8⟩ | ⟨τ, υ, a1, a2, a3, a4⟩
      · rw [a1, a2, Option.bind_some, nJ_bs, if_pos rfl, if_neg nz2, if_pos (show r_t (q_t υ (nI 0)) ≤ nI 0 by show nI 0 ≤ nI 0; decide)]
        have hw2 : r_w (q_t υ (nI 0)) = c_w τ := (congrArg z_w a3.1).symm
        rw [hw2]
        exact AG.same (a3.qt _) rfl _
      · rw [a1, a2, Option.bind_some, nJ_bs, if_neg n20, if_pos rfl, if_neg (show ¬ r_t (q_t υ (nI 2)) ≤ nI 0 by show ¬ nI 2 ≤ nI 0; decide)]
        exact AG.fail (a3.qt _) rfl _ _
  · obtain ⟨p1, p2⟩ := pw_off h ho
    rw [p1, p2, Option.bind_some, nJ_bs, if_neg n10, if_neg nz1]
    exact AG.off h _ _
