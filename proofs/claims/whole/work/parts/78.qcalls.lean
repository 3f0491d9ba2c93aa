/-! The other calls answer alike. Own rows. -/
theorem AQ.off3 {σ : CS} {ρ : RS} (h : IV σ ρ) (a b : Int32) : AQ (some (1, a)) σ (some (b, q_t ρ (nI 1))) E3 := ⟨1, a, b, _, rfl, rfl, h, Or.inr (Or.inl ⟨rfl, rfl⟩), fun z => absurd z (by decide)⟩
theorem AQ.bad3 {σ : CS} {ρ : RS} (h : IV σ ρ) (a b : Int32) : AQ (some (3, a)) σ (some (b, q_t ρ (nI 2))) E3 := ⟨3, a, b, _, rfl, rfl, h, Or.inr (Or.inr ⟨rfl, rfl⟩), fun z => absurd z (by decide)⟩
theorem AQ.ok3 {σ : CS} {ρ : RS} (h : IV σ ρ) (a : Int32) : AQ (some (0, a)) σ (some (a, q_t ρ (nI 0))) E3 := AQ.same (ρ := q_t ρ (nI 0)) h a (Or.inl ⟨rfl, rfl⟩)
theorem t20 {ρ : RS} : ¬ r_t (q_t ρ (nI 2)) ≤ nI 0 := by
  show ¬ nI 2 ≤ nI 0
  decide
theorem t10 {ρ : RS} : ¬ r_t (q_t ρ (nI 1)) ≤ nI 0 := by
  show ¬ nI 1 ≤ nI 0
  decide
theorem t00 {ρ : RS} : r_t (q_t ρ (nI 0)) ≤ nI 0 := by
  show nI 0 ≤ nI 0
  decide
theorem AQ_read {σ : CS} {ρ : RS} (h : IV σ ρ) (a1 a2 : Int32) : AQ (J_LogFs_read σ a1 a2) σ (J_Model_read ρ a1 a2) E3 := by
  unfold J_LogFs_read J_LogFs_read_20 J_Model_read J_Model_read_45 J_Model_read_35 J_Model_read_45 J_Model_read_46
  rw [nL_0, nL_2]
  rcases h.cs with ⟨ho, L, hL⟩ | ho
  · obtain ⟨p1, p2⟩ := pw_on h ho
    rw [p1, p2, Option.bind_some, nJ_bs, if_pos rfl, if_pos rfl, if_neg t20]
    have G := hL.2.2.2.2.1
    have h0 : IV σ (q_t ρ (nI 0)) := h
    rcases i_in a1 with ⟨q1, q2⟩ | ⟨i, hi, rfl⟩
    · rw [q2, nJ_bs, if_pos rfl, C_sz_out q1, nJ_bs]
      by_cases z : a2 < nI 0
      · rw [if_pos z]; exact AQ.bad3 h0 _ _
      · rw [if_neg z, if_neg z]; exact AQ.bad3 h0 _ _
    · have h1000 := (G.2.1 i hi).1
      rw [R_isI hi, nJ_bs, if_neg nz2, nJ_bs, if_neg nz2, C_sz hL.1 hi, nJ_bs]
      have rsz : J_Model_sizeOf (q_t ρ (nI 0)) (nI i) = some (nI (sz (c_M σ) i)) := R_sz hL.2.1 hi
      rw [rsz, nJ_bs, if_pos t00]
      rcases neg_or a2 with z | ⟨a, ha, rfl⟩
      · rw [if_pos z, if_pos z]; exact AQ.bad3 h0 _ _
      · rw [if_neg (show ¬ nI a < nI 0 from nng ha), if_neg (show ¬ nI a < nI 0 from nng ha)]
        by_cases w : a < sz (c_M σ) i
        · rw [if_pos (show nI a < nI (sz (c_M σ) i) by rw [nJ_lt ha (by omega)]; exact w), if_neg (show ¬ nI (sz (c_M σ) i) ≤ nI a by rw [nJ_le (by omega) ha]; omega), CG_ct hL.1 G hi w, nJ_bs]
          have rct : J_Model_contentAt (q_t (q_t ρ (nI 0)) (nI 0)) (nI i) (nI a) = some (nI (ct (c_M σ) i a)) := RG_ct (σ := q_t (q_t ρ (nI 0)) (nI 0)) hL.2.1 G hi w
          rw [rct, nJ_bs]
          exact AQ.ok3 h0 _
        · rw [if_neg (show ¬ nI a < nI (sz (c_M σ) i) by rw [nJ_lt ha (by omega)]; exact w), if_pos (show nI (sz (c_M σ) i) ≤ nI a by rw [nJ_le (by omega) ha]; omega)]
          exact AQ.bad3 h0 _ _
  · obtain ⟨p1, p2⟩ := pw_off h ho
    rw [p1, p2, Option.bind_some, nJ_bs, if_neg n10, if_neg nz2]
    exact AQ.off3 h _ _
theorem AQ_look {σ : CS} {ρ : RS} (h : IV σ ρ) (a1 a2 : Int32) : AQ (J_LogFs_look σ a1 a2) σ (J_Model_look ρ a1 a2) E3 := by
  unfold J_LogFs_look J_Model_look J_Model_look_30 J_Model_look_31
  rw [nL_0, nL_1, nL_2, nL_3, nL_4, nL_5]
  rcases h.cs with ⟨ho, L, hL⟩ | ho
  · obtain ⟨p1, p2⟩ := pw_on h ho
    rw [p1, p2, Option.bind_some, nJ_bs, if_pos rfl, if_pos rfl, if_neg t20]
    have G := hL.2.2.2.2.1
    have h0 : IV σ (q_t ρ (nI 0)) := h
    rcases i_in a1 with ⟨q1, q2⟩ | ⟨i, hi, rfl⟩
    · rw [q1, q2, nJ_bs, nJ_bs, if_pos rfl, if_pos rfl]
      exact AQ.bad3 h0 _ _
    · have h1000 := (G.2.1 i hi).1
      have m2 : RM (q_t (q_t ρ (nI 0)) (nI 0)) (c_M σ) L := hL.2.1
      rw [C_isI hi, R_isI hi, nJ_bs, nJ_bs, if_neg nz2, if_neg nz2, if_pos t00, C_ty hL.1 hi, nJ_bs, C_ln hL.1 hi, nJ_bs, C_sz hL.1 hi, nJ_bs, nJ_bs, C_bf (by omega), nJ_bs, R_ty m2 hi, nJ_bs, R_ln m2 hi, nJ_bs, R_sz m2 hi, nJ_bs, nJ_bs, R_bf (by omega), nJ_bs, R_is m2 hi (by omega), nJ_bs, nJ_ifz]
      by_cases c0 : a2 = nI 0
      · subst c0
        rw [if_pos rfl, if_neg (by decide), if_neg (by decide), if_pos rfl]
        exact AQ.ok3 h0 _
      · rw [if_neg c0, if_neg c0]
        by_cases c1 : a2 = nI 1
        · subst c1
          rw [if_pos rfl, if_neg (by decide), if_neg (by decide), if_pos rfl]
          exact AQ.ok3 h0 _
        · rw [if_neg c1, if_neg c1]
          by_cases c2 : a2 = nI 2
          · subst c2
            rw [if_pos rfl, if_neg (by decide), if_neg (by decide), if_pos rfl]
            exact AQ.ok3 h0 _
          · rw [if_neg c2, if_neg c2]
            by_cases c3 : a2 = nI 3
            · subst c3
              rw [if_pos rfl, if_neg (by decide), if_neg (by decide), if_pos rfl]
              exact AQ.ok3 h0 _
            · rw [if_neg c3, if_neg c3]
              by_cases c4 : a2 = nI 4
              · subst c4
                rw [if_pos rfl, if_neg (by decide), if_neg (by decide)]
                by_cases t : ty (c_M σ) i = 2
                · have hs := dir_s G hi t
                  rw [if_pos t, C_ent hL.1 G hi t hs, R_ent m2 G hi hs, nJ_bs, nJ_bs]
                  exact AQ.ok3 h0 _
                · have e5 := C_dir hL.1 hi
                  rw [if_neg t] at e5
                  rw [if_neg t, C_ent_no e5, nJ_bs]
                  exact AQ.ok3 h0 _
              · rw [if_neg c4]
                by_cases z : a2 < nI 0
                · rw [if_pos z]; exact AQ.bad3 h0 _ _
                · rw [if_neg z]
                  obtain ⟨a, ha, rfl⟩ := (neg_or a2).resolve_left z
                  rw [nJ_eq ha (by omega)] at c0 c1 c2 c3 c4
                  rw [if_pos (show nI 5 ≤ nI a by rw [nJ_le (by omega) ha]; omega)]
                  exact AQ.bad3 h0 _ _
  · obtain ⟨p1, p2⟩ := pw_off h ho
    rw [p1, p2, Option.bind_some, nJ_bs, if_neg n10, if_neg nz2]
    exact AQ.off3 h _ _
/-- is there such a byte: both say the same -/
theorem byte_both (a1 a2 : Int32) : (J_LogFs_requireByte a1 a2 = some 3 ∧ J_Model_isByte a1 a2 = some (nI 0)) ∨ ∃ b k, b < 128 ∧ k < 64 ∧ a1 = nI b ∧ a2 = nI k ∧ J_LogFs_requireByte a1 a2 = some 0 ∧ J_Model_isByte a1 a2 = some (nI 1) := by
  unfold J_LogFs_requireByte J_LogFs_requireByte_21 J_Model_isByte
  rw [nL_0, nL_1, nL_128, nL_64]
  by_cases z : a1 < nI 0
  · rw [if_pos z, if_pos z]; exact Or.inl ⟨rfl, rfl⟩
  · rw [if_neg z, if_neg z]
    obtain ⟨b, hb, rfl⟩ := (neg_or a1).resolve_left z
    by_cases z2 : nI 128 ≤ nI b
    · rw [if_pos z2, if_pos z2]; exact Or.inl ⟨rfl, rfl⟩
    · rw [if_neg z2, if_neg z2]
      by_cases z3 : a2 < nI 0
      · rw [if_pos z3, if_pos z3]; exact Or.inl ⟨rfl, rfl⟩
      · rw [if_neg z3, if_neg z3]
        obtain ⟨k, hk, rfl⟩ := (neg_or a2).resolve_left z3
        rw [nJ_le (by omega) hb] at z2
        by_cases z4 : k < 64
        · rw [if_pos (show nI k < nI 64 by rw [nJ_lt hk (by omega)]; exact z4), if_neg (show ¬ nI 64 ≤ nI k by rw [nJ_le (by omega) hk]; omega)]
          exact Or.inr ⟨b, k, by omega, z4, rfl, rfl, rfl, rfl⟩
        · rw [if_neg (show ¬ nI k < nI 64 by rw [nJ_lt hk (by omega)]; exact z4), if_pos (show nI 64 ≤ nI k by rw [nJ_le (by omega) hk]; omega)]
          exact Or.inl ⟨rfl, rfl⟩
theorem AQ_memory {σ : CS} {ρ : RS} (h : IV σ ρ) (a1 a2 : Int32) : AQ (J_LogFs_memory σ a1 a2) σ (J_Model_memory ρ a1 a2) E3 := by
  unfold J_LogFs_memory J_Model_memory J_Model_memory_23
  rw [nL_0, nL_2]
  rcases h.cs with ⟨ho, L, hL⟩ | ho
  · obtain ⟨p1, p2⟩ := pw_on h ho
    rw [p1, p2, Option.bind_some, nJ_bs, if_pos rfl, if_pos rfl, if_neg t20, if_pos t00]
    have h0 : IV σ (q_t ρ (nI 0)) := h
    rcases byte_both a1 a2 with ⟨e1, e2⟩ | ⟨b, k, hb, hk, rfl, rfl, e1, e2⟩
    · rw [e1, e2, Option.bind_some, nJ_bs, if_neg (show ¬ (3 : Nat) = 0 by decide), if_pos rfl]
      exact AQ.bad3 h0 _ _
    · have m2 : RM (q_t (q_t ρ (nI 0)) (nI 0)) (c_M σ) L := hL.2.1
      rw [e1, e2, Option.bind_some, nJ_bs, if_pos rfl, if_neg nz2, C_get hL.1 hb hk, nJ_bs, R_at m2 hb hk, nJ_bs]
      exact AQ.ok3 h0 _
  · obtain ⟨p1, p2⟩ := pw_off h ho
    rw [p1, p2, Option.bind_some, nJ_bs, if_neg n10, if_neg nz2]
    exact AQ.off3 h _ _
theorem AQ_disk {σ : CS} {ρ : RS} (h : IV σ ρ) (a1 a2 : Int32) : AQ (J_LogFs_disk σ a1 a2) σ (J_Model_disk ρ a1 a2) ED := by
  unfold J_LogFs_disk J_Model_disk J_Model_disk_14
  rw [nL_0, nL_1, if_neg t10, if_pos t00]
  rcases byte_both a1 a2 with ⟨e1, e2⟩ | ⟨b, k, hb, hk, rfl, rfl, e1, e2⟩
  · rw [e1, e2, Option.bind_some, nJ_bs, if_neg (show ¬ (3 : Nat) = 0 by decide), if_pos rfl]
    exact ⟨3, _, _, q_t ρ (nI 1), rfl, rfl, h, Or.inr ⟨rfl, rfl⟩, fun z => absurd z (by decide)⟩
  · have eD : r_D (q_t ρ (nI 0)) = c_D σ := (congrArg z_D h.1).symm
    rw [e1, e2, Option.bind_some, nJ_bs, if_pos rfl, if_neg nz2, C_getd σ hb hk, nJ_bs, nL_64, nJ_mul, nI_add, if_pos (by rw [nJ_in (by omega)]; omega), nJ_cl (by omega), eD, nL_255, nJ_rb]
    exact AQ.same (ρ := q_t ρ (nI 0)) h _ (Or.inl ⟨rfl, rfl⟩)
theorem fail_both {σ : CS} {ρ : RS} (h : IV σ ρ) (a : Int32) : ∃ v τ υ, J_LogFs_failAfter σ a = some (v, τ) ∧ J_Model_failAfter ρ a = some (v, υ) ∧ IV τ υ := by
  unfold J_LogFs_failAfter J_Model_failAfter
  rw [nL_0, nL_1]
  by_cases z : nI 0 ≤ a
  · rw [if_pos z, if_pos z]
    refine ⟨_, _, _, rfl, rfl, ?_⟩
    obtain ⟨i1, i2, i3, i4, i5⟩ := h
    have e1 : c_D σ = r_D ρ := congrArg z_D i1
    have e2 : c_w σ = r_w ρ := congrArg z_w i1
    have e4 : c_o σ = r_o ρ := congrArg z_o i1
    refine ⟨?_, i2, i3, ?_, i5⟩
    · show (c_D σ, c_w σ, a, c_o σ) = (r_D ρ, r_w ρ, a, r_o ρ)
      rw [e1, e2, e4]
    · show fOk a
      obtain ⟨n, hn, e⟩ := (neg_or a).resolve_left (fun z2 => by rw [Int32.lt_iff_toInt_lt] at z2; rw [Int32.le_iff_toInt_le] at z; omega)
      exact Or.inr ⟨n, hn, e⟩
  · rw [if_neg z, if_neg z]
    exact ⟨_, _, _, rfl, rfl, h⟩
theorem R_cnt0 {σ : RS} {M : By} {L : List Nat} (m : RM σ M L) (a : Int32) : ∀ (d n v x : Nat), v + d = 32 → d < n → ∃ k, J_Model_count_47 n σ a (nI x) (nI v) = J_Model_count_47_b k σ a (nI (x + cn (pI M) d v)) (nI 32) := by
  intro d
  induction d with
  | zero =>
    intro n v x hv hn
    obtain ⟨n, rfl⟩ : ∃ k, n = k + 1 := ⟨n - 1, by omega⟩
    refine ⟨J_Model_count_47 n, ?_⟩
    show J_Model_count_47_b _ σ a (nI x) (nI v) = _
    rw [show v = 32 by omega]
    rfl
  | succ d ih =>
    intro n v x hv hn
    obtain ⟨n, rfl⟩ : ∃ k, n = k + 1 := ⟨n - 1, by omega⟩
    have h := ty_lt M v
    have e : cn (pI M) (d + 1) v = (if pI M v = true then 1 else 0) + cn (pI M) d (v + 1) := rfl
    have e0 : J_Model_count_47 (n + 1) σ a (nI x) (nI v) = J_Model_count_47_b (J_Model_count_47 n) σ a (nI x) (nI v) := rfl
    rw [e0]
    by_cases q : ty M v = 0
    · obtain ⟨k, hk⟩ := ih n (v + 1) (x + 1) (by omega) (by omega)
      refine ⟨k, ?_⟩
      have e2 : J_Model_count_47_b (J_Model_count_47 n) σ a (nI x) (nI v) = J_Model_count_47 n σ a (nI (x + 1)) (nI (v + 1)) := by
        unfold J_Model_count_47_b
        rw [nL_32, if_neg (show ¬ nI 32 ≤ nI v by rw [nJ_le (by omega) (by omega)]; omega), nL_0, R_ty m (show v < 32 by omega), nJ_bs, if_pos (by rw [q]), nL_1, nI_add, nI_add]
      rw [e2, hk, e, if_pos (by rw [pI_eq]; exact q), ← Nat.add_assoc]
    · obtain ⟨k, hk⟩ := ih n (v + 1) (x + 0) (by omega) (by omega)
      refine ⟨k, ?_⟩
      have e2 : J_Model_count_47_b (J_Model_count_47 n) σ a (nI x) (nI v) = J_Model_count_47 n σ a (nI (x + 0)) (nI (v + 1)) := by
        unfold J_Model_count_47_b
        rw [nL_32, if_neg (show ¬ nI 32 ≤ nI v by rw [nJ_le (by omega) (by omega)]; omega), nL_0, R_ty m (show v < 32 by omega), nJ_bs, if_neg (by rw [nJ_eq (by omega) (by omega)]; exact q), nL_1, nI_add, nI_add]
      rw [e2, hk, e, if_neg (by rw [pI_eq]; exact q), Nat.zero_add, Nat.add_zero]
/-- what is counted without the power's leave, or with the power on -/
theorem count_both {σ : CS} {ρ : RS} (h : IV σ ρ) (a : Int32) : ∃ v υ, J_LogFs_count σ a = some v ∧ J_Model_count ρ a = some (v, υ) ∧ IV σ υ := by
  have hw : r_w (q_t ρ (nI 0)) = c_w σ := (congrArg z_w h.1).symm
  have hc : r_c (q_t ρ (nI 0)) = c_c σ := h.2.2.1.symm
  have hr : r_o (q_t ρ (nI 0)) = c_o σ := h.ro
  suffices H : ∃ v, J_LogFs_count σ a = some v ∧ J_Model_count ρ a = some (v, q_t ρ (nI 0)) by
    obtain ⟨v, h1, h2⟩ := H
    exact ⟨v, _, h1, h2, h⟩
  unfold J_LogFs_count J_Model_count J_LogFs_countInMemory
  rw [nL_0, nL_1, nL_2, nL_3, nL_4, nL_5, nL_8, hr]
  rcases h.2.2.2.2 with ⟨ho, L, hL⟩ | ⟨ho, -, h3⟩
  · have m2 : RM (q_t ρ (nI 0)) (c_M σ) L := hL.2.1
    have l4 := hL.2.2.2.1
    rw [ho]
    rcases neg_or a with z | ⟨n, hn, rfl⟩
    · have ne : ∀ k, k < 2147483648 → ¬ a = nI k := fun k hk e => nng hk (by rw [← e]; exact z)
      have z8 : a < nI 8 := by
        rw [Int32.lt_iff_toInt_lt] at z ⊢
        rw [nI_toInt (by omega)] at z ⊢
        omega
      have z9 : ¬ nI 8 ≤ a := by
        rw [Int32.lt_iff_toInt_lt] at z8
        rw [Int32.le_iff_toInt_le]
        omega
      obtain ⟨k, hk⟩ := R_cnt0 m2 a 32 9000 0 0 (by omega) (by omega)
      rw [if_pos z8, hk]
      unfold J_Model_count_47_b
      rw [nL_32, nL_0, nL_1, nL_2, nL_3, nL_4, nL_5, if_pos (show nI 32 ≤ nI 32 by decide), if_neg (ne 0 (by omega)), if_neg (ne 1 (by omega)), if_neg (ne 2 (by omega)), if_neg (ne 3 (by omega)), if_neg (ne 4 (by omega)), if_neg (ne 5 (by omega)), if_neg (ne 3 (by omega)), if_neg (ne 4 (by omega)), if_neg (ne 5 (by omega)), if_pos rfl, if_neg (ne 0 (by omega)), if_neg (ne 1 (by omega)), if_neg (ne 2 (by omega)), if_neg z9, nJ_bs]
      exact ⟨_, rfl, rfl⟩
    · by_cases z : n < 8
      · obtain ⟨k, hk⟩ := R_cnt0 m2 (nI n) 32 9000 0 0 (by omega) (by omega)
        rw [if_pos (show nI n < nI 8 by rw [nJ_lt hn (by omega)]; exact z), hk]
        unfold J_Model_count_47_b
        rw [nL_32, nL_0, nL_1, nL_2, nL_3, nL_4, nL_5, if_pos (show nI 32 ≤ nI 32 by decide), hr, ho, hw, hc, m2.2.1, hL.1.2.1, R_fb m2, C_fb hL.1, C_fin hL.1, Nat.zero_add]
        rcases (show n = 0 ∨ n = 1 ∨ n = 2 ∨ n = 3 ∨ n = 4 ∨ n = 5 ∨ n = 6 ∨ n = 7 by omega) with rfl | rfl | rfl | rfl | rfl | rfl | rfl | rfl <;> exact ⟨_, rfl, rfl⟩
      · rw [if_neg (show ¬ nI n < nI 8 by rw [nJ_lt hn (by omega)]; exact z), if_pos rfl]
        have ne : ∀ k, k < 8 → ¬ nI n = nI k := fun k hk => by rw [nJ_eq hn (by omega)]; omega
        rw [if_neg (ne 3 (by omega)), if_neg (ne 4 (by omega)), if_neg (ne 5 (by omega)), if_pos rfl, if_neg (ne 0 (by omega)), if_neg (ne 1 (by omega)), if_neg (ne 2 (by omega)), if_pos (show nI 8 ≤ nI n by rw [nJ_le (by omega) hn]; omega), nJ_sub (show 8 ≤ n by omega) hn, m2.2.1]
        by_cases w : n - 8 < L.length
        · rw [C_pat hL.1 l4 w, nJ_bs, nJ_bs, if_pos (show nI (n - 8) < nI L.length by rw [nJ_lt (by omega) (by omega)]; exact w), if_pos (show jin (nI (n - 8)) 128 = true by rw [nJ_in (by omega)]; omega), nJ_cl (by omega), m2.2.2.1 _ w]
          exact ⟨_, rfl, rfl⟩
        · have e : J_Memory_pendingAt σ (nI (n - 8)) = some (-1) := by
            unfold J_Memory_pendingAt
            rw [hL.1.2.1, nL_0, if_neg (nng (by omega)), if_pos (show nI L.length ≤ nI (n - 8) by rw [nJ_le (by omega) (by omega)]; omega)]
          rw [e, nJ_bs, nJ_bs, if_neg (show ¬ nI (n - 8) < nI L.length by rw [nJ_lt (by omega) (by omega)]; exact w)]
          exact ⟨_, rfl, rfl⟩
  · have m2 : RM (q_t ρ (nI 0)) (r_M ρ) [] := ⟨rfl, h3, fun i hi => absurd hi (Nat.not_lt_zero _), fun x hx => (nomatch hx)⟩
    rw [ho, if_neg nz2, if_neg nz2, if_neg nz2]
    have off : ∀ k : RS → Int32 → Int32 → Int32 → Option (Int32 × RS), ∀ x : Int32, J_Model_count_47_b k (q_t ρ (nI 0)) a x (nI 32) = (if a = nI 0 then some (-1, q_t ρ (nI 0)) else if a = nI 1 then some (-1, q_t ρ (nI 0)) else if a = nI 2 then some (-1, q_t ρ (nI 0)) else if a = nI 3 then some (c_w σ, q_t ρ (nI 0)) else if a = nI 4 then some (c_c σ, q_t ρ (nI 0)) else if a = nI 5 then some (nI 1, q_t ρ (nI 0)) else some (-1, q_t ρ (nI 0))) := fun k x => by
      unfold J_Model_count_47_b
      rw [nL_32, nL_0, nL_1, nL_2, nL_3, nL_4, nL_5, if_pos (show nI 32 ≤ nI 32 by decide), hr, ho, if_neg nz2, if_neg nz2, if_neg nz2, if_neg nz2, hw, hc]
    by_cases z : a < nI 8
    · obtain ⟨k, hk⟩ := R_cnt0 m2 a 32 9000 0 0 (by omega) (by omega)
      rw [if_pos z, hk, off]
      by_cases c3 : a = nI 3
      · rw [c3]; exact ⟨_, rfl, rfl⟩
      · by_cases c4 : a = nI 4
        · rw [c4]; exact ⟨_, rfl, rfl⟩
        · by_cases c5 : a = nI 5
          · rw [c5]; exact ⟨_, rfl, rfl⟩
          · rw [if_neg c3, if_neg c4, if_neg c5, if_neg c3, if_neg c4, if_neg c5]
            refine ⟨-1, rfl, ?_⟩
            by_cases c0 : a = nI 0
            · rw [if_pos c0]
            · rw [if_neg c0]
              by_cases c1 : a = nI 1
              · rw [if_pos c1]
              · rw [if_neg c1]
                by_cases c2 : a = nI 2
                · rw [if_pos c2]
                · rw [if_neg c2]
    · have ne : ∀ k, k < 8 → ¬ a = nI k := fun k hk e => z (by rw [e, nJ_lt (by omega) (by omega)]; exact hk)
      rw [if_neg z, if_neg (ne 3 (by omega)), if_neg (ne 4 (by omega)), if_neg (ne 5 (by omega))]
      exact ⟨_, rfl, rfl⟩
