/-! The calls write, fill and truncate answer alike. Own rows. -/
theorem R_pageL {i a n : Nat} {x : Int64} (hn : n ≤ 8) : ∀ (d m v : Nat) (σ : RS), v + d = n → d < m → ∃ G : By, J_Model_write_47 m σ (nI i) (nI a) x (nI n) (nI v) = (J_Model_writes (q_G σ G) (nI i) (nI a) (nI n)).bind (fun y => some (y.1, y.2)) ∧ (∀ j, v ≤ j → j < n → G j = b8 (nb x j)) ∧ ∀ j, j < v → G j = r_G σ j := by
  intro d
  induction d with
  | zero =>
    intro m v σ hv hm
    obtain ⟨m, rfl⟩ : ∃ k, m = k + 1 := ⟨m - 1, by omega⟩
    refine ⟨r_G σ, ?_, fun j h1 h2 => by omega, fun _ _ => rfl⟩
    show J_Model_write_47_b _ σ (nI i) (nI a) x (nI n) (nI v) = _
    unfold J_Model_write_47_b
    rw [if_pos (by rw [nJ_le (by omega) (by omega)]; omega)]
    rfl
  | succ d ih =>
    intro m v σ hv hm
    obtain ⟨m, rfl⟩ : ∃ k, m = k + 1 := ⟨m - 1, by omega⟩
    obtain ⟨G, g1, g2, g3⟩ := ih m (v + 1) (q_G σ (va_up (r_G σ) v (b8 (nb x v)))) (by omega) (by omega)
    refine ⟨G, ?_, fun j h1 h2 => ?_, fun j h => ?_⟩
    · show J_Model_write_47_b _ σ (nI i) (nI a) x (nI n) (nI v) = _
      unfold J_Model_write_47_b
      rw [if_neg (by rw [nJ_le (by omega) (by omega)]; omega), if_pos (by rw [nJ_in (by omega)]; omega), nJ_cl (by omega), nL_56, nL_8, R_byte8 x (by omega), nJ_i8, nL_1, nI_add]
      exact g1
    · by_cases e : j = v
      · rw [g3 j (by omega), e]
        exact va_up_self _ _ _
      · exact g2 j (by omega) h2
    · rw [g3 j (by omega)]
      exact va_up_ne _ _ (by omega)
theorem R_pageF {i a n w : Nat} (hn : n ≤ 64) : ∀ (d m v : Nat) (σ : RS), v + d = n → d < m → ∃ G : By, J_Model_fill_58 m σ (nI i) (nI a) (nI w) (nI n) (nI v) = (J_Model_writes (q_G σ G) (nI i) (nI a) (nI n)).bind (fun y => some (y.1, y.2)) ∧ (∀ j, v ≤ j → j < n → G j = b8 w) ∧ ∀ j, j < v → G j = r_G σ j := by
  intro d
  induction d with
  | zero =>
    intro m v σ hv hm
    obtain ⟨m, rfl⟩ : ∃ k, m = k + 1 := ⟨m - 1, by omega⟩
    refine ⟨r_G σ, ?_, fun j h1 h2 => by omega, fun _ _ => rfl⟩
    show J_Model_fill_58_b _ σ (nI i) (nI a) (nI w) (nI n) (nI v) = _
    unfold J_Model_fill_58_b
    rw [if_pos (by rw [nJ_le (by omega) (by omega)]; omega)]
    rfl
  | succ d ih =>
    intro m v σ hv hm
    obtain ⟨m, rfl⟩ : ∃ k, m = k + 1 := ⟨m - 1, by omega⟩
    obtain ⟨G, g1, g2, g3⟩ := ih m (v + 1) (q_G σ (va_up (r_G σ) v (b8 w))) (by omega) (by omega)
    refine ⟨G, ?_, fun j h1 h2 => ?_, fun j h => ?_⟩
    · show J_Model_fill_58_b _ σ (nI i) (nI a) (nI w) (nI n) (nI v) = _
      unfold J_Model_fill_58_b
      rw [if_neg (by rw [nJ_le (by omega) (by omega)]; omega), if_pos (by rw [nJ_in (by omega)]; omega), nJ_cl (by omega), nJ_b8, nL_1, nI_add]
      exact g1
    · by_cases e : j = v
      · rw [g3 j (by omega), e]
        exact va_up_self _ _ _
      · exact g2 j (by omega) h2
    · rw [g3 j (by omega)]
      exact va_up_ne _ _ (by omega)
/-- what is written by both -/
theorem run_both {σ : CS} {ρ : RS} {L : List Nat} (h : IV σ ρ) (ho : c_o σ = nI 0) (hL : OnL σ ρ L) (hl : L.length ≤ 10) (ht : r_t ρ = nI 0) {i a n : Nat} {f : Nat → Nat} (hi : i < 32) (hn0 : 0 < n) (hn : n ≤ 64) (c : cP (c_M σ) i a n) (hG : ∀ j, j < n → r_G ρ j = b8 (f j)) {x : Option CS}
    (hx : aN (fun M p => okP M i p) i a f n 0 (c_M σ) → (pds L (Tn i a f n 0 (c_M σ) ++ tG (pn i a f n 0 (c_M σ)) i (a + n))).length ≤ 15 → CT x σ (gr (pn i a f n 0 (c_M σ)) i (a + n)) (pds L (Tn i a f n 0 (c_M σ) ++ tG (pn i a f n 0 (c_M σ)) i (a + n)))) :
    AG (x.bind fun τ => (J_Volume_size τ (nI i)).bind fun s => some (0, s, τ)) ((J_Model_writes ρ (nI i) (nI a) (nI n)).bind fun y => some (y.1, y.2)) := by
  obtain ⟨c1, c2, c3, c4⟩ := c
  have G := hL.2.2.2.2.1
  obtain ⟨h1, R⟩ := run_all (f := f) G hi c2 c3 hn0 hn c4
  have hroom : (pds L (Tn i a f n 0 (c_M σ) ++ tG (pn i a f n 0 (c_M σ)) i (a + n))).length ≤ 15 := Nat.le_trans (room5 R hn L) (by omega)
  obtain ⟨τ, t1, t2, t3⟩ := hx (aN_mono (fun M p q => q.1) _ _ _ h1) hroom
  obtain ⟨υ, u1, u2, u3⟩ := R_writes hL.2.1 hi c3 hn ((G.2.1 i hi).1) hG h1 hroom
  rw [t1, u1, Option.bind_some, Option.bind_some, C_sz t2 hi, nJ_bs]
  have Gn := run_file G hi c1 c3 R
  obtain ⟨-, -, -, -, r5, r6, -⟩ := R
  exact AG.same (IV_fin h ho hL Gn r6 r5 hroom t2 t3 u2 u3) (by rw [u3.1]; exact ht) _
theorem neg_or (a : Int32) : a < nI 0 ∨ ∃ n : Nat, n < 2147483648 ∧ a = nI n := by
  by_cases h : a < nI 0
  · exact Or.inl h
  · obtain ⟨j, hj, e⟩ := nI_of h
    exact Or.inr ⟨j, hj, e⟩
theorem lt1 {a : Int32} (h : a < nI 0) : a < nI 1 := Int32.lt_trans h (by decide)
/-- may it be put: both say the same -/
theorem may_both {σ : CS} {ρ : RS} {M : By} {L : List Nat} (m : CM σ M L) (m2 : RM ρ M L) (G : Good M) (a1 a2 : Int32) {n : Nat} (hn : n < 1000) : (J_Volume_canPut σ a1 a2 (nI n) = some (nI 0) ∧ J_Model_mayWrite ρ a1 a2 (nI n) = some (nI 0)) ∨ ∃ i a, i < 32 ∧ a1 = nI i ∧ a2 = nI a ∧ cP M i a n ∧ J_Volume_canPut σ a1 a2 (nI n) = some (nI 1) ∧ J_Model_mayWrite ρ a1 a2 (nI n) = some (nI 1) := by
  rcases i_in a1 with ⟨q1, q2⟩ | ⟨i, hi, rfl⟩
  · exact Or.inl ⟨C_cp_no (C_file_out q1), R_mw_no (R_is_out q2 _)⟩
  · rcases neg_or a2 with q | ⟨a, ha, rfl⟩
    · exact Or.inl ⟨C_cp_neg m hi q, R_mw_neg m2 hi q⟩
    · have e1 := C_cp m G hi ha hn
      have e2 := R_mw m2 G hi ha hn
      by_cases c : cP M i a n
      · rw [if_pos c] at e1 e2
        exact Or.inr ⟨i, a, hi, rfl, rfl, c, e1, e2⟩
      · rw [if_neg c] at e1 e2
        exact Or.inl ⟨e1, e2⟩
theorem AG_write {σ : CS} {ρ : RS} (h : IV σ ρ) (a1 a2 : Int32) (x : Int64) (a4 : Int32) : AG (J_LogFs_write σ a1 a2 x a4) (J_Model_write ρ a1 a2 x a4) := by
  unfold J_LogFs_write J_Model_write
  rw [nL_0, nL_1, nL_8]
  rcases h.cs with ⟨ho, L, hL⟩ | ho
  · obtain ⟨p1, p2⟩ := pw_on h ho
    rw [p1, p2, Option.bind_some, nJ_bs, if_pos rfl, if_pos rfl]
    have h0 : IV σ (q_t ρ (nI 0)) := h
    have hL0 : OnL σ (q_t ρ (nI 0)) L := hL
    by_cases z1 : a4 < nI 1
    · rw [if_pos z1, if_pos z1]; exact AG.same h0 rfl _
    · rw [if_neg z1, if_neg z1]
      by_cases z2 : nI 8 < a4
      · rw [if_pos z2, if_pos z2]; exact AG.same h0 rfl _
      · rw [if_neg z2, if_neg z2]
        obtain ⟨n, hn, rfl⟩ := (neg_or a4).resolve_left (fun z => z1 (lt1 z))
        rw [nJ_lt hn (by omega)] at z1
        rw [nJ_lt (by omega) hn] at z2
        · rcases may_both hL0.1 hL0.2.1 hL.2.2.2.2.1 a1 a2 (show n < 1000 by omega) with ⟨e1, e2⟩ | ⟨i, a, hi, rfl, rfl, c, e1, e2⟩
          · rw [e1, e2, nJ_bs, nJ_bs, if_pos rfl, if_pos rfl]
            exact AG.same h0 rfl _
          · rw [e1, e2, nJ_bs, nJ_bs, if_neg nz2, if_neg nz2]
            rcases ready_both h0 ho hL0 rfl with ⟨τ, υ, L1, t1, t2, t3, t4, t5, t6, t7, t8, t9⟩ | ⟨τ, υ, t1, t2, t3, t4⟩
            · rw [t1, t2, Option.bind_some, Option.bind_some, if_pos rfl, if_neg nz2]
              obtain ⟨G, g1, g2, -⟩ := R_pageL (i := i) (a := a) (x := x) (show n ≤ 8 by omega) n 9000 0 υ (by omega) (by omega)
              rw [g1]
              rw [← t7] at c
              exact run_both (ρ := q_G υ G) t3 t4 t5 t6 t9 hi (by omega) (by omega) c (fun j hj => g2 j (by omega) hj) (fun a1 a2 => C_long t5.1 hi c.2.2.1 (by omega) a1 a2)
            · rw [t1, t2, Option.bind_some, Option.bind_some, if_neg n20, if_pos rfl]
              exact AG.fail t3 t4 _ _
  · obtain ⟨p1, p2⟩ := pw_off h ho
    rw [p1, p2, Option.bind_some, nJ_bs, if_neg n10, if_neg nz2]
    exact AG.off h _ _
theorem AG_fill {σ : CS} {ρ : RS} (h : IV σ ρ) (a1 a2 a3 a4 : Int32) : AG (J_LogFs_fill σ a1 a2 a3 a4) (J_Model_fill ρ a1 a2 a3 a4) := by
  unfold J_LogFs_fill J_Model_fill
  rw [nL_0, nL_1, nL_64, nL_255]
  rcases h.cs with ⟨ho, L, hL⟩ | ho
  · obtain ⟨p1, p2⟩ := pw_on h ho
    rw [p1, p2, Option.bind_some, nJ_bs, if_pos rfl, if_pos rfl]
    have h0 : IV σ (q_t ρ (nI 0)) := h
    have hL0 : OnL σ (q_t ρ (nI 0)) L := hL
    by_cases q1 : a3 < nI 0
    · rw [if_pos q1, if_pos q1]
      by_cases z1 : a4 < nI 1
      · rw [if_pos z1]; exact AG.same h0 rfl _
      · rw [if_neg z1]
        by_cases z2 : nI 64 < a4
        · rw [if_pos z2]; exact AG.same h0 rfl _
        · rw [if_neg z2]; exact AG.same h0 rfl _
    · rw [if_neg q1, if_neg q1]
      by_cases q2 : nI 255 < a3
      · rw [if_pos q2, if_pos q2]
        by_cases z1 : a4 < nI 1
        · rw [if_pos z1]; exact AG.same h0 rfl _
        · rw [if_neg z1]
          by_cases z2 : nI 64 < a4
          · rw [if_pos z2]; exact AG.same h0 rfl _
          · rw [if_neg z2]; exact AG.same h0 rfl _
      · rw [if_neg q2, if_neg q2]
        by_cases z1 : a4 < nI 1
        · rw [if_pos z1, if_pos z1]; exact AG.same h0 rfl _
        · rw [if_neg z1, if_neg z1]
          by_cases z2 : nI 64 < a4
          · rw [if_pos z2, if_pos z2]; exact AG.same h0 rfl _
          · rw [if_neg z2, if_neg z2]
            obtain ⟨w, hw, rfl⟩ := (neg_or a3).resolve_left q1
            obtain ⟨n, hn, rfl⟩ := (neg_or a4).resolve_left (fun z => z1 (lt1 z))
            rw [nJ_lt hn (by omega)] at z1
            rw [nJ_lt (by omega) hn] at z2
            rcases may_both hL0.1 hL0.2.1 hL.2.2.2.2.1 a1 a2 (show n < 1000 by omega) with ⟨e1, e2⟩ | ⟨i, a, hi, rfl, rfl, c, e1, e2⟩
            · rw [e1, e2, nJ_bs, nJ_bs, if_pos rfl, if_pos rfl]
              exact AG.same h0 rfl _
            · rw [e1, e2, nJ_bs, nJ_bs, if_neg nz2, if_neg nz2]
              rcases ready_both h0 ho hL0 rfl with ⟨τ, υ, L1, t1, t2, t3, t4, t5, t6, t7, t8, t9⟩ | ⟨τ, υ, t1, t2, t3, t4⟩
              · rw [t1, t2, Option.bind_some, Option.bind_some, if_pos rfl, if_neg nz2]
                obtain ⟨G, g1, g2, -⟩ := R_pageF (i := i) (a := a) (w := w) (show n ≤ 64 by omega) n 9000 0 υ (by omega) (by omega)
                rw [g1]
                rw [← t7] at c
                exact run_both (ρ := q_G υ G) (f := fun _ => w) t3 t4 t5 t6 t9 hi (by omega) (by omega) c (fun j hj => g2 j (by omega) hj) (fun a1 a2 => C_same t5.1 hi c.2.2.1 (by omega) a1 a2)
              · rw [t1, t2, Option.bind_some, Option.bind_some, if_neg n20, if_pos rfl]
                exact AG.fail t3 t4 _ _
  · obtain ⟨p1, p2⟩ := pw_off h ho
    rw [p1, p2, Option.bind_some, nJ_bs, if_neg n10, if_neg nz2]
    exact AG.off h _ _
theorem AG_truncate {σ : CS} {ρ : RS} (h : IV σ ρ) (a1 : Int32) : AG (J_LogFs_truncate σ a1) (J_Model_truncate ρ a1) := by
  unfold J_LogFs_truncate J_Model_truncate
  rw [nL_0, nL_1, nL_2]
  rcases h.cs with ⟨ho, L, hL⟩ | ho
  · obtain ⟨p1, p2⟩ := pw_on h ho
    rw [p1, p2, Option.bind_some, nJ_bs, if_pos rfl, if_pos rfl]
    have h0 : IV σ (q_t ρ (nI 0)) := h
    have hL0 : OnL σ (q_t ρ (nI 0)) L := hL
    rcases i_in a1 with ⟨q1, q2⟩ | ⟨i, hi, rfl⟩
    · rw [C_file_out q1, R_is_out q2, nJ_bs, nJ_bs, if_pos rfl, if_pos rfl]
      exact AG.same h0 rfl _
    · have hs := sz_lt (c_M σ) i
      rw [C_file hL.1 hi, R_is hL0.2.1 hi (by omega), nJ_bs, nJ_bs, nJ_ifz, nJ_ifz]
      by_cases t : ty (c_M σ) i = 1
      · rw [if_pos t, if_pos t, C_sz hL.1 hi, R_sz hL0.2.1 hi, nJ_bs, nJ_bs]
        by_cases q : sz (c_M σ) i = 0
        · rw [if_pos (by rw [q]), if_pos (by rw [q])]
          exact AG.same h0 rfl _
        · rw [if_neg (by rw [nJ_eq (by omega) (by omega)]; exact q), if_neg (by rw [nJ_eq (by omega) (by omega)]; exact q)]
          rcases ready_both h0 ho hL0 rfl with ⟨τ, υ, L1, t1, t2, t3, t4, t5, t6, t7, t8, t9⟩ | ⟨τ, υ, t1, t2, t3, t4⟩
          · rw [t1, t2, Option.bind_some, Option.bind_some, if_pos rfl, if_neg nz2]
            have G := t5.2.2.2.2.1
            rw [← t7] at t
            obtain ⟨e1, e2, e3, e4⟩ := em_pre G hi
            have h1000 := (G.2.1 i hi).1
            have hroom : (pds L1 (tE (c_M τ) i (bf (sz (c_M τ) i)) ++ [17 + i / 4])).length ≤ 15 := by
              refine Nat.le_trans (pds_room (U := [25, 17 + i / 4]) L1 (fun x hx => ?_)) (by show L1.length + 2 ≤ 15; omega)
              rcases List.mem_append.mp hx with z | z
              · rw [tE_25 z]; simp
              · rw [List.mem_singleton.mp z]; simp
            obtain ⟨τ1, a1, a2, a3⟩ := C_empty t5.1 hi h1000 e1 e2 e3 hroom
            obtain ⟨υ1, b1, b2, b3⟩ := R_rel t5.2.1 hi h1000 e1 e2 e3 e4 (pds_l hroom)
            obtain ⟨υ2, d1, d2, d3⟩ := R_clear b2 hi (show 2 + 14 = 16 by omega) (by omega) (pds_r (T' := [17 + i / 4]) hroom)
            rw [a1, b1, Option.bind_some, Option.bind_some, d1, Option.bind_some]
            have Gn := Good_em G hi (show 2 ≤ 2 by omega) (Or.inr ⟨rfl, t⟩)
            have ez : 1088 + 16 * i + 2 = 1090 + 16 * i := by omega
            rw [ez] at Gn d2
            have hcb := (CB_em e1 e2 (bf_le h1000)).tr (CB_zr (M := emB (c_M τ) i (bf (sz (c_M τ) i))) (k := 2) (n := 14) hi (by omega))
            rw [ez] at hcb
            have d2 : RM υ2 (zr (emB (c_M τ) i (bf (sz (c_M τ) i))) (1090 + 16 * i) 14) (pds L1 (tE (c_M τ) i (bf (sz (c_M τ) i)) ++ [17 + i / 4])) := by
              rw [pds_app]; exact d2
            refine AG.same (IV_fin t3 t4 t5 Gn (fun x hx => ?_) hcb hroom a2 a3 d2 (b3.tr d3)) (by rw [d3.1, b3.1]; exact t9) _
            rcases List.mem_append.mp hx with z | z
            · rw [tE_25 z]; omega
            · rw [List.mem_singleton.mp z]; omega
          · rw [t1, t2, Option.bind_some, Option.bind_some, if_neg n20, if_pos rfl]
            exact AG.fail t3 t4 _ _
      · rw [if_neg t, if_neg t]
        exact AG.same h0 rfl _
  · obtain ⟨p1, p2⟩ := pw_off h ho
    rw [p1, p2, Option.bind_some, nJ_bs, if_neg n10, if_neg nz2]
    exact AG.off h _ _
