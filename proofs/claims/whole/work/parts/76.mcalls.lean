/-! The calls make and link answer alike. Own rows. -/
/-- a directory has whole entries -/
theorem dir_s {M : By} (G : Good M) {d : Nat} (hd : d < 32) (ht : ty M d = 2) : sz M d = 8 * (sz M d / 8) := by
  have := (G.2.2 d hd ht).1
  omega
/-- may it be entered: both say the same -/
theorem enter_may {σ : CS} {ρ : RS} {M : By} {L : List Nat} (m : CM σ M L) (m2 : RM ρ M L) (G : Good M) (a1 : Int32) {x : Int64} (hx : vn x) (hN : ∀ k, k < 8 → r_N ρ k = b8 (nb x k)) :
    (J_Volume_canEnter σ a1 x = some (nI 0) ∧ J_Model_is ρ a1 (nI 2) = some (nI 0)) ∨ ∃ d, d < 32 ∧ a1 = nI d ∧ ty M d = 2 ∧ J_Model_is ρ a1 (nI 2) = some (nI 1) ∧ J_Volume_canEnter σ a1 x = some (nI (if cE M d x (sz M d / 8) then 1 else 0)) ∧ J_Model_mayEnter ρ a1 = some (nI (if cE M d x (sz M d / 8) then 1 else 0)) := by
  rcases i_in a1 with ⟨q1, q2⟩ | ⟨d, hd, rfl⟩
  · exact Or.inl ⟨C_ce_dir (C_dir_out q1), R_is_out q2 _⟩
  · have e := R_is m2 hd (show 2 < 256 by omega)
    by_cases t : ty M d = 2
    · rw [if_pos t] at e
      have hs := dir_s G hd t
      exact Or.inr ⟨d, hd, rfl, t, e, C_ce m G hd t hs hx, R_me m2 G hd t hs hx hN⟩
    · rw [if_neg t] at e
      have e2 := C_dir m hd
      rw [if_neg t] at e2
      exact Or.inl ⟨C_ce_dir e2, e⟩
theorem C_ce_bad {σ : CS} {M : By} {L : List Nat} (m : CM σ M L) (a1 : Int32) {x : Int64} (hx : ¬ vn x) : J_Volume_canEnter σ a1 x = some (nI 0) := by
  rcases i_in a1 with ⟨q1, q2⟩ | ⟨d, hd, rfl⟩
  · exact C_ce_dir (C_dir_out q1)
  · exact C_ce_name m hd hx
/-- the entry is written by both; before it inode j has got other bytes -/
theorem enter_both {σ σ1 : CS} {ρ ρ1 : RS} {L : List Nat} {N : By} (h : IV σ ρ) (ho : c_o σ = nI 0) (hL : OnL σ ρ L) (hl : L.length ≤ 10) {d j : Nat} {x : Int64} (hd : d < 32) (hj : j < 32) (td : ty (c_M σ) d = 2) (hx : vn x) (hN : ∀ k, k < 8 → r_N ρ k = b8 (nb x k))
    (hh : HD (c_M σ) N) (GN : Good N) (tN : ty N d = 2) (sN : sz N d = sz (c_M σ) d) (hcb : CB (c_M σ) N [17 + j / 4]) (c : cE (c_M σ) d x (sz (c_M σ) d / 8)) (m1 : CM σ1 N (pd L (17 + j / 4))) (k1 : cK σ σ1) (m2 : RM ρ1 N (pd L (17 + j / 4))) (k2 : rK ρ ρ1) :
    ∃ τ υ E, J_Volume_placeForEntry σ1 (nI d) = some (nI (8 * fi (pE N d) (sz (c_M σ) d / 8) 0)) ∧ J_LogFs_entryOf (nI j) x = some E ∧ J_Volume_putLong σ1 (nI d) (nI (8 * fi (pE N d) (sz (c_M σ) d / 8) 0)) E (nI 8) = some τ ∧ J_Model_enter ρ1 (nI d) (nI j) = some υ ∧ IV τ υ ∧ r_t υ = r_t ρ := by
  have G := hL.2.2.2.2.1
  have hs := dir_s G hd td
  have hsN : sz N d = 8 * (sz (c_M σ) d / 8) := by rw [sN]; exact hs
  have cN : cE N d x (sz (c_M σ) d / 8) := hh.cE G hd hs sN c
  obtain ⟨c1, c2, c3⟩ := id cN
  have hfi := fi_le (pE N d) (sz (c_M σ) d / 8) 0
  obtain ⟨h1, R⟩ := run_all (f := fE j x) GN hd (show 8 * fi (pE N d) (sz (c_M σ) d / 8) 0 ≤ sz N d by omega) c2 (show 0 < 8 by omega) (by omega) c3
  have hroom0 := room_dir R (by omega) (17 + j / 4) L
  have hroom : (pds (pd L (17 + j / 4)) (Tn d (8 * fi (pE N d) (sz (c_M σ) d / 8) 0) (fE j x) 8 0 N ++ tG (pn d (8 * fi (pE N d) (sz (c_M σ) d / 8) 0) (fE j x) 8 0 N) d (8 * fi (pE N d) (sz (c_M σ) d / 8) 0 + 8))).length ≤ 15 := Nat.le_trans hroom0 (by omega)
  obtain ⟨E, e1, e2⟩ := C_eo hj x
  have pc := pn_congr (i := d) (a := 8 * fi (pE N d) (sz (c_M σ) d / 8) 0) (f := nb E) (g := fE j x) 8 0 N (fun k _ hk => e2 k (by omega))
  have ha := aN_congr (g := nb E) 8 0 N (fun k _ hk => (e2 k (by omega)).symm) (aN_mono (fun M p q => q.1) _ _ _ h1)
  have hc := C_long m1 hd c2 (show 8 ≤ 8 by omega) ha (by rw [pc.1, pc.2]; exact hroom)
  rw [pc.1, pc.2] at hc
  obtain ⟨τ, a1, a2, a3⟩ := hc
  obtain ⟨υ, b1, b2, b3⟩ := R_enter m2 GN hd hj hsN (x := x) (fun k hk => by rw [k2.2.2.2.2.2.2.2.1]; exact hN k hk) rfl c2 c3 hroom
  refine ⟨τ, υ, E, C_pfe m1 GN hd tN hsN, e1, a1, b1, ?_, by rw [b3.1, k2.1]⟩
  have Gf := run_dir GN hd hj tN hsN hx cN R
  obtain ⟨-, -, -, -, r5, r6, -⟩ := R
  have ep : ∀ T, pds (pd L (17 + j / 4)) T = pds L ((17 + j / 4) :: T) := fun T => rfl
  rw [ep] at a2 b2 hroom
  refine IV_fin h ho hL Gf (fun y hy => ?_) (hcb.tr r5) hroom a2 (k1.tr a3) b2 (k2.tr b3)
  rcases List.mem_cons.mp hy with z | z
  · rw [z]; omega
  · exact r6 y z
theorem C_begin {σ : CS} {M : By} {L : List Nat} (m : CM σ M L) {i t : Nat} (hi : i < 32) (hL : (pd L (17 + i / 4)).length ≤ 15) : CT (J_Volume_begin σ (nI i) (nI t)) σ (bg M i t) (pd L (17 + i / 4)) := by
  unfold J_Volume_begin
  rw [nL_0, nL_1]
  refine (C_si m hi (by omega) t hL).bd (fun τ T => ?_)
  have := C_si T hi (show 1 < 16 by omega) 1 (by rw [pd_pd]; exact hL)
  rw [pd_pd] at this
  exact this.bd (fun υ U => CT.id U)
theorem AG_make {σ : CS} {ρ : RS} (h : IV σ ρ) (a1 : Int32) (x : Int64) (a3 : Int32) : AG (J_LogFs_make σ a1 x a3) (J_Model_make ρ a1 x a3) := by
  unfold J_LogFs_make J_Model_make
  rw [nL_0, nL_1, nL_2]
  rcases h.cs with ⟨ho, L, hL⟩ | ho
  · obtain ⟨p1, p2⟩ := pw_on h ho
    rw [p1, p2, Option.bind_some, nJ_bs, if_pos rfl, if_pos rfl, C_lfi hL.1, nJ_bs]
    have G := hL.2.2.2.2.1
    by_cases vx : vn x
    · obtain ⟨N, n1, n2⟩ := R_name (q_t ρ (nI 0)) x vx
      have h0 : IV σ (q_N (q_t ρ (nI 0)) N) := h
      have hL0 : OnL σ (q_N (q_t ρ (nI 0)) N) L := hL
      rw [n1, nJ_bs, if_neg nz2]
      rcases enter_may hL0.1 hL0.2.1 G a1 vx n2 with ⟨e1, e2⟩ | ⟨d, hd, rfl, td, e1, e2, e3⟩
      · rw [e2, nJ_bs, if_pos rfl]
        by_cases q : (if lfi (c_M σ) < 32 then nI (lfi (c_M σ)) else nM) = -nI 1
        · rw [if_pos q]; exact AG.same h0 rfl _
        · rw [if_neg q, e1, nJ_bs, if_pos rfl]; exact AG.same h0 rfl _
      · rw [e1, nJ_bs, if_neg nz2, e3, nJ_bs, nJ_ifz]
        by_cases c : cE (c_M σ) d x (sz (c_M σ) d / 8)
        · rw [if_pos c, R_lfi hL0.2.1, nJ_bs]
          by_cases q : lfi (c_M σ) < 32
          · rw [if_pos q, if_neg (show ¬ nI (lfi (c_M σ)) = -nI 1 by rw [nJ_m1, nM_eq (by omega)]; exact id), e2, nJ_bs, nJ_ifz, if_pos c, if_pos (show nI 0 ≤ nI (lfi (c_M σ)) by rw [nJ_le (by omega) (by omega)]; omega)]
            rcases ready_both h0 ho hL0 rfl with ⟨τ, υ, L1, t1, t2, t3, t4, t5, t6, t7, t8, t9⟩ | ⟨τ, υ, t1, t2, t3, t4⟩
            · rw [t1, t2, Option.bind_some, Option.bind_some, if_pos rfl, if_neg nz2, R_lfi t5.2.1, nJ_bs, t7, if_pos q]
              have key : ∀ t, t = 1 ∨ t = 2 → AG (J_LogFs_make_53 τ (nI d) x (nI (lfi (c_M σ))) (nI t) (nI (lfi (c_M σ)))) (J_Model_make_72 υ (nI d) (nI (lfi (c_M σ))) (nI t) (nI 0) (nI (lfi (c_M σ)))) := by
                intro t ht
                rw [← t7] at q td c ⊢
                have G1 := t5.2.2.2.2.1
                have f0 := lfi_free q
                have hdj : d ≠ lfi (c_M τ) := fun z => by rw [z] at td; omega
                have hroom : (pd L1 (17 + lfi (c_M τ) / 4)).length ≤ 15 := Nat.le_trans (pds_room (U := [17 + lfi (c_M τ) / 4]) (T := [17 + lfi (c_M τ) / 4]) L1 (fun x hx => hx)) (by show L1.length + 1 ≤ 15; omega)
                obtain ⟨σ1, s1, s2, s3⟩ := C_begin t5.1 (t := t) q hroom
                obtain ⟨ρ1, r1, r2, r3⟩ := R_si t5.2.1 q (show 0 < 16 by omega) t hroom
                obtain ⟨ρ2, w1, w2, w3⟩ := R_si r2 q (show 1 < 16 by omega) 1 (by rw [pd_pd]; exact hroom)
                rw [pd_pd] at w2
                have tyd : ty (bg (c_M τ) (lfi (c_M τ)) t) d = 2 := by rw [bg_ty (by omega), if_neg hdj]; exact td
                obtain ⟨τ2, υ2, E, y1, y2, y3, y4, y5, y6⟩ := enter_both t3 t4 t5 t6 hd q td vx (fun k hk => by rw [t8]; exact n2 k hk) (bg_hd q) (Good_bg G1 q f0 ht) tyd bg_sz (bg_cb q) c s2 s3 w2 (r3.tr w3)
                unfold J_LogFs_make_53 J_Model_make_72
                rw [s1, r1, nJ_bs, nJ_bs, nL_1, w1, nJ_bs, y1, nJ_bs, y2, nJ_bs, nL_8, y3, nJ_bs, y4, nJ_bs]
                exact AG.same y5 (by rw [y6]; exact t9) _
              by_cases z : a3 = nI 0
              · rw [if_pos z, if_pos z]; exact key 1 (Or.inl rfl)
              · rw [if_neg z, if_neg z]; exact key 2 (Or.inr rfl)
            · rw [t1, t2, Option.bind_some, Option.bind_some, if_neg n20, if_pos rfl]
              exact AG.fail t3 t4 _ _
          · rw [if_neg q, if_pos (show nM = -nI 1 from rfl), if_neg (show ¬ nI 0 ≤ nM by decide)]
            exact AG.same h0 rfl _
        · rw [if_neg c]
          by_cases q : (if lfi (c_M σ) < 32 then nI (lfi (c_M σ)) else nM) = -nI 1
          · rw [if_pos q]; exact AG.same h0 rfl _
          · rw [if_neg q, e2, nJ_bs, nJ_ifz, if_neg c]; exact AG.same h0 rfl _
    · obtain ⟨N, n1⟩ := R_name_no (q_t ρ (nI 0)) x vx
      have h0 : IV σ (q_N (q_t ρ (nI 0)) N) := h
      rw [n1, nJ_bs, if_pos rfl]
      by_cases q : (if lfi (c_M σ) < 32 then nI (lfi (c_M σ)) else nM) = -nI 1
      · rw [if_pos q]; exact AG.same h0 rfl _
      · rw [if_neg q, C_ce_bad hL.1 a1 vx, nJ_bs, if_pos rfl]; exact AG.same h0 rfl _
  · obtain ⟨p1, p2⟩ := pw_off h ho
    rw [p1, p2, Option.bind_some, nJ_bs, if_neg n10, if_neg nz2]
    exact AG.off h _ _
theorem C_addl {σ : CS} {M : By} {L : List Nat} (m : CM σ M L) {i : Nat} (hi : i < 32) (hL : (pd L (17 + i / 4)).length ≤ 15) : CT (J_Volume_addLink σ (nI i)) σ (nl M i (ln M i + 1)) (pd L (17 + i / 4)) := by
  unfold J_Volume_addLink
  rw [C_ln m hi, nJ_bs, nL_1, nI_add]
  have := C_si m hi (show 1 < 16 by omega) (ln M i + 1) hL
  rw [show 1088 + 16 * i + 1 = 1089 + 16 * i by omega] at this
  exact this.bd (fun τ t => CT.id t)
theorem AG_link {σ : CS} {ρ : RS} (h : IV σ ρ) (a1 : Int32) (x : Int64) (a3 : Int32) : AG (J_LogFs_link σ a1 x a3) (J_Model_link ρ a1 x a3) := by
  unfold J_LogFs_link J_Model_link
  rw [nL_0, nL_1, nL_2, nL_200]
  rcases h.cs with ⟨ho, L, hL⟩ | ho
  · obtain ⟨p1, p2⟩ := pw_on h ho
    rw [p1, p2, Option.bind_some, nJ_bs, if_pos rfl, if_pos rfl]
    have G := hL.2.2.2.2.1
    by_cases vx : vn x
    · obtain ⟨N, n1, n2⟩ := R_name (q_t ρ (nI 0)) x vx
      have h0 : IV σ (q_N (q_t ρ (nI 0)) N) := h
      have hL0 : OnL σ (q_N (q_t ρ (nI 0)) N) L := hL
      rw [n1, nJ_bs, if_neg nz2]
      rcases i_in a3 with ⟨z1, z2⟩ | ⟨i, hi, rfl⟩
      · rw [C_file_out z1, nJ_bs, if_pos rfl, R_is_out z2]
        rcases enter_may hL0.1 hL0.2.1 G a1 vx n2 with ⟨e1, e2⟩ | ⟨d, hd, rfl, td, e1, e2, e3⟩
        · rw [e2, nJ_bs, if_pos rfl]; exact AG.same h0 rfl _
        · rw [e1, nJ_bs, if_neg nz2, nJ_bs, if_pos rfl]; exact AG.same h0 rfl _
      · have hln := ln_lt (c_M σ) i
        have hl200 := (G.2.1 i hi).2.1
        rw [C_file hL.1 hi, nJ_bs, nJ_ifz, R_is hL0.2.1 hi (show 1 < 256 by omega), C_ln hL.1 hi, nJ_bs, R_ln hL0.2.1 hi]
        rcases enter_may hL0.1 hL0.2.1 G a1 vx n2 with ⟨e1, e2⟩ | ⟨d, hd, rfl, td, e1, e2, e3⟩
        · rw [e2, nJ_bs, if_pos rfl, e1, nJ_bs, if_pos rfl]
          by_cases t : ty (c_M σ) i = 1
          · rw [if_pos t]
            by_cases q : nI 200 ≤ nI (ln (c_M σ) i)
            · rw [if_pos q]; exact AG.same h0 rfl _
            · rw [if_neg q]; exact AG.same h0 rfl _
          · rw [if_neg t]; exact AG.same h0 rfl _
        · rw [e1, nJ_bs, if_neg nz2, nJ_bs, nJ_ifz, e2, nJ_bs, nJ_ifz, e3, nJ_bs, nJ_ifz, nJ_bs]
          by_cases t : ty (c_M σ) i = 1
          · rw [if_pos t, if_pos t]
            by_cases c : cE (c_M σ) d x (sz (c_M σ) d / 8)
            · rw [if_pos c, if_pos c]
              by_cases q : ln (c_M σ) i = 200
              · rw [if_pos (show nI 200 ≤ nI (ln (c_M σ) i) by rw [q]; decide), if_pos (show nI (ln (c_M σ) i) = nI 200 by rw [q])]
                exact AG.same h0 rfl _
              · rw [if_neg (show ¬ nI 200 ≤ nI (ln (c_M σ) i) by rw [nJ_le (by omega) (by omega)]; omega), if_neg (show ¬ nI (ln (c_M σ) i) = nI 200 by rw [nJ_eq (by omega) (by omega)]; exact q)]
                rcases ready_both h0 ho hL0 rfl with ⟨τ, υ, L1, t1, t2, t3, t4, t5, t6, t7, t8, t9⟩ | ⟨τ, υ, t1, t2, t3, t4⟩
                · rw [t1, t2, Option.bind_some, Option.bind_some, if_pos rfl, if_neg nz2]
                  rw [← t7] at t td c q hl200 hln
                  have G1 := t5.2.2.2.2.1
                  have hroom : (pd L1 (17 + i / 4)).length ≤ 15 := Nat.le_trans (pds_room (U := [17 + i / 4]) (T := [17 + i / 4]) L1 (fun x hx => hx)) (by show L1.length + 1 ≤ 15; omega)
                  obtain ⟨σ1, s1, s2, s3⟩ := C_addl t5.1 hi hroom
                  have rr := R_si t5.2.1 hi (show 1 < 16 by omega) (ln (c_M τ) i + 1) hroom
                  rw [show 1088 + 16 * i + 1 = 1089 + 16 * i by omega] at rr
                  obtain ⟨ρ1, r1, r2, r3⟩ := rr
                  obtain ⟨τ2, υ2, E, y1, y2, y3, y4, y5, y6⟩ := enter_both t3 t4 t5 t6 hd hi td vx (fun k hk => by rw [t8]; exact n2 k hk) (nl_hd hi) (Good_nl G1 hi (show ln (c_M τ) i + 1 ≤ 200 by omega)) (by rw [nl_ty]; exact td) nl_sz (nl_cb hi) c s2 s3 r2 r3
                  rw [s1, R_ln t5.2.1 hi, nJ_bs, nJ_bs, nI_add, r1, nJ_bs, y1, nJ_bs, y2, nJ_bs, nL_8, y3, nJ_bs, y4, nJ_bs]
                  exact AG.same y5 (by rw [y6]; exact t9) _
                · rw [t1, t2, Option.bind_some, Option.bind_some, if_neg n20, if_pos rfl]
                  exact AG.fail t3 t4 _ _
            · rw [if_neg c, if_neg c]
              by_cases q : nI 200 ≤ nI (ln (c_M σ) i)
              · rw [if_pos q]; exact AG.same h0 rfl _
              · rw [if_neg q]; exact AG.same h0 rfl _
          · rw [if_neg t, if_neg t]; exact AG.same h0 rfl _
    · obtain ⟨N, n1⟩ := R_name_no (q_t ρ (nI 0)) x vx
      have h0 : IV σ (q_N (q_t ρ (nI 0)) N) := h
      rw [n1, nJ_bs, if_pos rfl, C_ce_bad hL.1 a1 vx, nJ_bs, if_pos rfl]
      rcases i_in a3 with ⟨z1, z2⟩ | ⟨i, hi, rfl⟩
      · rw [C_file_out z1, nJ_bs, if_pos rfl]; exact AG.same h0 rfl _
      · rw [C_file hL.1 hi, nJ_bs, nJ_ifz, C_ln hL.1 hi, nJ_bs]
        by_cases t : ty (c_M σ) i = 1
        · rw [if_pos t]
          by_cases q : nI 200 ≤ nI (ln (c_M σ) i)
          · rw [if_pos q]; exact AG.same h0 rfl _
          · rw [if_neg q]; exact AG.same h0 rfl _
        · rw [if_neg t]; exact AG.same h0 rfl _
  · obtain ⟨p1, p2⟩ := pw_off h ho
    rw [p1, p2, Option.bind_some, nJ_bs, if_neg n10, if_neg nz2]
    exact AG.off h _ _
