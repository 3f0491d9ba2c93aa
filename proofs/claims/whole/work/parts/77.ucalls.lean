/-! The calls unlink and find answer alike. Own rows. -/
theorem C_po_dir {σ : CS} {a : Int32} {x : Int64} (h : J_Volume_isDirectory σ a = some (nI 0)) : J_Volume_placeOf σ a x = some nM := by
  unfold J_Volume_placeOf
  rw [h, nJ_bs, nL_0, if_pos rfl]
  rfl
theorem C_po_bad {σ : CS} {M : By} {L : List Nat} (m : CM σ M L) (a : Int32) {x : Int64} (hx : ¬ vn x) : J_Volume_placeOf σ a x = some nM := by
  rcases i_in a with ⟨q1, q2⟩ | ⟨d, hd, rfl⟩
  · exact C_po_dir (C_dir_out q1)
  · unfold J_Volume_placeOf
    rw [C_dir m hd, nJ_bs, nL_0, nJ_ifz, C_name_no x hx, nJ_bs, if_pos rfl]
    split <;> rfl
/-- where the entry is: both say the same -/
theorem place_both {σ : CS} {ρ : RS} {M : By} {L : List Nat} (m : CM σ M L) (m2 : RM ρ M L) (G : Good M) (a1 : Int32) {x : Int64} (hx : vn x) (hN : ∀ k, k < 8 → r_N ρ k = b8 (nb x k)) :
    (J_Volume_placeOf σ a1 x = some nM ∧ J_Model_is ρ a1 (nI 2) = some (nI 0)) ∨ (J_Volume_placeOf σ a1 x = some nM ∧ J_Model_is ρ a1 (nI 2) = some (nI 1) ∧ J_Model_findEntry ρ a1 = some nM) ∨
    ∃ d s e, d < 32 ∧ a1 = nI d ∧ ty M d = 2 ∧ sz M d = 8 * s ∧ e < s ∧ eN M d x e ∧ J_Volume_placeOf σ a1 x = some (nI (8 * e)) ∧ J_Model_is ρ a1 (nI 2) = some (nI 1) ∧ J_Model_findEntry ρ a1 = some (nI (8 * e)) := by
  rcases i_in a1 with ⟨q1, q2⟩ | ⟨d, hd, rfl⟩
  · exact Or.inl ⟨C_po_dir (C_dir_out q1), R_is_out q2 _⟩
  · have e := R_is m2 hd (show 2 < 256 by omega)
    by_cases t : ty M d = 2
    · rw [if_pos t] at e
      have hs := dir_s G hd t
      have e1 := C_po m G hd t hs hx
      have e2 := R_fe m2 G hd t hs hx hN
      by_cases q : fi (pN M d x) (sz M d / 8) 0 < sz M d / 8
      · rw [if_pos q] at e1 e2
        have := fi_at (pN M d x) (sz M d / 8) 0 (by omega)
        exact Or.inr (Or.inr ⟨d, sz M d / 8, _, hd, rfl, t, hs, q, (pN_eq M d x _).mp this, e1, e, e2⟩)
      · rw [if_neg q] at e1 e2
        exact Or.inr (Or.inl ⟨e1, e, e2⟩)
    · rw [if_neg t] at e
      have e2 := C_dir m hd
      rw [if_neg t] at e2
      exact Or.inl ⟨C_po_dir e2, e⟩
/-- answers of calls that change nothing -/
def AQ (x : Option (Nat × Int32)) (σ : CS) (y : Option (Int32 × RS)) (E : Nat → Int32 → Prop) : Prop := ∃ e a b υ, x = some (e, a) ∧ y = some (b, υ) ∧ IV σ υ ∧ E e (r_t υ) ∧ (e = 0 → a = b)
theorem AQ.same {σ : CS} {ρ : RS} {E : Nat → Int32 → Prop} (h : IV σ ρ) (a : Int32) (hE : E 0 (r_t ρ)) : AQ (some (0, a)) σ (some (a, ρ)) E := ⟨0, a, a, ρ, rfl, rfl, h, hE, fun _ => rfl⟩
def E1 (e : Nat) (t : Int32) : Prop := (e = 0 ∧ t = nI 0) ∨ (e = 1 ∧ t = nI 1)
def E3 (e : Nat) (t : Int32) : Prop := (e = 0 ∧ t = nI 0) ∨ (e = 1 ∧ t = nI 1) ∨ (e = 3 ∧ t = nI 2)
def ED (e : Nat) (t : Int32) : Prop := (e = 0 ∧ t = nI 0) ∨ (e = 3 ∧ t = nI 1)
theorem AQ_find {σ : CS} {ρ : RS} (h : IV σ ρ) (a1 : Int32) (x : Int64) : AQ (J_LogFs_find σ a1 x) σ (J_Model_find ρ a1 x) E1 := by
  unfold J_LogFs_find J_Model_find
  rw [nL_0, nL_1, nL_2]
  rcases h.cs with ⟨ho, L, hL⟩ | ho
  · obtain ⟨p1, p2⟩ := pw_on h ho
    rw [p1, p2, Option.bind_some, nJ_bs, if_pos rfl, if_pos rfl]
    have G := hL.2.2.2.2.1
    by_cases vx : vn x
    · obtain ⟨N, n1, n2⟩ := R_name (q_t ρ (nI 0)) x vx
      have h0 : IV σ (q_N (q_t ρ (nI 0)) N) := h
      have hL0 : OnL σ (q_N (q_t ρ (nI 0)) N) L := hL
      rw [n1, nJ_bs, if_neg nz2]
      rcases place_both hL0.1 hL0.2.1 G a1 vx n2 with ⟨e1, e2⟩ | ⟨e1, e2, e3⟩ | ⟨d, s, e, hd, rfl, t, hs, he, hen, e1, e2, e3⟩
      · rw [e1, e2, nJ_bs, nJ_bs, if_pos rfl, if_pos (show nM = -nI 1 from rfl)]
        exact AQ.same h0 _ (Or.inl ⟨rfl, rfl⟩)
      · rw [e1, e2, nJ_bs, nJ_bs, if_neg nz2, e3, nJ_bs, if_neg (show ¬ nI 0 ≤ nM by decide), if_pos (show nM = -nI 1 from rfl)]
        exact AQ.same h0 _ (Or.inl ⟨rfl, rfl⟩)
      · have h1000 := (G.2.1 d hd).1
        have hc := ct_lt (c_M σ) d (8 * e)
        have hen0 := hen.1
        rw [e1, e2, nJ_bs, nJ_bs, if_neg nz2, e3, nJ_bs, if_pos (show nI 0 ≤ nI (8 * e) by rw [nJ_le (by omega) (by omega)]; omega), if_neg (show ¬ nI (8 * e) = -nI 1 by rw [nJ_m1, nM_eq (by omega)]; exact id), C_ia hL.1 G hd (by omega) (by omega) hen0, nJ_bs, RG_ct hL0.2.1 G hd (by omega), nJ_bs, nJ_sub (by omega) (by omega)]
        exact AQ.same h0 _ (Or.inl ⟨rfl, rfl⟩)
    · obtain ⟨N, n1⟩ := R_name_no (q_t ρ (nI 0)) x vx
      have h0 : IV σ (q_N (q_t ρ (nI 0)) N) := h
      rw [n1, nJ_bs, if_pos rfl, C_po_bad hL.1 a1 vx, nJ_bs, if_pos (show nM = -nI 1 from rfl)]
      exact AQ.same h0 _ (Or.inl ⟨rfl, rfl⟩)
  · obtain ⟨p1, p2⟩ := pw_off h ho
    rw [p1, p2, Option.bind_some, nJ_bs, if_neg n10, if_neg nz2]
    exact ⟨1, _, _, _, rfl, rfl, h, Or.inr ⟨rfl, rfl⟩, fun z => absurd z (by decide)⟩
/-- the end of the reference's unlink -/
def J_ulE (σ : RS) (v5 : Int32) : Option (Int32 × RS) := (J_Model_inodeAt σ v5 (1 : Int32)).bind fun x16 => (if x16 ≤ (1 : Int32) then (J_Model_release σ v5).bind fun x18 => (J_Model_clear x18 v5 (0 : Int32)).bind fun x19 => some ((1 : Int32), x19) else (J_Model_inodeAt σ v5 (1 : Int32)).bind fun x20 => (J_Model_setInode σ v5 (1 : Int32) (x20 - (1 : Int32))).bind fun x21 => some ((1 : Int32), x21))
theorem R_ul0 {d p b : Nat} {j : Int32} (hp : p < 1000) (hp8 : p % 8 = 0) : ∀ (dd n v : Nat) (σ : RS) (M : By) (L : List Nat), RM σ M L → (pd L b).length ≤ 15 → v + dd = 8 → dd < n → aN (fun M q => cbk M d (q / 64) = b ∧ b ≠ 0 ∧ b < 128) d p (fun _ => 0) dd v M →
    ∃ τ, J_Model_unlink_96 n σ (nI p) j (nI b) (nI v) = J_ulE τ j ∧ RM τ (pn d p (fun _ => 0) dd v M) (if dd = 0 then L else pd L b) ∧ rK σ τ := by
  intro dd
  induction dd with
  | zero =>
    intro n v σ M L m hL hv hn ho
    obtain ⟨n, rfl⟩ : ∃ k, n = k + 1 := ⟨n - 1, by omega⟩
    refine ⟨σ, ?_, m, rK.rf σ⟩
    show J_Model_unlink_96_b _ σ (nI p) j (nI b) (nI v) = _
    unfold J_Model_unlink_96_b
    rw [nL_8, if_pos (by rw [nJ_le (by omega) (by omega)]; omega)]
    rfl
  | succ dd ih =>
    intro n v σ M L m hL hv hn ho
    obtain ⟨n, rfl⟩ : ∃ k, n = k + 1 := ⟨n - 1, by omega⟩
    obtain ⟨⟨o1, o2, o3⟩, o4⟩ := ho
    have em : m1 M d ((p + v) / 64) = M := if_neg (by omega)
    have ep : p1 M d (p + v) 0 = va_up M (64 * b + (p % 64 + v)) (b8 0) := by
      unfold p1
      rw [em, o1, show (p + v) % 64 = p % 64 + v by omega]
    obtain ⟨τ, e1, t, kt⟩ := R_set m o3 (show p % 64 + v < 64 by omega) 0 hL
    rw [← ep] at t
    obtain ⟨υ, u1, u2, u3⟩ := ih n (v + 1) τ _ _ t (by rw [pd_pd]; exact hL) (by omega) (by omega) o4
    refine ⟨υ, ?_, ?_, kt.tr u3⟩
    · show J_Model_unlink_96_b _ σ (nI p) j (nI b) (nI v) = _
      unfold J_Model_unlink_96_b
      rw [nL_8, if_neg (by rw [nJ_le (by omega) (by omega)]; omega), nL_64, nJ_div (by omega) (by omega), nJ_mul, nJ_sub (by omega) (by omega), nJ_md, nI_add, nL_0, e1, nJ_bs, nL_1, nI_add]
      exact u1
    · rw [pd_pd, show (if dd = 0 then pd L b else pd L b) = pd L b by split <;> rfl] at u2
      exact u2
theorem nb_0 (k : Nat) : nb (0 : Int64) k = 0 := by
  unfold nb
  rw [show (0 : Int64).toBitVec.toNat = 0 from rfl, Nat.zero_div]
theorem CB.sub {M N : By} {T T' : List Nat} (h : CB M N T) (hs : ∀ x ∈ T, x ∈ T') : CB M N T' := fun a ha => h a (fun z => ha (hs _ z))
/-- the entry's inode loses a link, or goes -/
theorem drop_both {σ σ1 : CS} {ρ ρ1 : RS} {L : List Nat} {N : By} {b j : Nat} (h : IV σ ρ) (ho : c_o σ = nI 0) (hL : OnL σ ρ L) (hl : L.length ≤ 10) (ht : r_t ρ = nI 0) (hb : 17 ≤ b ∧ b < 128) (hj : j < 32) (GN : Good N) (hcb : CB (c_M σ) N [b]) (m1 : CM σ1 N (pd L b)) (k1 : cK σ σ1) (m2 : RM ρ1 N (pd L b)) (k2 : rK ρ ρ1) :
    AG ((J_Volume_dropLink σ1 (nI j)).bind fun τ => some (0, nI 1, τ)) (J_ulE ρ1 (nI j)) := by
  have hln := ln_lt N j
  have hl200 := (GN.2.1 j hj).2.1
  unfold J_ulE
  rw [nL_0, nL_1, R_ln m2 hj, nJ_bs]
  by_cases q : ln N j ≤ 1
  · obtain ⟨e1, e2, e3, e4⟩ := em_pre GN hj
    have h1000 := (GN.2.1 j hj).1
    have hroom0 : (pds L ([b] ++ (tE N j (bf (sz N j)) ++ [17 + j / 4]))).length ≤ 15 := by
      refine Nat.le_trans (pds_room (U := [b, 25, 17 + j / 4]) L (fun x hx => ?_)) (by show L.length + 3 ≤ 15; omega)
      rcases List.mem_append.mp hx with z | z
      · rw [List.mem_singleton.mp z]; simp
      · rcases List.mem_append.mp z with z | z
        · rw [tE_25 z]; simp
        · rw [List.mem_singleton.mp z]; simp
    have hroom : (pds (pd L b) (tE N j (bf (sz N j)) ++ [17 + j / 4])).length ≤ 15 := hroom0
    rw [if_pos (by rw [nJ_le (by omega) (by omega)]; exact q)]
    obtain ⟨τ1, a1, a2, a3⟩ := C_drop0 m1 hj q h1000 e1 e2 e3 hroom
    obtain ⟨υ1, b1, b2, b3⟩ := R_rel m2 hj h1000 e1 e2 e3 e4 (pds_l hroom)
    obtain ⟨υ2, d1, d2, d3⟩ := R_clear b2 hj (show 0 + 16 = 16 by omega) (by omega) (pds_r (T' := [17 + j / 4]) hroom)
    rw [a1, b1, Option.bind_some, Option.bind_some, d1, Option.bind_some]
    have Gn := Good_em GN hj (show 0 ≤ 2 by omega) (Or.inl rfl)
    have hcb2 := (CB_em e1 e2 (bf_le h1000)).tr (CB_zr (M := emB N j (bf (sz N j))) (k := 0) (n := 16) hj (by omega))
    rw [Nat.add_zero] at Gn d2 hcb2
    have d2 : RM υ2 (zr (emB N j (bf (sz N j))) (1088 + 16 * j) 16) (pds (pd L b) (tE N j (bf (sz N j)) ++ [17 + j / 4])) := by
      rw [pds_app]; exact d2
    refine AG.same (IV_fin (T := [b] ++ (tE N j (bf (sz N j)) ++ [17 + j / 4])) h ho hL Gn (fun x hx => ?_) (hcb.tr hcb2) hroom0 a2 (k1.tr a3) d2 (k2.tr (b3.tr d3))) (by rw [d3.1, b3.1, k2.1]; exact ht) _
    rcases List.mem_append.mp hx with z | z
    · rw [List.mem_singleton.mp z]; exact hb
    · rcases List.mem_append.mp z with z | z
      · rw [tE_25 z]; omega
      · rw [List.mem_singleton.mp z]; omega
  · have hroom0 : (pds L ([b] ++ [17 + j / 4])).length ≤ 15 := Nat.le_trans (pds_room (U := [b, 17 + j / 4]) L (fun x hx => hx)) (by show L.length + 2 ≤ 15; omega)
    have hroom : (pd (pd L b) (17 + j / 4)).length ≤ 15 := hroom0
    rw [if_neg (by rw [nJ_le (by omega) (by omega)]; exact q), nJ_bs, nJ_sub (by omega) (by omega)]
    obtain ⟨τ1, a1, a2, a3⟩ := C_drop1 m1 hj q hroom
    have rr := R_si m2 hj (show 1 < 16 by omega) (ln N j - 1) hroom
    rw [show 1088 + 16 * j + 1 = 1089 + 16 * j by omega] at rr
    obtain ⟨υ1, b1, b2, b3⟩ := rr
    rw [a1, b1, Option.bind_some, Option.bind_some]
    refine AG.same (IV_fin (T := [b] ++ [17 + j / 4]) h ho hL (Good_nl GN hj (show ln N j - 1 ≤ 200 by omega)) (fun x hx => ?_) (hcb.tr (nl_cb hj)) hroom0 a2 (k1.tr a3) b2 (k2.tr b3)) (by rw [b3.1, k2.1]; exact ht) _
    rcases List.mem_append.mp hx with z | z
    · rw [List.mem_singleton.mp z]; exact hb
    · rw [List.mem_singleton.mp z]; omega
/-- the entry goes, then the link -/
theorem out_both {σ : CS} {ρ : RS} {L : List Nat} (h : IV σ ρ) (ho : c_o σ = nI 0) (hL : OnL σ ρ L) (hl : L.length ≤ 10) (ht : r_t ρ = nI 0) {d s e j : Nat} (hd : d < 32) (hj : j < 32) (td : ty (c_M σ) d = 2) (hs : sz (c_M σ) d = 8 * s) (he : e < s) :
    AG ((J_Volume_putLong σ (nI d) (nI (8 * e)) (0 : Int64) (nI 8)).bind fun x => (J_Volume_dropLink x (nI j)).bind fun τ => some (0, nI 1, τ)) ((J_Model_contentBlock ρ (nI d) (nI (8 * e) / nI 64)).bind fun x => J_Model_unlink_96 9000 ρ (nI (8 * e)) (nI j) x (nI 0)) := by
  have G := hL.2.2.2.2.1
  have h1000 := (G.2.1 d hd).1
  have hn0 : nds (c_M σ) d (8 * e + 8) ≤ fb (c_M σ) := by rw [nds_0 (by omega)]; exact Nat.zero_le _
  obtain ⟨h1, R⟩ := run_all (f := fun _ => 0) G hd (show 8 * e ≤ sz (c_M σ) d by omega) (show 8 * e + 8 ≤ 1000 by omega) (by omega) (by omega) hn0
  obtain ⟨o1, o2, -⟩ := G.own hd (show 8 * e < sz (c_M σ) d by omega)
  have g2 := G.1.2.1 d _ o1
  rw [blk_lo o2] at g2
  have hfix := pn_fix (f := fun _ => 0) hd o2 (show 8 * e / 64 < hS (c_M σ) d by unfold hS bf; omega) 8 0 _ G.gs rfl (by omega)
  have hidx := G.idx hd (show 8 * e < sz (c_M σ) d by omega)
  have szp : sz (pn d (8 * e) (fun _ => 0) 8 0 (c_M σ)) d = sz (c_M σ) d := by
    have hm : max (hS (c_M σ) d) (bf (8 * e + 0)) = hS (c_M σ) d := by unfold hS bf; omega
    have hW : WI (c_M σ) (hS (c_M σ)) d (8 * e) 8 0 := by
      refine ⟨?_, ?_⟩
      · rw [hm, up_id]; exact G.1
      · rw [hm]; exact hn0
    obtain ⟨-, -, -, r3, -⟩ := pn_all (f := fun _ => 0) hd (show 8 * e + 8 ≤ 1000 by omega) (show hS (c_M σ) d = bf (sz (c_M σ) d) from rfl) (by omega) 8 0 (c_M σ) (by omega) hW
    exact r3.q_sz hd
  have eg : gr (pn d (8 * e) (fun _ => 0) 8 0 (c_M σ)) d (8 * e + 8) = pn d (8 * e) (fun _ => 0) 8 0 (c_M σ) := if_pos (by omega)
  have et : tG (pn d (8 * e) (fun _ => 0) 8 0 (c_M σ)) d (8 * e + 8) = [] := if_pos (by omega)
  obtain ⟨b, hb⟩ : ∃ b, b = cbk (c_M σ) d (8 * e / 64) := ⟨_, rfl⟩
  rw [← hb] at hfix g2
  have eT : ∀ x ∈ Tn d (8 * e) (fun _ => 0) 8 0 (c_M σ), x = b := Tn_fix 8 0 _ hfix
  have eP : pds L (Tn d (8 * e) (fun _ => 0) 8 0 (c_M σ)) = pd L b := by
    have e1 : Tn d (8 * e) (fun _ => 0) 8 0 (c_M σ) = T1 (c_M σ) d (8 * e + 0) ++ Tn d (8 * e) (fun _ => 0) 7 1 (p1 (c_M σ) d (8 * e + 0) 0) := rfl
    have e2 : T1 (c_M σ) d (8 * e + 0) = [b] := by
      unfold T1
      rw [Nat.add_zero, show t1 (c_M σ) d (8 * e / 64) = [] from if_neg (by omega), show m1 (c_M σ) d (8 * e / 64) = c_M σ from if_neg (by omega), ← hb]
      rfl
    rw [e1, e2] at eT ⊢
    rw [pds_app, pds_one]
    refine pds_have (fun x hx => ?_)
    rw [eT x (List.mem_append_right _ hx)]
    exact pd_in.mpr (Or.inr rfl)
  have hroom : (pd L b).length ≤ 15 := Nat.le_trans (pds_room (U := [b]) (T := [b]) L (fun x hx => hx)) (by show L.length + 1 ≤ 15; omega)
  have GN := run_out G hd td hs he R
  obtain ⟨-, -, -, -, r5, -⟩ := R
  rw [eg, et, List.append_nil] at r5
  rw [eg] at GN
  have pc := pn_congr (i := d) (a := 8 * e) (f := nb (0 : Int64)) (g := fun _ => 0) 8 0 (c_M σ) (fun k _ _ => nb_0 k)
  have ha := aN_congr (g := nb (0 : Int64)) 8 0 (c_M σ) (fun k _ _ => (nb_0 k).symm) (aN_mono (fun M p q => q.1) _ _ _ h1)
  have hc := C_long hL.1 hd (show 8 * e + 8 ≤ 1000 by omega) (show 8 ≤ 8 by omega) ha (by rw [pc.1, pc.2, et, List.append_nil, eP]; exact hroom)
  rw [pc.1, pc.2, eg, et, List.append_nil, eP] at hc
  obtain ⟨τ, t1, t2, t3⟩ := hc
  rw [t1, nJ_bs, nJ_div (by omega) (by omega), R_cb hL.2.1 hd o2 (G.1.nd_lt hd) hidx, nJ_bs, ← hb]
  obtain ⟨υ, u1, u2, u3⟩ := R_ul0 (d := d) (p := 8 * e) (b := b) (j := nI j) (by omega) (by omega) 8 9000 0 ρ _ _ hL.2.1 hroom (by omega) (by omega) hfix
  rw [u1]
  rw [if_neg (by omega)] at u2
  exact drop_both h ho hL hl ht ⟨by omega, g2.2.2.2.1⟩ hj GN (r5.sub (fun x hx => by rw [eT x hx]; exact List.mem_singleton.mpr rfl)) t2 t3 u2 u3
theorem AG_unlink {σ : CS} {ρ : RS} (h : IV σ ρ) (a1 : Int32) (x : Int64) : AG (J_LogFs_unlink σ a1 x) (J_Model_unlink ρ a1 x) := by
  unfold J_LogFs_unlink J_Model_unlink
  rw [nL_0, nL_1, nL_2, nL_8]
  rcases h.cs with ⟨ho, L, hL⟩ | ho
  · obtain ⟨p1, p2⟩ := pw_on h ho
    rw [p1, p2, Option.bind_some, nJ_bs, if_pos rfl, if_pos rfl]
    have G := hL.2.2.2.2.1
    by_cases vx : vn x
    · obtain ⟨N, n1, n2⟩ := R_name (q_t ρ (nI 0)) x vx
      have h0 : IV σ (q_N (q_t ρ (nI 0)) N) := h
      have hL0 : OnL σ (q_N (q_t ρ (nI 0)) N) L := hL
      rw [n1, nJ_bs, if_neg nz2]
      rcases place_both hL0.1 hL0.2.1 G a1 vx n2 with ⟨e1, e2⟩ | ⟨e1, e2, e3⟩ | ⟨d, s, e, hd, rfl, t, hs, he, hen, e1, e2, e3⟩
      · rw [e1, e2, nJ_bs, nJ_bs, if_pos rfl, if_pos (show nM = -nI 1 from rfl)]
        exact AG.same h0 rfl _
      · rw [e1, e2, nJ_bs, nJ_bs, if_neg nz2, e3, nJ_bs, if_neg (show ¬ nI 0 ≤ nM by decide), if_pos (show nM = -nI 1 from rfl)]
        exact AG.same h0 rfl _
      · have h1000 := (G.2.1 d hd).1
        have hc32 := ((G.2.2 d hd t).2.1 e (by omega)).1
        have hen0 := hen.1
        obtain ⟨j, hj⟩ : ∃ j, j = ct (c_M σ) d (8 * e) - 1 := ⟨_, rfl⟩
        have hj32 : j < 32 := by omega
        rw [e1, e2, nJ_bs, nJ_bs, if_neg nz2, e3, nJ_bs, if_pos (show nI 0 ≤ nI (8 * e) by rw [nJ_le (by omega) (by omega)]; omega), if_neg (show ¬ nI (8 * e) = -nI 1 by rw [nJ_m1, nM_eq (by omega)]; exact id), C_ia hL.1 G hd (by omega) (by omega) hen0, nJ_bs, RG_ct hL0.2.1 G hd (by omega), nJ_bs, nJ_sub (by omega) (by omega), ← hj, R_is hL0.2.1 hj32 (show 2 < 256 by omega), nJ_bs, nJ_ifz]
        have key : AG ((J_LogFs_commitIfMany σ).bind fun x7 => if x7.1 = 0 then (J_Volume_putLong x7.2 (nI d) (nI (8 * e)) (0 : Int64) (nI 8)).bind fun x8 => (J_Volume_dropLink x8 (nI j)).bind fun x9 => some (0, nI 1, x9) else some (x7.1, nI 0, x7.2)) (J_Model_unlink_72 (q_N (q_t ρ (nI 0)) N) (nI d) (nI (8 * e)) (nI j)) := by
          unfold J_Model_unlink_72
          rw [nL_0, nL_64]
          rcases ready_both h0 ho hL0 rfl with ⟨τ, υ, L1, t1, t2, t3, t4, t5, t6, t7, t8, t9⟩ | ⟨τ, υ, t1, t2, t3, t4⟩
          · rw [t1, t2, Option.bind_some, Option.bind_some, if_pos rfl, if_neg nz2]
            rw [← t7] at t hs
            exact out_both t3 t4 t5 t6 t9 hd hj32 t hs he
          · rw [t1, t2, Option.bind_some, Option.bind_some, if_neg n20, if_pos rfl]
            exact AG.fail t3 t4 _ _
        by_cases q : ty (c_M σ) j = 2
        · have hs2 := dir_s G hj32 q
          have hcn := cn_le (pF (c_M σ) j) (sz (c_M σ) j / 8) 0
          have hj1000 := (G.2.1 j hj32).1
          rw [if_pos q, C_ent hL.1 G hj32 q hs2, R_ent hL0.2.1 G hj32 hs2, nJ_bs, nJ_bs]
          by_cases w : cn (pF (c_M σ) j) (sz (c_M σ) j / 8) 0 ≤ 0
          · rw [if_pos (show nI (cn (pF (c_M σ) j) (sz (c_M σ) j / 8) 0) ≤ nI 0 by rw [nJ_le (by omega) (by omega)]; exact w), if_neg (show ¬ nI 0 < nI (cn (pF (c_M σ) j) (sz (c_M σ) j / 8) 0) by rw [nJ_lt (by omega) (by omega)]; omega)]
            exact key
          · rw [if_neg (show ¬ nI (cn (pF (c_M σ) j) (sz (c_M σ) j / 8) 0) ≤ nI 0 by rw [nJ_le (by omega) (by omega)]; exact w), if_pos (show nI 0 < nI (cn (pF (c_M σ) j) (sz (c_M σ) j / 8) 0) by rw [nJ_lt (by omega) (by omega)]; omega)]
            exact AG.same h0 rfl _
        · have e5 := C_dir hL.1 hj32
          rw [if_neg q] at e5
          rw [if_neg q, C_ent_no e5, nJ_bs, if_pos (show nI 0 ≤ nI 0 by decide)]
          exact key
    · obtain ⟨N, n1⟩ := R_name_no (q_t ρ (nI 0)) x vx
      have h0 : IV σ (q_N (q_t ρ (nI 0)) N) := h
      rw [n1, nJ_bs, if_pos rfl, C_po_bad hL.1 a1 vx, nJ_bs, if_pos (show nM = -nI 1 from rfl)]
      exact AG.same h0 rfl _
  · obtain ⟨p1, p2⟩ := pw_off h ho
    rw [p1, p2, Option.bind_some, nJ_bs, if_neg n10, if_neg nz2]
    exact AG.off h _ _
