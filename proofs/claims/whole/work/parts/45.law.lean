/-! The law's cases, second part. Written by wip/gen/law.py. -/
set_option maxHeartbeats 4000000 in
set_option maxRecDepth 100000 in
theorem law_686 {p : Program} {e : Env} {s : State} {m : MethodId} {below : List Frame} {meth : Method} {c : Code} {l : Launch} {b L : Nat} {xs : Nat → Int32} {dC : Nat → ClassId} {dI : Nat → Nat → Nat} {ga : Nat → Nat} {ho : Nat} {gr : Nat → Nat} {cB cI cL : ClassId} {A : Nat → Prop} {sx : Nat → Nat} (Cx : lawCx p s m meth c l b L xs dC dI ga ho gr cB cI cL A sx) (k : QS → Int32 → Option Unit) {N : Nat} (hk : ∀ (σ : QS) (v4 : Int32) (ls : Array Slot) (H : Heap) (locs : List Loc) (cells slots : Nat), k σ v4 = some () → cells + N ≤ 1047 → slots + 6 * N ≤ 41245 → lv_has ls 7 [(0, .ref b), (1, .ref (ga 0)), (2, .ref (gr 0)), (3, .ref ho), (4, .int v4)] → va_P (dC, dI) cls (wQ ga ho gr cB cI cL σ) H → va_S A s.heap H locs → W p l e room_1 s m #[Value.ref b] below meth c H locs cells slots (lw_Z below #[Value.ref b] s) (F0 m 23 ls [])) :
    ∀ (σ : QS) (v4 : Int32) (ls : Array Slot) (H : Heap) (locs : List Loc) (cells slots : Nat), J_law_686 xs L k σ v4 = some () → cells + (N + 1) ≤ 1047 → slots + 6 * (N + 1) ≤ 41245 → lv_has ls 7 [(0, .ref b), (1, .ref (ga 0)), (2, .ref (gr 0)), (3, .ref ho), (4, .int v4)] → va_P (dC, dI) cls (wQ ga ho gr cB cI cL σ) H → va_S A s.heap H locs → W p l e room_1 s m #[Value.ref b] below meth c H locs cells slots (lw_Z below #[Value.ref b] s) (F0 m 686 ls []) := by
  obtain ⟨hx, hb, hr, hml, hown, htb, hXs, hbl, hA0, hlocks, hl0, hK, hX, hN, hDq⟩ := id Cx
  have hbA : ¬ A b := fun z => absurd (hA0 b z) (by omega)
  have hKc := hK.sub (tys' := tC cB cI) [0, 1] rfl
  have blk740 : ∀ (σ : QS) (v4 : Int32) (t1 : Int64) (t0 : Int64) (ls : Array Slot) (H : Heap) (locs : List Loc) (cells slots : Nat), J_law_740 xs L k σ v4 t1 t0 = some () → cells + N ≤ 1047 → slots + 6 * N ≤ 41245 → lv_has ls 7 [(0, .ref b), (1, .ref (ga 0)), (2, .ref (gr 0)), (3, .ref ho), (4, .int v4)] → va_P (dC, dI) cls (wQ ga ho gr cB cI cL σ) H → va_S A s.heap H locs → W p l e room_1 s m #[Value.ref b] below meth c H locs cells slots (lw_Z below #[Value.ref b] s) (F0 m 740 ls [.long t1, .long t0]) := by
    intro σ v4 t1 t0 ls H locs cells slots hJ hcc hss hl hP hS
    unfold J_law_740 at hJ
    refine W.lcmp hx hb d_law_740 ?_
    refine lv_if_eq (tgt := 746) hx hb d_law_741 (by decide) (fun h97 => ?_) (fun h97 => ?_)
    · have hJ := j_t hJ h97
      refine lv_goto (tgt := 1259) hx hb d_law_746 (by decide) ?_
      refine lv_iinc (k := 4) (v := (v4 + (6 : Int32))) hx hb d_law_1259 hl rfl rfl (Nat.le_of_ble_eq_true rfl) rfl (fun ls hl => ?_)
      have hl : lv_has ls 7 [(4, .int (v4 + (6 : Int32))), (0, .ref b), (1, .ref (ga 0)), (2, .ref (gr 0)), (3, .ref ho)] := hl
      refine lv_goto (tgt := 23) hx hb d_law_1262 (by decide) ?_
      exact hk _ _ _ _ _ _ _ hJ (by omega) (by omega) (lv_sub hl [1, 2, 3, 4, 0] rfl) hP hS
    · have hJ := j_f hJ h97
      refine lv_iconst (v := (0 : Int32)) hx hb d_law_744 (by decide) ?_
      exact j_none hJ
  intro σ v4 ls H locs cells slots hJ hcc hss hl hP hS
  unfold J_law_686 at hJ
  refine lv_aload_n hx hb d_law_686 rfl (lv_at hl 1 rfl) ?_
  refine lv_aload_n hx hb d_law_687 rfl (lv_at hl 0 rfl) ?_
  refine lv_iload hx hb d_law_688 (lv_at hl 4 rfl) ?_
  refine lv_iconst (v := (1 : Int32)) hx hb d_law_690 (by decide) ?_
  refine lv_iadd hx hb d_law_691 ?_
  obtain ⟨h88, hJ⟩ := j_g hJ
  refine va_sld hx hb hXs hbl hbA hS (j_in h88) d_law_692 ?_
  refine lv_aload_n hx hb d_law_693 rfl (lv_at hl 3 rfl) ?_
  obtain ⟨x89, e89, hJ⟩ := j_bind hJ
  have hPa := hP.sub (ws' := wL ga ho cB cI cL (σ).1) [0, 1, 2, 3, 4, 5, 6, 7, 8, 9] rfl
  have hPb := hP.sub (ws' := wR gr cB cI (σ).2) [10, 11, 12, 13, 14, 15] rfl
  refine va_calli (x_runSW (As := [.ref (ga 0), .int (xs (v4 + (1 : Int32)).toNatClampNeg), .ref ho]) (rest := []) ⟨hx, hb, hml, hown, htb⟩ (c_Law_truncate (l := l) hl0 (dC := dC) (dI := dI) (sx := sx) (A := xD A (aR gr)) (wQ_1 hDq) e89) (xcSW (hh := [(0, 16, 19, 13), (0, 16, 22, 15)]) 3 htb tw490 tw0 tw488 tw489 rfl rfl hd_Law_truncate ⟨Nat.le_of_ble_eq_true rfl, Nat.le_of_ble_eq_true rfl⟩) (preW hPa hPb hK hX hN hS) rfl rfl hl.1 rfl (lv_room (Nat.le_of_ble_eq_true rfl)) d_law_694 ⟨(show _ ≤ 1047 by omega), (show _ ≤ 41245 by omega)⟩) hS (fun q _ h => h.1) (fun q h => h.1) (fun r0 u t H locs ht hvm hw hB _ hk1 hS => ?_)
  subst r0
  have hP : va_P (dC, dI) cls (wQ ga ho gr cB cI cL (x89.2, (σ).2)) H := (kW_P hB ht).app (keepL hPb (aR_in gr) hk1)
  refine lv_istore hx hb d_law_697 hl (Nat.le_of_ble_eq_true rfl) rfl (fun ls hl => ?_)
  have hl : lv_has ls 7 [(5, .int x89.1), (0, .ref b), (1, .ref (ga 0)), (2, .ref (gr 0)), (3, .ref ho), (4, .int v4)] := hl
  refine lv_aload_n hx hb d_law_699 rfl (lv_at hl 3 rfl) ?_
  refine lv_aload_n hx hb d_law_700 rfl (lv_at hl 1 rfl) ?_
  refine lv_iload hx hb d_law_701 (lv_at hl 5 rfl) ?_
  refine lv_iconst (v := (1 : Int32)) hx hb d_law_703 (by decide) ?_
  refine lv_iadd hx hb d_law_704 ?_
  obtain ⟨h90, hJ⟩ := j_g hJ
  refine va_sld hx hb hXs hbl hbA hS (j_in h90) d_law_705 ?_
  obtain ⟨x91, e91, hJ⟩ := j_bind hJ
  have hPa := hP.sub (ws' := wL ga ho cB cI cL ((x89.2, (σ).2)).1) [0, 1, 2, 3, 4, 5, 6, 7, 8, 9] rfl
  have hPb := hP.sub (ws' := wR gr cB cI ((x89.2, (σ).2)).2) [10, 11, 12, 13, 14, 15] rfl
  refine va_calli (va_runV (As := [.int (xs (v4 + (1 : Int32)).toNatClampNeg)]) (rest := []) ⟨hx, hb, hml, hown, htb⟩ (c_Model_truncate (l := l) (dC := dC) (dI := dI) (A := xD A (aL ga ho)) (wQ_2 hDq) e91) (xcV 1 htb tw811 tw7 tw808 tw809 tw810 rfl rfl hd_Model_truncate ⟨Nat.le_of_ble_eq_true rfl, Nat.le_of_ble_eq_true rfl⟩) (kW_V hPb hKc (va_recv (q0 := 0) (ci := 5) hKc hPb rfl rfl)) rfl rfl hl.1 rfl (lv_room (Nat.le_of_ble_eq_true rfl)) d_law_706 ⟨(show _ ≤ 1047 by omega), (show _ ≤ 41245 by omega)⟩) hS (fun q _ h => h.1) (fun q h => h.1) (fun r0 u t H locs ht hvm hw hB _ hk1 hS => ?_)
  subst r0
  have hP : va_P (dC, dI) cls (wQ ga ho gr cB cI cL (((x89.2, (σ).2)).1, x91.2)) H := (keepL hPa (aL_in ga ho) hk1).app (kW_P hB ht)
  refine lv_istore hx hb d_law_709 hl (Nat.le_of_ble_eq_true rfl) rfl (fun ls hl => ?_)
  have hl : lv_has ls 7 [(6, .int x91.1), (5, .int x89.1), (0, .ref b), (1, .ref (ga 0)), (2, .ref (gr 0)), (3, .ref ho), (4, .int v4)] := hl
  refine lv_aload_n hx hb d_law_711 rfl (lv_at hl 4 rfl) ?_
  obtain ⟨x92, e92, hJ⟩ := j_bind hJ
  have hPa := hP.sub (ws' := wL ga ho cB cI cL ((((x89.2, (σ).2)).1, x91.2)).1) [0, 1, 2, 3, 4, 5, 6, 7, 8, 9] rfl
  have hPb := hP.sub (ws' := wR gr cB cI ((((x89.2, (σ).2)).1, x91.2)).2) [10, 11, 12, 13, 14, 15] rfl
  refine va_calli (va_runV (As := []) (rest := []) ⟨hx, hb, hml, hown, htb⟩ (c_Model_thrown (l := l) (dC := dC) (dI := dI) (A := xD A (aL ga ho)) (wQ_2 hDq) e92) (xcV 0 htb tw630 tw7 tw627 tw628 tw629 rfl rfl hd_Model_thrown ⟨Nat.le_of_ble_eq_true rfl, Nat.le_of_ble_eq_true rfl⟩) (kW_V hPb hKc (va_recv (q0 := 0) (ci := 5) hKc hPb rfl rfl)) rfl rfl hl.1 rfl (lv_room (Nat.le_of_ble_eq_true rfl)) d_law_712 ⟨(show _ ≤ 1047 by omega), (show _ ≤ 41245 by omega)⟩) hS (fun q _ h => h.1) (fun q h => h.1) (fun r0 u t H locs ht hvm hw hB _ hk1 hS => ?_)
  subst r0
  have hP : va_P (dC, dI) cls (wQ ga ho gr cB cI cL (((x89.2, (σ).2)).1, x91.2)) H := (keepL hPa (aL_in ga ho) hk1).app (kW_P hB ht)
  refine lv_iload hx hb d_law_715 (lv_at hl 1 rfl) ?_
  refine lv_icmp_eq (tgt := 722) hx hb d_law_717 (by decide) (fun h93 => ?_) (fun h93 => ?_)
  · have hJ := j_t hJ h93
    refine lv_iload hx hb d_law_722 (lv_at hl 1 rfl) ?_
    refine lv_if_ne (tgt := 746) hx hb d_law_724 (by decide) (fun h94 => ?_) (fun h94 => ?_)
    · have hJ := j_f hJ h94
      refine lv_goto (tgt := 1259) hx hb d_law_746 (by decide) ?_
      refine lv_iinc (k := 6) (v := (v4 + (6 : Int32))) hx hb d_law_1259 hl rfl rfl (Nat.le_of_ble_eq_true rfl) rfl (fun ls hl => ?_)
      have hl : lv_has ls 7 [(4, .int (v4 + (6 : Int32))), (6, .int x91.1), (5, .int x89.1), (0, .ref b), (1, .ref (ga 0)), (2, .ref (gr 0)), (3, .ref ho)] := hl
      refine lv_goto (tgt := 23) hx hb d_law_1262 (by decide) ?_
      exact hk _ _ _ _ _ _ _ hJ (by omega) (by omega) (lv_sub hl [3, 4, 5, 6, 0] rfl) hP hS
    · have hJ := j_t hJ h94
      refine lv_aload_n hx hb d_law_727 rfl (lv_at hl 5 rfl) ?_
      refine lv_iconst (v := (0 : Int32)) hx hb d_law_728 (by decide) ?_
      obtain ⟨h95, hJ⟩ := j_g hJ
      refine va_lald hx hb hK hP 9 2 rfl rfl (j_in h95) d_law_729 ?_
      refine lv_iload hx hb d_law_730 (lv_at hl 0 rfl) ?_
      refine lv_if_eq (tgt := 739) hx hb d_law_732 (by decide) (fun h96 => ?_) (fun h96 => ?_)
      · have hJ := j_t hJ h96
        refine lv_lconst (v := (0 : Int64)) hx hb d_law_739 (by decide) ?_
        exact blk740 _ _ _ _ _ _ _ _ _ hJ (by omega) (by omega) (lv_sub hl [2, 3, 4, 5, 6] rfl) hP hS
      · have hJ := j_f hJ h96
        refine lv_lconst (v := (1 : Int64)) hx hb d_law_735 (by decide) ?_
        refine lv_goto (tgt := 740) hx hb d_law_736 (by decide) ?_
        exact blk740 _ _ _ _ _ _ _ _ _ hJ (by omega) (by omega) (lv_sub hl [2, 3, 4, 5, 6] rfl) hP hS
  · have hJ := j_f hJ h93
    refine lv_iconst (v := (0 : Int32)) hx hb d_law_720 (by decide) ?_
    exact j_none hJ
set_option maxHeartbeats 4000000 in
set_option maxRecDepth 100000 in
theorem law_749 {p : Program} {e : Env} {s : State} {m : MethodId} {below : List Frame} {meth : Method} {c : Code} {l : Launch} {b L : Nat} {xs : Nat → Int32} {dC : Nat → ClassId} {dI : Nat → Nat → Nat} {ga : Nat → Nat} {ho : Nat} {gr : Nat → Nat} {cB cI cL : ClassId} {A : Nat → Prop} {sx : Nat → Nat} (Cx : lawCx p s m meth c l b L xs dC dI ga ho gr cB cI cL A sx) (k : QS → Int32 → Option Unit) {N : Nat} (hk : ∀ (σ : QS) (v4 : Int32) (ls : Array Slot) (H : Heap) (locs : List Loc) (cells slots : Nat), k σ v4 = some () → cells + N ≤ 1047 → slots + 6 * N ≤ 41245 → lv_has ls 7 [(0, .ref b), (1, .ref (ga 0)), (2, .ref (gr 0)), (3, .ref ho), (4, .int v4)] → va_P (dC, dI) cls (wQ ga ho gr cB cI cL σ) H → va_S A s.heap H locs → W p l e room_1 s m #[Value.ref b] below meth c H locs cells slots (lw_Z below #[Value.ref b] s) (F0 m 23 ls [])) :
    ∀ (σ : QS) (v4 : Int32) (ls : Array Slot) (H : Heap) (locs : List Loc) (cells slots : Nat), J_law_749 xs L k σ v4 = some () → cells + (N + 1) ≤ 1047 → slots + 6 * (N + 1) ≤ 41245 → lv_has ls 7 [(0, .ref b), (1, .ref (ga 0)), (2, .ref (gr 0)), (3, .ref ho), (4, .int v4)] → va_P (dC, dI) cls (wQ ga ho gr cB cI cL σ) H → va_S A s.heap H locs → W p l e room_1 s m #[Value.ref b] below meth c H locs cells slots (lw_Z below #[Value.ref b] s) (F0 m 749 ls []) := by
  obtain ⟨hx, hb, hr, hml, hown, htb, hXs, hbl, hA0, hlocks, hl0, hK, hX, hN, hDq⟩ := id Cx
  have hbA : ¬ A b := fun z => absurd (hA0 b z) (by omega)
  have hKc := hK.sub (tys' := tC cB cI) [0, 1] rfl
  intro σ v4 ls H locs cells slots hJ hcc hss hl hP hS
  unfold J_law_749 at hJ
  refine lv_aload_n hx hb d_law_749 rfl (lv_at hl 1 rfl) ?_
  refine lv_aload_n hx hb d_law_750 rfl (lv_at hl 3 rfl) ?_
  obtain ⟨x99, e99, hJ⟩ := j_bind hJ
  have hPa := hP.sub (ws' := wL ga ho cB cI cL (σ).1) [0, 1, 2, 3, 4, 5, 6, 7, 8, 9] rfl
  have hPb := hP.sub (ws' := wR gr cB cI (σ).2) [10, 11, 12, 13, 14, 15] rfl
  refine va_calli (x_runSW (As := [.ref (ga 0), .ref ho]) (rest := []) ⟨hx, hb, hml, hown, htb⟩ (c_Law_sync (l := l) hl0 (dC := dC) (dI := dI) (sx := sx) (A := xD A (aR gr)) (wQ_1 hDq) e99) (xcSW (hh := [(0, 8, 11, 13), (0, 8, 14, 15)]) 2 htb tw498 tw0 tw496 tw497 rfl rfl hd_Law_sync ⟨Nat.le_of_ble_eq_true rfl, Nat.le_of_ble_eq_true rfl⟩) (preW hPa hPb hK hX hN hS) rfl rfl hl.1 rfl (lv_room (Nat.le_of_ble_eq_true rfl)) d_law_751 ⟨(show _ ≤ 1047 by omega), (show _ ≤ 41245 by omega)⟩) hS (fun q _ h => h.1) (fun q h => h.1) (fun r0 u t H locs ht hvm hw hB _ hk1 hS => ?_)
  subst r0
  have hP : va_P (dC, dI) cls (wQ ga ho gr cB cI cL (x99.2, (σ).2)) H := (kW_P hB ht).app (keepL hPb (aR_in gr) hk1)
  refine lv_istore hx hb d_law_754 hl (Nat.le_of_ble_eq_true rfl) rfl (fun ls hl => ?_)
  have hl : lv_has ls 7 [(5, .int x99.1), (0, .ref b), (1, .ref (ga 0)), (2, .ref (gr 0)), (3, .ref ho), (4, .int v4)] := hl
  refine lv_aload_n hx hb d_law_756 rfl (lv_at hl 3 rfl) ?_
  obtain ⟨x100, e100, hJ⟩ := j_bind hJ
  have hPa := hP.sub (ws' := wL ga ho cB cI cL ((x99.2, (σ).2)).1) [0, 1, 2, 3, 4, 5, 6, 7, 8, 9] rfl
  have hPb := hP.sub (ws' := wR gr cB cI ((x99.2, (σ).2)).2) [10, 11, 12, 13, 14, 15] rfl
  refine va_calli (va_runV (As := []) (rest := []) ⟨hx, hb, hml, hown, htb⟩ (c_Model_sync (l := l) (dC := dC) (dI := dI) (A := xD A (aL ga ho)) (wQ_2 hDq) e100) (xcV 0 htb tw634 tw7 tw631 tw632 tw633 rfl rfl hd_Model_sync ⟨Nat.le_of_ble_eq_true rfl, Nat.le_of_ble_eq_true rfl⟩) (kW_V hPb hKc (va_recv (q0 := 0) (ci := 5) hKc hPb rfl rfl)) rfl rfl hl.1 rfl (lv_room (Nat.le_of_ble_eq_true rfl)) d_law_757 ⟨(show _ ≤ 1047 by omega), (show _ ≤ 41245 by omega)⟩) hS (fun q _ h => h.1) (fun q h => h.1) (fun r0 u t H locs ht hvm hw hB _ hk1 hS => ?_)
  subst r0
  have hP : va_P (dC, dI) cls (wQ ga ho gr cB cI cL (((x99.2, (σ).2)).1, x100.2)) H := (keepL hPa (aL_in ga ho) hk1).app (kW_P hB ht)
  refine lv_istore hx hb d_law_760 hl (Nat.le_of_ble_eq_true rfl) rfl (fun ls hl => ?_)
  have hl : lv_has ls 7 [(6, .int x100.1), (5, .int x99.1), (0, .ref b), (1, .ref (ga 0)), (2, .ref (gr 0)), (3, .ref ho), (4, .int v4)] := hl
  refine lv_aload_n hx hb d_law_762 rfl (lv_at hl 4 rfl) ?_
  obtain ⟨x101, e101, hJ⟩ := j_bind hJ
  have hPa := hP.sub (ws' := wL ga ho cB cI cL ((((x99.2, (σ).2)).1, x100.2)).1) [0, 1, 2, 3, 4, 5, 6, 7, 8, 9] rfl
  have hPb := hP.sub (ws' := wR gr cB cI ((((x99.2, (σ).2)).1, x100.2)).2) [10, 11, 12, 13, 14, 15] rfl
  refine va_calli (va_runV (As := []) (rest := []) ⟨hx, hb, hml, hown, htb⟩ (c_Model_thrown (l := l) (dC := dC) (dI := dI) (A := xD A (aL ga ho)) (wQ_2 hDq) e101) (xcV 0 htb tw630 tw7 tw627 tw628 tw629 rfl rfl hd_Model_thrown ⟨Nat.le_of_ble_eq_true rfl, Nat.le_of_ble_eq_true rfl⟩) (kW_V hPb hKc (va_recv (q0 := 0) (ci := 5) hKc hPb rfl rfl)) rfl rfl hl.1 rfl (lv_room (Nat.le_of_ble_eq_true rfl)) d_law_763 ⟨(show _ ≤ 1047 by omega), (show _ ≤ 41245 by omega)⟩) hS (fun q _ h => h.1) (fun q h => h.1) (fun r0 u t H locs ht hvm hw hB _ hk1 hS => ?_)
  subst r0
  have hP : va_P (dC, dI) cls (wQ ga ho gr cB cI cL (((x99.2, (σ).2)).1, x100.2)) H := (keepL hPa (aL_in ga ho) hk1).app (kW_P hB ht)
  refine lv_iload hx hb d_law_766 (lv_at hl 1 rfl) ?_
  refine lv_icmp_eq (tgt := 773) hx hb d_law_768 (by decide) (fun h102 => ?_) (fun h102 => ?_)
  · have hJ := j_t hJ h102
    refine lv_iload hx hb d_law_773 (lv_at hl 1 rfl) ?_
    refine lv_if_ne (tgt := 790) hx hb d_law_775 (by decide) (fun h103 => ?_) (fun h103 => ?_)
    · have hJ := j_f hJ h103
      refine lv_goto (tgt := 1259) hx hb d_law_790 (by decide) ?_
      refine lv_iinc (k := 6) (v := (v4 + (6 : Int32))) hx hb d_law_1259 hl rfl rfl (Nat.le_of_ble_eq_true rfl) rfl (fun ls hl => ?_)
      have hl : lv_has ls 7 [(4, .int (v4 + (6 : Int32))), (6, .int x100.1), (5, .int x99.1), (0, .ref b), (1, .ref (ga 0)), (2, .ref (gr 0)), (3, .ref ho)] := hl
      refine lv_goto (tgt := 23) hx hb d_law_1262 (by decide) ?_
      exact hk _ _ _ _ _ _ _ hJ (by omega) (by omega) (lv_sub hl [3, 4, 5, 6, 0] rfl) hP hS
    · have hJ := j_t hJ h103
      refine lv_aload_n hx hb d_law_778 rfl (lv_at hl 5 rfl) ?_
      refine lv_iconst (v := (0 : Int32)) hx hb d_law_779 (by decide) ?_
      obtain ⟨h104, hJ⟩ := j_g hJ
      refine va_lald hx hb hK hP 9 2 rfl rfl (j_in h104) d_law_780 ?_
      refine lv_iload hx hb d_law_781 (lv_at hl 0 rfl) ?_
      refine lv_i2l hx hb d_law_783 rfl ?_
      refine W.lcmp hx hb d_law_784 ?_
      refine lv_if_eq (tgt := 790) hx hb d_law_785 (by decide) (fun h105 => ?_) (fun h105 => ?_)
      · have hJ := j_t hJ h105
        refine lv_goto (tgt := 1259) hx hb d_law_790 (by decide) ?_
        refine lv_iinc (k := 6) (v := (v4 + (6 : Int32))) hx hb d_law_1259 hl rfl rfl (Nat.le_of_ble_eq_true rfl) rfl (fun ls hl => ?_)
        have hl : lv_has ls 7 [(4, .int (v4 + (6 : Int32))), (6, .int x100.1), (5, .int x99.1), (0, .ref b), (1, .ref (ga 0)), (2, .ref (gr 0)), (3, .ref ho)] := hl
        refine lv_goto (tgt := 23) hx hb d_law_1262 (by decide) ?_
        exact hk _ _ _ _ _ _ _ hJ (by omega) (by omega) (lv_sub hl [3, 4, 5, 6, 0] rfl) hP hS
      · have hJ := j_f hJ h105
        refine lv_iconst (v := (0 : Int32)) hx hb d_law_788 (by decide) ?_
        exact j_none hJ
  · have hJ := j_f hJ h102
    refine lv_iconst (v := (0 : Int32)) hx hb d_law_771 (by decide) ?_
    exact j_none hJ
set_option maxHeartbeats 4000000 in
set_option maxRecDepth 100000 in
theorem law_793 {p : Program} {e : Env} {s : State} {m : MethodId} {below : List Frame} {meth : Method} {c : Code} {l : Launch} {b L : Nat} {xs : Nat → Int32} {dC : Nat → ClassId} {dI : Nat → Nat → Nat} {ga : Nat → Nat} {ho : Nat} {gr : Nat → Nat} {cB cI cL : ClassId} {A : Nat → Prop} {sx : Nat → Nat} (Cx : lawCx p s m meth c l b L xs dC dI ga ho gr cB cI cL A sx) (k : QS → Int32 → Option Unit) {N : Nat} (hk : ∀ (σ : QS) (v4 : Int32) (ls : Array Slot) (H : Heap) (locs : List Loc) (cells slots : Nat), k σ v4 = some () → cells + N ≤ 1047 → slots + 6 * N ≤ 41245 → lv_has ls 7 [(0, .ref b), (1, .ref (ga 0)), (2, .ref (gr 0)), (3, .ref ho), (4, .int v4)] → va_P (dC, dI) cls (wQ ga ho gr cB cI cL σ) H → va_S A s.heap H locs → W p l e room_1 s m #[Value.ref b] below meth c H locs cells slots (lw_Z below #[Value.ref b] s) (F0 m 23 ls [])) :
    ∀ (σ : QS) (v4 : Int32) (ls : Array Slot) (H : Heap) (locs : List Loc) (cells slots : Nat), J_law_793 xs L k σ v4 = some () → cells + (N + 1) ≤ 1047 → slots + 6 * (N + 1) ≤ 41245 → lv_has ls 7 [(0, .ref b), (1, .ref (ga 0)), (2, .ref (gr 0)), (3, .ref ho), (4, .int v4)] → va_P (dC, dI) cls (wQ ga ho gr cB cI cL σ) H → va_S A s.heap H locs → W p l e room_1 s m #[Value.ref b] below meth c H locs cells slots (lw_Z below #[Value.ref b] s) (F0 m 793 ls []) := by
  obtain ⟨hx, hb, hr, hml, hown, htb, hXs, hbl, hA0, hlocks, hl0, hK, hX, hN, hDq⟩ := id Cx
  have hbA : ¬ A b := fun z => absurd (hA0 b z) (by omega)
  have hKc := hK.sub (tys' := tC cB cI) [0, 1] rfl
  intro σ v4 ls H locs cells slots hJ hcc hss hl hP hS
  unfold J_law_793 at hJ
  refine lv_aload_n hx hb d_law_793 rfl (lv_at hl 1 rfl) ?_
  refine lv_aload_n hx hb d_law_794 rfl (lv_at hl 0 rfl) ?_
  refine lv_iload hx hb d_law_795 (lv_at hl 4 rfl) ?_
  refine lv_iconst (v := (1 : Int32)) hx hb d_law_797 (by decide) ?_
  refine lv_iadd hx hb d_law_798 ?_
  obtain ⟨h107, hJ⟩ := j_g hJ
  refine va_sld hx hb hXs hbl hbA hS (j_in h107) d_law_799 ?_
  obtain ⟨x108, e108, hJ⟩ := j_bind hJ
  have hPc := hP.sub (ws' := wC ga cB cI (σ).1.1) [0, 1, 2, 3, 4, 5, 6, 7, 8] rfl
  have hPo := hP.sub (ws' := wO ho gr cB cI cL (σ)) [9, 10, 11, 12, 13, 14, 15] rfl
  refine va_calli (va_runV (As := [.int (xs (v4 + (1 : Int32)).toNatClampNeg)]) (rest := []) ⟨hx, hb, hml, hown, htb⟩ (c_LogFs_failAfter (l := l) (dC := dC) (dI := dI) (A := xD A (aO ho gr)) (wQ_3 hDq) e108) (xcV 1 htb tw133 tw1 tw130 tw131 tw132 rfl rfl hd_LogFs_failAfter ⟨Nat.le_of_ble_eq_true rfl, Nat.le_of_ble_eq_true rfl⟩) (kW_V hPc hKc (va_recv (q0 := 0) (ci := 4) hKc hPc rfl rfl)) rfl rfl hl.1 rfl (lv_room (Nat.le_of_ble_eq_true rfl)) d_law_800 ⟨(show _ ≤ 1047 by omega), (show _ ≤ 41245 by omega)⟩) hS (fun q _ h => h.1) (fun q h => h.1) (fun r0 u t H locs ht hvm hw hB _ hk1 hS => ?_)
  subst r0
  have hP : va_P (dC, dI) cls (wQ ga ho gr cB cI cL ((x108.2, (σ).1.2), (σ).2)) H := ((kW_P hB ht).app (keepL hPo (aO_in ho gr) hk1)).sub [0, 1, 2, 3, 4, 5, 6, 7, 8, 9, 10, 11, 12, 13, 14, 15] rfl
  refine lv_aload_n hx hb d_law_803 rfl (lv_at hl 2 rfl) ?_
  refine lv_aload_n hx hb d_law_804 rfl (lv_at hl 0 rfl) ?_
  refine lv_iload hx hb d_law_805 (lv_at hl 4 rfl) ?_
  refine lv_iconst (v := (1 : Int32)) hx hb d_law_807 (by decide) ?_
  refine lv_iadd hx hb d_law_808 ?_
  obtain ⟨h109, hJ⟩ := j_g hJ
  refine va_sld hx hb hXs hbl hbA hS (j_in h109) d_law_809 ?_
  obtain ⟨x110, e110, hJ⟩ := j_bind hJ
  have hPa := hP.sub (ws' := wL ga ho cB cI cL (((x108.2, (σ).1.2), (σ).2)).1) [0, 1, 2, 3, 4, 5, 6, 7, 8, 9] rfl
  have hPb := hP.sub (ws' := wR gr cB cI (((x108.2, (σ).1.2), (σ).2)).2) [10, 11, 12, 13, 14, 15] rfl
  refine va_calli (va_runV (As := [.int (xs (v4 + (1 : Int32)).toNatClampNeg)]) (rest := [.int x108.1]) ⟨hx, hb, hml, hown, htb⟩ (c_Model_failAfter (l := l) (dC := dC) (dI := dI) (A := xD A (aL ga ho)) (wQ_2 hDq) e110) (xcV 1 htb tw658 tw7 tw655 tw656 tw657 rfl rfl hd_Model_failAfter ⟨Nat.le_of_ble_eq_true rfl, Nat.le_of_ble_eq_true rfl⟩) (kW_V hPb hKc (va_recv (q0 := 0) (ci := 5) hKc hPb rfl rfl)) rfl rfl hl.1 rfl (lv_room (Nat.le_of_ble_eq_true rfl)) d_law_810 ⟨(show _ ≤ 1047 by omega), (show _ ≤ 41245 by omega)⟩) hS (fun q _ h => h.1) (fun q h => h.1) (fun r0 u t H locs ht hvm hw hB _ hk1 hS => ?_)
  subst r0
  have hP : va_P (dC, dI) cls (wQ ga ho gr cB cI cL ((((x108.2, (σ).1.2), (σ).2)).1, x110.2)) H := (keepL hPa (aL_in ga ho) hk1).app (kW_P hB ht)
  refine lv_icmp_eq (tgt := 1259) hx hb d_law_813 (by decide) (fun h111 => ?_) (fun h111 => ?_)
  · have hJ := j_t hJ h111
    refine lv_iinc (k := 4) (v := (v4 + (6 : Int32))) hx hb d_law_1259 hl rfl rfl (Nat.le_of_ble_eq_true rfl) rfl (fun ls hl => ?_)
    have hl : lv_has ls 7 [(4, .int (v4 + (6 : Int32))), (0, .ref b), (1, .ref (ga 0)), (2, .ref (gr 0)), (3, .ref ho)] := hl
    refine lv_goto (tgt := 23) hx hb d_law_1262 (by decide) ?_
    exact hk _ _ _ _ _ _ _ hJ (by omega) (by omega) (lv_sub hl [1, 2, 3, 4, 0] rfl) hP hS
  · have hJ := j_f hJ h111
    refine lv_iconst (v := (0 : Int32)) hx hb d_law_816 (by decide) ?_
    exact j_none hJ
set_option maxHeartbeats 4000000 in
set_option maxRecDepth 100000 in
theorem law_818 {p : Program} {e : Env} {s : State} {m : MethodId} {below : List Frame} {meth : Method} {c : Code} {l : Launch} {b L : Nat} {xs : Nat → Int32} {dC : Nat → ClassId} {dI : Nat → Nat → Nat} {ga : Nat → Nat} {ho : Nat} {gr : Nat → Nat} {cB cI cL : ClassId} {A : Nat → Prop} {sx : Nat → Nat} (Cx : lawCx p s m meth c l b L xs dC dI ga ho gr cB cI cL A sx) (k : QS → Int32 → Option Unit) {N : Nat} (hk : ∀ (σ : QS) (v4 : Int32) (ls : Array Slot) (H : Heap) (locs : List Loc) (cells slots : Nat), k σ v4 = some () → cells + N ≤ 1047 → slots + 6 * N ≤ 41245 → lv_has ls 7 [(0, .ref b), (1, .ref (ga 0)), (2, .ref (gr 0)), (3, .ref ho), (4, .int v4)] → va_P (dC, dI) cls (wQ ga ho gr cB cI cL σ) H → va_S A s.heap H locs → W p l e room_1 s m #[Value.ref b] below meth c H locs cells slots (lw_Z below #[Value.ref b] s) (F0 m 23 ls [])) :
    ∀ (σ : QS) (v4 : Int32) (ls : Array Slot) (H : Heap) (locs : List Loc) (cells slots : Nat), J_law_818 xs L k σ v4 = some () → cells + (N + 1) ≤ 1047 → slots + 6 * (N + 1) ≤ 41245 → lv_has ls 7 [(0, .ref b), (1, .ref (ga 0)), (2, .ref (gr 0)), (3, .ref ho), (4, .int v4)] → va_P (dC, dI) cls (wQ ga ho gr cB cI cL σ) H → va_S A s.heap H locs → W p l e room_1 s m #[Value.ref b] below meth c H locs cells slots (lw_Z below #[Value.ref b] s) (F0 m 818 ls []) := by
  obtain ⟨hx, hb, hr, hml, hown, htb, hXs, hbl, hA0, hlocks, hl0, hK, hX, hN, hDq⟩ := id Cx
  have hbA : ¬ A b := fun z => absurd (hA0 b z) (by omega)
  have hKc := hK.sub (tys' := tC cB cI) [0, 1] rfl
  intro σ v4 ls H locs cells slots hJ hcc hss hl hP hS
  unfold J_law_818 at hJ
  refine lv_aload_n hx hb d_law_818 rfl (lv_at hl 1 rfl) ?_
  refine lv_aload_n hx hb d_law_819 rfl (lv_at hl 3 rfl) ?_
  obtain ⟨x113, e113, hJ⟩ := j_bind hJ
  have hPa := hP.sub (ws' := wL ga ho cB cI cL (σ).1) [0, 1, 2, 3, 4, 5, 6, 7, 8, 9] rfl
  have hPb := hP.sub (ws' := wR gr cB cI (σ).2) [10, 11, 12, 13, 14, 15] rfl
  refine va_calli (x_runSW (As := [.ref (ga 0), .ref ho]) (rest := []) ⟨hx, hb, hml, hown, htb⟩ (c_Law_mount (l := l) hl0 (dC := dC) (dI := dI) (sx := sx) (A := xD A (aR gr)) (wQ_1 hDq) e113) (xcSW (hh := [(0, 8, 11, 15)]) 2 htb tw505 tw0 tw503 tw504 rfl rfl hd_Law_mount ⟨Nat.le_of_ble_eq_true rfl, Nat.le_of_ble_eq_true rfl⟩) (preW hPa hPb hK hX hN hS) rfl rfl hl.1 rfl (lv_room (Nat.le_of_ble_eq_true rfl)) d_law_820 ⟨(show _ ≤ 1047 by omega), (show _ ≤ 41245 by omega)⟩) hS (fun q _ h => h.1) (fun q h => h.1) (fun r0 u t H locs ht hvm hw hB _ hk1 hS => ?_)
  subst r0
  have hP : va_P (dC, dI) cls (wQ ga ho gr cB cI cL (x113.2, (σ).2)) H := (kW_P hB ht).app (keepL hPb (aR_in gr) hk1)
  refine lv_istore hx hb d_law_823 hl (Nat.le_of_ble_eq_true rfl) rfl (fun ls hl => ?_)
  have hl : lv_has ls 7 [(5, .int x113.1), (0, .ref b), (1, .ref (ga 0)), (2, .ref (gr 0)), (3, .ref ho), (4, .int v4)] := hl
  refine lv_aload_n hx hb d_law_825 rfl (lv_at hl 3 rfl) ?_
  obtain ⟨x114, e114, hJ⟩ := j_bind hJ
  have hPa := hP.sub (ws' := wL ga ho cB cI cL ((x113.2, (σ).2)).1) [0, 1, 2, 3, 4, 5, 6, 7, 8, 9] rfl
  have hPb := hP.sub (ws' := wR gr cB cI ((x113.2, (σ).2)).2) [10, 11, 12, 13, 14, 15] rfl
  refine va_calli (va_runV (As := []) (rest := []) ⟨hx, hb, hml, hown, htb⟩ (c_Model_mount (l := l) (dC := dC) (dI := dI) (A := xD A (aL ga ho)) (wQ_2 hDq) e114) (xcV 0 htb tw662 tw7 tw659 tw660 tw661 rfl rfl hd_Model_mount ⟨Nat.le_of_ble_eq_true rfl, Nat.le_of_ble_eq_true rfl⟩) (kW_V hPb hKc (va_recv (q0 := 0) (ci := 5) hKc hPb rfl rfl)) rfl rfl hl.1 rfl (lv_room (Nat.le_of_ble_eq_true rfl)) d_law_826 ⟨(show _ ≤ 1047 by omega), (show _ ≤ 41245 by omega)⟩) hS (fun q _ h => h.1) (fun q h => h.1) (fun r0 u t H locs ht hvm hw hB _ hk1 hS => ?_)
  subst r0
  have hP : va_P (dC, dI) cls (wQ ga ho gr cB cI cL (((x113.2, (σ).2)).1, x114.2)) H := (keepL hPa (aL_in ga ho) hk1).app (kW_P hB ht)
  refine lv_istore hx hb d_law_829 hl (Nat.le_of_ble_eq_true rfl) rfl (fun ls hl => ?_)
  have hl : lv_has ls 7 [(6, .int x114.1), (5, .int x113.1), (0, .ref b), (1, .ref (ga 0)), (2, .ref (gr 0)), (3, .ref ho), (4, .int v4)] := hl
  refine lv_aload_n hx hb d_law_831 rfl (lv_at hl 4 rfl) ?_
  obtain ⟨x115, e115, hJ⟩ := j_bind hJ
  have hPa := hP.sub (ws' := wL ga ho cB cI cL ((((x113.2, (σ).2)).1, x114.2)).1) [0, 1, 2, 3, 4, 5, 6, 7, 8, 9] rfl
  have hPb := hP.sub (ws' := wR gr cB cI ((((x113.2, (σ).2)).1, x114.2)).2) [10, 11, 12, 13, 14, 15] rfl
  refine va_calli (va_runV (As := []) (rest := []) ⟨hx, hb, hml, hown, htb⟩ (c_Model_thrown (l := l) (dC := dC) (dI := dI) (A := xD A (aL ga ho)) (wQ_2 hDq) e115) (xcV 0 htb tw630 tw7 tw627 tw628 tw629 rfl rfl hd_Model_thrown ⟨Nat.le_of_ble_eq_true rfl, Nat.le_of_ble_eq_true rfl⟩) (kW_V hPb hKc (va_recv (q0 := 0) (ci := 5) hKc hPb rfl rfl)) rfl rfl hl.1 rfl (lv_room (Nat.le_of_ble_eq_true rfl)) d_law_832 ⟨(show _ ≤ 1047 by omega), (show _ ≤ 41245 by omega)⟩) hS (fun q _ h => h.1) (fun q h => h.1) (fun r0 u t H locs ht hvm hw hB _ hk1 hS => ?_)
  subst r0
  have hP : va_P (dC, dI) cls (wQ ga ho gr cB cI cL (((x113.2, (σ).2)).1, x114.2)) H := (keepL hPa (aL_in ga ho) hk1).app (kW_P hB ht)
  refine lv_iload hx hb d_law_835 (lv_at hl 1 rfl) ?_
  refine lv_icmp_eq (tgt := 842) hx hb d_law_837 (by decide) (fun h116 => ?_) (fun h116 => ?_)
  · have hJ := j_t hJ h116
    refine lv_iload hx hb d_law_842 (lv_at hl 1 rfl) ?_
    refine lv_if_ne (tgt := 859) hx hb d_law_844 (by decide) (fun h117 => ?_) (fun h117 => ?_)
    · have hJ := j_f hJ h117
      refine lv_goto (tgt := 1259) hx hb d_law_859 (by decide) ?_
      refine lv_iinc (k := 6) (v := (v4 + (6 : Int32))) hx hb d_law_1259 hl rfl rfl (Nat.le_of_ble_eq_true rfl) rfl (fun ls hl => ?_)
      have hl : lv_has ls 7 [(4, .int (v4 + (6 : Int32))), (6, .int x114.1), (5, .int x113.1), (0, .ref b), (1, .ref (ga 0)), (2, .ref (gr 0)), (3, .ref ho)] := hl
      refine lv_goto (tgt := 23) hx hb d_law_1262 (by decide) ?_
      exact hk _ _ _ _ _ _ _ hJ (by omega) (by omega) (lv_sub hl [3, 4, 5, 6, 0] rfl) hP hS
    · have hJ := j_t hJ h117
      refine lv_aload_n hx hb d_law_847 rfl (lv_at hl 5 rfl) ?_
      refine lv_iconst (v := (0 : Int32)) hx hb d_law_848 (by decide) ?_
      obtain ⟨h118, hJ⟩ := j_g hJ
      refine va_lald hx hb hK hP 9 2 rfl rfl (j_in h118) d_law_849 ?_
      refine lv_iload hx hb d_law_850 (lv_at hl 0 rfl) ?_
      refine lv_i2l hx hb d_law_852 rfl ?_
      refine W.lcmp hx hb d_law_853 ?_
      refine lv_if_eq (tgt := 859) hx hb d_law_854 (by decide) (fun h119 => ?_) (fun h119 => ?_)
      · have hJ := j_t hJ h119
        refine lv_goto (tgt := 1259) hx hb d_law_859 (by decide) ?_
        refine lv_iinc (k := 6) (v := (v4 + (6 : Int32))) hx hb d_law_1259 hl rfl rfl (Nat.le_of_ble_eq_true rfl) rfl (fun ls hl => ?_)
        have hl : lv_has ls 7 [(4, .int (v4 + (6 : Int32))), (6, .int x114.1), (5, .int x113.1), (0, .ref b), (1, .ref (ga 0)), (2, .ref (gr 0)), (3, .ref ho)] := hl
        refine lv_goto (tgt := 23) hx hb d_law_1262 (by decide) ?_
        exact hk _ _ _ _ _ _ _ hJ (by omega) (by omega) (lv_sub hl [3, 4, 5, 6, 0] rfl) hP hS
      · have hJ := j_f hJ h119
        refine lv_iconst (v := (0 : Int32)) hx hb d_law_857 (by decide) ?_
        exact j_none hJ
  · have hJ := j_f hJ h116
    refine lv_iconst (v := (0 : Int32)) hx hb d_law_840 (by decide) ?_
    exact j_none hJ
set_option maxHeartbeats 4000000 in
set_option maxRecDepth 100000 in
theorem law_862 {p : Program} {e : Env} {s : State} {m : MethodId} {below : List Frame} {meth : Method} {c : Code} {l : Launch} {b L : Nat} {xs : Nat → Int32} {dC : Nat → ClassId} {dI : Nat → Nat → Nat} {ga : Nat → Nat} {ho : Nat} {gr : Nat → Nat} {cB cI cL : ClassId} {A : Nat → Prop} {sx : Nat → Nat} (Cx : lawCx p s m meth c l b L xs dC dI ga ho gr cB cI cL A sx) (k : QS → Int32 → Option Unit) {N : Nat} (hk : ∀ (σ : QS) (v4 : Int32) (ls : Array Slot) (H : Heap) (locs : List Loc) (cells slots : Nat), k σ v4 = some () → cells + N ≤ 1047 → slots + 6 * N ≤ 41245 → lv_has ls 7 [(0, .ref b), (1, .ref (ga 0)), (2, .ref (gr 0)), (3, .ref ho), (4, .int v4)] → va_P (dC, dI) cls (wQ ga ho gr cB cI cL σ) H → va_S A s.heap H locs → W p l e room_1 s m #[Value.ref b] below meth c H locs cells slots (lw_Z below #[Value.ref b] s) (F0 m 23 ls [])) :
    ∀ (σ : QS) (v4 : Int32) (ls : Array Slot) (H : Heap) (locs : List Loc) (cells slots : Nat), J_law_862 xs L k σ v4 = some () → cells + (N + 1) ≤ 1047 → slots + 6 * (N + 1) ≤ 41245 → lv_has ls 7 [(0, .ref b), (1, .ref (ga 0)), (2, .ref (gr 0)), (3, .ref ho), (4, .int v4)] → va_P (dC, dI) cls (wQ ga ho gr cB cI cL σ) H → va_S A s.heap H locs → W p l e room_1 s m #[Value.ref b] below meth c H locs cells slots (lw_Z below #[Value.ref b] s) (F0 m 862 ls []) := by
  obtain ⟨hx, hb, hr, hml, hown, htb, hXs, hbl, hA0, hlocks, hl0, hK, hX, hN, hDq⟩ := id Cx
  have hbA : ¬ A b := fun z => absurd (hA0 b z) (by omega)
  have hKc := hK.sub (tys' := tC cB cI) [0, 1] rfl
  intro σ v4 ls H locs cells slots hJ hcc hss hl hP hS
  unfold J_law_862 at hJ
  refine lv_aload_n hx hb d_law_862 rfl (lv_at hl 1 rfl) ?_
  refine lv_aload_n hx hb d_law_863 rfl (lv_at hl 0 rfl) ?_
  refine lv_iload hx hb d_law_864 (lv_at hl 4 rfl) ?_
  refine lv_iconst (v := (1 : Int32)) hx hb d_law_866 (by decide) ?_
  refine lv_iadd hx hb d_law_867 ?_
  obtain ⟨h121, hJ⟩ := j_g hJ
  refine va_sld hx hb hXs hbl hbA hS (j_in h121) d_law_868 ?_
  refine lv_aload_n hx hb d_law_869 rfl (lv_at hl 0 rfl) ?_
  refine lv_iload hx hb d_law_870 (lv_at hl 4 rfl) ?_
  refine lv_iconst (v := (2 : Int32)) hx hb d_law_872 (by decide) ?_
  refine lv_iadd hx hb d_law_873 ?_
  obtain ⟨h122, hJ⟩ := j_g hJ
  refine va_sld hx hb hXs hbl hbA hS (j_in h122) d_law_874 ?_
  refine lv_i2l hx hb d_law_875 rfl ?_
  refine lv_bipush (v := (32 : Int32)) hx hb d_law_876 (by decide) ?_
  refine lv_lshl hx hb d_law_878 rfl ?_
  refine lv_aload_n hx hb d_law_879 rfl (lv_at hl 0 rfl) ?_
  refine lv_iload hx hb d_law_880 (lv_at hl 4 rfl) ?_
  refine lv_iconst (v := (3 : Int32)) hx hb d_law_882 (by decide) ?_
  refine lv_iadd hx hb d_law_883 ?_
  obtain ⟨h123, hJ⟩ := j_g hJ
  refine va_sld hx hb hXs hbl hbA hS (j_in h123) d_law_884 ?_
  refine lv_i2l hx hb d_law_885 rfl ?_
  refine lv_ldc2 (v := (4294967295 : Int64)) hx hb hown (htb _ tw839) d_law_886 ?_
  refine lv_land hx hb d_law_889 ?_
  refine lv_lor hx hb d_law_890 ?_
  refine lv_aload_n hx hb d_law_891 rfl (lv_at hl 3 rfl) ?_
  obtain ⟨x124, e124, hJ⟩ := j_bind hJ
  have hPa := hP.sub (ws' := wL ga ho cB cI cL (σ).1) [0, 1, 2, 3, 4, 5, 6, 7, 8, 9] rfl
  have hPb := hP.sub (ws' := wR gr cB cI (σ).2) [10, 11, 12, 13, 14, 15] rfl
  refine va_calli (x_runSW (As := [.ref (ga 0), .int (xs (v4 + (1 : Int32)).toNatClampNeg), .long (((xs (v4 + (2 : Int32)).toNatClampNeg).toInt64 <<< ((32 : Int32).toInt64 &&& 63)) ||| ((xs (v4 + (3 : Int32)).toNatClampNeg).toInt64 &&& (4294967295 : Int64))), .ref ho]) (rest := []) ⟨hx, hb, hml, hown, htb⟩ (c_Law_find (l := l) hl0 (dC := dC) (dI := dI) (sx := sx) (A := xD A (aR gr)) (wQ_1 hDq) e124) (xcSW (hh := [(0, 11, 14, 13)]) 4 htb tw517 tw0 tw515 tw516 rfl rfl hd_Law_find ⟨Nat.le_of_ble_eq_true rfl, Nat.le_of_ble_eq_true rfl⟩) (preW hPa hPb hK hX hN hS) rfl rfl hl.1 rfl (lv_room (Nat.le_of_ble_eq_true rfl)) d_law_892 ⟨(show _ ≤ 1047 by omega), (show _ ≤ 41245 by omega)⟩) hS (fun q _ h => h.1) (fun q h => h.1) (fun r0 u t H locs ht hvm hw hB _ hk1 hS => ?_)
  subst r0
  have hP : va_P (dC, dI) cls (wQ ga ho gr cB cI cL (x124.2, (σ).2)) H := (kW_P hB ht).app (keepL hPb (aR_in gr) hk1)
  refine lv_istore hx hb d_law_895 hl (Nat.le_of_ble_eq_true rfl) rfl (fun ls hl => ?_)
  have hl : lv_has ls 7 [(5, .int x124.1), (0, .ref b), (1, .ref (ga 0)), (2, .ref (gr 0)), (3, .ref ho), (4, .int v4)] := hl
  refine lv_aload_n hx hb d_law_897 rfl (lv_at hl 3 rfl) ?_
  refine lv_aload_n hx hb d_law_898 rfl (lv_at hl 1 rfl) ?_
  refine lv_iload hx hb d_law_899 (lv_at hl 5 rfl) ?_
  refine lv_iconst (v := (1 : Int32)) hx hb d_law_901 (by decide) ?_
  refine lv_iadd hx hb d_law_902 ?_
  obtain ⟨h125, hJ⟩ := j_g hJ
  refine va_sld hx hb hXs hbl hbA hS (j_in h125) d_law_903 ?_
  refine lv_aload_n hx hb d_law_904 rfl (lv_at hl 1 rfl) ?_
  refine lv_iload hx hb d_law_905 (lv_at hl 5 rfl) ?_
  refine lv_iconst (v := (2 : Int32)) hx hb d_law_907 (by decide) ?_
  refine lv_iadd hx hb d_law_908 ?_
  obtain ⟨h126, hJ⟩ := j_g hJ
  refine va_sld hx hb hXs hbl hbA hS (j_in h126) d_law_909 ?_
  refine lv_i2l hx hb d_law_910 rfl ?_
  refine lv_bipush (v := (32 : Int32)) hx hb d_law_911 (by decide) ?_
  refine lv_lshl hx hb d_law_913 rfl ?_
  refine lv_aload_n hx hb d_law_914 rfl (lv_at hl 1 rfl) ?_
  refine lv_iload hx hb d_law_915 (lv_at hl 5 rfl) ?_
  refine lv_iconst (v := (3 : Int32)) hx hb d_law_917 (by decide) ?_
  refine lv_iadd hx hb d_law_918 ?_
  obtain ⟨h127, hJ⟩ := j_g hJ
  refine va_sld hx hb hXs hbl hbA hS (j_in h127) d_law_919 ?_
  refine lv_i2l hx hb d_law_920 rfl ?_
  refine lv_ldc2 (v := (4294967295 : Int64)) hx hb hown (htb _ tw839) d_law_921 ?_
  refine lv_land hx hb d_law_924 ?_
  refine lv_lor hx hb d_law_925 ?_
  obtain ⟨x128, e128, hJ⟩ := j_bind hJ
  have hPa := hP.sub (ws' := wL ga ho cB cI cL ((x124.2, (σ).2)).1) [0, 1, 2, 3, 4, 5, 6, 7, 8, 9] rfl
  have hPb := hP.sub (ws' := wR gr cB cI ((x124.2, (σ).2)).2) [10, 11, 12, 13, 14, 15] rfl
  refine va_calli (va_runV (As := [.int (xs (v4 + (1 : Int32)).toNatClampNeg), .long (((xs (v4 + (2 : Int32)).toNatClampNeg).toInt64 <<< ((32 : Int32).toInt64 &&& 63)) ||| ((xs (v4 + (3 : Int32)).toNatClampNeg).toInt64 &&& (4294967295 : Int64)))]) (rest := []) ⟨hx, hb, hml, hown, htb⟩ (c_Model_find (l := l) (dC := dC) (dI := dI) (A := xD A (aL ga ho)) (wQ_2 hDq) e128) (xcV 2 htb tw815 tw7 tw812 tw813 tw814 rfl rfl hd_Model_find ⟨Nat.le_of_ble_eq_true rfl, Nat.le_of_ble_eq_true rfl⟩) (kW_V hPb hKc (va_recv (q0 := 0) (ci := 5) hKc hPb rfl rfl)) rfl rfl hl.1 rfl (lv_room (Nat.le_of_ble_eq_true rfl)) d_law_926 ⟨(show _ ≤ 1047 by omega), (show _ ≤ 41245 by omega)⟩) hS (fun q _ h => h.1) (fun q h => h.1) (fun r0 u t H locs ht hvm hw hB _ hk1 hS => ?_)
  subst r0
  have hP : va_P (dC, dI) cls (wQ ga ho gr cB cI cL (((x124.2, (σ).2)).1, x128.2)) H := (keepL hPa (aL_in ga ho) hk1).app (kW_P hB ht)
  refine lv_istore hx hb d_law_929 hl (Nat.le_of_ble_eq_true rfl) rfl (fun ls hl => ?_)
  have hl : lv_has ls 7 [(6, .int x128.1), (5, .int x124.1), (0, .ref b), (1, .ref (ga 0)), (2, .ref (gr 0)), (3, .ref ho), (4, .int v4)] := hl
  refine lv_aload_n hx hb d_law_931 rfl (lv_at hl 4 rfl) ?_
  obtain ⟨x129, e129, hJ⟩ := j_bind hJ
  have hPa := hP.sub (ws' := wL ga ho cB cI cL ((((x124.2, (σ).2)).1, x128.2)).1) [0, 1, 2, 3, 4, 5, 6, 7, 8, 9] rfl
  have hPb := hP.sub (ws' := wR gr cB cI ((((x124.2, (σ).2)).1, x128.2)).2) [10, 11, 12, 13, 14, 15] rfl
  refine va_calli (va_runV (As := []) (rest := []) ⟨hx, hb, hml, hown, htb⟩ (c_Model_thrown (l := l) (dC := dC) (dI := dI) (A := xD A (aL ga ho)) (wQ_2 hDq) e129) (xcV 0 htb tw630 tw7 tw627 tw628 tw629 rfl rfl hd_Model_thrown ⟨Nat.le_of_ble_eq_true rfl, Nat.le_of_ble_eq_true rfl⟩) (kW_V hPb hKc (va_recv (q0 := 0) (ci := 5) hKc hPb rfl rfl)) rfl rfl hl.1 rfl (lv_room (Nat.le_of_ble_eq_true rfl)) d_law_932 ⟨(show _ ≤ 1047 by omega), (show _ ≤ 41245 by omega)⟩) hS (fun q _ h => h.1) (fun q h => h.1) (fun r0 u t H locs ht hvm hw hB _ hk1 hS => ?_)
  subst r0
  have hP : va_P (dC, dI) cls (wQ ga ho gr cB cI cL (((x124.2, (σ).2)).1, x128.2)) H := (keepL hPa (aL_in ga ho) hk1).app (kW_P hB ht)
  refine lv_iload hx hb d_law_935 (lv_at hl 1 rfl) ?_
  refine lv_icmp_eq (tgt := 942) hx hb d_law_937 (by decide) (fun h130 => ?_) (fun h130 => ?_)
  · have hJ := j_t hJ h130
    refine lv_iload hx hb d_law_942 (lv_at hl 1 rfl) ?_
    refine lv_if_ne (tgt := 959) hx hb d_law_944 (by decide) (fun h131 => ?_) (fun h131 => ?_)
    · have hJ := j_f hJ h131
      refine lv_goto (tgt := 1259) hx hb d_law_959 (by decide) ?_
      refine lv_iinc (k := 6) (v := (v4 + (6 : Int32))) hx hb d_law_1259 hl rfl rfl (Nat.le_of_ble_eq_true rfl) rfl (fun ls hl => ?_)
      have hl : lv_has ls 7 [(4, .int (v4 + (6 : Int32))), (6, .int x128.1), (5, .int x124.1), (0, .ref b), (1, .ref (ga 0)), (2, .ref (gr 0)), (3, .ref ho)] := hl
      refine lv_goto (tgt := 23) hx hb d_law_1262 (by decide) ?_
      exact hk _ _ _ _ _ _ _ hJ (by omega) (by omega) (lv_sub hl [3, 4, 5, 6, 0] rfl) hP hS
    · have hJ := j_t hJ h131
      refine lv_aload_n hx hb d_law_947 rfl (lv_at hl 5 rfl) ?_
      refine lv_iconst (v := (0 : Int32)) hx hb d_law_948 (by decide) ?_
      obtain ⟨h132, hJ⟩ := j_g hJ
      refine va_lald hx hb hK hP 9 2 rfl rfl (j_in h132) d_law_949 ?_
      refine lv_iload hx hb d_law_950 (lv_at hl 0 rfl) ?_
      refine lv_i2l hx hb d_law_952 rfl ?_
      refine W.lcmp hx hb d_law_953 ?_
      refine lv_if_eq (tgt := 959) hx hb d_law_954 (by decide) (fun h133 => ?_) (fun h133 => ?_)
      · have hJ := j_t hJ h133
        refine lv_goto (tgt := 1259) hx hb d_law_959 (by decide) ?_
        refine lv_iinc (k := 6) (v := (v4 + (6 : Int32))) hx hb d_law_1259 hl rfl rfl (Nat.le_of_ble_eq_true rfl) rfl (fun ls hl => ?_)
        have hl : lv_has ls 7 [(4, .int (v4 + (6 : Int32))), (6, .int x128.1), (5, .int x124.1), (0, .ref b), (1, .ref (ga 0)), (2, .ref (gr 0)), (3, .ref ho)] := hl
        refine lv_goto (tgt := 23) hx hb d_law_1262 (by decide) ?_
        exact hk _ _ _ _ _ _ _ hJ (by omega) (by omega) (lv_sub hl [3, 4, 5, 6, 0] rfl) hP hS
      · have hJ := j_f hJ h133
        refine lv_iconst (v := (0 : Int32)) hx hb d_law_957 (by decide) ?_
        exact j_none hJ
  · have hJ := j_f hJ h130
    refine lv_iconst (v := (0 : Int32)) hx hb d_law_940 (by decide) ?_
    exact j_none hJ
