/-! The law's cases, third part; the loop. Written by wip/gen/law.py. -/
set_option maxHeartbeats 4000000 in
set_option maxRecDepth 100000 in
theorem law_962 {p : Program} {e : Env} {s : State} {m : MethodId} {below : List Frame} {meth : Method} {c : Code} {l : Launch} {b L : Nat} {xs : Nat → Int32} {dC : Nat → ClassId} {dI : Nat → Nat → Nat} {ga : Nat → Nat} {ho : Nat} {gr : Nat → Nat} {cB cI cL : ClassId} {A : Nat → Prop} {sx : Nat → Nat} (Cx : lawCx p s m meth c l b L xs dC dI ga ho gr cB cI cL A sx) (k : QS → Int32 → Option Unit) {N : Nat} (hk : ∀ (σ : QS) (v4 : Int32) (ls : Array Slot) (H : Heap) (locs : List Loc) (cells slots : Nat), k σ v4 = some () → cells + N ≤ 1047 → slots + 6 * N ≤ 41245 → lv_has ls 7 [(0, .ref b), (1, .ref (ga 0)), (2, .ref (gr 0)), (3, .ref ho), (4, .int v4)] → va_P (dC, dI) cls (wQ ga ho gr cB cI cL σ) H → va_S A s.heap H locs → W p l e room_1 s m #[Value.ref b] below meth c H locs cells slots (lw_Z below #[Value.ref b] s) (F0 m 23 ls [])) :
    ∀ (σ : QS) (v4 : Int32) (ls : Array Slot) (H : Heap) (locs : List Loc) (cells slots : Nat), J_law_962 xs L k σ v4 = some () → cells + (N + 1) ≤ 1047 → slots + 6 * (N + 1) ≤ 41245 → lv_has ls 7 [(0, .ref b), (1, .ref (ga 0)), (2, .ref (gr 0)), (3, .ref ho), (4, .int v4)] → va_P (dC, dI) cls (wQ ga ho gr cB cI cL σ) H → va_S A s.heap H locs → W p l e room_1 s m #[Value.ref b] below meth c H locs cells slots (lw_Z below #[Value.ref b] s) (F0 m 962 ls []) := by
  obtain ⟨hx, hb, hr, hml, hown, htb, hXs, hbl, hA0, hlocks, hl0, hK, hX, hN, hDq⟩ := id Cx
  have hbA : ¬ A b := fun z => absurd (hA0 b z) (by omega)
  have hKc := hK.sub (tys' := tC cB cI) [0, 1] rfl
  intro σ v4 ls H locs cells slots hJ hcc hss hl hP hS
  unfold J_law_962 at hJ
  refine lv_aload_n hx hb d_law_962 rfl (lv_at hl 1 rfl) ?_
  refine lv_aload_n hx hb d_law_963 rfl (lv_at hl 0 rfl) ?_
  refine lv_iload hx hb d_law_964 (lv_at hl 4 rfl) ?_
  refine lv_iconst (v := (1 : Int32)) hx hb d_law_966 (by decide) ?_
  refine lv_iadd hx hb d_law_967 ?_
  obtain ⟨h135, hJ⟩ := j_g hJ
  refine va_sld hx hb hXs hbl hbA hS (j_in h135) d_law_968 ?_
  refine lv_aload_n hx hb d_law_969 rfl (lv_at hl 0 rfl) ?_
  refine lv_iload hx hb d_law_970 (lv_at hl 4 rfl) ?_
  refine lv_iconst (v := (2 : Int32)) hx hb d_law_972 (by decide) ?_
  refine lv_iadd hx hb d_law_973 ?_
  obtain ⟨h136, hJ⟩ := j_g hJ
  refine va_sld hx hb hXs hbl hbA hS (j_in h136) d_law_974 ?_
  refine lv_aload_n hx hb d_law_975 rfl (lv_at hl 3 rfl) ?_
  obtain ⟨x137, e137, hJ⟩ := j_bind hJ
  have hPa := hP.sub (ws' := wL ga ho cB cI cL (σ).1) [0, 1, 2, 3, 4, 5, 6, 7, 8, 9] rfl
  have hPb := hP.sub (ws' := wR gr cB cI (σ).2) [10, 11, 12, 13, 14, 15] rfl
  refine va_calli (x_runSW (As := [.ref (ga 0), .int (xs (v4 + (1 : Int32)).toNatClampNeg), .int (xs (v4 + (2 : Int32)).toNatClampNeg), .ref ho]) (rest := []) ⟨hx, hb, hml, hown, htb⟩ (c_Law_read (l := l) hl0 (dC := dC) (dI := dI) (sx := sx) (A := xD A (aR gr)) (wQ_1 hDq) e137) (xcSW (hh := [(0, 10, 13, 13), (0, 10, 17, 52)]) 4 htb tw524 tw0 tw522 tw523 rfl rfl hd_Law_read ⟨Nat.le_of_ble_eq_true rfl, Nat.le_of_ble_eq_true rfl⟩) (preW hPa hPb hK hX hN hS) rfl rfl hl.1 rfl (lv_room (Nat.le_of_ble_eq_true rfl)) d_law_976 ⟨(show _ ≤ 1047 by omega), (show _ ≤ 41245 by omega)⟩) hS (fun q _ h => h.1) (fun q h => h.1) (fun r0 u t H locs ht hvm hw hB _ hk1 hS => ?_)
  subst r0
  have hP : va_P (dC, dI) cls (wQ ga ho gr cB cI cL (x137.2, (σ).2)) H := (kW_P hB ht).app (keepL hPb (aR_in gr) hk1)
  refine lv_istore hx hb d_law_979 hl (Nat.le_of_ble_eq_true rfl) rfl (fun ls hl => ?_)
  have hl : lv_has ls 7 [(5, .int x137.1), (0, .ref b), (1, .ref (ga 0)), (2, .ref (gr 0)), (3, .ref ho), (4, .int v4)] := hl
  refine lv_aload_n hx hb d_law_981 rfl (lv_at hl 3 rfl) ?_
  refine lv_aload_n hx hb d_law_982 rfl (lv_at hl 1 rfl) ?_
  refine lv_iload hx hb d_law_983 (lv_at hl 5 rfl) ?_
  refine lv_iconst (v := (1 : Int32)) hx hb d_law_985 (by decide) ?_
  refine lv_iadd hx hb d_law_986 ?_
  obtain ⟨h138, hJ⟩ := j_g hJ
  refine va_sld hx hb hXs hbl hbA hS (j_in h138) d_law_987 ?_
  refine lv_aload_n hx hb d_law_988 rfl (lv_at hl 1 rfl) ?_
  refine lv_iload hx hb d_law_989 (lv_at hl 5 rfl) ?_
  refine lv_iconst (v := (2 : Int32)) hx hb d_law_991 (by decide) ?_
  refine lv_iadd hx hb d_law_992 ?_
  obtain ⟨h139, hJ⟩ := j_g hJ
  refine va_sld hx hb hXs hbl hbA hS (j_in h139) d_law_993 ?_
  obtain ⟨x140, e140, hJ⟩ := j_bind hJ
  have hPa := hP.sub (ws' := wL ga ho cB cI cL ((x137.2, (σ).2)).1) [0, 1, 2, 3, 4, 5, 6, 7, 8, 9] rfl
  have hPb := hP.sub (ws' := wR gr cB cI ((x137.2, (σ).2)).2) [10, 11, 12, 13, 14, 15] rfl
  refine va_calli (va_runV (As := [.int (xs (v4 + (1 : Int32)).toNatClampNeg), .int (xs (v4 + (2 : Int32)).toNatClampNeg)]) (rest := []) ⟨hx, hb, hml, hown, htb⟩ (c_Model_read (l := l) (dC := dC) (dI := dI) (A := xD A (aL ga ho)) (wQ_2 hDq) e140) (xcV 2 htb tw819 tw7 tw816 tw817 tw818 rfl rfl hd_Model_read ⟨Nat.le_of_ble_eq_true rfl, Nat.le_of_ble_eq_true rfl⟩) (kW_V hPb hKc (va_recv (q0 := 0) (ci := 5) hKc hPb rfl rfl)) rfl rfl hl.1 rfl (lv_room (Nat.le_of_ble_eq_true rfl)) d_law_994 ⟨(show _ ≤ 1047 by omega), (show _ ≤ 41245 by omega)⟩) hS (fun q _ h => h.1) (fun q h => h.1) (fun r0 u t H locs ht hvm hw hB _ hk1 hS => ?_)
  subst r0
  have hP : va_P (dC, dI) cls (wQ ga ho gr cB cI cL (((x137.2, (σ).2)).1, x140.2)) H := (keepL hPa (aL_in ga ho) hk1).app (kW_P hB ht)
  refine lv_istore hx hb d_law_997 hl (Nat.le_of_ble_eq_true rfl) rfl (fun ls hl => ?_)
  have hl : lv_has ls 7 [(6, .int x140.1), (5, .int x137.1), (0, .ref b), (1, .ref (ga 0)), (2, .ref (gr 0)), (3, .ref ho), (4, .int v4)] := hl
  refine lv_aload_n hx hb d_law_999 rfl (lv_at hl 4 rfl) ?_
  obtain ⟨x141, e141, hJ⟩ := j_bind hJ
  have hPa := hP.sub (ws' := wL ga ho cB cI cL ((((x137.2, (σ).2)).1, x140.2)).1) [0, 1, 2, 3, 4, 5, 6, 7, 8, 9] rfl
  have hPb := hP.sub (ws' := wR gr cB cI ((((x137.2, (σ).2)).1, x140.2)).2) [10, 11, 12, 13, 14, 15] rfl
  refine va_calli (va_runV (As := []) (rest := []) ⟨hx, hb, hml, hown, htb⟩ (c_Model_thrown (l := l) (dC := dC) (dI := dI) (A := xD A (aL ga ho)) (wQ_2 hDq) e141) (xcV 0 htb tw630 tw7 tw627 tw628 tw629 rfl rfl hd_Model_thrown ⟨Nat.le_of_ble_eq_true rfl, Nat.le_of_ble_eq_true rfl⟩) (kW_V hPb hKc (va_recv (q0 := 0) (ci := 5) hKc hPb rfl rfl)) rfl rfl hl.1 rfl (lv_room (Nat.le_of_ble_eq_true rfl)) d_law_1000 ⟨(show _ ≤ 1047 by omega), (show _ ≤ 41245 by omega)⟩) hS (fun q _ h => h.1) (fun q h => h.1) (fun r0 u t H locs ht hvm hw hB _ hk1 hS => ?_)
  subst r0
  have hP : va_P (dC, dI) cls (wQ ga ho gr cB cI cL (((x137.2, (σ).2)).1, x140.2)) H := (keepL hPa (aL_in ga ho) hk1).app (kW_P hB ht)
  refine lv_iload hx hb d_law_1003 (lv_at hl 1 rfl) ?_
  refine lv_icmp_eq (tgt := 1010) hx hb d_law_1005 (by decide) (fun h142 => ?_) (fun h142 => ?_)
  · have hJ := j_t hJ h142
    refine lv_iload hx hb d_law_1010 (lv_at hl 1 rfl) ?_
    refine lv_if_ne (tgt := 1027) hx hb d_law_1012 (by decide) (fun h143 => ?_) (fun h143 => ?_)
    · have hJ := j_f hJ h143
      refine lv_goto (tgt := 1259) hx hb d_law_1027 (by decide) ?_
      refine lv_iinc (k := 6) (v := (v4 + (6 : Int32))) hx hb d_law_1259 hl rfl rfl (Nat.le_of_ble_eq_true rfl) rfl (fun ls hl => ?_)
      have hl : lv_has ls 7 [(4, .int (v4 + (6 : Int32))), (6, .int x140.1), (5, .int x137.1), (0, .ref b), (1, .ref (ga 0)), (2, .ref (gr 0)), (3, .ref ho)] := hl
      refine lv_goto (tgt := 23) hx hb d_law_1262 (by decide) ?_
      exact hk _ _ _ _ _ _ _ hJ (by omega) (by omega) (lv_sub hl [3, 4, 5, 6, 0] rfl) hP hS
    · have hJ := j_t hJ h143
      refine lv_aload_n hx hb d_law_1015 rfl (lv_at hl 5 rfl) ?_
      refine lv_iconst (v := (0 : Int32)) hx hb d_law_1016 (by decide) ?_
      obtain ⟨h144, hJ⟩ := j_g hJ
      refine va_lald hx hb hK hP 9 2 rfl rfl (j_in h144) d_law_1017 ?_
      refine lv_iload hx hb d_law_1018 (lv_at hl 0 rfl) ?_
      refine lv_i2l hx hb d_law_1020 rfl ?_
      refine W.lcmp hx hb d_law_1021 ?_
      refine lv_if_eq (tgt := 1027) hx hb d_law_1022 (by decide) (fun h145 => ?_) (fun h145 => ?_)
      · have hJ := j_t hJ h145
        refine lv_goto (tgt := 1259) hx hb d_law_1027 (by decide) ?_
        refine lv_iinc (k := 6) (v := (v4 + (6 : Int32))) hx hb d_law_1259 hl rfl rfl (Nat.le_of_ble_eq_true rfl) rfl (fun ls hl => ?_)
        have hl : lv_has ls 7 [(4, .int (v4 + (6 : Int32))), (6, .int x140.1), (5, .int x137.1), (0, .ref b), (1, .ref (ga 0)), (2, .ref (gr 0)), (3, .ref ho)] := hl
        refine lv_goto (tgt := 23) hx hb d_law_1262 (by decide) ?_
        exact hk _ _ _ _ _ _ _ hJ (by omega) (by omega) (lv_sub hl [3, 4, 5, 6, 0] rfl) hP hS
      · have hJ := j_f hJ h145
        refine lv_iconst (v := (0 : Int32)) hx hb d_law_1025 (by decide) ?_
        exact j_none hJ
  · have hJ := j_f hJ h142
    refine lv_iconst (v := (0 : Int32)) hx hb d_law_1008 (by decide) ?_
    exact j_none hJ
set_option maxHeartbeats 4000000 in
set_option maxRecDepth 100000 in
theorem law_1030 {p : Program} {e : Env} {s : State} {m : MethodId} {below : List Frame} {meth : Method} {c : Code} {l : Launch} {b L : Nat} {xs : Nat → Int32} {dC : Nat → ClassId} {dI : Nat → Nat → Nat} {ga : Nat → Nat} {ho : Nat} {gr : Nat → Nat} {cB cI cL : ClassId} {A : Nat → Prop} {sx : Nat → Nat} (Cx : lawCx p s m meth c l b L xs dC dI ga ho gr cB cI cL A sx) (k : QS → Int32 → Option Unit) {N : Nat} (hk : ∀ (σ : QS) (v4 : Int32) (ls : Array Slot) (H : Heap) (locs : List Loc) (cells slots : Nat), k σ v4 = some () → cells + N ≤ 1047 → slots + 6 * N ≤ 41245 → lv_has ls 7 [(0, .ref b), (1, .ref (ga 0)), (2, .ref (gr 0)), (3, .ref ho), (4, .int v4)] → va_P (dC, dI) cls (wQ ga ho gr cB cI cL σ) H → va_S A s.heap H locs → W p l e room_1 s m #[Value.ref b] below meth c H locs cells slots (lw_Z below #[Value.ref b] s) (F0 m 23 ls [])) :
    ∀ (σ : QS) (v4 : Int32) (ls : Array Slot) (H : Heap) (locs : List Loc) (cells slots : Nat), J_law_1030 xs L k σ v4 = some () → cells + (N + 1) ≤ 1047 → slots + 6 * (N + 1) ≤ 41245 → lv_has ls 7 [(0, .ref b), (1, .ref (ga 0)), (2, .ref (gr 0)), (3, .ref ho), (4, .int v4)] → va_P (dC, dI) cls (wQ ga ho gr cB cI cL σ) H → va_S A s.heap H locs → W p l e room_1 s m #[Value.ref b] below meth c H locs cells slots (lw_Z below #[Value.ref b] s) (F0 m 1030 ls []) := by
  obtain ⟨hx, hb, hr, hml, hown, htb, hXs, hbl, hA0, hlocks, hl0, hK, hX, hN, hDq⟩ := id Cx
  have hbA : ¬ A b := fun z => absurd (hA0 b z) (by omega)
  have hKc := hK.sub (tys' := tC cB cI) [0, 1] rfl
  intro σ v4 ls H locs cells slots hJ hcc hss hl hP hS
  unfold J_law_1030 at hJ
  refine lv_aload_n hx hb d_law_1030 rfl (lv_at hl 1 rfl) ?_
  refine lv_aload_n hx hb d_law_1031 rfl (lv_at hl 0 rfl) ?_
  refine lv_iload hx hb d_law_1032 (lv_at hl 4 rfl) ?_
  refine lv_iconst (v := (1 : Int32)) hx hb d_law_1034 (by decide) ?_
  refine lv_iadd hx hb d_law_1035 ?_
  obtain ⟨h147, hJ⟩ := j_g hJ
  refine va_sld hx hb hXs hbl hbA hS (j_in h147) d_law_1036 ?_
  refine lv_aload_n hx hb d_law_1037 rfl (lv_at hl 0 rfl) ?_
  refine lv_iload hx hb d_law_1038 (lv_at hl 4 rfl) ?_
  refine lv_iconst (v := (2 : Int32)) hx hb d_law_1040 (by decide) ?_
  refine lv_iadd hx hb d_law_1041 ?_
  obtain ⟨h148, hJ⟩ := j_g hJ
  refine va_sld hx hb hXs hbl hbA hS (j_in h148) d_law_1042 ?_
  refine lv_aload_n hx hb d_law_1043 rfl (lv_at hl 3 rfl) ?_
  obtain ⟨x149, e149, hJ⟩ := j_bind hJ
  have hPa := hP.sub (ws' := wL ga ho cB cI cL (σ).1) [0, 1, 2, 3, 4, 5, 6, 7, 8, 9] rfl
  have hPb := hP.sub (ws' := wR gr cB cI (σ).2) [10, 11, 12, 13, 14, 15] rfl
  refine va_calli (x_runSW (As := [.ref (ga 0), .int (xs (v4 + (1 : Int32)).toNatClampNeg), .int (xs (v4 + (2 : Int32)).toNatClampNeg), .ref ho]) (rest := []) ⟨hx, hb, hml, hown, htb⟩ (c_Law_look (l := l) hl0 (dC := dC) (dI := dI) (sx := sx) (A := xD A (aR gr)) (wQ_1 hDq) e149) (xcSW (hh := [(0, 10, 13, 13), (0, 10, 17, 52)]) 4 htb tw552 tw0 tw550 tw551 rfl rfl hd_Law_look ⟨Nat.le_of_ble_eq_true rfl, Nat.le_of_ble_eq_true rfl⟩) (preW hPa hPb hK hX hN hS) rfl rfl hl.1 rfl (lv_room (Nat.le_of_ble_eq_true rfl)) d_law_1044 ⟨(show _ ≤ 1047 by omega), (show _ ≤ 41245 by omega)⟩) hS (fun q _ h => h.1) (fun q h => h.1) (fun r0 u t H locs ht hvm hw hB _ hk1 hS => ?_)
  subst r0
  have hP : va_P (dC, dI) cls (wQ ga ho gr cB cI cL (x149.2, (σ).2)) H := (kW_P hB ht).app (keepL hPb (aR_in gr) hk1)
  refine lv_istore hx hb d_law_1047 hl (Nat.le_of_ble_eq_true rfl) rfl (fun ls hl => ?_)
  have hl : lv_has ls 7 [(5, .int x149.1), (0, .ref b), (1, .ref (ga 0)), (2, .ref (gr 0)), (3, .ref ho), (4, .int v4)] := hl
  refine lv_aload_n hx hb d_law_1049 rfl (lv_at hl 3 rfl) ?_
  refine lv_aload_n hx hb d_law_1050 rfl (lv_at hl 1 rfl) ?_
  refine lv_iload hx hb d_law_1051 (lv_at hl 5 rfl) ?_
  refine lv_iconst (v := (1 : Int32)) hx hb d_law_1053 (by decide) ?_
  refine lv_iadd hx hb d_law_1054 ?_
  obtain ⟨h150, hJ⟩ := j_g hJ
  refine va_sld hx hb hXs hbl hbA hS (j_in h150) d_law_1055 ?_
  refine lv_aload_n hx hb d_law_1056 rfl (lv_at hl 1 rfl) ?_
  refine lv_iload hx hb d_law_1057 (lv_at hl 5 rfl) ?_
  refine lv_iconst (v := (2 : Int32)) hx hb d_law_1059 (by decide) ?_
  refine lv_iadd hx hb d_law_1060 ?_
  obtain ⟨h151, hJ⟩ := j_g hJ
  refine va_sld hx hb hXs hbl hbA hS (j_in h151) d_law_1061 ?_
  obtain ⟨x152, e152, hJ⟩ := j_bind hJ
  have hPa := hP.sub (ws' := wL ga ho cB cI cL ((x149.2, (σ).2)).1) [0, 1, 2, 3, 4, 5, 6, 7, 8, 9] rfl
  have hPb := hP.sub (ws' := wR gr cB cI ((x149.2, (σ).2)).2) [10, 11, 12, 13, 14, 15] rfl
  refine va_calli (va_runV (As := [.int (xs (v4 + (1 : Int32)).toNatClampNeg), .int (xs (v4 + (2 : Int32)).toNatClampNeg)]) (rest := []) ⟨hx, hb, hml, hown, htb⟩ (c_Model_look (l := l) (dC := dC) (dI := dI) (A := xD A (aL ga ho)) (wQ_2 hDq) e152) (xcV 2 htb tw823 tw7 tw820 tw821 tw822 rfl rfl hd_Model_look ⟨Nat.le_of_ble_eq_true rfl, Nat.le_of_ble_eq_true rfl⟩) (kW_V hPb hKc (va_recv (q0 := 0) (ci := 5) hKc hPb rfl rfl)) rfl rfl hl.1 rfl (lv_room (Nat.le_of_ble_eq_true rfl)) d_law_1062 ⟨(show _ ≤ 1047 by omega), (show _ ≤ 41245 by omega)⟩) hS (fun q _ h => h.1) (fun q h => h.1) (fun r0 u t H locs ht hvm hw hB _ hk1 hS => ?_)
  subst r0
  have hP : va_P (dC, dI) cls (wQ ga ho gr cB cI cL (((x149.2, (σ).2)).1, x152.2)) H := (keepL hPa (aL_in ga ho) hk1).app (kW_P hB ht)
  refine lv_istore hx hb d_law_1065 hl (Nat.le_of_ble_eq_true rfl) rfl (fun ls hl => ?_)
  have hl : lv_has ls 7 [(6, .int x152.1), (5, .int x149.1), (0, .ref b), (1, .ref (ga 0)), (2, .ref (gr 0)), (3, .ref ho), (4, .int v4)] := hl
  refine lv_aload_n hx hb d_law_1067 rfl (lv_at hl 4 rfl) ?_
  obtain ⟨x153, e153, hJ⟩ := j_bind hJ
  have hPa := hP.sub (ws' := wL ga ho cB cI cL ((((x149.2, (σ).2)).1, x152.2)).1) [0, 1, 2, 3, 4, 5, 6, 7, 8, 9] rfl
  have hPb := hP.sub (ws' := wR gr cB cI ((((x149.2, (σ).2)).1, x152.2)).2) [10, 11, 12, 13, 14, 15] rfl
  refine va_calli (va_runV (As := []) (rest := []) ⟨hx, hb, hml, hown, htb⟩ (c_Model_thrown (l := l) (dC := dC) (dI := dI) (A := xD A (aL ga ho)) (wQ_2 hDq) e153) (xcV 0 htb tw630 tw7 tw627 tw628 tw629 rfl rfl hd_Model_thrown ⟨Nat.le_of_ble_eq_true rfl, Nat.le_of_ble_eq_true rfl⟩) (kW_V hPb hKc (va_recv (q0 := 0) (ci := 5) hKc hPb rfl rfl)) rfl rfl hl.1 rfl (lv_room (Nat.le_of_ble_eq_true rfl)) d_law_1068 ⟨(show _ ≤ 1047 by omega), (show _ ≤ 41245 by omega)⟩) hS (fun q _ h => h.1) (fun q h => h.1) (fun r0 u t H locs ht hvm hw hB _ hk1 hS => ?_)
  subst r0
  have hP : va_P (dC, dI) cls (wQ ga ho gr cB cI cL (((x149.2, (σ).2)).1, x152.2)) H := (keepL hPa (aL_in ga ho) hk1).app (kW_P hB ht)
  refine lv_iload hx hb d_law_1071 (lv_at hl 1 rfl) ?_
  refine lv_icmp_eq (tgt := 1078) hx hb d_law_1073 (by decide) (fun h154 => ?_) (fun h154 => ?_)
  · have hJ := j_t hJ h154
    refine lv_iload hx hb d_law_1078 (lv_at hl 1 rfl) ?_
    refine lv_if_ne (tgt := 1095) hx hb d_law_1080 (by decide) (fun h155 => ?_) (fun h155 => ?_)
    · have hJ := j_f hJ h155
      refine lv_goto (tgt := 1259) hx hb d_law_1095 (by decide) ?_
      refine lv_iinc (k := 6) (v := (v4 + (6 : Int32))) hx hb d_law_1259 hl rfl rfl (Nat.le_of_ble_eq_true rfl) rfl (fun ls hl => ?_)
      have hl : lv_has ls 7 [(4, .int (v4 + (6 : Int32))), (6, .int x152.1), (5, .int x149.1), (0, .ref b), (1, .ref (ga 0)), (2, .ref (gr 0)), (3, .ref ho)] := hl
      refine lv_goto (tgt := 23) hx hb d_law_1262 (by decide) ?_
      exact hk _ _ _ _ _ _ _ hJ (by omega) (by omega) (lv_sub hl [3, 4, 5, 6, 0] rfl) hP hS
    · have hJ := j_t hJ h155
      refine lv_aload_n hx hb d_law_1083 rfl (lv_at hl 5 rfl) ?_
      refine lv_iconst (v := (0 : Int32)) hx hb d_law_1084 (by decide) ?_
      obtain ⟨h156, hJ⟩ := j_g hJ
      refine va_lald hx hb hK hP 9 2 rfl rfl (j_in h156) d_law_1085 ?_
      refine lv_iload hx hb d_law_1086 (lv_at hl 0 rfl) ?_
      refine lv_i2l hx hb d_law_1088 rfl ?_
      refine W.lcmp hx hb d_law_1089 ?_
      refine lv_if_eq (tgt := 1095) hx hb d_law_1090 (by decide) (fun h157 => ?_) (fun h157 => ?_)
      · have hJ := j_t hJ h157
        refine lv_goto (tgt := 1259) hx hb d_law_1095 (by decide) ?_
        refine lv_iinc (k := 6) (v := (v4 + (6 : Int32))) hx hb d_law_1259 hl rfl rfl (Nat.le_of_ble_eq_true rfl) rfl (fun ls hl => ?_)
        have hl : lv_has ls 7 [(4, .int (v4 + (6 : Int32))), (6, .int x152.1), (5, .int x149.1), (0, .ref b), (1, .ref (ga 0)), (2, .ref (gr 0)), (3, .ref ho)] := hl
        refine lv_goto (tgt := 23) hx hb d_law_1262 (by decide) ?_
        exact hk _ _ _ _ _ _ _ hJ (by omega) (by omega) (lv_sub hl [3, 4, 5, 6, 0] rfl) hP hS
      · have hJ := j_f hJ h157
        refine lv_iconst (v := (0 : Int32)) hx hb d_law_1093 (by decide) ?_
        exact j_none hJ
  · have hJ := j_f hJ h154
    refine lv_iconst (v := (0 : Int32)) hx hb d_law_1076 (by decide) ?_
    exact j_none hJ
set_option maxHeartbeats 4000000 in
set_option maxRecDepth 100000 in
theorem law_1098 {p : Program} {e : Env} {s : State} {m : MethodId} {below : List Frame} {meth : Method} {c : Code} {l : Launch} {b L : Nat} {xs : Nat → Int32} {dC : Nat → ClassId} {dI : Nat → Nat → Nat} {ga : Nat → Nat} {ho : Nat} {gr : Nat → Nat} {cB cI cL : ClassId} {A : Nat → Prop} {sx : Nat → Nat} (Cx : lawCx p s m meth c l b L xs dC dI ga ho gr cB cI cL A sx) (k : QS → Int32 → Option Unit) {N : Nat} (hk : ∀ (σ : QS) (v4 : Int32) (ls : Array Slot) (H : Heap) (locs : List Loc) (cells slots : Nat), k σ v4 = some () → cells + N ≤ 1047 → slots + 6 * N ≤ 41245 → lv_has ls 7 [(0, .ref b), (1, .ref (ga 0)), (2, .ref (gr 0)), (3, .ref ho), (4, .int v4)] → va_P (dC, dI) cls (wQ ga ho gr cB cI cL σ) H → va_S A s.heap H locs → W p l e room_1 s m #[Value.ref b] below meth c H locs cells slots (lw_Z below #[Value.ref b] s) (F0 m 23 ls [])) :
    ∀ (σ : QS) (v4 : Int32) (ls : Array Slot) (H : Heap) (locs : List Loc) (cells slots : Nat), J_law_1098 xs L k σ v4 = some () → cells + (N + 1) ≤ 1047 → slots + 6 * (N + 1) ≤ 41245 → lv_has ls 7 [(0, .ref b), (1, .ref (ga 0)), (2, .ref (gr 0)), (3, .ref ho), (4, .int v4)] → va_P (dC, dI) cls (wQ ga ho gr cB cI cL σ) H → va_S A s.heap H locs → W p l e room_1 s m #[Value.ref b] below meth c H locs cells slots (lw_Z below #[Value.ref b] s) (F0 m 1098 ls []) := by
  obtain ⟨hx, hb, hr, hml, hown, htb, hXs, hbl, hA0, hlocks, hl0, hK, hX, hN, hDq⟩ := id Cx
  have hbA : ¬ A b := fun z => absurd (hA0 b z) (by omega)
  have hKc := hK.sub (tys' := tC cB cI) [0, 1] rfl
  intro σ v4 ls H locs cells slots hJ hcc hss hl hP hS
  unfold J_law_1098 at hJ
  refine lv_aload_n hx hb d_law_1098 rfl (lv_at hl 1 rfl) ?_
  refine lv_aload_n hx hb d_law_1099 rfl (lv_at hl 0 rfl) ?_
  refine lv_iload hx hb d_law_1100 (lv_at hl 4 rfl) ?_
  refine lv_iconst (v := (1 : Int32)) hx hb d_law_1102 (by decide) ?_
  refine lv_iadd hx hb d_law_1103 ?_
  obtain ⟨h159, hJ⟩ := j_g hJ
  refine va_sld hx hb hXs hbl hbA hS (j_in h159) d_law_1104 ?_
  refine lv_aload_n hx hb d_law_1105 rfl (lv_at hl 0 rfl) ?_
  refine lv_iload hx hb d_law_1106 (lv_at hl 4 rfl) ?_
  refine lv_iconst (v := (2 : Int32)) hx hb d_law_1108 (by decide) ?_
  refine lv_iadd hx hb d_law_1109 ?_
  obtain ⟨h160, hJ⟩ := j_g hJ
  refine va_sld hx hb hXs hbl hbA hS (j_in h160) d_law_1110 ?_
  refine lv_aload_n hx hb d_law_1111 rfl (lv_at hl 3 rfl) ?_
  obtain ⟨x161, e161, hJ⟩ := j_bind hJ
  have hPa := hP.sub (ws' := wL ga ho cB cI cL (σ).1) [0, 1, 2, 3, 4, 5, 6, 7, 8, 9] rfl
  have hPb := hP.sub (ws' := wR gr cB cI (σ).2) [10, 11, 12, 13, 14, 15] rfl
  refine va_calli (x_runSW (As := [.ref (ga 0), .int (xs (v4 + (1 : Int32)).toNatClampNeg), .int (xs (v4 + (2 : Int32)).toNatClampNeg), .ref ho]) (rest := []) ⟨hx, hb, hml, hown, htb⟩ (c_Law_disk (l := l) hl0 (dC := dC) (dI := dI) (sx := sx) (A := xD A (aR gr)) (wQ_1 hDq) e161) (xcSW (hh := [(0, 10, 13, 52)]) 4 htb tw564 tw0 tw562 tw563 rfl rfl hd_Law_disk ⟨Nat.le_of_ble_eq_true rfl, Nat.le_of_ble_eq_true rfl⟩) (preW hPa hPb hK hX hN hS) rfl rfl hl.1 rfl (lv_room (Nat.le_of_ble_eq_true rfl)) d_law_1112 ⟨(show _ ≤ 1047 by omega), (show _ ≤ 41245 by omega)⟩) hS (fun q _ h => h.1) (fun q h => h.1) (fun r0 u t H locs ht hvm hw hB _ hk1 hS => ?_)
  subst r0
  have hP : va_P (dC, dI) cls (wQ ga ho gr cB cI cL (x161.2, (σ).2)) H := (kW_P hB ht).app (keepL hPb (aR_in gr) hk1)
  refine lv_istore hx hb d_law_1115 hl (Nat.le_of_ble_eq_true rfl) rfl (fun ls hl => ?_)
  have hl : lv_has ls 7 [(5, .int x161.1), (0, .ref b), (1, .ref (ga 0)), (2, .ref (gr 0)), (3, .ref ho), (4, .int v4)] := hl
  refine lv_aload_n hx hb d_law_1117 rfl (lv_at hl 3 rfl) ?_
  refine lv_aload_n hx hb d_law_1118 rfl (lv_at hl 1 rfl) ?_
  refine lv_iload hx hb d_law_1119 (lv_at hl 5 rfl) ?_
  refine lv_iconst (v := (1 : Int32)) hx hb d_law_1121 (by decide) ?_
  refine lv_iadd hx hb d_law_1122 ?_
  obtain ⟨h162, hJ⟩ := j_g hJ
  refine va_sld hx hb hXs hbl hbA hS (j_in h162) d_law_1123 ?_
  refine lv_aload_n hx hb d_law_1124 rfl (lv_at hl 1 rfl) ?_
  refine lv_iload hx hb d_law_1125 (lv_at hl 5 rfl) ?_
  refine lv_iconst (v := (2 : Int32)) hx hb d_law_1127 (by decide) ?_
  refine lv_iadd hx hb d_law_1128 ?_
  obtain ⟨h163, hJ⟩ := j_g hJ
  refine va_sld hx hb hXs hbl hbA hS (j_in h163) d_law_1129 ?_
  obtain ⟨x164, e164, hJ⟩ := j_bind hJ
  have hPa := hP.sub (ws' := wL ga ho cB cI cL ((x161.2, (σ).2)).1) [0, 1, 2, 3, 4, 5, 6, 7, 8, 9] rfl
  have hPb := hP.sub (ws' := wR gr cB cI ((x161.2, (σ).2)).2) [10, 11, 12, 13, 14, 15] rfl
  refine va_calli (va_runV (As := [.int (xs (v4 + (1 : Int32)).toNatClampNeg), .int (xs (v4 + (2 : Int32)).toNatClampNeg)]) (rest := []) ⟨hx, hb, hml, hown, htb⟩ (c_Model_disk (l := l) (dC := dC) (dI := dI) (A := xD A (aL ga ho)) (wQ_2 hDq) e164) (xcV 2 htb tw827 tw7 tw824 tw825 tw826 rfl rfl hd_Model_disk ⟨Nat.le_of_ble_eq_true rfl, Nat.le_of_ble_eq_true rfl⟩) (kW_V hPb hKc (va_recv (q0 := 0) (ci := 5) hKc hPb rfl rfl)) rfl rfl hl.1 rfl (lv_room (Nat.le_of_ble_eq_true rfl)) d_law_1130 ⟨(show _ ≤ 1047 by omega), (show _ ≤ 41245 by omega)⟩) hS (fun q _ h => h.1) (fun q h => h.1) (fun r0 u t H locs ht hvm hw hB _ hk1 hS => ?_)
  subst r0
  have hP : va_P (dC, dI) cls (wQ ga ho gr cB cI cL (((x161.2, (σ).2)).1, x164.2)) H := (keepL hPa (aL_in ga ho) hk1).app (kW_P hB ht)
  refine lv_istore hx hb d_law_1133 hl (Nat.le_of_ble_eq_true rfl) rfl (fun ls hl => ?_)
  have hl : lv_has ls 7 [(6, .int x164.1), (5, .int x161.1), (0, .ref b), (1, .ref (ga 0)), (2, .ref (gr 0)), (3, .ref ho), (4, .int v4)] := hl
  refine lv_aload_n hx hb d_law_1135 rfl (lv_at hl 4 rfl) ?_
  obtain ⟨x165, e165, hJ⟩ := j_bind hJ
  have hPa := hP.sub (ws' := wL ga ho cB cI cL ((((x161.2, (σ).2)).1, x164.2)).1) [0, 1, 2, 3, 4, 5, 6, 7, 8, 9] rfl
  have hPb := hP.sub (ws' := wR gr cB cI ((((x161.2, (σ).2)).1, x164.2)).2) [10, 11, 12, 13, 14, 15] rfl
  refine va_calli (va_runV (As := []) (rest := []) ⟨hx, hb, hml, hown, htb⟩ (c_Model_thrown (l := l) (dC := dC) (dI := dI) (A := xD A (aL ga ho)) (wQ_2 hDq) e165) (xcV 0 htb tw630 tw7 tw627 tw628 tw629 rfl rfl hd_Model_thrown ⟨Nat.le_of_ble_eq_true rfl, Nat.le_of_ble_eq_true rfl⟩) (kW_V hPb hKc (va_recv (q0 := 0) (ci := 5) hKc hPb rfl rfl)) rfl rfl hl.1 rfl (lv_room (Nat.le_of_ble_eq_true rfl)) d_law_1136 ⟨(show _ ≤ 1047 by omega), (show _ ≤ 41245 by omega)⟩) hS (fun q _ h => h.1) (fun q h => h.1) (fun r0 u t H locs ht hvm hw hB _ hk1 hS => ?_)
  subst r0
  have hP : va_P (dC, dI) cls (wQ ga ho gr cB cI cL (((x161.2, (σ).2)).1, x164.2)) H := (keepL hPa (aL_in ga ho) hk1).app (kW_P hB ht)
  refine lv_iload hx hb d_law_1139 (lv_at hl 1 rfl) ?_
  refine lv_icmp_eq (tgt := 1146) hx hb d_law_1141 (by decide) (fun h166 => ?_) (fun h166 => ?_)
  · have hJ := j_t hJ h166
    refine lv_iload hx hb d_law_1146 (lv_at hl 1 rfl) ?_
    refine lv_if_ne (tgt := 1163) hx hb d_law_1148 (by decide) (fun h167 => ?_) (fun h167 => ?_)
    · have hJ := j_f hJ h167
      refine lv_goto (tgt := 1259) hx hb d_law_1163 (by decide) ?_
      refine lv_iinc (k := 6) (v := (v4 + (6 : Int32))) hx hb d_law_1259 hl rfl rfl (Nat.le_of_ble_eq_true rfl) rfl (fun ls hl => ?_)
      have hl : lv_has ls 7 [(4, .int (v4 + (6 : Int32))), (6, .int x164.1), (5, .int x161.1), (0, .ref b), (1, .ref (ga 0)), (2, .ref (gr 0)), (3, .ref ho)] := hl
      refine lv_goto (tgt := 23) hx hb d_law_1262 (by decide) ?_
      exact hk _ _ _ _ _ _ _ hJ (by omega) (by omega) (lv_sub hl [3, 4, 5, 6, 0] rfl) hP hS
    · have hJ := j_t hJ h167
      refine lv_aload_n hx hb d_law_1151 rfl (lv_at hl 5 rfl) ?_
      refine lv_iconst (v := (0 : Int32)) hx hb d_law_1152 (by decide) ?_
      obtain ⟨h168, hJ⟩ := j_g hJ
      refine va_lald hx hb hK hP 9 2 rfl rfl (j_in h168) d_law_1153 ?_
      refine lv_iload hx hb d_law_1154 (lv_at hl 0 rfl) ?_
      refine lv_i2l hx hb d_law_1156 rfl ?_
      refine W.lcmp hx hb d_law_1157 ?_
      refine lv_if_eq (tgt := 1163) hx hb d_law_1158 (by decide) (fun h169 => ?_) (fun h169 => ?_)
      · have hJ := j_t hJ h169
        refine lv_goto (tgt := 1259) hx hb d_law_1163 (by decide) ?_
        refine lv_iinc (k := 6) (v := (v4 + (6 : Int32))) hx hb d_law_1259 hl rfl rfl (Nat.le_of_ble_eq_true rfl) rfl (fun ls hl => ?_)
        have hl : lv_has ls 7 [(4, .int (v4 + (6 : Int32))), (6, .int x164.1), (5, .int x161.1), (0, .ref b), (1, .ref (ga 0)), (2, .ref (gr 0)), (3, .ref ho)] := hl
        refine lv_goto (tgt := 23) hx hb d_law_1262 (by decide) ?_
        exact hk _ _ _ _ _ _ _ hJ (by omega) (by omega) (lv_sub hl [3, 4, 5, 6, 0] rfl) hP hS
      · have hJ := j_f hJ h169
        refine lv_iconst (v := (0 : Int32)) hx hb d_law_1161 (by decide) ?_
        exact j_none hJ
  · have hJ := j_f hJ h166
    refine lv_iconst (v := (0 : Int32)) hx hb d_law_1144 (by decide) ?_
    exact j_none hJ
set_option maxHeartbeats 4000000 in
set_option maxRecDepth 100000 in
theorem law_1166 {p : Program} {e : Env} {s : State} {m : MethodId} {below : List Frame} {meth : Method} {c : Code} {l : Launch} {b L : Nat} {xs : Nat → Int32} {dC : Nat → ClassId} {dI : Nat → Nat → Nat} {ga : Nat → Nat} {ho : Nat} {gr : Nat → Nat} {cB cI cL : ClassId} {A : Nat → Prop} {sx : Nat → Nat} (Cx : lawCx p s m meth c l b L xs dC dI ga ho gr cB cI cL A sx) (k : QS → Int32 → Option Unit) {N : Nat} (hk : ∀ (σ : QS) (v4 : Int32) (ls : Array Slot) (H : Heap) (locs : List Loc) (cells slots : Nat), k σ v4 = some () → cells + N ≤ 1047 → slots + 6 * N ≤ 41245 → lv_has ls 7 [(0, .ref b), (1, .ref (ga 0)), (2, .ref (gr 0)), (3, .ref ho), (4, .int v4)] → va_P (dC, dI) cls (wQ ga ho gr cB cI cL σ) H → va_S A s.heap H locs → W p l e room_1 s m #[Value.ref b] below meth c H locs cells slots (lw_Z below #[Value.ref b] s) (F0 m 23 ls [])) :
    ∀ (σ : QS) (v4 : Int32) (ls : Array Slot) (H : Heap) (locs : List Loc) (cells slots : Nat), J_law_1166 xs L k σ v4 = some () → cells + (N + 1) ≤ 1047 → slots + 6 * (N + 1) ≤ 41245 → lv_has ls 7 [(0, .ref b), (1, .ref (ga 0)), (2, .ref (gr 0)), (3, .ref ho), (4, .int v4)] → va_P (dC, dI) cls (wQ ga ho gr cB cI cL σ) H → va_S A s.heap H locs → W p l e room_1 s m #[Value.ref b] below meth c H locs cells slots (lw_Z below #[Value.ref b] s) (F0 m 1166 ls []) := by
  obtain ⟨hx, hb, hr, hml, hown, htb, hXs, hbl, hA0, hlocks, hl0, hK, hX, hN, hDq⟩ := id Cx
  have hbA : ¬ A b := fun z => absurd (hA0 b z) (by omega)
  have hKc := hK.sub (tys' := tC cB cI) [0, 1] rfl
  intro σ v4 ls H locs cells slots hJ hcc hss hl hP hS
  unfold J_law_1166 at hJ
  refine lv_aload_n hx hb d_law_1166 rfl (lv_at hl 1 rfl) ?_
  refine lv_aload_n hx hb d_law_1167 rfl (lv_at hl 0 rfl) ?_
  refine lv_iload hx hb d_law_1168 (lv_at hl 4 rfl) ?_
  refine lv_iconst (v := (1 : Int32)) hx hb d_law_1170 (by decide) ?_
  refine lv_iadd hx hb d_law_1171 ?_
  obtain ⟨h171, hJ⟩ := j_g hJ
  refine va_sld hx hb hXs hbl hbA hS (j_in h171) d_law_1172 ?_
  refine lv_aload_n hx hb d_law_1173 rfl (lv_at hl 0 rfl) ?_
  refine lv_iload hx hb d_law_1174 (lv_at hl 4 rfl) ?_
  refine lv_iconst (v := (2 : Int32)) hx hb d_law_1176 (by decide) ?_
  refine lv_iadd hx hb d_law_1177 ?_
  obtain ⟨h172, hJ⟩ := j_g hJ
  refine va_sld hx hb hXs hbl hbA hS (j_in h172) d_law_1178 ?_
  refine lv_aload_n hx hb d_law_1179 rfl (lv_at hl 3 rfl) ?_
  obtain ⟨x173, e173, hJ⟩ := j_bind hJ
  have hPa := hP.sub (ws' := wL ga ho cB cI cL (σ).1) [0, 1, 2, 3, 4, 5, 6, 7, 8, 9] rfl
  have hPb := hP.sub (ws' := wR gr cB cI (σ).2) [10, 11, 12, 13, 14, 15] rfl
  refine va_calli (x_runSW (As := [.ref (ga 0), .int (xs (v4 + (1 : Int32)).toNatClampNeg), .int (xs (v4 + (2 : Int32)).toNatClampNeg), .ref ho]) (rest := []) ⟨hx, hb, hml, hown, htb⟩ (c_Law_memory (l := l) hl0 (dC := dC) (dI := dI) (sx := sx) (A := xD A (aR gr)) (wQ_1 hDq) e173) (xcSW (hh := [(0, 10, 13, 13), (0, 10, 17, 52)]) 4 htb tw575 tw0 tw573 tw574 rfl rfl hd_Law_memory ⟨Nat.le_of_ble_eq_true rfl, Nat.le_of_ble_eq_true rfl⟩) (preW hPa hPb hK hX hN hS) rfl rfl hl.1 rfl (lv_room (Nat.le_of_ble_eq_true rfl)) d_law_1180 ⟨(show _ ≤ 1047 by omega), (show _ ≤ 41245 by omega)⟩) hS (fun q _ h => h.1) (fun q h => h.1) (fun r0 u t H locs ht hvm hw hB _ hk1 hS => ?_)
  subst r0
  have hP : va_P (dC, dI) cls (wQ ga ho gr cB cI cL (x173.2, (σ).2)) H := (kW_P hB ht).app (keepL hPb (aR_in gr) hk1)
  refine lv_istore hx hb d_law_1183 hl (Nat.le_of_ble_eq_true rfl) rfl (fun ls hl => ?_)
  have hl : lv_has ls 7 [(5, .int x173.1), (0, .ref b), (1, .ref (ga 0)), (2, .ref (gr 0)), (3, .ref ho), (4, .int v4)] := hl
  refine lv_aload_n hx hb d_law_1185 rfl (lv_at hl 3 rfl) ?_
  refine lv_aload_n hx hb d_law_1186 rfl (lv_at hl 1 rfl) ?_
  refine lv_iload hx hb d_law_1187 (lv_at hl 5 rfl) ?_
  refine lv_iconst (v := (1 : Int32)) hx hb d_law_1189 (by decide) ?_
  refine lv_iadd hx hb d_law_1190 ?_
  obtain ⟨h174, hJ⟩ := j_g hJ
  refine va_sld hx hb hXs hbl hbA hS (j_in h174) d_law_1191 ?_
  refine lv_aload_n hx hb d_law_1192 rfl (lv_at hl 1 rfl) ?_
  refine lv_iload hx hb d_law_1193 (lv_at hl 5 rfl) ?_
  refine lv_iconst (v := (2 : Int32)) hx hb d_law_1195 (by decide) ?_
  refine lv_iadd hx hb d_law_1196 ?_
  obtain ⟨h175, hJ⟩ := j_g hJ
  refine va_sld hx hb hXs hbl hbA hS (j_in h175) d_law_1197 ?_
  obtain ⟨x176, e176, hJ⟩ := j_bind hJ
  have hPa := hP.sub (ws' := wL ga ho cB cI cL ((x173.2, (σ).2)).1) [0, 1, 2, 3, 4, 5, 6, 7, 8, 9] rfl
  have hPb := hP.sub (ws' := wR gr cB cI ((x173.2, (σ).2)).2) [10, 11, 12, 13, 14, 15] rfl
  refine va_calli (va_runV (As := [.int (xs (v4 + (1 : Int32)).toNatClampNeg), .int (xs (v4 + (2 : Int32)).toNatClampNeg)]) (rest := []) ⟨hx, hb, hml, hown, htb⟩ (c_Model_memory (l := l) (dC := dC) (dI := dI) (A := xD A (aL ga ho)) (wQ_2 hDq) e176) (xcV 2 htb tw834 tw7 tw831 tw832 tw833 rfl rfl hd_Model_memory ⟨Nat.le_of_ble_eq_true rfl, Nat.le_of_ble_eq_true rfl⟩) (kW_V hPb hKc (va_recv (q0 := 0) (ci := 5) hKc hPb rfl rfl)) rfl rfl hl.1 rfl (lv_room (Nat.le_of_ble_eq_true rfl)) d_law_1198 ⟨(show _ ≤ 1047 by omega), (show _ ≤ 41245 by omega)⟩) hS (fun q _ h => h.1) (fun q h => h.1) (fun r0 u t H locs ht hvm hw hB _ hk1 hS => ?_)
  subst r0
  have hP : va_P (dC, dI) cls (wQ ga ho gr cB cI cL (((x173.2, (σ).2)).1, x176.2)) H := (keepL hPa (aL_in ga ho) hk1).app (kW_P hB ht)
  refine lv_istore hx hb d_law_1201 hl (Nat.le_of_ble_eq_true rfl) rfl (fun ls hl => ?_)
  have hl : lv_has ls 7 [(6, .int x176.1), (5, .int x173.1), (0, .ref b), (1, .ref (ga 0)), (2, .ref (gr 0)), (3, .ref ho), (4, .int v4)] := hl
  refine lv_aload_n hx hb d_law_1203 rfl (lv_at hl 4 rfl) ?_
  obtain ⟨x177, e177, hJ⟩ := j_bind hJ
  have hPa := hP.sub (ws' := wL ga ho cB cI cL ((((x173.2, (σ).2)).1, x176.2)).1) [0, 1, 2, 3, 4, 5, 6, 7, 8, 9] rfl
  have hPb := hP.sub (ws' := wR gr cB cI ((((x173.2, (σ).2)).1, x176.2)).2) [10, 11, 12, 13, 14, 15] rfl
  refine va_calli (va_runV (As := []) (rest := []) ⟨hx, hb, hml, hown, htb⟩ (c_Model_thrown (l := l) (dC := dC) (dI := dI) (A := xD A (aL ga ho)) (wQ_2 hDq) e177) (xcV 0 htb tw630 tw7 tw627 tw628 tw629 rfl rfl hd_Model_thrown ⟨Nat.le_of_ble_eq_true rfl, Nat.le_of_ble_eq_true rfl⟩) (kW_V hPb hKc (va_recv (q0 := 0) (ci := 5) hKc hPb rfl rfl)) rfl rfl hl.1 rfl (lv_room (Nat.le_of_ble_eq_true rfl)) d_law_1204 ⟨(show _ ≤ 1047 by omega), (show _ ≤ 41245 by omega)⟩) hS (fun q _ h => h.1) (fun q h => h.1) (fun r0 u t H locs ht hvm hw hB _ hk1 hS => ?_)
  subst r0
  have hP : va_P (dC, dI) cls (wQ ga ho gr cB cI cL (((x173.2, (σ).2)).1, x176.2)) H := (keepL hPa (aL_in ga ho) hk1).app (kW_P hB ht)
  refine lv_iload hx hb d_law_1207 (lv_at hl 1 rfl) ?_
  refine lv_icmp_eq (tgt := 1214) hx hb d_law_1209 (by decide) (fun h178 => ?_) (fun h178 => ?_)
  · have hJ := j_t hJ h178
    refine lv_iload hx hb d_law_1214 (lv_at hl 1 rfl) ?_
    refine lv_if_ne (tgt := 1231) hx hb d_law_1216 (by decide) (fun h179 => ?_) (fun h179 => ?_)
    · have hJ := j_f hJ h179
      refine lv_goto (tgt := 1259) hx hb d_law_1231 (by decide) ?_
      refine lv_iinc (k := 6) (v := (v4 + (6 : Int32))) hx hb d_law_1259 hl rfl rfl (Nat.le_of_ble_eq_true rfl) rfl (fun ls hl => ?_)
      have hl : lv_has ls 7 [(4, .int (v4 + (6 : Int32))), (6, .int x176.1), (5, .int x173.1), (0, .ref b), (1, .ref (ga 0)), (2, .ref (gr 0)), (3, .ref ho)] := hl
      refine lv_goto (tgt := 23) hx hb d_law_1262 (by decide) ?_
      exact hk _ _ _ _ _ _ _ hJ (by omega) (by omega) (lv_sub hl [3, 4, 5, 6, 0] rfl) hP hS
    · have hJ := j_t hJ h179
      refine lv_aload_n hx hb d_law_1219 rfl (lv_at hl 5 rfl) ?_
      refine lv_iconst (v := (0 : Int32)) hx hb d_law_1220 (by decide) ?_
      obtain ⟨h180, hJ⟩ := j_g hJ
      refine va_lald hx hb hK hP 9 2 rfl rfl (j_in h180) d_law_1221 ?_
      refine lv_iload hx hb d_law_1222 (lv_at hl 0 rfl) ?_
      refine lv_i2l hx hb d_law_1224 rfl ?_
      refine W.lcmp hx hb d_law_1225 ?_
      refine lv_if_eq (tgt := 1231) hx hb d_law_1226 (by decide) (fun h181 => ?_) (fun h181 => ?_)
      · have hJ := j_t hJ h181
        refine lv_goto (tgt := 1259) hx hb d_law_1231 (by decide) ?_
        refine lv_iinc (k := 6) (v := (v4 + (6 : Int32))) hx hb d_law_1259 hl rfl rfl (Nat.le_of_ble_eq_true rfl) rfl (fun ls hl => ?_)
        have hl : lv_has ls 7 [(4, .int (v4 + (6 : Int32))), (6, .int x176.1), (5, .int x173.1), (0, .ref b), (1, .ref (ga 0)), (2, .ref (gr 0)), (3, .ref ho)] := hl
        refine lv_goto (tgt := 23) hx hb d_law_1262 (by decide) ?_
        exact hk _ _ _ _ _ _ _ hJ (by omega) (by omega) (lv_sub hl [3, 4, 5, 6, 0] rfl) hP hS
      · have hJ := j_f hJ h181
        refine lv_iconst (v := (0 : Int32)) hx hb d_law_1229 (by decide) ?_
        exact j_none hJ
  · have hJ := j_f hJ h178
    refine lv_iconst (v := (0 : Int32)) hx hb d_law_1212 (by decide) ?_
    exact j_none hJ
set_option maxHeartbeats 4000000 in
set_option maxRecDepth 100000 in
theorem law_1234 {p : Program} {e : Env} {s : State} {m : MethodId} {below : List Frame} {meth : Method} {c : Code} {l : Launch} {b L : Nat} {xs : Nat → Int32} {dC : Nat → ClassId} {dI : Nat → Nat → Nat} {ga : Nat → Nat} {ho : Nat} {gr : Nat → Nat} {cB cI cL : ClassId} {A : Nat → Prop} {sx : Nat → Nat} (Cx : lawCx p s m meth c l b L xs dC dI ga ho gr cB cI cL A sx) (k : QS → Int32 → Option Unit) {N : Nat} (hk : ∀ (σ : QS) (v4 : Int32) (ls : Array Slot) (H : Heap) (locs : List Loc) (cells slots : Nat), k σ v4 = some () → cells + N ≤ 1047 → slots + 6 * N ≤ 41245 → lv_has ls 7 [(0, .ref b), (1, .ref (ga 0)), (2, .ref (gr 0)), (3, .ref ho), (4, .int v4)] → va_P (dC, dI) cls (wQ ga ho gr cB cI cL σ) H → va_S A s.heap H locs → W p l e room_1 s m #[Value.ref b] below meth c H locs cells slots (lw_Z below #[Value.ref b] s) (F0 m 23 ls [])) :
    ∀ (σ : QS) (v4 : Int32) (ls : Array Slot) (H : Heap) (locs : List Loc) (cells slots : Nat), J_law_1234 xs L k σ v4 = some () → cells + (N + 1) ≤ 1047 → slots + 6 * (N + 1) ≤ 41245 → lv_has ls 7 [(0, .ref b), (1, .ref (ga 0)), (2, .ref (gr 0)), (3, .ref ho), (4, .int v4)] → va_P (dC, dI) cls (wQ ga ho gr cB cI cL σ) H → va_S A s.heap H locs → W p l e room_1 s m #[Value.ref b] below meth c H locs cells slots (lw_Z below #[Value.ref b] s) (F0 m 1234 ls []) := by
  obtain ⟨hx, hb, hr, hml, hown, htb, hXs, hbl, hA0, hlocks, hl0, hK, hX, hN, hDq⟩ := id Cx
  have hbA : ¬ A b := fun z => absurd (hA0 b z) (by omega)
  have hKc := hK.sub (tys' := tC cB cI) [0, 1] rfl
  intro σ v4 ls H locs cells slots hJ hcc hss hl hP hS
  unfold J_law_1234 at hJ
  refine lv_aload_n hx hb d_law_1234 rfl (lv_at hl 1 rfl) ?_
  refine lv_aload_n hx hb d_law_1235 rfl (lv_at hl 0 rfl) ?_
  refine lv_iload hx hb d_law_1236 (lv_at hl 4 rfl) ?_
  refine lv_iconst (v := (1 : Int32)) hx hb d_law_1238 (by decide) ?_
  refine lv_iadd hx hb d_law_1239 ?_
  obtain ⟨h183, hJ⟩ := j_g hJ
  refine va_sld hx hb hXs hbl hbA hS (j_in h183) d_law_1240 ?_
  obtain ⟨x184, e184, hJ⟩ := j_bind hJ
  have hPc := hP.sub (ws' := wC ga cB cI (σ).1.1) [0, 1, 2, 3, 4, 5, 6, 7, 8] rfl
  have hPo := hP.sub (ws' := wO ho gr cB cI cL (σ)) [9, 10, 11, 12, 13, 14, 15] rfl
  refine va_calli (va_runV (As := [.int (xs (v4 + (1 : Int32)).toNatClampNeg)]) (rest := []) ⟨hx, hb, hml, hown, htb⟩ (c_LogFs_count (l := l) (dC := dC) (dI := dI) (A := xD A (aO ho gr)) (wQ_3 hDq) e184) (xcV 1 htb tw137 tw1 tw134 tw135 tw136 rfl rfl hd_LogFs_count ⟨Nat.le_of_ble_eq_true rfl, Nat.le_of_ble_eq_true rfl⟩) (kW_V hPc hKc (va_recv (q0 := 0) (ci := 4) hKc hPc rfl rfl)) rfl rfl hl.1 rfl (lv_room (Nat.le_of_ble_eq_true rfl)) d_law_1241 ⟨(show _ ≤ 1047 by omega), (show _ ≤ 41245 by omega)⟩) hS (fun q _ h => h.1) (fun q h => h.1) (fun r0 u t H locs ht hvm hw hB _ hk1 hS => ?_)
  subst r0
  have hP : va_P (dC, dI) cls (wQ ga ho gr cB cI cL σ) H := ((kW_P hB ht).app (keepL hPo (aO_in ho gr) hk1)).sub [0, 1, 2, 3, 4, 5, 6, 7, 8, 9, 10, 11, 12, 13, 14, 15] rfl
  refine lv_aload_n hx hb d_law_1244 rfl (lv_at hl 2 rfl) ?_
  refine lv_aload_n hx hb d_law_1245 rfl (lv_at hl 0 rfl) ?_
  refine lv_iload hx hb d_law_1246 (lv_at hl 4 rfl) ?_
  refine lv_iconst (v := (1 : Int32)) hx hb d_law_1248 (by decide) ?_
  refine lv_iadd hx hb d_law_1249 ?_
  obtain ⟨h185, hJ⟩ := j_g hJ
  refine va_sld hx hb hXs hbl hbA hS (j_in h185) d_law_1250 ?_
  obtain ⟨x186, e186, hJ⟩ := j_bind hJ
  have hPa := hP.sub (ws' := wL ga ho cB cI cL (σ).1) [0, 1, 2, 3, 4, 5, 6, 7, 8, 9] rfl
  have hPb := hP.sub (ws' := wR gr cB cI (σ).2) [10, 11, 12, 13, 14, 15] rfl
  refine va_calli (va_runV (As := [.int (xs (v4 + (1 : Int32)).toNatClampNeg)]) (rest := [.int x184]) ⟨hx, hb, hml, hown, htb⟩ (c_Model_count (l := l) (dC := dC) (dI := dI) (A := xD A (aL ga ho)) (wQ_2 hDq) e186) (xcV 1 htb tw838 tw7 tw835 tw836 tw837 rfl rfl hd_Model_count ⟨Nat.le_of_ble_eq_true rfl, Nat.le_of_ble_eq_true rfl⟩) (kW_V hPb hKc (va_recv (q0 := 0) (ci := 5) hKc hPb rfl rfl)) rfl rfl hl.1 rfl (lv_room (Nat.le_of_ble_eq_true rfl)) d_law_1251 ⟨(show _ ≤ 1047 by omega), (show _ ≤ 41245 by omega)⟩) hS (fun q _ h => h.1) (fun q h => h.1) (fun r0 u t H locs ht hvm hw hB _ hk1 hS => ?_)
  subst r0
  have hP : va_P (dC, dI) cls (wQ ga ho gr cB cI cL ((σ).1, x186.2)) H := (keepL hPa (aL_in ga ho) hk1).app (kW_P hB ht)
  refine lv_icmp_eq (tgt := 1259) hx hb d_law_1254 (by decide) (fun h187 => ?_) (fun h187 => ?_)
  · have hJ := j_t hJ h187
    refine lv_iinc (k := 4) (v := (v4 + (6 : Int32))) hx hb d_law_1259 hl rfl rfl (Nat.le_of_ble_eq_true rfl) rfl (fun ls hl => ?_)
    have hl : lv_has ls 7 [(4, .int (v4 + (6 : Int32))), (0, .ref b), (1, .ref (ga 0)), (2, .ref (gr 0)), (3, .ref ho)] := hl
    refine lv_goto (tgt := 23) hx hb d_law_1262 (by decide) ?_
    exact hk _ _ _ _ _ _ _ hJ (by omega) (by omega) (lv_sub hl [1, 2, 3, 4, 0] rfl) hP hS
  · have hJ := j_f hJ h187
    refine lv_iconst (v := (0 : Int32)) hx hb d_law_1257 (by decide) ?_
    exact j_none hJ
set_option maxHeartbeats 4000000 in
set_option maxRecDepth 100000 in
theorem law_loop {p : Program} {e : Env} {s : State} {m : MethodId} {below : List Frame} {meth : Method} {c : Code} {l : Launch} {b L : Nat} {xs : Nat → Int32} {dC : Nat → ClassId} {dI : Nat → Nat → Nat} {ga : Nat → Nat} {ho : Nat} {gr : Nat → Nat} {cB cI cL : ClassId} {A : Nat → Prop} {sx : Nat → Nat} (Cx : lawCx p s m meth c l b L xs dC dI ga ho gr cB cI cL A sx) : ∀ (n : Nat) (σ : QS) (v4 : Int32) (ls : Array Slot) (H : Heap) (locs : List Loc) (cells slots : Nat), J_law_23 xs L n σ v4 = some () → cells + n ≤ 1047 → slots + 6 * n ≤ 41245 → lv_has ls 7 [(0, .ref b), (1, .ref (ga 0)), (2, .ref (gr 0)), (3, .ref ho), (4, .int v4)] → va_P (dC, dI) cls (wQ ga ho gr cB cI cL σ) H → va_S A s.heap H locs → W p l e room_1 s m #[Value.ref b] below meth c H locs cells slots (lw_Z below #[Value.ref b] s) (F0 m 23 ls []) := by
  obtain ⟨hx, hb, hr, hml, hown, htb, hXs, hbl, hA0, hlocks, hl0, hK, hX, hN, hDq⟩ := id Cx
  have hbA : ¬ A b := fun z => absurd (hA0 b z) (by omega)
  have hKc := hK.sub (tys' := tC cB cI) [0, 1] rfl
  intro n
  induction n with
  | zero => intro σ v4 ls H locs cells slots hJ; exact j_none hJ
  | succ N hk =>
    intro σ v4 ls H locs cells slots hJ hcc hss hl hP hS
    have hJ : J_law_23_b xs L (J_law_23 xs L N) σ v4 = some () := hJ
    unfold J_law_23_b at hJ
    refine lv_iload hx hb d_law_23 (lv_at hl 4 rfl) ?_
    refine lv_aload_n hx hb d_law_25 rfl (lv_at hl 0 rfl) ?_
    refine va_slen hx hb hXs hbl hbA hS d_law_26 ?_
    refine lv_bipush (v := (6 : Int32)) hx hb d_law_27 (by decide) ?_
    refine lv_isub hx hb d_law_29 ?_
    refine lv_icmp_gt (tgt := 1265) hx hb d_law_30 (by decide) (fun h1 => ?_) (fun h1 => ?_)
    · have hJ := j_t hJ h1
      refine lv_iconst (v := (1 : Int32)) hx hb d_law_1265 (by decide) ?_
      exact lawEnd Cx (by omega) (by omega) hS d_law_1266
    · have hJ := j_f hJ h1
      refine lv_aload_n hx hb d_law_33 rfl (lv_at hl 0 rfl) ?_
      refine lv_iload hx hb d_law_34 (lv_at hl 4 rfl) ?_
      obtain ⟨h2, hJ⟩ := j_g hJ
      refine va_sld hx hb hXs hbl hbA hS (j_in h2) d_law_36 ?_
      refine lv_bipush (v := (15 : Int32)) hx hb d_law_37 (by decide) ?_
      refine lv_iand hx hb d_law_39 ?_
      by_cases h3 : ((xs v4.toNatClampNeg) &&& (15 : Int32)) = (0 : Int32)
      · have hJ := j_t hJ h3
        refine lv_tableIn (tgt := 116) (off := 76) hx hb d_law_40 (by rw [h3]; decide) (by rw [h3]; decide) (by rw [h3]; rfl) (by decide) ?_
        exact law_116 Cx _ hk _ _ _ _ _ _ _ hJ (by omega) (by omega) (lv_sub hl [0, 1, 2, 3, 4] rfl) hP hS
      · have hJ := j_f hJ h3
        by_cases h21 : ((xs v4.toNatClampNeg) &&& (15 : Int32)) = (1 : Int32)
        · have hJ := j_t hJ h21
          refine lv_tableIn (tgt := 244) (off := 204) hx hb d_law_40 (by rw [h21]; decide) (by rw [h21]; decide) (by rw [h21]; rfl) (by decide) ?_
          exact law_244 Cx _ hk _ _ _ _ _ _ _ hJ (by omega) (by omega) (lv_sub hl [0, 1, 2, 3, 4] rfl) hP hS
        · have hJ := j_f hJ h21
          by_cases h38 : ((xs v4.toNatClampNeg) &&& (15 : Int32)) = (2 : Int32)
          · have hJ := j_t hJ h38
            refine lv_tableIn (tgt := 363) (off := 323) hx hb d_law_40 (by rw [h38]; decide) (by rw [h38]; decide) (by rw [h38]; rfl) (by decide) ?_
            exact law_363 Cx _ hk _ _ _ _ _ _ _ hJ (by omega) (by omega) (lv_sub hl [0, 1, 2, 3, 4] rfl) hP hS
          · have hJ := j_f hJ h38
            by_cases h53 : ((xs v4.toNatClampNeg) &&& (15 : Int32)) = (3 : Int32)
            · have hJ := j_t hJ h53
              refine lv_tableIn (tgt := 470) (off := 430) hx hb d_law_40 (by rw [h53]; decide) (by rw [h53]; decide) (by rw [h53]; rfl) (by decide) ?_
              exact law_470 Cx _ hk _ _ _ _ _ _ _ hJ (by omega) (by omega) (lv_sub hl [0, 1, 2, 3, 4] rfl) hP hS
            · have hJ := j_f hJ h53
              by_cases h71 : ((xs v4.toNatClampNeg) &&& (15 : Int32)) = (4 : Int32)
              · have hJ := j_t hJ h71
                refine lv_tableIn (tgt := 594) (off := 554) hx hb d_law_40 (by rw [h71]; decide) (by rw [h71]; decide) (by rw [h71]; rfl) (by decide) ?_
                exact law_594 Cx _ hk _ _ _ _ _ _ _ hJ (by omega) (by omega) (lv_sub hl [0, 1, 2, 3, 4] rfl) hP hS
              · have hJ := j_f hJ h71
                by_cases h87 : ((xs v4.toNatClampNeg) &&& (15 : Int32)) = (5 : Int32)
                · have hJ := j_t hJ h87
                  refine lv_tableIn (tgt := 686) (off := 646) hx hb d_law_40 (by rw [h87]; decide) (by rw [h87]; decide) (by rw [h87]; rfl) (by decide) ?_
                  exact law_686 Cx _ hk _ _ _ _ _ _ _ hJ (by omega) (by omega) (lv_sub hl [0, 1, 2, 3, 4] rfl) hP hS
                · have hJ := j_f hJ h87
                  by_cases h98 : ((xs v4.toNatClampNeg) &&& (15 : Int32)) = (6 : Int32)
                  · have hJ := j_t hJ h98
                    refine lv_tableIn (tgt := 749) (off := 709) hx hb d_law_40 (by rw [h98]; decide) (by rw [h98]; decide) (by rw [h98]; rfl) (by decide) ?_
                    exact law_749 Cx _ hk _ _ _ _ _ _ _ hJ (by omega) (by omega) (lv_sub hl [0, 1, 2, 3, 4] rfl) hP hS
                  · have hJ := j_f hJ h98
                    by_cases h106 : ((xs v4.toNatClampNeg) &&& (15 : Int32)) = (7 : Int32)
                    · have hJ := j_t hJ h106
                      refine lv_tableIn (tgt := 793) (off := 753) hx hb d_law_40 (by rw [h106]; decide) (by rw [h106]; decide) (by rw [h106]; rfl) (by decide) ?_
                      exact law_793 Cx _ hk _ _ _ _ _ _ _ hJ (by omega) (by omega) (lv_sub hl [0, 1, 2, 3, 4] rfl) hP hS
                    · have hJ := j_f hJ h106
                      by_cases h112 : ((xs v4.toNatClampNeg) &&& (15 : Int32)) = (8 : Int32)
                      · have hJ := j_t hJ h112
                        refine lv_tableIn (tgt := 818) (off := 778) hx hb d_law_40 (by rw [h112]; decide) (by rw [h112]; decide) (by rw [h112]; rfl) (by decide) ?_
                        exact law_818 Cx _ hk _ _ _ _ _ _ _ hJ (by omega) (by omega) (lv_sub hl [0, 1, 2, 3, 4] rfl) hP hS
                      · have hJ := j_f hJ h112
                        by_cases h120 : ((xs v4.toNatClampNeg) &&& (15 : Int32)) = (9 : Int32)
                        · have hJ := j_t hJ h120
                          refine lv_tableIn (tgt := 862) (off := 822) hx hb d_law_40 (by rw [h120]; decide) (by rw [h120]; decide) (by rw [h120]; rfl) (by decide) ?_
                          exact law_862 Cx _ hk _ _ _ _ _ _ _ hJ (by omega) (by omega) (lv_sub hl [0, 1, 2, 3, 4] rfl) hP hS
                        · have hJ := j_f hJ h120
                          by_cases h134 : ((xs v4.toNatClampNeg) &&& (15 : Int32)) = (10 : Int32)
                          · have hJ := j_t hJ h134
                            refine lv_tableIn (tgt := 962) (off := 922) hx hb d_law_40 (by rw [h134]; decide) (by rw [h134]; decide) (by rw [h134]; rfl) (by decide) ?_
                            exact law_962 Cx _ hk _ _ _ _ _ _ _ hJ (by omega) (by omega) (lv_sub hl [0, 1, 2, 3, 4] rfl) hP hS
                          · have hJ := j_f hJ h134
                            by_cases h146 : ((xs v4.toNatClampNeg) &&& (15 : Int32)) = (11 : Int32)
                            · have hJ := j_t hJ h146
                              refine lv_tableIn (tgt := 1030) (off := 990) hx hb d_law_40 (by rw [h146]; decide) (by rw [h146]; decide) (by rw [h146]; rfl) (by decide) ?_
                              exact law_1030 Cx _ hk _ _ _ _ _ _ _ hJ (by omega) (by omega) (lv_sub hl [0, 1, 2, 3, 4] rfl) hP hS
                            · have hJ := j_f hJ h146
                              by_cases h158 : ((xs v4.toNatClampNeg) &&& (15 : Int32)) = (12 : Int32)
                              · have hJ := j_t hJ h158
                                refine lv_tableIn (tgt := 1098) (off := 1058) hx hb d_law_40 (by rw [h158]; decide) (by rw [h158]; decide) (by rw [h158]; rfl) (by decide) ?_
                                exact law_1098 Cx _ hk _ _ _ _ _ _ _ hJ (by omega) (by omega) (lv_sub hl [0, 1, 2, 3, 4] rfl) hP hS
                              · have hJ := j_f hJ h158
                                by_cases h170 : ((xs v4.toNatClampNeg) &&& (15 : Int32)) = (13 : Int32)
                                · have hJ := j_t hJ h170
                                  refine lv_tableIn (tgt := 1166) (off := 1126) hx hb d_law_40 (by rw [h170]; decide) (by rw [h170]; decide) (by rw [h170]; rfl) (by decide) ?_
                                  exact law_1166 Cx _ hk _ _ _ _ _ _ _ hJ (by omega) (by omega) (lv_sub hl [0, 1, 2, 3, 4] rfl) hP hS
                                · have hJ := j_f hJ h170
                                  by_cases h182 : ((xs v4.toNatClampNeg) &&& (15 : Int32)) = (14 : Int32)
                                  · have hJ := j_t hJ h182
                                    refine lv_tableIn (tgt := 1234) (off := 1194) hx hb d_law_40 (by rw [h182]; decide) (by rw [h182]; decide) (by rw [h182]; rfl) (by decide) ?_
                                    exact law_1234 Cx _ hk _ _ _ _ _ _ _ hJ (by omega) (by omega) (lv_sub hl [0, 1, 2, 3, 4] rfl) hP hS
                                  · have hJ := j_f hJ h182
                                    refine lv_tableOut (tgt := 1259) hx hb d_law_40 (by have := lv_neT h3 (show ((0 : Int32) : Int32).toInt = 0 by decide); have := lv_neT h21 (show ((1 : Int32) : Int32).toInt = 1 by decide); have := lv_neT h38 (show ((2 : Int32) : Int32).toInt = 2 by decide); have := lv_neT h53 (show ((3 : Int32) : Int32).toInt = 3 by decide); have := lv_neT h71 (show ((4 : Int32) : Int32).toInt = 4 by decide); have := lv_neT h87 (show ((5 : Int32) : Int32).toInt = 5 by decide); have := lv_neT h98 (show ((6 : Int32) : Int32).toInt = 6 by decide); have := lv_neT h106 (show ((7 : Int32) : Int32).toInt = 7 by decide); have := lv_neT h112 (show ((8 : Int32) : Int32).toInt = 8 by decide); have := lv_neT h120 (show ((9 : Int32) : Int32).toInt = 9 by decide); have := lv_neT h134 (show ((10 : Int32) : Int32).toInt = 10 by decide); have := lv_neT h146 (show ((11 : Int32) : Int32).toInt = 11 by decide); have := lv_neT h158 (show ((12 : Int32) : Int32).toInt = 12 by decide); have := lv_neT h170 (show ((13 : Int32) : Int32).toInt = 13 by decide); have := lv_neT h182 (show ((14 : Int32) : Int32).toInt = 14 by decide); omega) (by decide) ?_
                                    refine lv_iinc (k := 4) (v := (v4 + (6 : Int32))) hx hb d_law_1259 hl rfl rfl (Nat.le_of_ble_eq_true rfl) rfl (fun ls hl => ?_)
                                    have hl : lv_has ls 7 [(4, .int (v4 + (6 : Int32))), (0, .ref b), (1, .ref (ga 0)), (2, .ref (gr 0)), (3, .ref ho)] := hl
                                    refine lv_goto (tgt := 23) hx hb d_law_1262 (by decide) ?_
                                    exact hk _ _ _ _ _ _ _ hJ (by omega) (by omega) (lv_sub hl [1, 2, 3, 4, 0] rfl) hP hS
