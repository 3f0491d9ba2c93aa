/-! The law's cases: the machine follows. Written by wip/gen/law.py. -/
set_option maxHeartbeats 4000000 in
set_option maxRecDepth 100000 in
theorem law_116 {p : Program} {e : Env} {s : State} {m : MethodId} {below : List Frame} {meth : Method} {c : Code} {l : Launch} {b L : Nat} {xs : Nat → Int32} {dC : Nat → ClassId} {dI : Nat → Nat → Nat} {ga : Nat → Nat} {ho : Nat} {gr : Nat → Nat} {cB cI cL : ClassId} {A : Nat → Prop} {sx : Nat → Nat} (Cx : lawCx p s m meth c l b L xs dC dI ga ho gr cB cI cL A sx) (k : QS → Int32 → Option Unit) {N : Nat} (hk : ∀ (σ : QS) (v4 : Int32) (ls : Array Slot) (H : Heap) (locs : List Loc) (cells slots : Nat), k σ v4 = some () → cells + N ≤ 1047 → slots + 6 * N ≤ 41245 → lv_has ls 7 [(0, .ref b), (1, .ref (ga 0)), (2, .ref (gr 0)), (3, .ref ho), (4, .int v4)] → va_P (dC, dI) cls (wQ ga ho gr cB cI cL σ) H → va_S A s.heap H locs → W p l e room_1 s m #[Value.ref b] below meth c H locs cells slots (lw_Z below #[Value.ref b] s) (F0 m 23 ls [])) :
    ∀ (σ : QS) (v4 : Int32) (ls : Array Slot) (H : Heap) (locs : List Loc) (cells slots : Nat), J_law_116 xs L k σ v4 = some () → cells + (N + 1) ≤ 1047 → slots + 6 * (N + 1) ≤ 41245 → lv_has ls 7 [(0, .ref b), (1, .ref (ga 0)), (2, .ref (gr 0)), (3, .ref ho), (4, .int v4)] → va_P (dC, dI) cls (wQ ga ho gr cB cI cL σ) H → va_S A s.heap H locs → W p l e room_1 s m #[Value.ref b] below meth c H locs cells slots (lw_Z below #[Value.ref b] s) (F0 m 116 ls []) := by
  obtain ⟨hx, hb, hr, hml, hown, htb, hXs, hbl, hA0, hlocks, hl0, hK, hX, hN, hDq⟩ := id Cx
  have hbA : ¬ A b := fun z => absurd (hA0 b z) (by omega)
  have hKc := hK.sub (tys' := tC cB cI) [0, 1] rfl
  have blk208 : ∀ (σ : QS) (v4 : Int32) (v5 : Int32) (t3 : Int32) (t2 : Int64) (t1 : Int32) (ls : Array Slot) (H : Heap) (locs : List Loc) (cells slots : Nat), J_law_208 xs L k σ v4 v5 t3 t2 t1 = some () → cells + N ≤ 1047 → slots + 6 * N ≤ 41245 → lv_has ls 7 [(0, .ref b), (1, .ref (ga 0)), (2, .ref (gr 0)), (3, .ref ho), (4, .int v4), (5, .int v5)] → va_P (dC, dI) cls (wQ ga ho gr cB cI cL σ) H → va_S A s.heap H locs → W p l e room_1 s m #[Value.ref b] below meth c H locs cells slots (lw_Z below #[Value.ref b] s) (F0 m 208 ls [.int t3, .long t2, .int t1, .ref (gr 0)]) := by
    intro σ v4 v5 t3 t2 t1 ls H locs cells slots hJ hcc hss hl hP hS
    unfold J_law_208 at hJ
    obtain ⟨x15, e15, hJ⟩ := j_bind hJ
    have hPa := hP.sub (ws' := wL ga ho cB cI cL (σ).1) [0, 1, 2, 3, 4, 5, 6, 7, 8, 9] rfl
    have hPb := hP.sub (ws' := wR gr cB cI (σ).2) [10, 11, 12, 13, 14, 15] rfl
    refine va_calli (va_runV (As := [.int t1, .long t2, .int t3]) (rest := []) ⟨hx, hb, hml, hown, htb⟩ (c_Model_make (l := l) (dC := dC) (dI := dI) (A := xD A (aL ga ho)) (wQ_2 hDq) e15) (xcV 3 htb tw666 tw7 tw663 tw664 tw665 rfl rfl hd_Model_make ⟨Nat.le_of_ble_eq_true rfl, Nat.le_of_ble_eq_true rfl⟩) (kW_V hPb hKc (va_recv (q0 := 0) (ci := 5) hKc hPb rfl rfl)) rfl rfl hl.1 rfl (lv_room (Nat.le_of_ble_eq_true rfl)) d_law_208 ⟨(show _ ≤ 1047 by omega), (show _ ≤ 41245 by omega)⟩) hS (fun q _ h => h.1) (fun q h => h.1) (fun r0 u t H locs ht hvm hw hB _ hk1 hS => ?_)
    subst r0
    have hP : va_P (dC, dI) cls (wQ ga ho gr cB cI cL ((σ).1, x15.2)) H := (keepL hPa (aL_in ga ho) hk1).app (kW_P hB ht)
    refine lv_istore hx hb d_law_211 hl (Nat.le_of_ble_eq_true rfl) rfl (fun ls hl => ?_)
    have hl : lv_has ls 7 [(6, .int x15.1), (0, .ref b), (1, .ref (ga 0)), (2, .ref (gr 0)), (3, .ref ho), (4, .int v4), (5, .int v5)] := hl
    refine lv_aload_n hx hb d_law_213 rfl (lv_at hl 3 rfl) ?_
    obtain ⟨x16, e16, hJ⟩ := j_bind hJ
    have hPa := hP.sub (ws' := wL ga ho cB cI cL (((σ).1, x15.2)).1) [0, 1, 2, 3, 4, 5, 6, 7, 8, 9] rfl
    have hPb := hP.sub (ws' := wR gr cB cI (((σ).1, x15.2)).2) [10, 11, 12, 13, 14, 15] rfl
    refine va_calli (va_runV (As := []) (rest := []) ⟨hx, hb, hml, hown, htb⟩ (c_Model_thrown (l := l) (dC := dC) (dI := dI) (A := xD A (aL ga ho)) (wQ_2 hDq) e16) (xcV 0 htb tw630 tw7 tw627 tw628 tw629 rfl rfl hd_Model_thrown ⟨Nat.le_of_ble_eq_true rfl, Nat.le_of_ble_eq_true rfl⟩) (kW_V hPb hKc (va_recv (q0 := 0) (ci := 5) hKc hPb rfl rfl)) rfl rfl hl.1 rfl (lv_room (Nat.le_of_ble_eq_true rfl)) d_law_214 ⟨(show _ ≤ 1047 by omega), (show _ ≤ 41245 by omega)⟩) hS (fun q _ h => h.1) (fun q h => h.1) (fun r0 u t H locs ht hvm hw hB _ hk1 hS => ?_)
    subst r0
    have hP : va_P (dC, dI) cls (wQ ga ho gr cB cI cL ((σ).1, x15.2)) H := (keepL hPa (aL_in ga ho) hk1).app (kW_P hB ht)
    refine lv_iload hx hb d_law_217 (lv_at hl 6 rfl) ?_
    refine lv_icmp_eq (tgt := 224) hx hb d_law_219 (by decide) (fun h17 => ?_) (fun h17 => ?_)
    · have hJ := j_t hJ h17
      refine lv_iload hx hb d_law_224 (lv_at hl 6 rfl) ?_
      refine lv_if_ne (tgt := 241) hx hb d_law_226 (by decide) (fun h18 => ?_) (fun h18 => ?_)
      · have hJ := j_f hJ h18
        refine lv_goto (tgt := 1259) hx hb d_law_241 (by decide) ?_
        refine lv_iinc (k := 5) (v := (v4 + (6 : Int32))) hx hb d_law_1259 hl rfl rfl (Nat.le_of_ble_eq_true rfl) rfl (fun ls hl => ?_)
        have hl : lv_has ls 7 [(4, .int (v4 + (6 : Int32))), (6, .int x15.1), (0, .ref b), (1, .ref (ga 0)), (2, .ref (gr 0)), (3, .ref ho), (5, .int v5)] := hl
        refine lv_goto (tgt := 23) hx hb d_law_1262 (by decide) ?_
        exact hk _ _ _ _ _ _ _ hJ (by omega) (by omega) (lv_sub hl [2, 3, 4, 5, 0] rfl) hP hS
      · have hJ := j_t hJ h18
        refine lv_aload_n hx hb d_law_229 rfl (lv_at hl 4 rfl) ?_
        refine lv_iconst (v := (0 : Int32)) hx hb d_law_230 (by decide) ?_
        obtain ⟨h19, hJ⟩ := j_g hJ
        refine va_lald hx hb hK hP 9 2 rfl rfl (j_in h19) d_law_231 ?_
        refine lv_iload hx hb d_law_232 (lv_at hl 0 rfl) ?_
        refine lv_i2l hx hb d_law_234 rfl ?_
        refine W.lcmp hx hb d_law_235 ?_
        refine lv_if_eq (tgt := 241) hx hb d_law_236 (by decide) (fun h20 => ?_) (fun h20 => ?_)
        · have hJ := j_t hJ h20
          refine lv_goto (tgt := 1259) hx hb d_law_241 (by decide) ?_
          refine lv_iinc (k := 5) (v := (v4 + (6 : Int32))) hx hb d_law_1259 hl rfl rfl (Nat.le_of_ble_eq_true rfl) rfl (fun ls hl => ?_)
          have hl : lv_has ls 7 [(4, .int (v4 + (6 : Int32))), (6, .int x15.1), (0, .ref b), (1, .ref (ga 0)), (2, .ref (gr 0)), (3, .ref ho), (5, .int v5)] := hl
          refine lv_goto (tgt := 23) hx hb d_law_1262 (by decide) ?_
          exact hk _ _ _ _ _ _ _ hJ (by omega) (by omega) (lv_sub hl [2, 3, 4, 5, 0] rfl) hP hS
        · have hJ := j_f hJ h20
          refine lv_iconst (v := (0 : Int32)) hx hb d_law_239 (by decide) ?_
          exact j_none hJ
    · have hJ := j_f hJ h17
      refine lv_iconst (v := (0 : Int32)) hx hb d_law_222 (by decide) ?_
      exact j_none hJ
  have blk159 : ∀ (σ : QS) (v4 : Int32) (t3 : Int32) (t2 : Int64) (t1 : Int32) (ls : Array Slot) (H : Heap) (locs : List Loc) (cells slots : Nat), J_law_159 xs L k σ v4 t3 t2 t1 = some () → cells + (N + 1) ≤ 1047 → slots + 6 * (N + 1) ≤ 41245 → lv_has ls 7 [(0, .ref b), (1, .ref (ga 0)), (2, .ref (gr 0)), (3, .ref ho), (4, .int v4)] → va_P (dC, dI) cls (wQ ga ho gr cB cI cL σ) H → va_S A s.heap H locs → W p l e room_1 s m #[Value.ref b] below meth c H locs cells slots (lw_Z below #[Value.ref b] s) (F0 m 159 ls [.int t3, .long t2, .int t1, .ref (ga 0)]) := by
    intro σ v4 t3 t2 t1 ls H locs cells slots hJ hcc hss hl hP hS
    unfold J_law_159 at hJ
    refine lv_aload_n hx hb d_law_159 rfl (lv_at hl 3 rfl) ?_
    obtain ⟨x9, e9, hJ⟩ := j_bind hJ
    have hPa := hP.sub (ws' := wL ga ho cB cI cL (σ).1) [0, 1, 2, 3, 4, 5, 6, 7, 8, 9] rfl
    have hPb := hP.sub (ws' := wR gr cB cI (σ).2) [10, 11, 12, 13, 14, 15] rfl
    refine va_calli (x_runSW (As := [.ref (ga 0), .int t1, .long t2, .int t3, .ref ho]) (rest := []) ⟨hx, hb, hml, hown, htb⟩ (c_Law_make (l := l) hl0 (dC := dC) (dI := dI) (sx := sx) (A := xD A (aR gr)) (wQ_1 hDq) e9) (xcSW (hh := [(0, 13, 16, 13), (0, 13, 20, 15)]) 5 htb tw174 tw0 tw172 tw173 rfl rfl hd_Law_make ⟨Nat.le_of_ble_eq_true rfl, Nat.le_of_ble_eq_true rfl⟩) (preW hPa hPb hK hX hN hS) rfl rfl hl.1 rfl (lv_room (Nat.le_of_ble_eq_true rfl)) d_law_160 ⟨(show _ ≤ 1047 by omega), (show _ ≤ 41245 by omega)⟩) hS (fun q _ h => h.1) (fun q h => h.1) (fun r0 u t H locs ht hvm hw hB _ hk1 hS => ?_)
    subst r0
    have hP : va_P (dC, dI) cls (wQ ga ho gr cB cI cL (x9.2, (σ).2)) H := (kW_P hB ht).app (keepL hPb (aR_in gr) hk1)
    refine lv_istore hx hb d_law_163 hl (Nat.le_of_ble_eq_true rfl) rfl (fun ls hl => ?_)
    have hl : lv_has ls 7 [(5, .int x9.1), (0, .ref b), (1, .ref (ga 0)), (2, .ref (gr 0)), (3, .ref ho), (4, .int v4)] := hl
    refine lv_aload_n hx hb d_law_165 rfl (lv_at hl 3 rfl) ?_
    refine lv_aload_n hx hb d_law_166 rfl (lv_at hl 1 rfl) ?_
    refine lv_iload hx hb d_law_167 (lv_at hl 5 rfl) ?_
    refine lv_iconst (v := (1 : Int32)) hx hb d_law_169 (by decide) ?_
    refine lv_iadd hx hb d_law_170 ?_
    obtain ⟨h10, hJ⟩ := j_g hJ
    refine va_sld hx hb hXs hbl hbA hS (j_in h10) d_law_171 ?_
    refine lv_aload_n hx hb d_law_172 rfl (lv_at hl 1 rfl) ?_
    refine lv_iload hx hb d_law_173 (lv_at hl 5 rfl) ?_
    refine lv_iconst (v := (2 : Int32)) hx hb d_law_175 (by decide) ?_
    refine lv_iadd hx hb d_law_176 ?_
    obtain ⟨h11, hJ⟩ := j_g hJ
    refine va_sld hx hb hXs hbl hbA hS (j_in h11) d_law_177 ?_
    refine lv_i2l hx hb d_law_178 rfl ?_
    refine lv_bipush (v := (32 : Int32)) hx hb d_law_179 (by decide) ?_
    refine lv_lshl hx hb d_law_181 rfl ?_
    refine lv_aload_n hx hb d_law_182 rfl (lv_at hl 1 rfl) ?_
    refine lv_iload hx hb d_law_183 (lv_at hl 5 rfl) ?_
    refine lv_iconst (v := (3 : Int32)) hx hb d_law_185 (by decide) ?_
    refine lv_iadd hx hb d_law_186 ?_
    obtain ⟨h12, hJ⟩ := j_g hJ
    refine va_sld hx hb hXs hbl hbA hS (j_in h12) d_law_187 ?_
    refine lv_i2l hx hb d_law_188 rfl ?_
    refine lv_ldc2 (v := (4294967295 : Int64)) hx hb hown (htb _ tw839) d_law_189 ?_
    refine lv_land hx hb d_law_192 ?_
    refine lv_lor hx hb d_law_193 ?_
    refine lv_aload_n hx hb d_law_194 rfl (lv_at hl 1 rfl) ?_
    refine lv_iload hx hb d_law_195 (lv_at hl 5 rfl) ?_
    refine lv_iconst (v := (4 : Int32)) hx hb d_law_197 (by decide) ?_
    refine lv_iadd hx hb d_law_198 ?_
    obtain ⟨h13, hJ⟩ := j_g hJ
    refine va_sld hx hb hXs hbl hbA hS (j_in h13) d_law_199 ?_
    refine lv_if_eq (tgt := 207) hx hb d_law_200 (by decide) (fun h14 => ?_) (fun h14 => ?_)
    · have hJ := j_t hJ h14
      refine lv_iconst (v := (0 : Int32)) hx hb d_law_207 (by decide) ?_
      exact blk208 _ _ _ _ _ _ _ _ _ _ _ hJ (by omega) (by omega) (lv_sub hl [1, 2, 3, 4, 5, 0] rfl) hP hS
    · have hJ := j_f hJ h14
      refine lv_iconst (v := (1 : Int32)) hx hb d_law_203 (by decide) ?_
      refine lv_goto (tgt := 208) hx hb d_law_204 (by decide) ?_
      exact blk208 _ _ _ _ _ _ _ _ _ _ _ hJ (by omega) (by omega) (lv_sub hl [1, 2, 3, 4, 5, 0] rfl) hP hS
  intro σ v4 ls H locs cells slots hJ hcc hss hl hP hS
  unfold J_law_116 at hJ
  refine lv_aload_n hx hb d_law_116 rfl (lv_at hl 1 rfl) ?_
  refine lv_aload_n hx hb d_law_117 rfl (lv_at hl 0 rfl) ?_
  refine lv_iload hx hb d_law_118 (lv_at hl 4 rfl) ?_
  refine lv_iconst (v := (1 : Int32)) hx hb d_law_120 (by decide) ?_
  refine lv_iadd hx hb d_law_121 ?_
  obtain ⟨h4, hJ⟩ := j_g hJ
  refine va_sld hx hb hXs hbl hbA hS (j_in h4) d_law_122 ?_
  refine lv_aload_n hx hb d_law_123 rfl (lv_at hl 0 rfl) ?_
  refine lv_iload hx hb d_law_124 (lv_at hl 4 rfl) ?_
  refine lv_iconst (v := (2 : Int32)) hx hb d_law_126 (by decide) ?_
  refine lv_iadd hx hb d_law_127 ?_
  obtain ⟨h5, hJ⟩ := j_g hJ
  refine va_sld hx hb hXs hbl hbA hS (j_in h5) d_law_128 ?_
  refine lv_i2l hx hb d_law_129 rfl ?_
  refine lv_bipush (v := (32 : Int32)) hx hb d_law_130 (by decide) ?_
  refine lv_lshl hx hb d_law_132 rfl ?_
  refine lv_aload_n hx hb d_law_133 rfl (lv_at hl 0 rfl) ?_
  refine lv_iload hx hb d_law_134 (lv_at hl 4 rfl) ?_
  refine lv_iconst (v := (3 : Int32)) hx hb d_law_136 (by decide) ?_
  refine lv_iadd hx hb d_law_137 ?_
  obtain ⟨h6, hJ⟩ := j_g hJ
  refine va_sld hx hb hXs hbl hbA hS (j_in h6) d_law_138 ?_
  refine lv_i2l hx hb d_law_139 rfl ?_
  refine lv_ldc2 (v := (4294967295 : Int64)) hx hb hown (htb _ tw839) d_law_140 ?_
  refine lv_land hx hb d_law_143 ?_
  refine lv_lor hx hb d_law_144 ?_
  refine lv_aload_n hx hb d_law_145 rfl (lv_at hl 0 rfl) ?_
  refine lv_iload hx hb d_law_146 (lv_at hl 4 rfl) ?_
  refine lv_iconst (v := (4 : Int32)) hx hb d_law_148 (by decide) ?_
  refine lv_iadd hx hb d_law_149 ?_
  obtain ⟨h7, hJ⟩ := j_g hJ
  refine va_sld hx hb hXs hbl hbA hS (j_in h7) d_law_150 ?_
  refine lv_if_eq (tgt := 158) hx hb d_law_151 (by decide) (fun h8 => ?_) (fun h8 => ?_)
  · have hJ := j_t hJ h8
    refine lv_iconst (v := (0 : Int32)) hx hb d_law_158 (by decide) ?_
    exact blk159 _ _ _ _ _ _ _ _ _ _ hJ (by omega) (by omega) (lv_sub hl [0, 1, 2, 3, 4] rfl) hP hS
  · have hJ := j_f hJ h8
    refine lv_iconst (v := (1 : Int32)) hx hb d_law_154 (by decide) ?_
    refine lv_goto (tgt := 159) hx hb d_law_155 (by decide) ?_
    exact blk159 _ _ _ _ _ _ _ _ _ _ hJ (by omega) (by omega) (lv_sub hl [0, 1, 2, 3, 4] rfl) hP hS
set_option maxHeartbeats 4000000 in
set_option maxRecDepth 100000 in
theorem law_244 {p : Program} {e : Env} {s : State} {m : MethodId} {below : List Frame} {meth : Method} {c : Code} {l : Launch} {b L : Nat} {xs : Nat → Int32} {dC : Nat → ClassId} {dI : Nat → Nat → Nat} {ga : Nat → Nat} {ho : Nat} {gr : Nat → Nat} {cB cI cL : ClassId} {A : Nat → Prop} {sx : Nat → Nat} (Cx : lawCx p s m meth c l b L xs dC dI ga ho gr cB cI cL A sx) (k : QS → Int32 → Option Unit) {N : Nat} (hk : ∀ (σ : QS) (v4 : Int32) (ls : Array Slot) (H : Heap) (locs : List Loc) (cells slots : Nat), k σ v4 = some () → cells + N ≤ 1047 → slots + 6 * N ≤ 41245 → lv_has ls 7 [(0, .ref b), (1, .ref (ga 0)), (2, .ref (gr 0)), (3, .ref ho), (4, .int v4)] → va_P (dC, dI) cls (wQ ga ho gr cB cI cL σ) H → va_S A s.heap H locs → W p l e room_1 s m #[Value.ref b] below meth c H locs cells slots (lw_Z below #[Value.ref b] s) (F0 m 23 ls [])) :
    ∀ (σ : QS) (v4 : Int32) (ls : Array Slot) (H : Heap) (locs : List Loc) (cells slots : Nat), J_law_244 xs L k σ v4 = some () → cells + (N + 1) ≤ 1047 → slots + 6 * (N + 1) ≤ 41245 → lv_has ls 7 [(0, .ref b), (1, .ref (ga 0)), (2, .ref (gr 0)), (3, .ref ho), (4, .int v4)] → va_P (dC, dI) cls (wQ ga ho gr cB cI cL σ) H → va_S A s.heap H locs → W p l e room_1 s m #[Value.ref b] below meth c H locs cells slots (lw_Z below #[Value.ref b] s) (F0 m 244 ls []) := by
  obtain ⟨hx, hb, hr, hml, hown, htb, hXs, hbl, hA0, hlocks, hl0, hK, hX, hN, hDq⟩ := id Cx
  have hbA : ¬ A b := fun z => absurd (hA0 b z) (by omega)
  have hKc := hK.sub (tys' := tC cB cI) [0, 1] rfl
  have blk354 : ∀ (σ : QS) (v4 : Int32) (t1 : Int64) (t0 : Int64) (ls : Array Slot) (H : Heap) (locs : List Loc) (cells slots : Nat), J_law_354 xs L k σ v4 t1 t0 = some () → cells + N ≤ 1047 → slots + 6 * N ≤ 41245 → lv_has ls 7 [(0, .ref b), (1, .ref (ga 0)), (2, .ref (gr 0)), (3, .ref ho), (4, .int v4)] → va_P (dC, dI) cls (wQ ga ho gr cB cI cL σ) H → va_S A s.heap H locs → W p l e room_1 s m #[Value.ref b] below meth c H locs cells slots (lw_Z below #[Value.ref b] s) (F0 m 354 ls [.long t1, .long t0]) := by
    intro σ v4 t1 t0 ls H locs cells slots hJ hcc hss hl hP hS
    unfold J_law_354 at hJ
    refine W.lcmp hx hb d_law_354 ?_
    refine lv_if_eq (tgt := 360) hx hb d_law_355 (by decide) (fun h37 => ?_) (fun h37 => ?_)
    · have hJ := j_t hJ h37
      refine lv_goto (tgt := 1259) hx hb d_law_360 (by decide) ?_
      refine lv_iinc (k := 4) (v := (v4 + (6 : Int32))) hx hb d_law_1259 hl rfl rfl (Nat.le_of_ble_eq_true rfl) rfl (fun ls hl => ?_)
      have hl : lv_has ls 7 [(4, .int (v4 + (6 : Int32))), (0, .ref b), (1, .ref (ga 0)), (2, .ref (gr 0)), (3, .ref ho)] := hl
      refine lv_goto (tgt := 23) hx hb d_law_1262 (by decide) ?_
      exact hk _ _ _ _ _ _ _ hJ (by omega) (by omega) (lv_sub hl [1, 2, 3, 4, 0] rfl) hP hS
    · have hJ := j_f hJ h37
      refine lv_iconst (v := (0 : Int32)) hx hb d_law_358 (by decide) ?_
      exact j_none hJ
  intro σ v4 ls H locs cells slots hJ hcc hss hl hP hS
  unfold J_law_244 at hJ
  refine lv_aload_n hx hb d_law_244 rfl (lv_at hl 1 rfl) ?_
  refine lv_aload_n hx hb d_law_245 rfl (lv_at hl 0 rfl) ?_
  refine lv_iload hx hb d_law_246 (lv_at hl 4 rfl) ?_
  refine lv_iconst (v := (1 : Int32)) hx hb d_law_248 (by decide) ?_
  refine lv_iadd hx hb d_law_249 ?_
  obtain ⟨h22, hJ⟩ := j_g hJ
  refine va_sld hx hb hXs hbl hbA hS (j_in h22) d_law_250 ?_
  refine lv_aload_n hx hb d_law_251 rfl (lv_at hl 0 rfl) ?_
  refine lv_iload hx hb d_law_252 (lv_at hl 4 rfl) ?_
  refine lv_iconst (v := (2 : Int32)) hx hb d_law_254 (by decide) ?_
  refine lv_iadd hx hb d_law_255 ?_
  obtain ⟨h23, hJ⟩ := j_g hJ
  refine va_sld hx hb hXs hbl hbA hS (j_in h23) d_law_256 ?_
  refine lv_i2l hx hb d_law_257 rfl ?_
  refine lv_bipush (v := (32 : Int32)) hx hb d_law_258 (by decide) ?_
  refine lv_lshl hx hb d_law_260 rfl ?_
  refine lv_aload_n hx hb d_law_261 rfl (lv_at hl 0 rfl) ?_
  refine lv_iload hx hb d_law_262 (lv_at hl 4 rfl) ?_
  refine lv_iconst (v := (3 : Int32)) hx hb d_law_264 (by decide) ?_
  refine lv_iadd hx hb d_law_265 ?_
  obtain ⟨h24, hJ⟩ := j_g hJ
  refine va_sld hx hb hXs hbl hbA hS (j_in h24) d_law_266 ?_
  refine lv_i2l hx hb d_law_267 rfl ?_
  refine lv_ldc2 (v := (4294967295 : Int64)) hx hb hown (htb _ tw839) d_law_268 ?_
  refine lv_land hx hb d_law_271 ?_
  refine lv_lor hx hb d_law_272 ?_
  refine lv_aload_n hx hb d_law_273 rfl (lv_at hl 0 rfl) ?_
  refine lv_iload hx hb d_law_274 (lv_at hl 4 rfl) ?_
  refine lv_iconst (v := (4 : Int32)) hx hb d_law_276 (by decide) ?_
  refine lv_iadd hx hb d_law_277 ?_
  obtain ⟨h25, hJ⟩ := j_g hJ
  refine va_sld hx hb hXs hbl hbA hS (j_in h25) d_law_278 ?_
  refine lv_aload_n hx hb d_law_279 rfl (lv_at hl 3 rfl) ?_
  obtain ⟨x26, e26, hJ⟩ := j_bind hJ
  have hPa := hP.sub (ws' := wL ga ho cB cI cL (σ).1) [0, 1, 2, 3, 4, 5, 6, 7, 8, 9] rfl
  have hPb := hP.sub (ws' := wR gr cB cI (σ).2) [10, 11, 12, 13, 14, 15] rfl
  refine va_calli (x_runSW (As := [.ref (ga 0), .int (xs (v4 + (1 : Int32)).toNatClampNeg), .long (((xs (v4 + (2 : Int32)).toNatClampNeg).toInt64 <<< ((32 : Int32).toInt64 &&& 63)) ||| ((xs (v4 + (3 : Int32)).toNatClampNeg).toInt64 &&& (4294967295 : Int64))), .int (xs (v4 + (4 : Int32)).toNatClampNeg), .ref ho]) (rest := []) ⟨hx, hb, hml, hown, htb⟩ (c_Law_link (l := l) hl0 (dC := dC) (dI := dI) (sx := sx) (A := xD A (aR gr)) (wQ_1 hDq) e26) (xcSW (hh := [(0, 20, 23, 13), (0, 20, 27, 15)]) 5 htb tw418 tw0 tw416 tw417 rfl rfl hd_Law_link ⟨Nat.le_of_ble_eq_true rfl, Nat.le_of_ble_eq_true rfl⟩) (preW hPa hPb hK hX hN hS) rfl rfl hl.1 rfl (lv_room (Nat.le_of_ble_eq_true rfl)) d_law_280 ⟨(show _ ≤ 1047 by omega), (show _ ≤ 41245 by omega)⟩) hS (fun q _ h => h.1) (fun q h => h.1) (fun r0 u t H locs ht hvm hw hB _ hk1 hS => ?_)
  subst r0
  have hP : va_P (dC, dI) cls (wQ ga ho gr cB cI cL (x26.2, (σ).2)) H := (kW_P hB ht).app (keepL hPb (aR_in gr) hk1)
  refine lv_istore hx hb d_law_283 hl (Nat.le_of_ble_eq_true rfl) rfl (fun ls hl => ?_)
  have hl : lv_has ls 7 [(5, .int x26.1), (0, .ref b), (1, .ref (ga 0)), (2, .ref (gr 0)), (3, .ref ho), (4, .int v4)] := hl
  refine lv_aload_n hx hb d_law_285 rfl (lv_at hl 3 rfl) ?_
  refine lv_aload_n hx hb d_law_286 rfl (lv_at hl 1 rfl) ?_
  refine lv_iload hx hb d_law_287 (lv_at hl 5 rfl) ?_
  refine lv_iconst (v := (1 : Int32)) hx hb d_law_289 (by decide) ?_
  refine lv_iadd hx hb d_law_290 ?_
  obtain ⟨h27, hJ⟩ := j_g hJ
  refine va_sld hx hb hXs hbl hbA hS (j_in h27) d_law_291 ?_
  refine lv_aload_n hx hb d_law_292 rfl (lv_at hl 1 rfl) ?_
  refine lv_iload hx hb d_law_293 (lv_at hl 5 rfl) ?_
  refine lv_iconst (v := (2 : Int32)) hx hb d_law_295 (by decide) ?_
  refine lv_iadd hx hb d_law_296 ?_
  obtain ⟨h28, hJ⟩ := j_g hJ
  refine va_sld hx hb hXs hbl hbA hS (j_in h28) d_law_297 ?_
  refine lv_i2l hx hb d_law_298 rfl ?_
  refine lv_bipush (v := (32 : Int32)) hx hb d_law_299 (by decide) ?_
  refine lv_lshl hx hb d_law_301 rfl ?_
  refine lv_aload_n hx hb d_law_302 rfl (lv_at hl 1 rfl) ?_
  refine lv_iload hx hb d_law_303 (lv_at hl 5 rfl) ?_
  refine lv_iconst (v := (3 : Int32)) hx hb d_law_305 (by decide) ?_
  refine lv_iadd hx hb d_law_306 ?_
  obtain ⟨h29, hJ⟩ := j_g hJ
  refine va_sld hx hb hXs hbl hbA hS (j_in h29) d_law_307 ?_
  refine lv_i2l hx hb d_law_308 rfl ?_
  refine lv_ldc2 (v := (4294967295 : Int64)) hx hb hown (htb _ tw839) d_law_309 ?_
  refine lv_land hx hb d_law_312 ?_
  refine lv_lor hx hb d_law_313 ?_
  refine lv_aload_n hx hb d_law_314 rfl (lv_at hl 1 rfl) ?_
  refine lv_iload hx hb d_law_315 (lv_at hl 5 rfl) ?_
  refine lv_iconst (v := (4 : Int32)) hx hb d_law_317 (by decide) ?_
  refine lv_iadd hx hb d_law_318 ?_
  obtain ⟨h30, hJ⟩ := j_g hJ
  refine va_sld hx hb hXs hbl hbA hS (j_in h30) d_law_319 ?_
  obtain ⟨x31, e31, hJ⟩ := j_bind hJ
  have hPa := hP.sub (ws' := wL ga ho cB cI cL ((x26.2, (σ).2)).1) [0, 1, 2, 3, 4, 5, 6, 7, 8, 9] rfl
  have hPb := hP.sub (ws' := wR gr cB cI ((x26.2, (σ).2)).2) [10, 11, 12, 13, 14, 15] rfl
  refine va_calli (va_runV (As := [.int (xs (v4 + (1 : Int32)).toNatClampNeg), .long (((xs (v4 + (2 : Int32)).toNatClampNeg).toInt64 <<< ((32 : Int32).toInt64 &&& 63)) ||| ((xs (v4 + (3 : Int32)).toNatClampNeg).toInt64 &&& (4294967295 : Int64))), .int (xs (v4 + (4 : Int32)).toNatClampNeg)]) (rest := []) ⟨hx, hb, hml, hown, htb⟩ (c_Model_link (l := l) (dC := dC) (dI := dI) (A := xD A (aL ga ho)) (wQ_2 hDq) e31) (xcV 3 htb tw771 tw7 tw768 tw769 tw770 rfl rfl hd_Model_link ⟨Nat.le_of_ble_eq_true rfl, Nat.le_of_ble_eq_true rfl⟩) (kW_V hPb hKc (va_recv (q0 := 0) (ci := 5) hKc hPb rfl rfl)) rfl rfl hl.1 rfl (lv_room (Nat.le_of_ble_eq_true rfl)) d_law_320 ⟨(show _ ≤ 1047 by omega), (show _ ≤ 41245 by omega)⟩) hS (fun q _ h => h.1) (fun q h => h.1) (fun r0 u t H locs ht hvm hw hB _ hk1 hS => ?_)
  subst r0
  have hP : va_P (dC, dI) cls (wQ ga ho gr cB cI cL (((x26.2, (σ).2)).1, x31.2)) H := (keepL hPa (aL_in ga ho) hk1).app (kW_P hB ht)
  refine lv_istore hx hb d_law_323 hl (Nat.le_of_ble_eq_true rfl) rfl (fun ls hl => ?_)
  have hl : lv_has ls 7 [(6, .int x31.1), (5, .int x26.1), (0, .ref b), (1, .ref (ga 0)), (2, .ref (gr 0)), (3, .ref ho), (4, .int v4)] := hl
  refine lv_aload_n hx hb d_law_325 rfl (lv_at hl 4 rfl) ?_
  obtain ⟨x32, e32, hJ⟩ := j_bind hJ
  have hPa := hP.sub (ws' := wL ga ho cB cI cL ((((x26.2, (σ).2)).1, x31.2)).1) [0, 1, 2, 3, 4, 5, 6, 7, 8, 9] rfl
  have hPb := hP.sub (ws' := wR gr cB cI ((((x26.2, (σ).2)).1, x31.2)).2) [10, 11, 12, 13, 14, 15] rfl
  refine va_calli (va_runV (As := []) (rest := []) ⟨hx, hb, hml, hown, htb⟩ (c_Model_thrown (l := l) (dC := dC) (dI := dI) (A := xD A (aL ga ho)) (wQ_2 hDq) e32) (xcV 0 htb tw630 tw7 tw627 tw628 tw629 rfl rfl hd_Model_thrown ⟨Nat.le_of_ble_eq_true rfl, Nat.le_of_ble_eq_true rfl⟩) (kW_V hPb hKc (va_recv (q0 := 0) (ci := 5) hKc hPb rfl rfl)) rfl rfl hl.1 rfl (lv_room (Nat.le_of_ble_eq_true rfl)) d_law_326 ⟨(show _ ≤ 1047 by omega), (show _ ≤ 41245 by omega)⟩) hS (fun q _ h => h.1) (fun q h => h.1) (fun r0 u t H locs ht hvm hw hB _ hk1 hS => ?_)
  subst r0
  have hP : va_P (dC, dI) cls (wQ ga ho gr cB cI cL (((x26.2, (σ).2)).1, x31.2)) H := (keepL hPa (aL_in ga ho) hk1).app (kW_P hB ht)
  refine lv_iload hx hb d_law_329 (lv_at hl 1 rfl) ?_
  refine lv_icmp_eq (tgt := 336) hx hb d_law_331 (by decide) (fun h33 => ?_) (fun h33 => ?_)
  · have hJ := j_t hJ h33
    refine lv_iload hx hb d_law_336 (lv_at hl 1 rfl) ?_
    refine lv_if_ne (tgt := 360) hx hb d_law_338 (by decide) (fun h34 => ?_) (fun h34 => ?_)
    · have hJ := j_f hJ h34
      refine lv_goto (tgt := 1259) hx hb d_law_360 (by decide) ?_
      refine lv_iinc (k := 6) (v := (v4 + (6 : Int32))) hx hb d_law_1259 hl rfl rfl (Nat.le_of_ble_eq_true rfl) rfl (fun ls hl => ?_)
      have hl : lv_has ls 7 [(4, .int (v4 + (6 : Int32))), (6, .int x31.1), (5, .int x26.1), (0, .ref b), (1, .ref (ga 0)), (2, .ref (gr 0)), (3, .ref ho)] := hl
      refine lv_goto (tgt := 23) hx hb d_law_1262 (by decide) ?_
      exact hk _ _ _ _ _ _ _ hJ (by omega) (by omega) (lv_sub hl [3, 4, 5, 6, 0] rfl) hP hS
    · have hJ := j_t hJ h34
      refine lv_aload_n hx hb d_law_341 rfl (lv_at hl 5 rfl) ?_
      refine lv_iconst (v := (0 : Int32)) hx hb d_law_342 (by decide) ?_
      obtain ⟨h35, hJ⟩ := j_g hJ
      refine va_lald hx hb hK hP 9 2 rfl rfl (j_in h35) d_law_343 ?_
      refine lv_iload hx hb d_law_344 (lv_at hl 0 rfl) ?_
      refine lv_if_eq (tgt := 353) hx hb d_law_346 (by decide) (fun h36 => ?_) (fun h36 => ?_)
      · have hJ := j_t hJ h36
        refine lv_lconst (v := (0 : Int64)) hx hb d_law_353 (by decide) ?_
        exact blk354 _ _ _ _ _ _ _ _ _ hJ (by omega) (by omega) (lv_sub hl [2, 3, 4, 5, 6] rfl) hP hS
      · have hJ := j_f hJ h36
        refine lv_lconst (v := (1 : Int64)) hx hb d_law_349 (by decide) ?_
        refine lv_goto (tgt := 354) hx hb d_law_350 (by decide) ?_
        exact blk354 _ _ _ _ _ _ _ _ _ hJ (by omega) (by omega) (lv_sub hl [2, 3, 4, 5, 6] rfl) hP hS
  · have hJ := j_f hJ h33
    refine lv_iconst (v := (0 : Int32)) hx hb d_law_334 (by decide) ?_
    exact j_none hJ
set_option maxHeartbeats 4000000 in
set_option maxRecDepth 100000 in
theorem law_363 {p : Program} {e : Env} {s : State} {m : MethodId} {below : List Frame} {meth : Method} {c : Code} {l : Launch} {b L : Nat} {xs : Nat → Int32} {dC : Nat → ClassId} {dI : Nat → Nat → Nat} {ga : Nat → Nat} {ho : Nat} {gr : Nat → Nat} {cB cI cL : ClassId} {A : Nat → Prop} {sx : Nat → Nat} (Cx : lawCx p s m meth c l b L xs dC dI ga ho gr cB cI cL A sx) (k : QS → Int32 → Option Unit) {N : Nat} (hk : ∀ (σ : QS) (v4 : Int32) (ls : Array Slot) (H : Heap) (locs : List Loc) (cells slots : Nat), k σ v4 = some () → cells + N ≤ 1047 → slots + 6 * N ≤ 41245 → lv_has ls 7 [(0, .ref b), (1, .ref (ga 0)), (2, .ref (gr 0)), (3, .ref ho), (4, .int v4)] → va_P (dC, dI) cls (wQ ga ho gr cB cI cL σ) H → va_S A s.heap H locs → W p l e room_1 s m #[Value.ref b] below meth c H locs cells slots (lw_Z below #[Value.ref b] s) (F0 m 23 ls [])) :
    ∀ (σ : QS) (v4 : Int32) (ls : Array Slot) (H : Heap) (locs : List Loc) (cells slots : Nat), J_law_363 xs L k σ v4 = some () → cells + (N + 1) ≤ 1047 → slots + 6 * (N + 1) ≤ 41245 → lv_has ls 7 [(0, .ref b), (1, .ref (ga 0)), (2, .ref (gr 0)), (3, .ref ho), (4, .int v4)] → va_P (dC, dI) cls (wQ ga ho gr cB cI cL σ) H → va_S A s.heap H locs → W p l e room_1 s m #[Value.ref b] below meth c H locs cells slots (lw_Z below #[Value.ref b] s) (F0 m 363 ls []) := by
  obtain ⟨hx, hb, hr, hml, hown, htb, hXs, hbl, hA0, hlocks, hl0, hK, hX, hN, hDq⟩ := id Cx
  have hbA : ¬ A b := fun z => absurd (hA0 b z) (by omega)
  have hKc := hK.sub (tys' := tC cB cI) [0, 1] rfl
  have blk461 : ∀ (σ : QS) (v4 : Int32) (t1 : Int64) (t0 : Int64) (ls : Array Slot) (H : Heap) (locs : List Loc) (cells slots : Nat), J_law_461 xs L k σ v4 t1 t0 = some () → cells + N ≤ 1047 → slots + 6 * N ≤ 41245 → lv_has ls 7 [(0, .ref b), (1, .ref (ga 0)), (2, .ref (gr 0)), (3, .ref ho), (4, .int v4)] → va_P (dC, dI) cls (wQ ga ho gr cB cI cL σ) H → va_S A s.heap H locs → W p l e room_1 s m #[Value.ref b] below meth c H locs cells slots (lw_Z below #[Value.ref b] s) (F0 m 461 ls [.long t1, .long t0]) := by
    intro σ v4 t1 t0 ls H locs cells slots hJ hcc hss hl hP hS
    unfold J_law_461 at hJ
    refine W.lcmp hx hb d_law_461 ?_
    refine lv_if_eq (tgt := 467) hx hb d_law_462 (by decide) (fun h52 => ?_) (fun h52 => ?_)
    · have hJ := j_t hJ h52
      refine lv_goto (tgt := 1259) hx hb d_law_467 (by decide) ?_
      refine lv_iinc (k := 4) (v := (v4 + (6 : Int32))) hx hb d_law_1259 hl rfl rfl (Nat.le_of_ble_eq_true rfl) rfl (fun ls hl => ?_)
      have hl : lv_has ls 7 [(4, .int (v4 + (6 : Int32))), (0, .ref b), (1, .ref (ga 0)), (2, .ref (gr 0)), (3, .ref ho)] := hl
      refine lv_goto (tgt := 23) hx hb d_law_1262 (by decide) ?_
      exact hk _ _ _ _ _ _ _ hJ (by omega) (by omega) (lv_sub hl [1, 2, 3, 4, 0] rfl) hP hS
    · have hJ := j_f hJ h52
      refine lv_iconst (v := (0 : Int32)) hx hb d_law_465 (by decide) ?_
      exact j_none hJ
  intro σ v4 ls H locs cells slots hJ hcc hss hl hP hS
  unfold J_law_363 at hJ
  refine lv_aload_n hx hb d_law_363 rfl (lv_at hl 1 rfl) ?_
  refine lv_aload_n hx hb d_law_364 rfl (lv_at hl 0 rfl) ?_
  refine lv_iload hx hb d_law_365 (lv_at hl 4 rfl) ?_
  refine lv_iconst (v := (1 : Int32)) hx hb d_law_367 (by decide) ?_
  refine lv_iadd hx hb d_law_368 ?_
  obtain ⟨h39, hJ⟩ := j_g hJ
  refine va_sld hx hb hXs hbl hbA hS (j_in h39) d_law_369 ?_
  refine lv_aload_n hx hb d_law_370 rfl (lv_at hl 0 rfl) ?_
  refine lv_iload hx hb d_law_371 (lv_at hl 4 rfl) ?_
  refine lv_iconst (v := (2 : Int32)) hx hb d_law_373 (by decide) ?_
  refine lv_iadd hx hb d_law_374 ?_
  obtain ⟨h40, hJ⟩ := j_g hJ
  refine va_sld hx hb hXs hbl hbA hS (j_in h40) d_law_375 ?_
  refine lv_i2l hx hb d_law_376 rfl ?_
  refine lv_bipush (v := (32 : Int32)) hx hb d_law_377 (by decide) ?_
  refine lv_lshl hx hb d_law_379 rfl ?_
  refine lv_aload_n hx hb d_law_380 rfl (lv_at hl 0 rfl) ?_
  refine lv_iload hx hb d_law_381 (lv_at hl 4 rfl) ?_
  refine lv_iconst (v := (3 : Int32)) hx hb d_law_383 (by decide) ?_
  refine lv_iadd hx hb d_law_384 ?_
  obtain ⟨h41, hJ⟩ := j_g hJ
  refine va_sld hx hb hXs hbl hbA hS (j_in h41) d_law_385 ?_
  refine lv_i2l hx hb d_law_386 rfl ?_
  refine lv_ldc2 (v := (4294967295 : Int64)) hx hb hown (htb _ tw839) d_law_387 ?_
  refine lv_land hx hb d_law_390 ?_
  refine lv_lor hx hb d_law_391 ?_
  refine lv_aload_n hx hb d_law_392 rfl (lv_at hl 3 rfl) ?_
  obtain ⟨x42, e42, hJ⟩ := j_bind hJ
  have hPa := hP.sub (ws' := wL ga ho cB cI cL (σ).1) [0, 1, 2, 3, 4, 5, 6, 7, 8, 9] rfl
  have hPb := hP.sub (ws' := wR gr cB cI (σ).2) [10, 11, 12, 13, 14, 15] rfl
  refine va_calli (x_runSW (As := [.ref (ga 0), .int (xs (v4 + (1 : Int32)).toNatClampNeg), .long (((xs (v4 + (2 : Int32)).toNatClampNeg).toInt64 <<< ((32 : Int32).toInt64 &&& 63)) ||| ((xs (v4 + (3 : Int32)).toNatClampNeg).toInt64 &&& (4294967295 : Int64))), .ref ho]) (rest := []) ⟨hx, hb, hml, hown, htb⟩ (c_Law_unlink (l := l) hl0 (dC := dC) (dI := dI) (sx := sx) (A := xD A (aR gr)) (wQ_1 hDq) e42) (xcSW (hh := [(0, 18, 21, 13), (0, 18, 25, 15)]) 4 htb tw438 tw0 tw436 tw437 rfl rfl hd_Law_unlink ⟨Nat.le_of_ble_eq_true rfl, Nat.le_of_ble_eq_true rfl⟩) (preW hPa hPb hK hX hN hS) rfl rfl hl.1 rfl (lv_room (Nat.le_of_ble_eq_true rfl)) d_law_393 ⟨(show _ ≤ 1047 by omega), (show _ ≤ 41245 by omega)⟩) hS (fun q _ h => h.1) (fun q h => h.1) (fun r0 u t H locs ht hvm hw hB _ hk1 hS => ?_)
  subst r0
  have hP : va_P (dC, dI) cls (wQ ga ho gr cB cI cL (x42.2, (σ).2)) H := (kW_P hB ht).app (keepL hPb (aR_in gr) hk1)
  refine lv_istore hx hb d_law_396 hl (Nat.le_of_ble_eq_true rfl) rfl (fun ls hl => ?_)
  have hl : lv_has ls 7 [(5, .int x42.1), (0, .ref b), (1, .ref (ga 0)), (2, .ref (gr 0)), (3, .ref ho), (4, .int v4)] := hl
  refine lv_aload_n hx hb d_law_398 rfl (lv_at hl 3 rfl) ?_
  refine lv_aload_n hx hb d_law_399 rfl (lv_at hl 1 rfl) ?_
  refine lv_iload hx hb d_law_400 (lv_at hl 5 rfl) ?_
  refine lv_iconst (v := (1 : Int32)) hx hb d_law_402 (by decide) ?_
  refine lv_iadd hx hb d_law_403 ?_
  obtain ⟨h43, hJ⟩ := j_g hJ
  refine va_sld hx hb hXs hbl hbA hS (j_in h43) d_law_404 ?_
  refine lv_aload_n hx hb d_law_405 rfl (lv_at hl 1 rfl) ?_
  refine lv_iload hx hb d_law_406 (lv_at hl 5 rfl) ?_
  refine lv_iconst (v := (2 : Int32)) hx hb d_law_408 (by decide) ?_
  refine lv_iadd hx hb d_law_409 ?_
  obtain ⟨h44, hJ⟩ := j_g hJ
  refine va_sld hx hb hXs hbl hbA hS (j_in h44) d_law_410 ?_
  refine lv_i2l hx hb d_law_411 rfl ?_
  refine lv_bipush (v := (32 : Int32)) hx hb d_law_412 (by decide) ?_
  refine lv_lshl hx hb d_law_414 rfl ?_
  refine lv_aload_n hx hb d_law_415 rfl (lv_at hl 1 rfl) ?_
  refine lv_iload hx hb d_law_416 (lv_at hl 5 rfl) ?_
  refine lv_iconst (v := (3 : Int32)) hx hb d_law_418 (by decide) ?_
  refine lv_iadd hx hb d_law_419 ?_
  obtain ⟨h45, hJ⟩ := j_g hJ
  refine va_sld hx hb hXs hbl hbA hS (j_in h45) d_law_420 ?_
  refine lv_i2l hx hb d_law_421 rfl ?_
  refine lv_ldc2 (v := (4294967295 : Int64)) hx hb hown (htb _ tw839) d_law_422 ?_
  refine lv_land hx hb d_law_425 ?_
  refine lv_lor hx hb d_law_426 ?_
  obtain ⟨x46, e46, hJ⟩ := j_bind hJ
  have hPa := hP.sub (ws' := wL ga ho cB cI cL ((x42.2, (σ).2)).1) [0, 1, 2, 3, 4, 5, 6, 7, 8, 9] rfl
  have hPb := hP.sub (ws' := wR gr cB cI ((x42.2, (σ).2)).2) [10, 11, 12, 13, 14, 15] rfl
  refine va_calli (va_runV (As := [.int (xs (v4 + (1 : Int32)).toNatClampNeg), .long (((xs (v4 + (2 : Int32)).toNatClampNeg).toInt64 <<< ((32 : Int32).toInt64 &&& 63)) ||| ((xs (v4 + (3 : Int32)).toNatClampNeg).toInt64 &&& (4294967295 : Int64)))]) (rest := []) ⟨hx, hb, hml, hown, htb⟩ (c_Model_unlink (l := l) (dC := dC) (dI := dI) (A := xD A (aL ga ho)) (wQ_2 hDq) e46) (xcV 2 htb tw775 tw7 tw772 tw773 tw774 rfl rfl hd_Model_unlink ⟨Nat.le_of_ble_eq_true rfl, Nat.le_of_ble_eq_true rfl⟩) (kW_V hPb hKc (va_recv (q0 := 0) (ci := 5) hKc hPb rfl rfl)) rfl rfl hl.1 rfl (lv_room (Nat.le_of_ble_eq_true rfl)) d_law_427 ⟨(show _ ≤ 1047 by omega), (show _ ≤ 41245 by omega)⟩) hS (fun q _ h => h.1) (fun q h => h.1) (fun r0 u t H locs ht hvm hw hB _ hk1 hS => ?_)
  subst r0
  have hP : va_P (dC, dI) cls (wQ ga ho gr cB cI cL (((x42.2, (σ).2)).1, x46.2)) H := (keepL hPa (aL_in ga ho) hk1).app (kW_P hB ht)
  refine lv_istore hx hb d_law_430 hl (Nat.le_of_ble_eq_true rfl) rfl (fun ls hl => ?_)
  have hl : lv_has ls 7 [(6, .int x46.1), (5, .int x42.1), (0, .ref b), (1, .ref (ga 0)), (2, .ref (gr 0)), (3, .ref ho), (4, .int v4)] := hl
  refine lv_aload_n hx hb d_law_432 rfl (lv_at hl 4 rfl) ?_
  obtain ⟨x47, e47, hJ⟩ := j_bind hJ
  have hPa := hP.sub (ws' := wL ga ho cB cI cL ((((x42.2, (σ).2)).1, x46.2)).1) [0, 1, 2, 3, 4, 5, 6, 7, 8, 9] rfl
  have hPb := hP.sub (ws' := wR gr cB cI ((((x42.2, (σ).2)).1, x46.2)).2) [10, 11, 12, 13, 14, 15] rfl
  refine va_calli (va_runV (As := []) (rest := []) ⟨hx, hb, hml, hown, htb⟩ (c_Model_thrown (l := l) (dC := dC) (dI := dI) (A := xD A (aL ga ho)) (wQ_2 hDq) e47) (xcV 0 htb tw630 tw7 tw627 tw628 tw629 rfl rfl hd_Model_thrown ⟨Nat.le_of_ble_eq_true rfl, Nat.le_of_ble_eq_true rfl⟩) (kW_V hPb hKc (va_recv (q0 := 0) (ci := 5) hKc hPb rfl rfl)) rfl rfl hl.1 rfl (lv_room (Nat.le_of_ble_eq_true rfl)) d_law_433 ⟨(show _ ≤ 1047 by omega), (show _ ≤ 41245 by omega)⟩) hS (fun q _ h => h.1) (fun q h => h.1) (fun r0 u t H locs ht hvm hw hB _ hk1 hS => ?_)
  subst r0
  have hP : va_P (dC, dI) cls (wQ ga ho gr cB cI cL (((x42.2, (σ).2)).1, x46.2)) H := (keepL hPa (aL_in ga ho) hk1).app (kW_P hB ht)
  refine lv_iload hx hb d_law_436 (lv_at hl 1 rfl) ?_
  refine lv_icmp_eq (tgt := 443) hx hb d_law_438 (by decide) (fun h48 => ?_) (fun h48 => ?_)
  · have hJ := j_t hJ h48
    refine lv_iload hx hb d_law_443 (lv_at hl 1 rfl) ?_
    refine lv_if_ne (tgt := 467) hx hb d_law_445 (by decide) (fun h49 => ?_) (fun h49 => ?_)
    · have hJ := j_f hJ h49
      refine lv_goto (tgt := 1259) hx hb d_law_467 (by decide) ?_
      refine lv_iinc (k := 6) (v := (v4 + (6 : Int32))) hx hb d_law_1259 hl rfl rfl (Nat.le_of_ble_eq_true rfl) rfl (fun ls hl => ?_)
      have hl : lv_has ls 7 [(4, .int (v4 + (6 : Int32))), (6, .int x46.1), (5, .int x42.1), (0, .ref b), (1, .ref (ga 0)), (2, .ref (gr 0)), (3, .ref ho)] := hl
      refine lv_goto (tgt := 23) hx hb d_law_1262 (by decide) ?_
      exact hk _ _ _ _ _ _ _ hJ (by omega) (by omega) (lv_sub hl [3, 4, 5, 6, 0] rfl) hP hS
    · have hJ := j_t hJ h49
      refine lv_aload_n hx hb d_law_448 rfl (lv_at hl 5 rfl) ?_
      refine lv_iconst (v := (0 : Int32)) hx hb d_law_449 (by decide) ?_
      obtain ⟨h50, hJ⟩ := j_g hJ
      refine va_lald hx hb hK hP 9 2 rfl rfl (j_in h50) d_law_450 ?_
      refine lv_iload hx hb d_law_451 (lv_at hl 0 rfl) ?_
      refine lv_if_eq (tgt := 460) hx hb d_law_453 (by decide) (fun h51 => ?_) (fun h51 => ?_)
      · have hJ := j_t hJ h51
        refine lv_lconst (v := (0 : Int64)) hx hb d_law_460 (by decide) ?_
        exact blk461 _ _ _ _ _ _ _ _ _ hJ (by omega) (by omega) (lv_sub hl [2, 3, 4, 5, 6] rfl) hP hS
      · have hJ := j_f hJ h51
        refine lv_lconst (v := (1 : Int64)) hx hb d_law_456 (by decide) ?_
        refine lv_goto (tgt := 461) hx hb d_law_457 (by decide) ?_
        exact blk461 _ _ _ _ _ _ _ _ _ hJ (by omega) (by omega) (lv_sub hl [2, 3, 4, 5, 6] rfl) hP hS
  · have hJ := j_f hJ h48
    refine lv_iconst (v := (0 : Int32)) hx hb d_law_441 (by decide) ?_
    exact j_none hJ
set_option maxHeartbeats 4000000 in
set_option maxRecDepth 100000 in
theorem law_470 {p : Program} {e : Env} {s : State} {m : MethodId} {below : List Frame} {meth : Method} {c : Code} {l : Launch} {b L : Nat} {xs : Nat → Int32} {dC : Nat → ClassId} {dI : Nat → Nat → Nat} {ga : Nat → Nat} {ho : Nat} {gr : Nat → Nat} {cB cI cL : ClassId} {A : Nat → Prop} {sx : Nat → Nat} (Cx : lawCx p s m meth c l b L xs dC dI ga ho gr cB cI cL A sx) (k : QS → Int32 → Option Unit) {N : Nat} (hk : ∀ (σ : QS) (v4 : Int32) (ls : Array Slot) (H : Heap) (locs : List Loc) (cells slots : Nat), k σ v4 = some () → cells + N ≤ 1047 → slots + 6 * N ≤ 41245 → lv_has ls 7 [(0, .ref b), (1, .ref (ga 0)), (2, .ref (gr 0)), (3, .ref ho), (4, .int v4)] → va_P (dC, dI) cls (wQ ga ho gr cB cI cL σ) H → va_S A s.heap H locs → W p l e room_1 s m #[Value.ref b] below meth c H locs cells slots (lw_Z below #[Value.ref b] s) (F0 m 23 ls [])) :
    ∀ (σ : QS) (v4 : Int32) (ls : Array Slot) (H : Heap) (locs : List Loc) (cells slots : Nat), J_law_470 xs L k σ v4 = some () → cells + (N + 1) ≤ 1047 → slots + 6 * (N + 1) ≤ 41245 → lv_has ls 7 [(0, .ref b), (1, .ref (ga 0)), (2, .ref (gr 0)), (3, .ref ho), (4, .int v4)] → va_P (dC, dI) cls (wQ ga ho gr cB cI cL σ) H → va_S A s.heap H locs → W p l e room_1 s m #[Value.ref b] below meth c H locs cells slots (lw_Z below #[Value.ref b] s) (F0 m 470 ls []) := by
  obtain ⟨hx, hb, hr, hml, hown, htb, hXs, hbl, hA0, hlocks, hl0, hK, hX, hN, hDq⟩ := id Cx
  have hbA : ¬ A b := fun z => absurd (hA0 b z) (by omega)
  have hKc := hK.sub (tys' := tC cB cI) [0, 1] rfl
  intro σ v4 ls H locs cells slots hJ hcc hss hl hP hS
  unfold J_law_470 at hJ
  refine lv_aload_n hx hb d_law_470 rfl (lv_at hl 1 rfl) ?_
  refine lv_aload_n hx hb d_law_471 rfl (lv_at hl 0 rfl) ?_
  refine lv_iload hx hb d_law_472 (lv_at hl 4 rfl) ?_
  refine lv_iconst (v := (1 : Int32)) hx hb d_law_474 (by decide) ?_
  refine lv_iadd hx hb d_law_475 ?_
  obtain ⟨h54, hJ⟩ := j_g hJ
  refine va_sld hx hb hXs hbl hbA hS (j_in h54) d_law_476 ?_
  refine lv_aload_n hx hb d_law_477 rfl (lv_at hl 0 rfl) ?_
  refine lv_iload hx hb d_law_478 (lv_at hl 4 rfl) ?_
  refine lv_iconst (v := (2 : Int32)) hx hb d_law_480 (by decide) ?_
  refine lv_iadd hx hb d_law_481 ?_
  obtain ⟨h55, hJ⟩ := j_g hJ
  refine va_sld hx hb hXs hbl hbA hS (j_in h55) d_law_482 ?_
  refine lv_aload_n hx hb d_law_483 rfl (lv_at hl 0 rfl) ?_
  refine lv_iload hx hb d_law_484 (lv_at hl 4 rfl) ?_
  refine lv_iconst (v := (3 : Int32)) hx hb d_law_486 (by decide) ?_
  refine lv_iadd hx hb d_law_487 ?_
  obtain ⟨h56, hJ⟩ := j_g hJ
  refine va_sld hx hb hXs hbl hbA hS (j_in h56) d_law_488 ?_
  refine lv_i2l hx hb d_law_489 rfl ?_
  refine lv_bipush (v := (32 : Int32)) hx hb d_law_490 (by decide) ?_
  refine lv_lshl hx hb d_law_492 rfl ?_
  refine lv_aload_n hx hb d_law_493 rfl (lv_at hl 0 rfl) ?_
  refine lv_iload hx hb d_law_494 (lv_at hl 4 rfl) ?_
  refine lv_iconst (v := (4 : Int32)) hx hb d_law_496 (by decide) ?_
  refine lv_iadd hx hb d_law_497 ?_
  obtain ⟨h57, hJ⟩ := j_g hJ
  refine va_sld hx hb hXs hbl hbA hS (j_in h57) d_law_498 ?_
  refine lv_i2l hx hb d_law_499 rfl ?_
  refine lv_ldc2 (v := (4294967295 : Int64)) hx hb hown (htb _ tw839) d_law_500 ?_
  refine lv_land hx hb d_law_503 ?_
  refine lv_lor hx hb d_law_504 ?_
  refine lv_aload_n hx hb d_law_505 rfl (lv_at hl 0 rfl) ?_
  refine lv_iload hx hb d_law_506 (lv_at hl 4 rfl) ?_
  refine lv_iconst (v := (5 : Int32)) hx hb d_law_508 (by decide) ?_
  refine lv_iadd hx hb d_law_509 ?_
  obtain ⟨h58, hJ⟩ := j_g hJ
  refine va_sld hx hb hXs hbl hbA hS (j_in h58) d_law_510 ?_
  refine lv_aload_n hx hb d_law_511 rfl (lv_at hl 3 rfl) ?_
  obtain ⟨x59, e59, hJ⟩ := j_bind hJ
  have hPa := hP.sub (ws' := wL ga ho cB cI cL (σ).1) [0, 1, 2, 3, 4, 5, 6, 7, 8, 9] rfl
  have hPb := hP.sub (ws' := wR gr cB cI (σ).2) [10, 11, 12, 13, 14, 15] rfl
  refine va_calli (x_runSW (As := [.ref (ga 0), .int (xs (v4 + (1 : Int32)).toNatClampNeg), .int (xs (v4 + (2 : Int32)).toNatClampNeg), .long (((xs (v4 + (3 : Int32)).toNatClampNeg).toInt64 <<< ((32 : Int32).toInt64 &&& 63)) ||| ((xs (v4 + (4 : Int32)).toNatClampNeg).toInt64 &&& (4294967295 : Int64))), .int (xs (v4 + (5 : Int32)).toNatClampNeg), .ref ho]) (rest := []) ⟨hx, hb, hml, hown, htb⟩ (c_Law_write (l := l) hl0 (dC := dC) (dI := dI) (sx := sx) (A := xD A (aR gr)) (wQ_1 hDq) e59) (xcSW (hh := [(0, 14, 17, 13), (0, 14, 21, 15)]) 6 htb tw466 tw0 tw464 tw465 rfl rfl hd_Law_write ⟨Nat.le_of_ble_eq_true rfl, Nat.le_of_ble_eq_true rfl⟩) (preW hPa hPb hK hX hN hS) rfl rfl hl.1 rfl (lv_room (Nat.le_of_ble_eq_true rfl)) d_law_512 ⟨(show _ ≤ 1047 by omega), (show _ ≤ 41245 by omega)⟩) hS (fun q _ h => h.1) (fun q h => h.1) (fun r0 u t H locs ht hvm hw hB _ hk1 hS => ?_)
  subst r0
  have hP : va_P (dC, dI) cls (wQ ga ho gr cB cI cL (x59.2, (σ).2)) H := (kW_P hB ht).app (keepL hPb (aR_in gr) hk1)
  refine lv_istore hx hb d_law_515 hl (Nat.le_of_ble_eq_true rfl) rfl (fun ls hl => ?_)
  have hl : lv_has ls 7 [(5, .int x59.1), (0, .ref b), (1, .ref (ga 0)), (2, .ref (gr 0)), (3, .ref ho), (4, .int v4)] := hl
  refine lv_aload_n hx hb d_law_517 rfl (lv_at hl 3 rfl) ?_
  refine lv_aload_n hx hb d_law_518 rfl (lv_at hl 1 rfl) ?_
  refine lv_iload hx hb d_law_519 (lv_at hl 5 rfl) ?_
  refine lv_iconst (v := (1 : Int32)) hx hb d_law_521 (by decide) ?_
  refine lv_iadd hx hb d_law_522 ?_
  obtain ⟨h60, hJ⟩ := j_g hJ
  refine va_sld hx hb hXs hbl hbA hS (j_in h60) d_law_523 ?_
  refine lv_aload_n hx hb d_law_524 rfl (lv_at hl 1 rfl) ?_
  refine lv_iload hx hb d_law_525 (lv_at hl 5 rfl) ?_
  refine lv_iconst (v := (2 : Int32)) hx hb d_law_527 (by decide) ?_
  refine lv_iadd hx hb d_law_528 ?_
  obtain ⟨h61, hJ⟩ := j_g hJ
  refine va_sld hx hb hXs hbl hbA hS (j_in h61) d_law_529 ?_
  refine lv_aload_n hx hb d_law_530 rfl (lv_at hl 1 rfl) ?_
  refine lv_iload hx hb d_law_531 (lv_at hl 5 rfl) ?_
  refine lv_iconst (v := (3 : Int32)) hx hb d_law_533 (by decide) ?_
  refine lv_iadd hx hb d_law_534 ?_
  obtain ⟨h62, hJ⟩ := j_g hJ
  refine va_sld hx hb hXs hbl hbA hS (j_in h62) d_law_535 ?_
  refine lv_i2l hx hb d_law_536 rfl ?_
  refine lv_bipush (v := (32 : Int32)) hx hb d_law_537 (by decide) ?_
  refine lv_lshl hx hb d_law_539 rfl ?_
  refine lv_aload_n hx hb d_law_540 rfl (lv_at hl 1 rfl) ?_
  refine lv_iload hx hb d_law_541 (lv_at hl 5 rfl) ?_
  refine lv_iconst (v := (4 : Int32)) hx hb d_law_543 (by decide) ?_
  refine lv_iadd hx hb d_law_544 ?_
  obtain ⟨h63, hJ⟩ := j_g hJ
  refine va_sld hx hb hXs hbl hbA hS (j_in h63) d_law_545 ?_
  refine lv_i2l hx hb d_law_546 rfl ?_
  refine lv_ldc2 (v := (4294967295 : Int64)) hx hb hown (htb _ tw839) d_law_547 ?_
  refine lv_land hx hb d_law_550 ?_
  refine lv_lor hx hb d_law_551 ?_
  refine lv_aload_n hx hb d_law_552 rfl (lv_at hl 1 rfl) ?_
  refine lv_iload hx hb d_law_553 (lv_at hl 5 rfl) ?_
  refine lv_iconst (v := (5 : Int32)) hx hb d_law_555 (by decide) ?_
  refine lv_iadd hx hb d_law_556 ?_
  obtain ⟨h64, hJ⟩ := j_g hJ
  refine va_sld hx hb hXs hbl hbA hS (j_in h64) d_law_557 ?_
  obtain ⟨x65, e65, hJ⟩ := j_bind hJ
  have hPa := hP.sub (ws' := wL ga ho cB cI cL ((x59.2, (σ).2)).1) [0, 1, 2, 3, 4, 5, 6, 7, 8, 9] rfl
  have hPb := hP.sub (ws' := wR gr cB cI ((x59.2, (σ).2)).2) [10, 11, 12, 13, 14, 15] rfl
  refine va_calli (va_runV (As := [.int (xs (v4 + (1 : Int32)).toNatClampNeg), .int (xs (v4 + (2 : Int32)).toNatClampNeg), .long (((xs (v4 + (3 : Int32)).toNatClampNeg).toInt64 <<< ((32 : Int32).toInt64 &&& 63)) ||| ((xs (v4 + (4 : Int32)).toNatClampNeg).toInt64 &&& (4294967295 : Int64))), .int (xs (v4 + (5 : Int32)).toNatClampNeg)]) (rest := []) ⟨hx, hb, hml, hown, htb⟩ (c_Model_write (l := l) (dC := dC) (dI := dI) (A := xD A (aL ga ho)) (wQ_2 hDq) e65) (xcV 4 htb tw795 tw7 tw792 tw793 tw794 rfl rfl hd_Model_write ⟨Nat.le_of_ble_eq_true rfl, Nat.le_of_ble_eq_true rfl⟩) (kW_V hPb hKc (va_recv (q0 := 0) (ci := 5) hKc hPb rfl rfl)) rfl rfl hl.1 rfl (lv_room (Nat.le_of_ble_eq_true rfl)) d_law_558 ⟨(show _ ≤ 1047 by omega), (show _ ≤ 41245 by omega)⟩) hS (fun q _ h => h.1) (fun q h => h.1) (fun r0 u t H locs ht hvm hw hB _ hk1 hS => ?_)
  subst r0
  have hP : va_P (dC, dI) cls (wQ ga ho gr cB cI cL (((x59.2, (σ).2)).1, x65.2)) H := (keepL hPa (aL_in ga ho) hk1).app (kW_P hB ht)
  refine lv_istore hx hb d_law_561 hl (Nat.le_of_ble_eq_true rfl) rfl (fun ls hl => ?_)
  have hl : lv_has ls 7 [(6, .int x65.1), (5, .int x59.1), (0, .ref b), (1, .ref (ga 0)), (2, .ref (gr 0)), (3, .ref ho), (4, .int v4)] := hl
  refine lv_aload_n hx hb d_law_563 rfl (lv_at hl 4 rfl) ?_
  obtain ⟨x66, e66, hJ⟩ := j_bind hJ
  have hPa := hP.sub (ws' := wL ga ho cB cI cL ((((x59.2, (σ).2)).1, x65.2)).1) [0, 1, 2, 3, 4, 5, 6, 7, 8, 9] rfl
  have hPb := hP.sub (ws' := wR gr cB cI ((((x59.2, (σ).2)).1, x65.2)).2) [10, 11, 12, 13, 14, 15] rfl
  refine va_calli (va_runV (As := []) (rest := []) ⟨hx, hb, hml, hown, htb⟩ (c_Model_thrown (l := l) (dC := dC) (dI := dI) (A := xD A (aL ga ho)) (wQ_2 hDq) e66) (xcV 0 htb tw630 tw7 tw627 tw628 tw629 rfl rfl hd_Model_thrown ⟨Nat.le_of_ble_eq_true rfl, Nat.le_of_ble_eq_true rfl⟩) (kW_V hPb hKc (va_recv (q0 := 0) (ci := 5) hKc hPb rfl rfl)) rfl rfl hl.1 rfl (lv_room (Nat.le_of_ble_eq_true rfl)) d_law_564 ⟨(show _ ≤ 1047 by omega), (show _ ≤ 41245 by omega)⟩) hS (fun q _ h => h.1) (fun q h => h.1) (fun r0 u t H locs ht hvm hw hB _ hk1 hS => ?_)
  subst r0
  have hP : va_P (dC, dI) cls (wQ ga ho gr cB cI cL (((x59.2, (σ).2)).1, x65.2)) H := (keepL hPa (aL_in ga ho) hk1).app (kW_P hB ht)
  refine lv_iload hx hb d_law_567 (lv_at hl 1 rfl) ?_
  refine lv_icmp_eq (tgt := 574) hx hb d_law_569 (by decide) (fun h67 => ?_) (fun h67 => ?_)
  · have hJ := j_t hJ h67
    refine lv_iload hx hb d_law_574 (lv_at hl 1 rfl) ?_
    refine lv_if_ne (tgt := 591) hx hb d_law_576 (by decide) (fun h68 => ?_) (fun h68 => ?_)
    · have hJ := j_f hJ h68
      refine lv_goto (tgt := 1259) hx hb d_law_591 (by decide) ?_
      refine lv_iinc (k := 6) (v := (v4 + (6 : Int32))) hx hb d_law_1259 hl rfl rfl (Nat.le_of_ble_eq_true rfl) rfl (fun ls hl => ?_)
      have hl : lv_has ls 7 [(4, .int (v4 + (6 : Int32))), (6, .int x65.1), (5, .int x59.1), (0, .ref b), (1, .ref (ga 0)), (2, .ref (gr 0)), (3, .ref ho)] := hl
      refine lv_goto (tgt := 23) hx hb d_law_1262 (by decide) ?_
      exact hk _ _ _ _ _ _ _ hJ (by omega) (by omega) (lv_sub hl [3, 4, 5, 6, 0] rfl) hP hS
    · have hJ := j_t hJ h68
      refine lv_aload_n hx hb d_law_579 rfl (lv_at hl 5 rfl) ?_
      refine lv_iconst (v := (0 : Int32)) hx hb d_law_580 (by decide) ?_
      obtain ⟨h69, hJ⟩ := j_g hJ
      refine va_lald hx hb hK hP 9 2 rfl rfl (j_in h69) d_law_581 ?_
      refine lv_iload hx hb d_law_582 (lv_at hl 0 rfl) ?_
      refine lv_i2l hx hb d_law_584 rfl ?_
      refine W.lcmp hx hb d_law_585 ?_
      refine lv_if_eq (tgt := 591) hx hb d_law_586 (by decide) (fun h70 => ?_) (fun h70 => ?_)
      · have hJ := j_t hJ h70
        refine lv_goto (tgt := 1259) hx hb d_law_591 (by decide) ?_
        refine lv_iinc (k := 6) (v := (v4 + (6 : Int32))) hx hb d_law_1259 hl rfl rfl (Nat.le_of_ble_eq_true rfl) rfl (fun ls hl => ?_)
        have hl : lv_has ls 7 [(4, .int (v4 + (6 : Int32))), (6, .int x65.1), (5, .int x59.1), (0, .ref b), (1, .ref (ga 0)), (2, .ref (gr 0)), (3, .ref ho)] := hl
        refine lv_goto (tgt := 23) hx hb d_law_1262 (by decide) ?_
        exact hk _ _ _ _ _ _ _ hJ (by omega) (by omega) (lv_sub hl [3, 4, 5, 6, 0] rfl) hP hS
      · have hJ := j_f hJ h70
        refine lv_iconst (v := (0 : Int32)) hx hb d_law_589 (by decide) ?_
        exact j_none hJ
  · have hJ := j_f hJ h67
    refine lv_iconst (v := (0 : Int32)) hx hb d_law_572 (by decide) ?_
    exact j_none hJ
set_option maxHeartbeats 4000000 in
set_option maxRecDepth 100000 in
theorem law_594 {p : Program} {e : Env} {s : State} {m : MethodId} {below : List Frame} {meth : Method} {c : Code} {l : Launch} {b L : Nat} {xs : Nat → Int32} {dC : Nat → ClassId} {dI : Nat → Nat → Nat} {ga : Nat → Nat} {ho : Nat} {gr : Nat → Nat} {cB cI cL : ClassId} {A : Nat → Prop} {sx : Nat → Nat} (Cx : lawCx p s m meth c l b L xs dC dI ga ho gr cB cI cL A sx) (k : QS → Int32 → Option Unit) {N : Nat} (hk : ∀ (σ : QS) (v4 : Int32) (ls : Array Slot) (H : Heap) (locs : List Loc) (cells slots : Nat), k σ v4 = some () → cells + N ≤ 1047 → slots + 6 * N ≤ 41245 → lv_has ls 7 [(0, .ref b), (1, .ref (ga 0)), (2, .ref (gr 0)), (3, .ref ho), (4, .int v4)] → va_P (dC, dI) cls (wQ ga ho gr cB cI cL σ) H → va_S A s.heap H locs → W p l e room_1 s m #[Value.ref b] below meth c H locs cells slots (lw_Z below #[Value.ref b] s) (F0 m 23 ls [])) :
    ∀ (σ : QS) (v4 : Int32) (ls : Array Slot) (H : Heap) (locs : List Loc) (cells slots : Nat), J_law_594 xs L k σ v4 = some () → cells + (N + 1) ≤ 1047 → slots + 6 * (N + 1) ≤ 41245 → lv_has ls 7 [(0, .ref b), (1, .ref (ga 0)), (2, .ref (gr 0)), (3, .ref ho), (4, .int v4)] → va_P (dC, dI) cls (wQ ga ho gr cB cI cL σ) H → va_S A s.heap H locs → W p l e room_1 s m #[Value.ref b] below meth c H locs cells slots (lw_Z below #[Value.ref b] s) (F0 m 594 ls []) := by
  obtain ⟨hx, hb, hr, hml, hown, htb, hXs, hbl, hA0, hlocks, hl0, hK, hX, hN, hDq⟩ := id Cx
  have hbA : ¬ A b := fun z => absurd (hA0 b z) (by omega)
  have hKc := hK.sub (tys' := tC cB cI) [0, 1] rfl
  intro σ v4 ls H locs cells slots hJ hcc hss hl hP hS
  unfold J_law_594 at hJ
  refine lv_aload_n hx hb d_law_594 rfl (lv_at hl 1 rfl) ?_
  refine lv_aload_n hx hb d_law_595 rfl (lv_at hl 0 rfl) ?_
  refine lv_iload hx hb d_law_596 (lv_at hl 4 rfl) ?_
  refine lv_iconst (v := (1 : Int32)) hx hb d_law_598 (by decide) ?_
  refine lv_iadd hx hb d_law_599 ?_
  obtain ⟨h72, hJ⟩ := j_g hJ
  refine va_sld hx hb hXs hbl hbA hS (j_in h72) d_law_600 ?_
  refine lv_aload_n hx hb d_law_601 rfl (lv_at hl 0 rfl) ?_
  refine lv_iload hx hb d_law_602 (lv_at hl 4 rfl) ?_
  refine lv_iconst (v := (2 : Int32)) hx hb d_law_604 (by decide) ?_
  refine lv_iadd hx hb d_law_605 ?_
  obtain ⟨h73, hJ⟩ := j_g hJ
  refine va_sld hx hb hXs hbl hbA hS (j_in h73) d_law_606 ?_
  refine lv_aload_n hx hb d_law_607 rfl (lv_at hl 0 rfl) ?_
  refine lv_iload hx hb d_law_608 (lv_at hl 4 rfl) ?_
  refine lv_iconst (v := (3 : Int32)) hx hb d_law_610 (by decide) ?_
  refine lv_iadd hx hb d_law_611 ?_
  obtain ⟨h74, hJ⟩ := j_g hJ
  refine va_sld hx hb hXs hbl hbA hS (j_in h74) d_law_612 ?_
  refine lv_aload_n hx hb d_law_613 rfl (lv_at hl 0 rfl) ?_
  refine lv_iload hx hb d_law_614 (lv_at hl 4 rfl) ?_
  refine lv_iconst (v := (4 : Int32)) hx hb d_law_616 (by decide) ?_
  refine lv_iadd hx hb d_law_617 ?_
  obtain ⟨h75, hJ⟩ := j_g hJ
  refine va_sld hx hb hXs hbl hbA hS (j_in h75) d_law_618 ?_
  refine lv_aload_n hx hb d_law_619 rfl (lv_at hl 3 rfl) ?_
  obtain ⟨x76, e76, hJ⟩ := j_bind hJ
  have hPa := hP.sub (ws' := wL ga ho cB cI cL (σ).1) [0, 1, 2, 3, 4, 5, 6, 7, 8, 9] rfl
  have hPb := hP.sub (ws' := wR gr cB cI (σ).2) [10, 11, 12, 13, 14, 15] rfl
  refine va_calli (x_runSW (As := [.ref (ga 0), .int (xs (v4 + (1 : Int32)).toNatClampNeg), .int (xs (v4 + (2 : Int32)).toNatClampNeg), .int (xs (v4 + (3 : Int32)).toNatClampNeg), .int (xs (v4 + (4 : Int32)).toNatClampNeg), .ref ho]) (rest := []) ⟨hx, hb, hml, hown, htb⟩ (c_Law_fill (l := l) hl0 (dC := dC) (dI := dI) (sx := sx) (A := xD A (aR gr)) (wQ_1 hDq) e76) (xcSW (hh := [(0, 14, 17, 13), (0, 14, 21, 15)]) 6 htb tw479 tw0 tw477 tw478 rfl rfl hd_Law_fill ⟨Nat.le_of_ble_eq_true rfl, Nat.le_of_ble_eq_true rfl⟩) (preW hPa hPb hK hX hN hS) rfl rfl hl.1 rfl (lv_room (Nat.le_of_ble_eq_true rfl)) d_law_620 ⟨(show _ ≤ 1047 by omega), (show _ ≤ 41245 by omega)⟩) hS (fun q _ h => h.1) (fun q h => h.1) (fun r0 u t H locs ht hvm hw hB _ hk1 hS => ?_)
  subst r0
  have hP : va_P (dC, dI) cls (wQ ga ho gr cB cI cL (x76.2, (σ).2)) H := (kW_P hB ht).app (keepL hPb (aR_in gr) hk1)
  refine lv_istore hx hb d_law_623 hl (Nat.le_of_ble_eq_true rfl) rfl (fun ls hl => ?_)
  have hl : lv_has ls 7 [(5, .int x76.1), (0, .ref b), (1, .ref (ga 0)), (2, .ref (gr 0)), (3, .ref ho), (4, .int v4)] := hl
  refine lv_aload_n hx hb d_law_625 rfl (lv_at hl 3 rfl) ?_
  refine lv_aload_n hx hb d_law_626 rfl (lv_at hl 1 rfl) ?_
  refine lv_iload hx hb d_law_627 (lv_at hl 5 rfl) ?_
  refine lv_iconst (v := (1 : Int32)) hx hb d_law_629 (by decide) ?_
  refine lv_iadd hx hb d_law_630 ?_
  obtain ⟨h77, hJ⟩ := j_g hJ
  refine va_sld hx hb hXs hbl hbA hS (j_in h77) d_law_631 ?_
  refine lv_aload_n hx hb d_law_632 rfl (lv_at hl 1 rfl) ?_
  refine lv_iload hx hb d_law_633 (lv_at hl 5 rfl) ?_
  refine lv_iconst (v := (2 : Int32)) hx hb d_law_635 (by decide) ?_
  refine lv_iadd hx hb d_law_636 ?_
  obtain ⟨h78, hJ⟩ := j_g hJ
  refine va_sld hx hb hXs hbl hbA hS (j_in h78) d_law_637 ?_
  refine lv_aload_n hx hb d_law_638 rfl (lv_at hl 1 rfl) ?_
  refine lv_iload hx hb d_law_639 (lv_at hl 5 rfl) ?_
  refine lv_iconst (v := (3 : Int32)) hx hb d_law_641 (by decide) ?_
  refine lv_iadd hx hb d_law_642 ?_
  obtain ⟨h79, hJ⟩ := j_g hJ
  refine va_sld hx hb hXs hbl hbA hS (j_in h79) d_law_643 ?_
  refine lv_aload_n hx hb d_law_644 rfl (lv_at hl 1 rfl) ?_
  refine lv_iload hx hb d_law_645 (lv_at hl 5 rfl) ?_
  refine lv_iconst (v := (4 : Int32)) hx hb d_law_647 (by decide) ?_
  refine lv_iadd hx hb d_law_648 ?_
  obtain ⟨h80, hJ⟩ := j_g hJ
  refine va_sld hx hb hXs hbl hbA hS (j_in h80) d_law_649 ?_
  obtain ⟨x81, e81, hJ⟩ := j_bind hJ
  have hPa := hP.sub (ws' := wL ga ho cB cI cL ((x76.2, (σ).2)).1) [0, 1, 2, 3, 4, 5, 6, 7, 8, 9] rfl
  have hPb := hP.sub (ws' := wR gr cB cI ((x76.2, (σ).2)).2) [10, 11, 12, 13, 14, 15] rfl
  refine va_calli (va_runV (As := [.int (xs (v4 + (1 : Int32)).toNatClampNeg), .int (xs (v4 + (2 : Int32)).toNatClampNeg), .int (xs (v4 + (3 : Int32)).toNatClampNeg), .int (xs (v4 + (4 : Int32)).toNatClampNeg)]) (rest := []) ⟨hx, hb, hml, hown, htb⟩ (c_Model_fill (l := l) (dC := dC) (dI := dI) (A := xD A (aL ga ho)) (wQ_2 hDq) e81) (xcV 4 htb tw807 tw7 tw804 tw805 tw806 rfl rfl hd_Model_fill ⟨Nat.le_of_ble_eq_true rfl, Nat.le_of_ble_eq_true rfl⟩) (kW_V hPb hKc (va_recv (q0 := 0) (ci := 5) hKc hPb rfl rfl)) rfl rfl hl.1 rfl (lv_room (Nat.le_of_ble_eq_true rfl)) d_law_650 ⟨(show _ ≤ 1047 by omega), (show _ ≤ 41245 by omega)⟩) hS (fun q _ h => h.1) (fun q h => h.1) (fun r0 u t H locs ht hvm hw hB _ hk1 hS => ?_)
  subst r0
  have hP : va_P (dC, dI) cls (wQ ga ho gr cB cI cL (((x76.2, (σ).2)).1, x81.2)) H := (keepL hPa (aL_in ga ho) hk1).app (kW_P hB ht)
  refine lv_istore hx hb d_law_653 hl (Nat.le_of_ble_eq_true rfl) rfl (fun ls hl => ?_)
  have hl : lv_has ls 7 [(6, .int x81.1), (5, .int x76.1), (0, .ref b), (1, .ref (ga 0)), (2, .ref (gr 0)), (3, .ref ho), (4, .int v4)] := hl
  refine lv_aload_n hx hb d_law_655 rfl (lv_at hl 4 rfl) ?_
  obtain ⟨x82, e82, hJ⟩ := j_bind hJ
  have hPa := hP.sub (ws' := wL ga ho cB cI cL ((((x76.2, (σ).2)).1, x81.2)).1) [0, 1, 2, 3, 4, 5, 6, 7, 8, 9] rfl
  have hPb := hP.sub (ws' := wR gr cB cI ((((x76.2, (σ).2)).1, x81.2)).2) [10, 11, 12, 13, 14, 15] rfl
  refine va_calli (va_runV (As := []) (rest := []) ⟨hx, hb, hml, hown, htb⟩ (c_Model_thrown (l := l) (dC := dC) (dI := dI) (A := xD A (aL ga ho)) (wQ_2 hDq) e82) (xcV 0 htb tw630 tw7 tw627 tw628 tw629 rfl rfl hd_Model_thrown ⟨Nat.le_of_ble_eq_true rfl, Nat.le_of_ble_eq_true rfl⟩) (kW_V hPb hKc (va_recv (q0 := 0) (ci := 5) hKc hPb rfl rfl)) rfl rfl hl.1 rfl (lv_room (Nat.le_of_ble_eq_true rfl)) d_law_656 ⟨(show _ ≤ 1047 by omega), (show _ ≤ 41245 by omega)⟩) hS (fun q _ h => h.1) (fun q h => h.1) (fun r0 u t H locs ht hvm hw hB _ hk1 hS => ?_)
  subst r0
  have hP : va_P (dC, dI) cls (wQ ga ho gr cB cI cL (((x76.2, (σ).2)).1, x81.2)) H := (keepL hPa (aL_in ga ho) hk1).app (kW_P hB ht)
  refine lv_iload hx hb d_law_659 (lv_at hl 1 rfl) ?_
  refine lv_icmp_eq (tgt := 666) hx hb d_law_661 (by decide) (fun h83 => ?_) (fun h83 => ?_)
  · have hJ := j_t hJ h83
    refine lv_iload hx hb d_law_666 (lv_at hl 1 rfl) ?_
    refine lv_if_ne (tgt := 683) hx hb d_law_668 (by decide) (fun h84 => ?_) (fun h84 => ?_)
    · have hJ := j_f hJ h84
      refine lv_goto (tgt := 1259) hx hb d_law_683 (by decide) ?_
      refine lv_iinc (k := 6) (v := (v4 + (6 : Int32))) hx hb d_law_1259 hl rfl rfl (Nat.le_of_ble_eq_true rfl) rfl (fun ls hl => ?_)
      have hl : lv_has ls 7 [(4, .int (v4 + (6 : Int32))), (6, .int x81.1), (5, .int x76.1), (0, .ref b), (1, .ref (ga 0)), (2, .ref (gr 0)), (3, .ref ho)] := hl
      refine lv_goto (tgt := 23) hx hb d_law_1262 (by decide) ?_
      exact hk _ _ _ _ _ _ _ hJ (by omega) (by omega) (lv_sub hl [3, 4, 5, 6, 0] rfl) hP hS
    · have hJ := j_t hJ h84
      refine lv_aload_n hx hb d_law_671 rfl (lv_at hl 5 rfl) ?_
      refine lv_iconst (v := (0 : Int32)) hx hb d_law_672 (by decide) ?_
      obtain ⟨h85, hJ⟩ := j_g hJ
      refine va_lald hx hb hK hP 9 2 rfl rfl (j_in h85) d_law_673 ?_
      refine lv_iload hx hb d_law_674 (lv_at hl 0 rfl) ?_
      refine lv_i2l hx hb d_law_676 rfl ?_
      refine W.lcmp hx hb d_law_677 ?_
      refine lv_if_eq (tgt := 683) hx hb d_law_678 (by decide) (fun h86 => ?_) (fun h86 => ?_)
      · have hJ := j_t hJ h86
        refine lv_goto (tgt := 1259) hx hb d_law_683 (by decide) ?_
        refine lv_iinc (k := 6) (v := (v4 + (6 : Int32))) hx hb d_law_1259 hl rfl rfl (Nat.le_of_ble_eq_true rfl) rfl (fun ls hl => ?_)
        have hl : lv_has ls 7 [(4, .int (v4 + (6 : Int32))), (6, .int x81.1), (5, .int x76.1), (0, .ref b), (1, .ref (ga 0)), (2, .ref (gr 0)), (3, .ref ho)] := hl
        refine lv_goto (tgt := 23) hx hb d_law_1262 (by decide) ?_
        exact hk _ _ _ _ _ _ _ hJ (by omega) (by omega) (lv_sub hl [3, 4, 5, 6, 0] rfl) hP hS
      · have hJ := j_f hJ h86
        refine lv_iconst (v := (0 : Int32)) hx hb d_law_681 (by decide) ?_
        exact j_none hJ
  · have hJ := j_f hJ h83
    refine lv_iconst (v := (0 : Int32)) hx hb d_law_664 (by decide) ?_
    exact j_none hJ
