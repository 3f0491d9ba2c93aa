/-! LogFs: the calls. Written by wip/gen/classes.py. -/
def J_LogFs_make_53 (σ : CS) (v1 : Int32) (v2 : Int64) (v5 : Int32) (t2 : Int32) (t1 : Int32) : Option (Nat × Int32 × CS) :=
  (J_Volume_begin σ t1 t2).bind fun x8 => (J_Volume_placeForEntry x8 v1).bind fun x9 => (J_LogFs_entryOf v5 v2).bind fun x10 => (J_Volume_putLong x8 v1 x9 x10 (8 : Int32)).bind fun x11 => some (0, v5, x11)
def J_LogFs_make (σ : CS) (a1 : Int32) (a2 : Int64) (a3 : Int32) : Option (Nat × Int32 × CS) :=
  (J_LogFs_requirePower σ).bind fun x1 => (if x1 = 0 then (J_Volume_leastFreeInode σ).bind fun x2 => (if x2 = ((-1) : Int32) then some (0, ((-1) : Int32), σ) else (J_Volume_canEnter σ a1 a2).bind fun x4 => (if x4 = (0 : Int32) then some (0, ((-1) : Int32), σ) else (J_LogFs_commitIfMany σ).bind fun x6 => (if x6.1 = 0 then (if a3 = (0 : Int32) then J_LogFs_make_53 x6.2 a1 a2 x2 (1 : Int32) x2 else J_LogFs_make_53 x6.2 a1 a2 x2 (2 : Int32) x2) else some (x6.1, (0 : Int32), x6.2)))) else some (x1, (0 : Int32), σ))
abbrev rm_LogFs_make : Room := { frames := 8, cells := 1, slots := 6, locals := 160 }
set_option maxHeartbeats 4000000 in
set_option maxRecDepth 100000 in
theorem c_LogFs_make {l : Launch} (hl0 : l.stackTraces = false) {dC : Nat → ClassId} {dI : Nat → Nat → Nat} {ga : Nat → Nat} {cB cI : ClassId} {A : Nat → Prop} {sx : Nat → Nat} (hDa : ∀ σ, va_D A (wC ga cB cI σ)) {σ : CS} {a1 : Int32} {a2 : Int64} {a3 : Int32} {res : Nat × Int32 × CS} (hJ : J_LogFs_make σ a1 a2 a3 = some res) :
    xMet l y_LogFs_make (mw y_LogFs_make b_LogFs_make 6 (some .int)) rm_LogFs_make (va_Pc [.ref (ga 0), .int a1, .long a2, .int a3] (fun U => kW (dC, dI) (tC cB cI) (wC ga cB cI σ) U ∧ kX A sx U)) res.1 (some (.int res.2.1)) (fun t => kW (dC, dI) (tC cB cI) (wC ga cB cI res.2.2) t) A (xc res.1) (xs res.1) := by
  refine x_ofW (cc := b_LogFs_make) (maxL := 6) (ret := (some .int)) (by decide) rfl ?_
  intro p e s m args below meth c s₁ B hml hno hv
  obtain ⟨rfl, ⟨hP, hK⟩, hX⟩ := hv
  have hx := B.exec
  have hb := B.bytes
  have hr := B.returns
  have hts := atoms_spec (ws := (mw y_LogFs_make b_LogFs_make 6 (some .int))) B.pre
  have htb : ∀ w ∈ tb, w.before [.ref (ga 0), .int a1, .long a2, .int a3].toArray s = true := fun w h => hts w (mwIn h)
  have hown : s.vm.findClass "LogFs" = some m.cls := findClass_of_methodNamed B.named
  have hlocks := B.notSynchronized
  have hS : va_S A s.heap s.heap [] := va_S.rf
  have hl := lv_entry ([.ref (ga 0), .int a1, .long a2, .int a3]) (n := 6) (Nat.le_of_ble_eq_true rfl)
  rw [lg_entry_eq]
  generalize (lg_sl ([.ref (ga 0), .int a1, .long a2, .int a3]) ++ List.replicate (6 - (lg_sl ([.ref (ga 0), .int a1, .long a2, .int a3])).length) Slot.unset).toArray = ls at hl ⊢
  have hl : lv_has ls 6 [(0, .ref (ga 0)), (1, .int a1), (2, .long a2), (4, .int a3)] := hl
  have blk53 : ∀ (σ : CS) (v1 : Int32) (v2 : Int64) (v5 : Int32) (t2 : Int32) (t1 : Int32) (ls : Array Slot) (H : Heap) (locs : List Loc), J_LogFs_make_53 σ v1 v2 v5 t2 t1 = some res → lv_has ls 6 [(0, .ref (ga 0)), (1, .int v1), (2, .long v2), (5, .int v5)] → va_P (dC, dI) cls (wC ga cB cI σ) H → va_S A s.heap H locs → W p l e (headSpec (mw y_LogFs_make b_LogFs_make 6 (some .int)) rm_LogFs_make).room s m [.ref (ga 0), .int a1, .long a2, .int a3].toArray below meth c H locs 0 0 (xMQ below res.1 (some (.int res.2.1)) (fun t => kW (dC, dI) (tC cB cI) (wC ga cB cI res.2.2) t) A s (xc res.1) (xs res.1)) (F0 m 53 ls [.int t2, .int t1, .ref (ga 3)]) := by
    intro σ v1 v2 v5 t2 t1 ls H locs hJ hl hP hS
    unfold J_LogFs_make_53 at hJ
    obtain ⟨x8, e8, hJ⟩ := j_bind hJ
    refine va_callv (va_runV (As := [.int t1, .int t2]) (rest := []) ⟨hx, hb, hml, hown, htb⟩ (c_Volume_begin (l := l) (dC := dC) (dI := dI) hDa e8) (xcV 2 htb tw368 tw5 tw365 tw366 tw367 rfl rfl hd_Volume_begin ⟨Nat.le_of_ble_eq_true rfl, Nat.le_of_ble_eq_true rfl⟩) (kW_V hP hK (va_recv (q0 := 3) (ci := 3) hK hP rfl rfl)) rfl rfl hl.1 rfl (lv_room (Nat.le_of_ble_eq_true rfl)) d_LogFs_make_53 ⟨Nat.le_of_ble_eq_true rfl, Nat.le_of_ble_eq_true rfl⟩) hS (fun q _ h => h) (fun q h => h) (fun u t H locs ht hvm hw hB _ _ hS => ?_)
    have hP := kW_P hB ht
    refine lv_aload_n hx hb d_LogFs_make_56 rfl (lv_at hl 0 rfl) ?_
    refine va_get (D := (dC, dI)) (ci := 4) (v := .ref (ga 3)) (C := R_LogFs) (T := T_LogFs) (N := 4) hx hb htb uin_LogFs hown hK hP 0 rfl rfl 2 (by decide) (htb _ tw119) (fun _ h9 => h9) rfl d_LogFs_make_57 ?_
    refine lv_iload_n hx hb d_LogFs_make_60 rfl (lv_at hl 1 rfl) ?_
    refine lv_aload_n hx hb d_LogFs_make_61 rfl (lv_at hl 0 rfl) ?_
    refine va_get (D := (dC, dI)) (ci := 4) (v := .ref (ga 3)) (C := R_LogFs) (T := T_LogFs) (N := 4) hx hb htb uin_LogFs hown hK hP 0 rfl rfl 2 (by decide) (htb _ tw119) (fun _ h9 => h9) rfl d_LogFs_make_62 ?_
    refine lv_iload_n hx hb d_LogFs_make_65 rfl (lv_at hl 1 rfl) ?_
    obtain ⟨x9, e9, hJ⟩ := j_bind hJ
    refine va_calli (va_runV (As := [.int v1]) (rest := [.int v1, .ref (ga 3)]) ⟨hx, hb, hml, hown, htb⟩ (c_Volume_placeForEntry (l := l) (dC := dC) (dI := dI) hDa e9) (xcV 1 htb tw289 tw5 tw382 tw287 tw288 rfl rfl hd_Volume_placeForEntry ⟨Nat.le_of_ble_eq_true rfl, Nat.le_of_ble_eq_true rfl⟩) (kW_V hP hK (va_recv (q0 := 3) (ci := 3) hK hP rfl rfl)) rfl rfl hl.1 rfl (lv_room (Nat.le_of_ble_eq_true rfl)) d_LogFs_make_66 ⟨Nat.le_of_ble_eq_true rfl, Nat.le_of_ble_eq_true rfl⟩) hS (fun q _ h => h) (fun q h => h) (fun r0 u t H locs ht hvm hw hB _ _ hS => ?_)
    subst r0
    have hP := kW_P hB ht
    refine lv_iload hx hb d_LogFs_make_69 (lv_at hl 3 rfl) ?_
    refine lv_lload_n hx hb d_LogFs_make_71 rfl (lv_at hl 2 rfl) ?_
    obtain ⟨x10, e10, hJ⟩ := j_bind hJ
    refine va_calll (va_runS (As := [.int v5, .long v2]) (rest := [.int x9, .int v1, .ref (ga 3)]) ⟨hx, hb, hml, hown, htb⟩ (c_LogFs_entryOf (l := l) (dC := dC) (dI := dI) (σ := x8) hDa e10) (xcS 2 htb tw385 tw1 tw383 tw384 rfl rfl hd_LogFs_entryOf ⟨Nat.le_of_ble_eq_true rfl, Nat.le_of_ble_eq_true rfl⟩) (kW_S hP hK) rfl rfl hl.1 rfl (lv_room (Nat.le_of_ble_eq_true rfl)) d_LogFs_make_72 ⟨Nat.le_of_ble_eq_true rfl, Nat.le_of_ble_eq_true rfl⟩) hS (fun q _ h => h) (fun q h => h) (fun r0 u t H locs ht hvm hw hB _ _ hS => ?_)
    subst r0
    have hP := kW_P hB ht
    refine lv_bipush (v := (8 : Int32)) hx hb d_LogFs_make_75 (by decide) ?_
    obtain ⟨x11, e11, hJ⟩ := j_bind hJ
    refine va_callv (va_runV (As := [.int v1, .int x9, .long x10, .int (8 : Int32)]) (rest := []) ⟨hx, hb, hml, hown, htb⟩ (c_Volume_putLong (l := l) (dC := dC) (dI := dI) hDa e11) (xcV 4 htb tw389 tw5 tw386 tw387 tw388 rfl rfl hd_Volume_putLong ⟨Nat.le_of_ble_eq_true rfl, Nat.le_of_ble_eq_true rfl⟩) (kW_V hP hK (va_recv (q0 := 3) (ci := 3) hK hP rfl rfl)) rfl rfl hl.1 rfl (lv_room (Nat.le_of_ble_eq_true rfl)) d_LogFs_make_77 ⟨Nat.le_of_ble_eq_true rfl, Nat.le_of_ble_eq_true rfl⟩) hS (fun q _ h => h) (fun q h => h) (fun u t H locs ht hvm hw hB _ _ hS => ?_)
    have hP := kW_P hB ht
    refine lv_iload hx hb d_LogFs_make_80 (lv_at hl 3 rfl) ?_
    have hJ := Option.some.inj hJ
    subst hJ
    exact x_ret (W.iret (v := v5) hx hb hr (fun t ht hW => ⟨⟨rfl, kW_end hP hK ht hW rfl⟩, hS.F ht⟩) hS.2.2 d_LogFs_make_82)
  unfold J_LogFs_make at hJ
  refine lv_aload_n hx hb d_LogFs_make_0 rfl (lv_at hl 0 rfl) ?_
  obtain ⟨x1, e1, hJ⟩ := j_bind hJ
  refine x_call (xb_runV (As := []) (rest := []) ⟨hx, hb, hml, hown, htb⟩ (c_LogFs_requirePower (l := l) hl0 (dC := dC) (dI := dI) (sx := sx) hDa e1) (xcV 0 htb tw184 tw1 tw181 tw183 ts_LogFs_requirePower rfl rfl hd_LogFs_requirePower ⟨Nat.le_of_ble_eq_true rfl, Nat.le_of_ble_eq_true rfl⟩) (kX_V hP hK hX hS (va_recv (q0 := 0) (ci := 4) hK hP rfl rfl)) rfl rfl hl.1 rfl (lv_room (Nat.le_of_ble_eq_true rfl)) d_LogFs_make_1 ⟨Nat.le_of_ble_eq_true rfl, Nat.le_of_ble_eq_true rfl⟩) hS (fun hk t H locs ht hW hB _ hS => ?_) (fun hk q ce t H locs ht hW hB _ hS hq hv hc => ?_)
  · have hJ := j_t hJ hk
    have hP := kW_P hB ht
    refine W.cs (cells' := 0) (slots' := 0) (xc_0 hk) (xs_0 hk) ?_
    refine W.eq (g2 := F0 m 4 ls []) rfl ?_
    refine lv_aload_n hx hb d_LogFs_make_4 rfl (lv_at hl 0 rfl) ?_
    refine va_get (D := (dC, dI)) (ci := 4) (v := .ref (ga 3)) (C := R_LogFs) (T := T_LogFs) (N := 4) hx hb htb uin_LogFs hown hK hP 0 rfl rfl 2 (by decide) (htb _ tw119) (fun _ h9 => h9) rfl d_LogFs_make_5 ?_
    obtain ⟨x2, e2, hJ⟩ := j_bind hJ
    refine va_calli (va_runV (As := []) (rest := []) ⟨hx, hb, hml, hown, htb⟩ (c_Volume_leastFreeInode (l := l) (dC := dC) (dI := dI) hDa e2) (xcV 0 htb tw255 tw5 tw252 tw253 tw254 rfl rfl hd_Volume_leastFreeInode ⟨Nat.le_of_ble_eq_true rfl, Nat.le_of_ble_eq_true rfl⟩) (kW_V hP hK (va_recv (q0 := 3) (ci := 3) hK hP rfl rfl)) rfl rfl hl.1 rfl (lv_room (Nat.le_of_ble_eq_true rfl)) d_LogFs_make_8 ⟨Nat.le_of_ble_eq_true rfl, Nat.le_of_ble_eq_true rfl⟩) hS (fun q _ h => h) (fun q h => h) (fun r0 u t H locs ht hvm hw hB _ _ hS => ?_)
    subst r0
    have hP := kW_P hB ht
    refine lv_istore hx hb d_LogFs_make_11 hl (Nat.le_of_ble_eq_true rfl) rfl (fun ls hl => ?_)
    have hl : lv_has ls 6 [(5, .int x2), (0, .ref (ga 0)), (1, .int a1), (2, .long a2), (4, .int a3)] := hl
    refine lv_iload hx hb d_LogFs_make_13 (lv_at hl 0 rfl) ?_
    refine lv_iconst (v := ((-1) : Int32)) hx hb d_LogFs_make_15 (by decide) ?_
    refine lv_icmp_eq (tgt := 31) hx hb d_LogFs_make_16 (by decide) (fun h3 => ?_) (fun h3 => ?_)
    · have hJ := j_t hJ h3
      refine lv_iconst (v := ((-1) : Int32)) hx hb d_LogFs_make_31 (by decide) ?_
      have hJ := Option.some.inj hJ
      subst hJ
      exact x_ret (W.iret (v := ((-1) : Int32)) hx hb hr (fun t ht hW => ⟨⟨rfl, kW_end hP hK ht hW rfl⟩, hS.F ht⟩) hS.2.2 d_LogFs_make_32)
    · have hJ := j_f hJ h3
      refine lv_aload_n hx hb d_LogFs_make_19 rfl (lv_at hl 1 rfl) ?_
      refine va_get (D := (dC, dI)) (ci := 4) (v := .ref (ga 3)) (C := R_LogFs) (T := T_LogFs) (N := 4) hx hb htb uin_LogFs hown hK hP 0 rfl rfl 2 (by decide) (htb _ tw119) (fun _ h9 => h9) rfl d_LogFs_make_20 ?_
      refine lv_iload_n hx hb d_LogFs_make_23 rfl (lv_at hl 2 rfl) ?_
      refine lv_lload_n hx hb d_LogFs_make_24 rfl (lv_at hl 3 rfl) ?_
      obtain ⟨x4, e4, hJ⟩ := j_bind hJ
      refine va_calli (va_runV (As := [.int a1, .long a2]) (rest := []) ⟨hx, hb, hml, hown, htb⟩ (c_Volume_canEnter (l := l) (dC := dC) (dI := dI) hDa e4) (xcV 2 htb tw259 tw5 tw256 tw257 tw258 rfl rfl hd_Volume_canEnter ⟨Nat.le_of_ble_eq_true rfl, Nat.le_of_ble_eq_true rfl⟩) (kW_V hP hK (va_recv (q0 := 3) (ci := 3) hK hP rfl rfl)) rfl rfl hl.1 rfl (lv_room (Nat.le_of_ble_eq_true rfl)) d_LogFs_make_25 ⟨Nat.le_of_ble_eq_true rfl, Nat.le_of_ble_eq_true rfl⟩) hS (fun q _ h => h) (fun q h => h) (fun r0 u t H locs ht hvm hw hB _ _ hS => ?_)
      subst r0
      have hP := kW_P hB ht
      refine lv_if_ne (tgt := 33) hx hb d_LogFs_make_28 (by decide) (fun h5 => ?_) (fun h5 => ?_)
      · have hJ := j_f hJ h5
        refine lv_aload_n hx hb d_LogFs_make_33 rfl (lv_at hl 1 rfl) ?_
        obtain ⟨x6, e6, hJ⟩ := j_bind hJ
        refine x_call (xb_runV (As := []) (rest := []) ⟨hx, hb, hml, hown, htb⟩ (c_LogFs_commitIfMany (l := l) hl0 (dC := dC) (dI := dI) (sx := sx) hDa e6) (xcV 0 htb tw305 tw1 tw302 tw304 ts_LogFs_commitIfMany rfl rfl hd_LogFs_commitIfMany ⟨Nat.le_of_ble_eq_true rfl, Nat.le_of_ble_eq_true rfl⟩) (kX_V hP hK hX hS (va_recv (q0 := 0) (ci := 4) hK hP rfl rfl)) rfl rfl hl.1 rfl (lv_room (Nat.le_of_ble_eq_true rfl)) d_LogFs_make_34 ⟨Nat.le_of_ble_eq_true rfl, Nat.le_of_ble_eq_true rfl⟩) hS (fun hk t H locs ht hW hB _ hS => ?_) (fun hk q ce t H locs ht hW hB _ hS hq hv hc => ?_)
        · have hJ := j_t hJ hk
          have hP := kW_P hB ht
          refine W.cs (cells' := 0) (slots' := 0) (xc_0 hk) (xs_0 hk) ?_
          refine W.eq (g2 := F0 m 37 ls []) rfl ?_
          refine lv_aload_n hx hb d_LogFs_make_37 rfl (lv_at hl 1 rfl) ?_
          refine va_get (D := (dC, dI)) (ci := 4) (v := .ref (ga 3)) (C := R_LogFs) (T := T_LogFs) (N := 4) hx hb htb uin_LogFs hown hK hP 0 rfl rfl 2 (by decide) (htb _ tw119) (fun _ h9 => h9) rfl d_LogFs_make_38 ?_
          refine lv_iload hx hb d_LogFs_make_41 (lv_at hl 0 rfl) ?_
          refine lv_iload hx hb d_LogFs_make_43 (lv_at hl 4 rfl) ?_
          refine lv_if_eq (tgt := 52) hx hb d_LogFs_make_45 (by decide) (fun h7 => ?_) (fun h7 => ?_)
          · have hJ := j_t hJ h7
            refine lv_iconst (v := (1 : Int32)) hx hb d_LogFs_make_52 (by decide) ?_
            exact blk53 _ _ _ _ _ _ _ _ _ hJ (lv_sub hl [1, 2, 3, 0] rfl) hP hS
          · have hJ := j_f hJ h7
            refine lv_iconst (v := (2 : Int32)) hx hb d_LogFs_make_48 (by decide) ?_
            refine lv_goto (tgt := 53) hx hb d_LogFs_make_49 (by decide) ?_
            exact blk53 _ _ _ _ _ _ _ _ _ hJ (lv_sub hl [1, 2, 3, 0] rfl) hP hS
        · have hJ := j_f hJ hk
          have hP := kW_P hB ht
          have hJ := Option.some.inj hJ
          subst hJ
          exact x_out (fun x h => (hno x h).elim) hlocks hk hq hv hc (fun t ht hW => kW_end hP hK ht hW rfl) hS (Nat.le_of_eq (Nat.zero_add _)) (Nat.le_of_eq (Nat.zero_add _))
      · have hJ := j_t hJ h5
        refine lv_iconst (v := ((-1) : Int32)) hx hb d_LogFs_make_31 (by decide) ?_
        have hJ := Option.some.inj hJ
        subst hJ
        exact x_ret (W.iret (v := ((-1) : Int32)) hx hb hr (fun t ht hW => ⟨⟨rfl, kW_end hP hK ht hW rfl⟩, hS.F ht⟩) hS.2.2 d_LogFs_make_32)
  · have hJ := j_f hJ hk
    have hP := kW_P hB ht
    have hJ := Option.some.inj hJ
    subst hJ
    exact x_out (fun x h => (hno x h).elim) hlocks hk hq hv hc (fun t ht hW => kW_end hP hK ht hW rfl) hS (Nat.le_of_eq (Nat.zero_add _)) (Nat.le_of_eq (Nat.zero_add _))
def J_LogFs_link (σ : CS) (a1 : Int32) (a2 : Int64) (a3 : Int32) : Option (Nat × Int32 × CS) :=
  (J_LogFs_requirePower σ).bind fun x1 => (if x1 = 0 then (J_Volume_isFile σ a3).bind fun x2 => (if x2 = (0 : Int32) then some (0, (0 : Int32), σ) else (J_Volume_links σ a3).bind fun x4 => (if (200 : Int32) ≤ x4 then some (0, (0 : Int32), σ) else (J_Volume_canEnter σ a1 a2).bind fun x6 => (if x6 = (0 : Int32) then some (0, (0 : Int32), σ) else (J_LogFs_commitIfMany σ).bind fun x8 => (if x8.1 = 0 then (J_Volume_addLink x8.2 a3).bind fun x9 => (J_Volume_placeForEntry x9 a1).bind fun x10 => (J_LogFs_entryOf a3 a2).bind fun x11 => (J_Volume_putLong x9 a1 x10 x11 (8 : Int32)).bind fun x12 => some (0, (1 : Int32), x12) else some (x8.1, (0 : Int32), x8.2))))) else some (x1, (0 : Int32), σ))
abbrev rm_LogFs_link : Room := { frames := 8, cells := 1, slots := 6, locals := 160 }
set_option maxHeartbeats 4000000 in
set_option maxRecDepth 100000 in
theorem c_LogFs_link {l : Launch} (hl0 : l.stackTraces = false) {dC : Nat → ClassId} {dI : Nat → Nat → Nat} {ga : Nat → Nat} {cB cI : ClassId} {A : Nat → Prop} {sx : Nat → Nat} (hDa : ∀ σ, va_D A (wC ga cB cI σ)) {σ : CS} {a1 : Int32} {a2 : Int64} {a3 : Int32} {res : Nat × Int32 × CS} (hJ : J_LogFs_link σ a1 a2 a3 = some res) :
    xMet l y_LogFs_link (mw y_LogFs_link b_LogFs_link 5 (some .boolean)) rm_LogFs_link (va_Pc [.ref (ga 0), .int a1, .long a2, .int a3] (fun U => kW (dC, dI) (tC cB cI) (wC ga cB cI σ) U ∧ kX A sx U)) res.1 (some (.int res.2.1)) (fun t => kW (dC, dI) (tC cB cI) (wC ga cB cI res.2.2) t) A (xc res.1) (xs res.1) := by
  refine x_ofW (cc := b_LogFs_link) (maxL := 5) (ret := (some .boolean)) (by decide) rfl ?_
  intro p e s m args below meth c s₁ B hml hno hv
  obtain ⟨rfl, ⟨hP, hK⟩, hX⟩ := hv
  have hx := B.exec
  have hb := B.bytes
  have hr := B.returns
  have hts := atoms_spec (ws := (mw y_LogFs_link b_LogFs_link 5 (some .boolean))) B.pre
  have htb : ∀ w ∈ tb, w.before [.ref (ga 0), .int a1, .long a2, .int a3].toArray s = true := fun w h => hts w (mwIn h)
  have hown : s.vm.findClass "LogFs" = some m.cls := findClass_of_methodNamed B.named
  have hlocks := B.notSynchronized
  have hS : va_S A s.heap s.heap [] := va_S.rf
  have hl := lv_entry ([.ref (ga 0), .int a1, .long a2, .int a3]) (n := 5) (Nat.le_of_ble_eq_true rfl)
  rw [lg_entry_eq]
  generalize (lg_sl ([.ref (ga 0), .int a1, .long a2, .int a3]) ++ List.replicate (5 - (lg_sl ([.ref (ga 0), .int a1, .long a2, .int a3])).length) Slot.unset).toArray = ls at hl ⊢
  have hl : lv_has ls 5 [(0, .ref (ga 0)), (1, .int a1), (2, .long a2), (4, .int a3)] := hl
  unfold J_LogFs_link at hJ
  refine lv_aload_n hx hb d_LogFs_link_0 rfl (lv_at hl 0 rfl) ?_
  obtain ⟨x1, e1, hJ⟩ := j_bind hJ
  refine x_call (xb_runV (As := []) (rest := []) ⟨hx, hb, hml, hown, htb⟩ (c_LogFs_requirePower (l := l) hl0 (dC := dC) (dI := dI) (sx := sx) hDa e1) (xcV 0 htb tw184 tw1 tw181 tw183 ts_LogFs_requirePower rfl rfl hd_LogFs_requirePower ⟨Nat.le_of_ble_eq_true rfl, Nat.le_of_ble_eq_true rfl⟩) (kX_V hP hK hX hS (va_recv (q0 := 0) (ci := 4) hK hP rfl rfl)) rfl rfl hl.1 rfl (lv_room (Nat.le_of_ble_eq_true rfl)) d_LogFs_link_1 ⟨Nat.le_of_ble_eq_true rfl, Nat.le_of_ble_eq_true rfl⟩) hS (fun hk t H locs ht hW hB _ hS => ?_) (fun hk q ce t H locs ht hW hB _ hS hq hv hc => ?_)
  · have hJ := j_t hJ hk
    have hP := kW_P hB ht
    refine W.cs (cells' := 0) (slots' := 0) (xc_0 hk) (xs_0 hk) ?_
    refine W.eq (g2 := F0 m 4 ls []) rfl ?_
    refine lv_aload_n hx hb d_LogFs_link_4 rfl (lv_at hl 0 rfl) ?_
    refine va_get (D := (dC, dI)) (ci := 4) (v := .ref (ga 3)) (C := R_LogFs) (T := T_LogFs) (N := 4) hx hb htb uin_LogFs hown hK hP 0 rfl rfl 2 (by decide) (htb _ tw119) (fun _ h9 => h9) rfl d_LogFs_link_5 ?_
    refine lv_iload hx hb d_LogFs_link_8 (lv_at hl 3 rfl) ?_
    obtain ⟨x2, e2, hJ⟩ := j_bind hJ
    refine va_calli (va_runV (As := [.int a3]) (rest := []) ⟨hx, hb, hml, hown, htb⟩ (c_Volume_isFile (l := l) (dC := dC) (dI := dI) hDa e2) (xcV 1 htb tw426 tw5 tw423 tw424 tw425 rfl rfl hd_Volume_isFile ⟨Nat.le_of_ble_eq_true rfl, Nat.le_of_ble_eq_true rfl⟩) (kW_V hP hK (va_recv (q0 := 3) (ci := 3) hK hP rfl rfl)) rfl rfl hl.1 rfl (lv_room (Nat.le_of_ble_eq_true rfl)) d_LogFs_link_10 ⟨Nat.le_of_ble_eq_true rfl, Nat.le_of_ble_eq_true rfl⟩) hS (fun q _ h => h) (fun q h => h) (fun r0 u t H locs ht hvm hw hB _ _ hS => ?_)
    subst r0
    have hP := kW_P hB ht
    refine lv_if_eq (tgt := 43) hx hb d_LogFs_link_13 (by decide) (fun h3 => ?_) (fun h3 => ?_)
    · have hJ := j_t hJ h3
      refine lv_iconst (v := (0 : Int32)) hx hb d_LogFs_link_43 (by decide) ?_
      have hJ := Option.some.inj hJ
      subst hJ
      exact x_ret (W.zret (v := (0 : Int32)) (ty := .boolean) hx hb hr (by decide +kernel) (fun t ht hW => ⟨⟨rfl, kW_end hP hK ht hW rfl⟩, hS.F ht⟩) hS.2.2 d_LogFs_link_44)
    · have hJ := j_f hJ h3
      refine lv_aload_n hx hb d_LogFs_link_16 rfl (lv_at hl 0 rfl) ?_
      refine va_get (D := (dC, dI)) (ci := 4) (v := .ref (ga 3)) (C := R_LogFs) (T := T_LogFs) (N := 4) hx hb htb uin_LogFs hown hK hP 0 rfl rfl 2 (by decide) (htb _ tw119) (fun _ h9 => h9) rfl d_LogFs_link_17 ?_
      refine lv_iload hx hb d_LogFs_link_20 (lv_at hl 3 rfl) ?_
      obtain ⟨x4, e4, hJ⟩ := j_bind hJ
      refine va_calli (va_runV (As := [.int a3]) (rest := []) ⟨hx, hb, hml, hown, htb⟩ (c_Volume_links (l := l) (dC := dC) (dI := dI) hDa e4) (xcV 1 htb tw430 tw5 tw427 tw428 tw429 rfl rfl hd_Volume_links ⟨Nat.le_of_ble_eq_true rfl, Nat.le_of_ble_eq_true rfl⟩) (kW_V hP hK (va_recv (q0 := 3) (ci := 3) hK hP rfl rfl)) rfl rfl hl.1 rfl (lv_room (Nat.le_of_ble_eq_true rfl)) d_LogFs_link_22 ⟨Nat.le_of_ble_eq_true rfl, Nat.le_of_ble_eq_true rfl⟩) hS (fun q _ h => h) (fun q h => h) (fun r0 u t H locs ht hvm hw hB _ _ hS => ?_)
      subst r0
      have hP := kW_P hB ht
      refine lv_sipush (v := (200 : Int32)) hx hb d_LogFs_link_25 (by decide) ?_
      refine lv_icmp_ge (tgt := 43) hx hb d_LogFs_link_28 (by decide) (fun h5 => ?_) (fun h5 => ?_)
      · have hJ := j_t hJ h5
        refine lv_iconst (v := (0 : Int32)) hx hb d_LogFs_link_43 (by decide) ?_
        have hJ := Option.some.inj hJ
        subst hJ
        exact x_ret (W.zret (v := (0 : Int32)) (ty := .boolean) hx hb hr (by decide +kernel) (fun t ht hW => ⟨⟨rfl, kW_end hP hK ht hW rfl⟩, hS.F ht⟩) hS.2.2 d_LogFs_link_44)
      · have hJ := j_f hJ h5
        refine lv_aload_n hx hb d_LogFs_link_31 rfl (lv_at hl 0 rfl) ?_
        refine va_get (D := (dC, dI)) (ci := 4) (v := .ref (ga 3)) (C := R_LogFs) (T := T_LogFs) (N := 4) hx hb htb uin_LogFs hown hK hP 0 rfl rfl 2 (by decide) (htb _ tw119) (fun _ h9 => h9) rfl d_LogFs_link_32 ?_
        refine lv_iload_n hx hb d_LogFs_link_35 rfl (lv_at hl 1 rfl) ?_
        refine lv_lload_n hx hb d_LogFs_link_36 rfl (lv_at hl 2 rfl) ?_
        obtain ⟨x6, e6, hJ⟩ := j_bind hJ
        refine va_calli (va_runV (As := [.int a1, .long a2]) (rest := []) ⟨hx, hb, hml, hown, htb⟩ (c_Volume_canEnter (l := l) (dC := dC) (dI := dI) hDa e6) (xcV 2 htb tw259 tw5 tw256 tw257 tw258 rfl rfl hd_Volume_canEnter ⟨Nat.le_of_ble_eq_true rfl, Nat.le_of_ble_eq_true rfl⟩) (kW_V hP hK (va_recv (q0 := 3) (ci := 3) hK hP rfl rfl)) rfl rfl hl.1 rfl (lv_room (Nat.le_of_ble_eq_true rfl)) d_LogFs_link_37 ⟨Nat.le_of_ble_eq_true rfl, Nat.le_of_ble_eq_true rfl⟩) hS (fun q _ h => h) (fun q h => h) (fun r0 u t H locs ht hvm hw hB _ _ hS => ?_)
        subst r0
        have hP := kW_P hB ht
        refine lv_if_ne (tgt := 45) hx hb d_LogFs_link_40 (by decide) (fun h7 => ?_) (fun h7 => ?_)
        · have hJ := j_f hJ h7
          refine lv_aload_n hx hb d_LogFs_link_45 rfl (lv_at hl 0 rfl) ?_
          obtain ⟨x8, e8, hJ⟩ := j_bind hJ
          refine x_call (xb_runV (As := []) (rest := []) ⟨hx, hb, hml, hown, htb⟩ (c_LogFs_commitIfMany (l := l) hl0 (dC := dC) (dI := dI) (sx := sx) hDa e8) (xcV 0 htb tw305 tw1 tw302 tw304 ts_LogFs_commitIfMany rfl rfl hd_LogFs_commitIfMany ⟨Nat.le_of_ble_eq_true rfl, Nat.le_of_ble_eq_true rfl⟩) (kX_V hP hK hX hS (va_recv (q0 := 0) (ci := 4) hK hP rfl rfl)) rfl rfl hl.1 rfl (lv_room (Nat.le_of_ble_eq_true rfl)) d_LogFs_link_46 ⟨Nat.le_of_ble_eq_true rfl, Nat.le_of_ble_eq_true rfl⟩) hS (fun hk t H locs ht hW hB _ hS => ?_) (fun hk q ce t H locs ht hW hB _ hS hq hv hc => ?_)
          · have hJ := j_t hJ hk
            have hP := kW_P hB ht
            refine W.cs (cells' := 0) (slots' := 0) (xc_0 hk) (xs_0 hk) ?_
            refine W.eq (g2 := F0 m 49 ls []) rfl ?_
            refine lv_aload_n hx hb d_LogFs_link_49 rfl (lv_at hl 0 rfl) ?_
            refine va_get (D := (dC, dI)) (ci := 4) (v := .ref (ga 3)) (C := R_LogFs) (T := T_LogFs) (N := 4) hx hb htb uin_LogFs hown hK hP 0 rfl rfl 2 (by decide) (htb _ tw119) (fun _ h9 => h9) rfl d_LogFs_link_50 ?_
            refine lv_iload hx hb d_LogFs_link_53 (lv_at hl 3 rfl) ?_
            obtain ⟨x9, e9, hJ⟩ := j_bind hJ
            refine va_callv (va_runV (As := [.int a3]) (rest := []) ⟨hx, hb, hml, hown, htb⟩ (c_Volume_addLink (l := l) (dC := dC) (dI := dI) hDa e9) (xcV 1 htb tw434 tw5 tw431 tw432 tw433 rfl rfl hd_Volume_addLink ⟨Nat.le_of_ble_eq_true rfl, Nat.le_of_ble_eq_true rfl⟩) (kW_V hP hK (va_recv (q0 := 3) (ci := 3) hK hP rfl rfl)) rfl rfl hl.1 rfl (lv_room (Nat.le_of_ble_eq_true rfl)) d_LogFs_link_55 ⟨Nat.le_of_ble_eq_true rfl, Nat.le_of_ble_eq_true rfl⟩) hS (fun q _ h => h) (fun q h => h) (fun u t H locs ht hvm hw hB _ _ hS => ?_)
            have hP := kW_P hB ht
            refine lv_aload_n hx hb d_LogFs_link_58 rfl (lv_at hl 0 rfl) ?_
            refine va_get (D := (dC, dI)) (ci := 4) (v := .ref (ga 3)) (C := R_LogFs) (T := T_LogFs) (N := 4) hx hb htb uin_LogFs hown hK hP 0 rfl rfl 2 (by decide) (htb _ tw119) (fun _ h9 => h9) rfl d_LogFs_link_59 ?_
            refine lv_iload_n hx hb d_LogFs_link_62 rfl (lv_at hl 1 rfl) ?_
            refine lv_aload_n hx hb d_LogFs_link_63 rfl (lv_at hl 0 rfl) ?_
            refine va_get (D := (dC, dI)) (ci := 4) (v := .ref (ga 3)) (C := R_LogFs) (T := T_LogFs) (N := 4) hx hb htb uin_LogFs hown hK hP 0 rfl rfl 2 (by decide) (htb _ tw119) (fun _ h9 => h9) rfl d_LogFs_link_64 ?_
            refine lv_iload_n hx hb d_LogFs_link_67 rfl (lv_at hl 1 rfl) ?_
            obtain ⟨x10, e10, hJ⟩ := j_bind hJ
            refine va_calli (va_runV (As := [.int a1]) (rest := [.int a1, .ref (ga 3)]) ⟨hx, hb, hml, hown, htb⟩ (c_Volume_placeForEntry (l := l) (dC := dC) (dI := dI) hDa e10) (xcV 1 htb tw289 tw5 tw382 tw287 tw288 rfl rfl hd_Volume_placeForEntry ⟨Nat.le_of_ble_eq_true rfl, Nat.le_of_ble_eq_true rfl⟩) (kW_V hP hK (va_recv (q0 := 3) (ci := 3) hK hP rfl rfl)) rfl rfl hl.1 rfl (lv_room (Nat.le_of_ble_eq_true rfl)) d_LogFs_link_68 ⟨Nat.le_of_ble_eq_true rfl, Nat.le_of_ble_eq_true rfl⟩) hS (fun q _ h => h) (fun q h => h) (fun r0 u t H locs ht hvm hw hB _ _ hS => ?_)
            subst r0
            have hP := kW_P hB ht
            refine lv_iload hx hb d_LogFs_link_71 (lv_at hl 3 rfl) ?_
            refine lv_lload_n hx hb d_LogFs_link_73 rfl (lv_at hl 2 rfl) ?_
            obtain ⟨x11, e11, hJ⟩ := j_bind hJ
            refine va_calll (va_runS (As := [.int a3, .long a2]) (rest := [.int x10, .int a1, .ref (ga 3)]) ⟨hx, hb, hml, hown, htb⟩ (c_LogFs_entryOf (l := l) (dC := dC) (dI := dI) (σ := x9) hDa e11) (xcS 2 htb tw385 tw1 tw383 tw384 rfl rfl hd_LogFs_entryOf ⟨Nat.le_of_ble_eq_true rfl, Nat.le_of_ble_eq_true rfl⟩) (kW_S hP hK) rfl rfl hl.1 rfl (lv_room (Nat.le_of_ble_eq_true rfl)) d_LogFs_link_74 ⟨Nat.le_of_ble_eq_true rfl, Nat.le_of_ble_eq_true rfl⟩) hS (fun q _ h => h) (fun q h => h) (fun r0 u t H locs ht hvm hw hB _ _ hS => ?_)
            subst r0
            have hP := kW_P hB ht
            refine lv_bipush (v := (8 : Int32)) hx hb d_LogFs_link_77 (by decide) ?_
            obtain ⟨x12, e12, hJ⟩ := j_bind hJ
            refine va_callv (va_runV (As := [.int a1, .int x10, .long x11, .int (8 : Int32)]) (rest := []) ⟨hx, hb, hml, hown, htb⟩ (c_Volume_putLong (l := l) (dC := dC) (dI := dI) hDa e12) (xcV 4 htb tw389 tw5 tw386 tw387 tw388 rfl rfl hd_Volume_putLong ⟨Nat.le_of_ble_eq_true rfl, Nat.le_of_ble_eq_true rfl⟩) (kW_V hP hK (va_recv (q0 := 3) (ci := 3) hK hP rfl rfl)) rfl rfl hl.1 rfl (lv_room (Nat.le_of_ble_eq_true rfl)) d_LogFs_link_79 ⟨Nat.le_of_ble_eq_true rfl, Nat.le_of_ble_eq_true rfl⟩) hS (fun q _ h => h) (fun q h => h) (fun u t H locs ht hvm hw hB _ _ hS => ?_)
            have hP := kW_P hB ht
            refine lv_iconst (v := (1 : Int32)) hx hb d_LogFs_link_82 (by decide) ?_
            have hJ := Option.some.inj hJ
            subst hJ
            exact x_ret (W.zret (v := (1 : Int32)) (ty := .boolean) hx hb hr (by decide +kernel) (fun t ht hW => ⟨⟨rfl, kW_end hP hK ht hW rfl⟩, hS.F ht⟩) hS.2.2 d_LogFs_link_83)
          · have hJ := j_f hJ hk
            have hP := kW_P hB ht
            have hJ := Option.some.inj hJ
            subst hJ
            exact x_out (fun x h => (hno x h).elim) hlocks hk hq hv hc (fun t ht hW => kW_end hP hK ht hW rfl) hS (Nat.le_of_eq (Nat.zero_add _)) (Nat.le_of_eq (Nat.zero_add _))
        · have hJ := j_t hJ h7
          refine lv_iconst (v := (0 : Int32)) hx hb d_LogFs_link_43 (by decide) ?_
          have hJ := Option.some.inj hJ
          subst hJ
          exact x_ret (W.zret (v := (0 : Int32)) (ty := .boolean) hx hb hr (by decide +kernel) (fun t ht hW => ⟨⟨rfl, kW_end hP hK ht hW rfl⟩, hS.F ht⟩) hS.2.2 d_LogFs_link_44)
  · have hJ := j_f hJ hk
    have hP := kW_P hB ht
    have hJ := Option.some.inj hJ
    subst hJ
    exact x_out (fun x h => (hno x h).elim) hlocks hk hq hv hc (fun t ht hW => kW_end hP hK ht hW rfl) hS (Nat.le_of_eq (Nat.zero_add _)) (Nat.le_of_eq (Nat.zero_add _))
def J_LogFs_unlink (σ : CS) (a1 : Int32) (a2 : Int64) : Option (Nat × Int32 × CS) :=
  (J_LogFs_requirePower σ).bind fun x1 => (if x1 = 0 then (J_Volume_placeOf σ a1 a2).bind fun x2 => (if x2 = ((-1) : Int32) then some (0, (0 : Int32), σ) else (J_Volume_inodeAt σ a1 x2).bind fun x4 => (J_Volume_entries σ x4).bind fun x5 => (if x5 ≤ (0 : Int32) then (J_LogFs_commitIfMany σ).bind fun x7 => (if x7.1 = 0 then (J_Volume_putLong x7.2 a1 x2 (0 : Int64) (8 : Int32)).bind fun x8 => (J_Volume_dropLink x8 x4).bind fun x9 => some (0, (1 : Int32), x9) else some (x7.1, (0 : Int32), x7.2)) else some (0, (0 : Int32), σ))) else some (x1, (0 : Int32), σ))
abbrev rm_LogFs_unlink : Room := { frames := 8, cells := 1, slots := 6, locals := 160 }
set_option maxHeartbeats 4000000 in
set_option maxRecDepth 100000 in
theorem c_LogFs_unlink {l : Launch} (hl0 : l.stackTraces = false) {dC : Nat → ClassId} {dI : Nat → Nat → Nat} {ga : Nat → Nat} {cB cI : ClassId} {A : Nat → Prop} {sx : Nat → Nat} (hDa : ∀ σ, va_D A (wC ga cB cI σ)) {σ : CS} {a1 : Int32} {a2 : Int64} {res : Nat × Int32 × CS} (hJ : J_LogFs_unlink σ a1 a2 = some res) :
    xMet l y_LogFs_unlink (mw y_LogFs_unlink b_LogFs_unlink 6 (some .boolean)) rm_LogFs_unlink (va_Pc [.ref (ga 0), .int a1, .long a2] (fun U => kW (dC, dI) (tC cB cI) (wC ga cB cI σ) U ∧ kX A sx U)) res.1 (some (.int res.2.1)) (fun t => kW (dC, dI) (tC cB cI) (wC ga cB cI res.2.2) t) A (xc res.1) (xs res.1) := by
  refine x_ofW (cc := b_LogFs_unlink) (maxL := 6) (ret := (some .boolean)) (by decide) rfl ?_
  intro p e s m args below meth c s₁ B hml hno hv
  obtain ⟨rfl, ⟨hP, hK⟩, hX⟩ := hv
  have hx := B.exec
  have hb := B.bytes
  have hr := B.returns
  have hts := atoms_spec (ws := (mw y_LogFs_unlink b_LogFs_unlink 6 (some .boolean))) B.pre
  have htb : ∀ w ∈ tb, w.before [.ref (ga 0), .int a1, .long a2].toArray s = true := fun w h => hts w (mwIn h)
  have hown : s.vm.findClass "LogFs" = some m.cls := findClass_of_methodNamed B.named
  have hlocks := B.notSynchronized
  have hS : va_S A s.heap s.heap [] := va_S.rf
  have hl := lv_entry ([.ref (ga 0), .int a1, .long a2]) (n := 6) (Nat.le_of_ble_eq_true rfl)
  rw [lg_entry_eq]
  generalize (lg_sl ([.ref (ga 0), .int a1, .long a2]) ++ List.replicate (6 - (lg_sl ([.ref (ga 0), .int a1, .long a2])).length) Slot.unset).toArray = ls at hl ⊢
  have hl : lv_has ls 6 [(0, .ref (ga 0)), (1, .int a1), (2, .long a2)] := hl
  unfold J_LogFs_unlink at hJ
  refine lv_aload_n hx hb d_LogFs_unlink_0 rfl (lv_at hl 0 rfl) ?_
  obtain ⟨x1, e1, hJ⟩ := j_bind hJ
  refine x_call (xb_runV (As := []) (rest := []) ⟨hx, hb, hml, hown, htb⟩ (c_LogFs_requirePower (l := l) hl0 (dC := dC) (dI := dI) (sx := sx) hDa e1) (xcV 0 htb tw184 tw1 tw181 tw183 ts_LogFs_requirePower rfl rfl hd_LogFs_requirePower ⟨Nat.le_of_ble_eq_true rfl, Nat.le_of_ble_eq_true rfl⟩) (kX_V hP hK hX hS (va_recv (q0 := 0) (ci := 4) hK hP rfl rfl)) rfl rfl hl.1 rfl (lv_room (Nat.le_of_ble_eq_true rfl)) d_LogFs_unlink_1 ⟨Nat.le_of_ble_eq_true rfl, Nat.le_of_ble_eq_true rfl⟩) hS (fun hk t H locs ht hW hB _ hS => ?_) (fun hk q ce t H locs ht hW hB _ hS hq hv hc => ?_)
  · have hJ := j_t hJ hk
    have hP := kW_P hB ht
    refine W.cs (cells' := 0) (slots' := 0) (xc_0 hk) (xs_0 hk) ?_
    refine W.eq (g2 := F0 m 4 ls []) rfl ?_
    refine lv_aload_n hx hb d_LogFs_unlink_4 rfl (lv_at hl 0 rfl) ?_
    refine va_get (D := (dC, dI)) (ci := 4) (v := .ref (ga 3)) (C := R_LogFs) (T := T_LogFs) (N := 4) hx hb htb uin_LogFs hown hK hP 0 rfl rfl 2 (by decide) (htb _ tw119) (fun _ h9 => h9) rfl d_LogFs_unlink_5 ?_
    refine lv_iload_n hx hb d_LogFs_unlink_8 rfl (lv_at hl 1 rfl) ?_
    refine lv_lload_n hx hb d_LogFs_unlink_9 rfl (lv_at hl 2 rfl) ?_
    obtain ⟨x2, e2, hJ⟩ := j_bind hJ
    refine va_calli (va_runV (As := [.int a1, .long a2]) (rest := []) ⟨hx, hb, hml, hown, htb⟩ (c_Volume_placeOf (l := l) (dC := dC) (dI := dI) hDa e2) (xcV 2 htb tw273 tw5 tw443 tw271 tw272 rfl rfl hd_Volume_placeOf ⟨Nat.le_of_ble_eq_true rfl, Nat.le_of_ble_eq_true rfl⟩) (kW_V hP hK (va_recv (q0 := 3) (ci := 3) hK hP rfl rfl)) rfl rfl hl.1 rfl (lv_room (Nat.le_of_ble_eq_true rfl)) d_LogFs_unlink_10 ⟨Nat.le_of_ble_eq_true rfl, Nat.le_of_ble_eq_true rfl⟩) hS (fun q _ h => h) (fun q h => h) (fun r0 u t H locs ht hvm hw hB _ _ hS => ?_)
    subst r0
    have hP := kW_P hB ht
    refine lv_istore hx hb d_LogFs_unlink_13 hl (Nat.le_of_ble_eq_true rfl) rfl (fun ls hl => ?_)
    have hl : lv_has ls 6 [(4, .int x2), (0, .ref (ga 0)), (1, .int a1), (2, .long a2)] := hl
    refine lv_iload hx hb d_LogFs_unlink_15 (lv_at hl 0 rfl) ?_
    refine lv_iconst (v := ((-1) : Int32)) hx hb d_LogFs_unlink_17 (by decide) ?_
    refine lv_icmp_ne (tgt := 23) hx hb d_LogFs_unlink_18 (by decide) (fun h3 => ?_) (fun h3 => ?_)
    · have hJ := j_f hJ h3
      refine lv_aload_n hx hb d_LogFs_unlink_23 rfl (lv_at hl 1 rfl) ?_
      refine va_get (D := (dC, dI)) (ci := 4) (v := .ref (ga 3)) (C := R_LogFs) (T := T_LogFs) (N := 4) hx hb htb uin_LogFs hown hK hP 0 rfl rfl 2 (by decide) (htb _ tw119) (fun _ h9 => h9) rfl d_LogFs_unlink_24 ?_
      refine lv_iload_n hx hb d_LogFs_unlink_27 rfl (lv_at hl 2 rfl) ?_
      refine lv_iload hx hb d_LogFs_unlink_28 (lv_at hl 0 rfl) ?_
      obtain ⟨x4, e4, hJ⟩ := j_bind hJ
      refine va_calli (va_runV (As := [.int a1, .int x2]) (rest := []) ⟨hx, hb, hml, hown, htb⟩ (c_Volume_inodeAt (l := l) (dC := dC) (dI := dI) hDa e4) (xcV 2 htb tw447 tw5 tw444 tw445 tw446 rfl rfl hd_Volume_inodeAt ⟨Nat.le_of_ble_eq_true rfl, Nat.le_of_ble_eq_true rfl⟩) (kW_V hP hK (va_recv (q0 := 3) (ci := 3) hK hP rfl rfl)) rfl rfl hl.1 rfl (lv_room (Nat.le_of_ble_eq_true rfl)) d_LogFs_unlink_30 ⟨Nat.le_of_ble_eq_true rfl, Nat.le_of_ble_eq_true rfl⟩) hS (fun q _ h => h) (fun q h => h) (fun r0 u t H locs ht hvm hw hB _ _ hS => ?_)
      subst r0
      have hP := kW_P hB ht
      refine lv_istore hx hb d_LogFs_unlink_33 hl (Nat.le_of_ble_eq_true rfl) rfl (fun ls hl => ?_)
      have hl : lv_has ls 6 [(5, .int x4), (4, .int x2), (0, .ref (ga 0)), (1, .int a1), (2, .long a2)] := hl
      refine lv_aload_n hx hb d_LogFs_unlink_35 rfl (lv_at hl 2 rfl) ?_
      refine va_get (D := (dC, dI)) (ci := 4) (v := .ref (ga 3)) (C := R_LogFs) (T := T_LogFs) (N := 4) hx hb htb uin_LogFs hown hK hP 0 rfl rfl 2 (by decide) (htb _ tw119) (fun _ h9 => h9) rfl d_LogFs_unlink_36 ?_
      refine lv_iload hx hb d_LogFs_unlink_39 (lv_at hl 0 rfl) ?_
      obtain ⟨x5, e5, hJ⟩ := j_bind hJ
      refine va_calli (va_runV (As := [.int x4]) (rest := []) ⟨hx, hb, hml, hown, htb⟩ (c_Volume_entries (l := l) (dC := dC) (dI := dI) hDa e5) (xcV 1 htb tw451 tw5 tw448 tw449 tw450 rfl rfl hd_Volume_entries ⟨Nat.le_of_ble_eq_true rfl, Nat.le_of_ble_eq_true rfl⟩) (kW_V hP hK (va_recv (q0 := 3) (ci := 3) hK hP rfl rfl)) rfl rfl hl.1 rfl (lv_room (Nat.le_of_ble_eq_true rfl)) d_LogFs_unlink_41 ⟨Nat.le_of_ble_eq_true rfl, Nat.le_of_ble_eq_true rfl⟩) hS (fun q _ h => h) (fun q h => h) (fun r0 u t H locs ht hvm hw hB _ _ hS => ?_)
      subst r0
      have hP := kW_P hB ht
      refine lv_if_le (tgt := 49) hx hb d_LogFs_unlink_44 (by decide) (fun h6 => ?_) (fun h6 => ?_)
      · have hJ := j_t hJ h6
        refine lv_aload_n hx hb d_LogFs_unlink_49 rfl (lv_at hl 2 rfl) ?_
        obtain ⟨x7, e7, hJ⟩ := j_bind hJ
        refine x_call (xb_runV (As := []) (rest := []) ⟨hx, hb, hml, hown, htb⟩ (c_LogFs_commitIfMany (l := l) hl0 (dC := dC) (dI := dI) (sx := sx) hDa e7) (xcV 0 htb tw305 tw1 tw302 tw304 ts_LogFs_commitIfMany rfl rfl hd_LogFs_commitIfMany ⟨Nat.le_of_ble_eq_true rfl, Nat.le_of_ble_eq_true rfl⟩) (kX_V hP hK hX hS (va_recv (q0 := 0) (ci := 4) hK hP rfl rfl)) rfl rfl hl.1 rfl (lv_room (Nat.le_of_ble_eq_true rfl)) d_LogFs_unlink_50 ⟨Nat.le_of_ble_eq_true rfl, Nat.le_of_ble_eq_true rfl⟩) hS (fun hk t H locs ht hW hB _ hS => ?_) (fun hk q ce t H locs ht hW hB _ hS hq hv hc => ?_)
        · have hJ := j_t hJ hk
          have hP := kW_P hB ht
          refine W.cs (cells' := 0) (slots' := 0) (xc_0 hk) (xs_0 hk) ?_
          refine W.eq (g2 := F0 m 53 ls []) rfl ?_
          refine lv_aload_n hx hb d_LogFs_unlink_53 rfl (lv_at hl 2 rfl) ?_
          refine va_get (D := (dC, dI)) (ci := 4) (v := .ref (ga 3)) (C := R_LogFs) (T := T_LogFs) (N := 4) hx hb htb uin_LogFs hown hK hP 0 rfl rfl 2 (by decide) (htb _ tw119) (fun _ h9 => h9) rfl d_LogFs_unlink_54 ?_
          refine lv_iload_n hx hb d_LogFs_unlink_57 rfl (lv_at hl 3 rfl) ?_
          refine lv_iload hx hb d_LogFs_unlink_58 (lv_at hl 1 rfl) ?_
          refine lv_lconst (v := (0 : Int64)) hx hb d_LogFs_unlink_60 (by decide) ?_
          refine lv_bipush (v := (8 : Int32)) hx hb d_LogFs_unlink_61 (by decide) ?_
          obtain ⟨x8, e8, hJ⟩ := j_bind hJ
          refine va_callv (va_runV (As := [.int a1, .int x2, .long (0 : Int64), .int (8 : Int32)]) (rest := []) ⟨hx, hb, hml, hown, htb⟩ (c_Volume_putLong (l := l) (dC := dC) (dI := dI) hDa e8) (xcV 4 htb tw389 tw5 tw386 tw387 tw388 rfl rfl hd_Volume_putLong ⟨Nat.le_of_ble_eq_true rfl, Nat.le_of_ble_eq_true rfl⟩) (kW_V hP hK (va_recv (q0 := 3) (ci := 3) hK hP rfl rfl)) rfl rfl hl.1 rfl (lv_room (Nat.le_of_ble_eq_true rfl)) d_LogFs_unlink_63 ⟨Nat.le_of_ble_eq_true rfl, Nat.le_of_ble_eq_true rfl⟩) hS (fun q _ h => h) (fun q h => h) (fun u t H locs ht hvm hw hB _ _ hS => ?_)
          have hP := kW_P hB ht
          refine lv_aload_n hx hb d_LogFs_unlink_66 rfl (lv_at hl 2 rfl) ?_
          refine va_get (D := (dC, dI)) (ci := 4) (v := .ref (ga 3)) (C := R_LogFs) (T := T_LogFs) (N := 4) hx hb htb uin_LogFs hown hK hP 0 rfl rfl 2 (by decide) (htb _ tw119) (fun _ h9 => h9) rfl d_LogFs_unlink_67 ?_
          refine lv_iload hx hb d_LogFs_unlink_70 (lv_at hl 0 rfl) ?_
          obtain ⟨x9, e9, hJ⟩ := j_bind hJ
          refine va_callv (va_runV (As := [.int x4]) (rest := []) ⟨hx, hb, hml, hown, htb⟩ (c_Volume_dropLink (l := l) (dC := dC) (dI := dI) hDa e9) (xcV 1 htb tw455 tw5 tw452 tw453 tw454 rfl rfl hd_Volume_dropLink ⟨Nat.le_of_ble_eq_true rfl, Nat.le_of_ble_eq_true rfl⟩) (kW_V hP hK (va_recv (q0 := 3) (ci := 3) hK hP rfl rfl)) rfl rfl hl.1 rfl (lv_room (Nat.le_of_ble_eq_true rfl)) d_LogFs_unlink_72 ⟨Nat.le_of_ble_eq_true rfl, Nat.le_of_ble_eq_true rfl⟩) hS (fun q _ h => h) (fun q h => h) (fun u t H locs ht hvm hw hB _ _ hS => ?_)
          have hP := kW_P hB ht
          refine lv_iconst (v := (1 : Int32)) hx hb d_LogFs_unlink_75 (by decide) ?_
          have hJ := Option.some.inj hJ
          subst hJ
          exact x_ret (W.zret (v := (1 : Int32)) (ty := .boolean) hx hb hr (by decide +kernel) (fun t ht hW => ⟨⟨rfl, kW_end hP hK ht hW rfl⟩, hS.F ht⟩) hS.2.2 d_LogFs_unlink_76)
        · have hJ := j_f hJ hk
          have hP := kW_P hB ht
          have hJ := Option.some.inj hJ
          subst hJ
          exact x_out (fun x h => (hno x h).elim) hlocks hk hq hv hc (fun t ht hW => kW_end hP hK ht hW rfl) hS (Nat.le_of_eq (Nat.zero_add _)) (Nat.le_of_eq (Nat.zero_add _))
      · have hJ := j_f hJ h6
        refine lv_iconst (v := (0 : Int32)) hx hb d_LogFs_unlink_47 (by decide) ?_
        have hJ := Option.some.inj hJ
        subst hJ
        exact x_ret (W.zret (v := (0 : Int32)) (ty := .boolean) hx hb hr (by decide +kernel) (fun t ht hW => ⟨⟨rfl, kW_end hP hK ht hW rfl⟩, hS.F ht⟩) hS.2.2 d_LogFs_unlink_48)
    · have hJ := j_t hJ h3
      refine lv_iconst (v := (0 : Int32)) hx hb d_LogFs_unlink_21 (by decide) ?_
      have hJ := Option.some.inj hJ
      subst hJ
      exact x_ret (W.zret (v := (0 : Int32)) (ty := .boolean) hx hb hr (by decide +kernel) (fun t ht hW => ⟨⟨rfl, kW_end hP hK ht hW rfl⟩, hS.F ht⟩) hS.2.2 d_LogFs_unlink_22)
  · have hJ := j_f hJ hk
    have hP := kW_P hB ht
    have hJ := Option.some.inj hJ
    subst hJ
    exact x_out (fun x h => (hno x h).elim) hlocks hk hq hv hc (fun t ht hW => kW_end hP hK ht hW rfl) hS (Nat.le_of_eq (Nat.zero_add _)) (Nat.le_of_eq (Nat.zero_add _))
def J_LogFs_write (σ : CS) (a1 : Int32) (a2 : Int32) (a3 : Int64) (a4 : Int32) : Option (Nat × Int32 × CS) :=
  (J_LogFs_requirePower σ).bind fun x1 => (if x1 = 0 then (if a4 < (1 : Int32) then some (0, ((-1) : Int32), σ) else (if (8 : Int32) < a4 then some (0, ((-1) : Int32), σ) else (J_Volume_canPut σ a1 a2 a4).bind fun x4 => (if x4 = (0 : Int32) then some (0, ((-1) : Int32), σ) else (J_LogFs_commitIfMany σ).bind fun x6 => (if x6.1 = 0 then (J_Volume_putLong x6.2 a1 a2 a3 a4).bind fun x7 => (J_Volume_size x7 a1).bind fun x8 => some (0, x8, x7) else some (x6.1, (0 : Int32), x6.2))))) else some (x1, (0 : Int32), σ))
abbrev rm_LogFs_write : Room := { frames := 8, cells := 1, slots := 6, locals := 160 }
set_option maxHeartbeats 4000000 in
set_option maxRecDepth 100000 in
theorem c_LogFs_write {l : Launch} (hl0 : l.stackTraces = false) {dC : Nat → ClassId} {dI : Nat → Nat → Nat} {ga : Nat → Nat} {cB cI : ClassId} {A : Nat → Prop} {sx : Nat → Nat} (hDa : ∀ σ, va_D A (wC ga cB cI σ)) {σ : CS} {a1 : Int32} {a2 : Int32} {a3 : Int64} {a4 : Int32} {res : Nat × Int32 × CS} (hJ : J_LogFs_write σ a1 a2 a3 a4 = some res) :
    xMet l y_LogFs_write (mw y_LogFs_write b_LogFs_write 6 (some .int)) rm_LogFs_write (va_Pc [.ref (ga 0), .int a1, .int a2, .long a3, .int a4] (fun U => kW (dC, dI) (tC cB cI) (wC ga cB cI σ) U ∧ kX A sx U)) res.1 (some (.int res.2.1)) (fun t => kW (dC, dI) (tC cB cI) (wC ga cB cI res.2.2) t) A (xc res.1) (xs res.1) := by
  refine x_ofW (cc := b_LogFs_write) (maxL := 6) (ret := (some .int)) (by decide) rfl ?_
  intro p e s m args below meth c s₁ B hml hno hv
  obtain ⟨rfl, ⟨hP, hK⟩, hX⟩ := hv
  have hx := B.exec
  have hb := B.bytes
  have hr := B.returns
  have hts := atoms_spec (ws := (mw y_LogFs_write b_LogFs_write 6 (some .int))) B.pre
  have htb : ∀ w ∈ tb, w.before [.ref (ga 0), .int a1, .int a2, .long a3, .int a4].toArray s = true := fun w h => hts w (mwIn h)
  have hown : s.vm.findClass "LogFs" = some m.cls := findClass_of_methodNamed B.named
  have hlocks := B.notSynchronized
  have hS : va_S A s.heap s.heap [] := va_S.rf
  have hl := lv_entry ([.ref (ga 0), .int a1, .int a2, .long a3, .int a4]) (n := 6) (Nat.le_of_ble_eq_true rfl)
  rw [lg_entry_eq]
  generalize (lg_sl ([.ref (ga 0), .int a1, .int a2, .long a3, .int a4]) ++ List.replicate (6 - (lg_sl ([.ref (ga 0), .int a1, .int a2, .long a3, .int a4])).length) Slot.unset).toArray = ls at hl ⊢
  have hl : lv_has ls 6 [(0, .ref (ga 0)), (1, .int a1), (2, .int a2), (3, .long a3), (5, .int a4)] := hl
  unfold J_LogFs_write at hJ
  refine lv_aload_n hx hb d_LogFs_write_0 rfl (lv_at hl 0 rfl) ?_
  obtain ⟨x1, e1, hJ⟩ := j_bind hJ
  refine x_call (xb_runV (As := []) (rest := []) ⟨hx, hb, hml, hown, htb⟩ (c_LogFs_requirePower (l := l) hl0 (dC := dC) (dI := dI) (sx := sx) hDa e1) (xcV 0 htb tw184 tw1 tw181 tw183 ts_LogFs_requirePower rfl rfl hd_LogFs_requirePower ⟨Nat.le_of_ble_eq_true rfl, Nat.le_of_ble_eq_true rfl⟩) (kX_V hP hK hX hS (va_recv (q0 := 0) (ci := 4) hK hP rfl rfl)) rfl rfl hl.1 rfl (lv_room (Nat.le_of_ble_eq_true rfl)) d_LogFs_write_1 ⟨Nat.le_of_ble_eq_true rfl, Nat.le_of_ble_eq_true rfl⟩) hS (fun hk t H locs ht hW hB _ hS => ?_) (fun hk q ce t H locs ht hW hB _ hS hq hv hc => ?_)
  · have hJ := j_t hJ hk
    have hP := kW_P hB ht
    refine W.cs (cells' := 0) (slots' := 0) (xc_0 hk) (xs_0 hk) ?_
    refine W.eq (g2 := F0 m 4 ls []) rfl ?_
    refine lv_iload hx hb d_LogFs_write_4 (lv_at hl 4 rfl) ?_
    refine lv_iconst (v := (1 : Int32)) hx hb d_LogFs_write_6 (by decide) ?_
    refine lv_icmp_lt (tgt := 31) hx hb d_LogFs_write_7 (by decide) (fun h2 => ?_) (fun h2 => ?_)
    · have hJ := j_t hJ h2
      refine lv_iconst (v := ((-1) : Int32)) hx hb d_LogFs_write_31 (by decide) ?_
      have hJ := Option.some.inj hJ
      subst hJ
      exact x_ret (W.iret (v := ((-1) : Int32)) hx hb hr (fun t ht hW => ⟨⟨rfl, kW_end hP hK ht hW rfl⟩, hS.F ht⟩) hS.2.2 d_LogFs_write_32)
    · have hJ := j_f hJ h2
      refine lv_iload hx hb d_LogFs_write_10 (lv_at hl 4 rfl) ?_
      refine lv_bipush (v := (8 : Int32)) hx hb d_LogFs_write_12 (by decide) ?_
      refine lv_icmp_gt (tgt := 31) hx hb d_LogFs_write_14 (by decide) (fun h3 => ?_) (fun h3 => ?_)
      · have hJ := j_t hJ h3
        refine lv_iconst (v := ((-1) : Int32)) hx hb d_LogFs_write_31 (by decide) ?_
        have hJ := Option.some.inj hJ
        subst hJ
        exact x_ret (W.iret (v := ((-1) : Int32)) hx hb hr (fun t ht hW => ⟨⟨rfl, kW_end hP hK ht hW rfl⟩, hS.F ht⟩) hS.2.2 d_LogFs_write_32)
      · have hJ := j_f hJ h3
        refine lv_aload_n hx hb d_LogFs_write_17 rfl (lv_at hl 0 rfl) ?_
        refine va_get (D := (dC, dI)) (ci := 4) (v := .ref (ga 3)) (C := R_LogFs) (T := T_LogFs) (N := 4) hx hb htb uin_LogFs hown hK hP 0 rfl rfl 2 (by decide) (htb _ tw119) (fun _ h9 => h9) rfl d_LogFs_write_18 ?_
        refine lv_iload_n hx hb d_LogFs_write_21 rfl (lv_at hl 1 rfl) ?_
        refine lv_iload_n hx hb d_LogFs_write_22 rfl (lv_at hl 2 rfl) ?_
        refine lv_iload hx hb d_LogFs_write_23 (lv_at hl 4 rfl) ?_
        obtain ⟨x4, e4, hJ⟩ := j_bind hJ
        refine va_calli (va_runV (As := [.int a1, .int a2, .int a4]) (rest := []) ⟨hx, hb, hml, hown, htb⟩ (c_Volume_canPut (l := l) (dC := dC) (dI := dI) hDa e4) (xcV 3 htb tw474 tw5 tw471 tw472 tw473 rfl rfl hd_Volume_canPut ⟨Nat.le_of_ble_eq_true rfl, Nat.le_of_ble_eq_true rfl⟩) (kW_V hP hK (va_recv (q0 := 3) (ci := 3) hK hP rfl rfl)) rfl rfl hl.1 rfl (lv_room (Nat.le_of_ble_eq_true rfl)) d_LogFs_write_25 ⟨Nat.le_of_ble_eq_true rfl, Nat.le_of_ble_eq_true rfl⟩) hS (fun q _ h => h) (fun q h => h) (fun r0 u t H locs ht hvm hw hB _ _ hS => ?_)
        subst r0
        have hP := kW_P hB ht
        refine lv_if_ne (tgt := 33) hx hb d_LogFs_write_28 (by decide) (fun h5 => ?_) (fun h5 => ?_)
        · have hJ := j_f hJ h5
          refine lv_aload_n hx hb d_LogFs_write_33 rfl (lv_at hl 0 rfl) ?_
          obtain ⟨x6, e6, hJ⟩ := j_bind hJ
          refine x_call (xb_runV (As := []) (rest := []) ⟨hx, hb, hml, hown, htb⟩ (c_LogFs_commitIfMany (l := l) hl0 (dC := dC) (dI := dI) (sx := sx) hDa e6) (xcV 0 htb tw305 tw1 tw302 tw304 ts_LogFs_commitIfMany rfl rfl hd_LogFs_commitIfMany ⟨Nat.le_of_ble_eq_true rfl, Nat.le_of_ble_eq_true rfl⟩) (kX_V hP hK hX hS (va_recv (q0 := 0) (ci := 4) hK hP rfl rfl)) rfl rfl hl.1 rfl (lv_room (Nat.le_of_ble_eq_true rfl)) d_LogFs_write_34 ⟨Nat.le_of_ble_eq_true rfl, Nat.le_of_ble_eq_true rfl⟩) hS (fun hk t H locs ht hW hB _ hS => ?_) (fun hk q ce t H locs ht hW hB _ hS hq hv hc => ?_)
          · have hJ := j_t hJ hk
            have hP := kW_P hB ht
            refine W.cs (cells' := 0) (slots' := 0) (xc_0 hk) (xs_0 hk) ?_
            refine W.eq (g2 := F0 m 37 ls []) rfl ?_
            refine lv_aload_n hx hb d_LogFs_write_37 rfl (lv_at hl 0 rfl) ?_
            refine va_get (D := (dC, dI)) (ci := 4) (v := .ref (ga 3)) (C := R_LogFs) (T := T_LogFs) (N := 4) hx hb htb uin_LogFs hown hK hP 0 rfl rfl 2 (by decide) (htb _ tw119) (fun _ h9 => h9) rfl d_LogFs_write_38 ?_
            refine lv_iload_n hx hb d_LogFs_write_41 rfl (lv_at hl 1 rfl) ?_
            refine lv_iload_n hx hb d_LogFs_write_42 rfl (lv_at hl 2 rfl) ?_
            refine lv_lload_n hx hb d_LogFs_write_43 rfl (lv_at hl 3 rfl) ?_
            refine lv_iload hx hb d_LogFs_write_44 (lv_at hl 4 rfl) ?_
            obtain ⟨x7, e7, hJ⟩ := j_bind hJ
            refine va_callv (va_runV (As := [.int a1, .int a2, .long a3, .int a4]) (rest := []) ⟨hx, hb, hml, hown, htb⟩ (c_Volume_putLong (l := l) (dC := dC) (dI := dI) hDa e7) (xcV 4 htb tw389 tw5 tw386 tw387 tw388 rfl rfl hd_Volume_putLong ⟨Nat.le_of_ble_eq_true rfl, Nat.le_of_ble_eq_true rfl⟩) (kW_V hP hK (va_recv (q0 := 3) (ci := 3) hK hP rfl rfl)) rfl rfl hl.1 rfl (lv_room (Nat.le_of_ble_eq_true rfl)) d_LogFs_write_46 ⟨Nat.le_of_ble_eq_true rfl, Nat.le_of_ble_eq_true rfl⟩) hS (fun q _ h => h) (fun q h => h) (fun u t H locs ht hvm hw hB _ _ hS => ?_)
            have hP := kW_P hB ht
            refine lv_aload_n hx hb d_LogFs_write_49 rfl (lv_at hl 0 rfl) ?_
            refine va_get (D := (dC, dI)) (ci := 4) (v := .ref (ga 3)) (C := R_LogFs) (T := T_LogFs) (N := 4) hx hb htb uin_LogFs hown hK hP 0 rfl rfl 2 (by decide) (htb _ tw119) (fun _ h9 => h9) rfl d_LogFs_write_50 ?_
            refine lv_iload_n hx hb d_LogFs_write_53 rfl (lv_at hl 1 rfl) ?_
            obtain ⟨x8, e8, hJ⟩ := j_bind hJ
            refine va_calli (va_runV (As := [.int a1]) (rest := []) ⟨hx, hb, hml, hown, htb⟩ (c_Volume_size (l := l) (dC := dC) (dI := dI) hDa e8) (xcV 1 htb tw277 tw5 tw476 tw275 tw276 rfl rfl hd_Volume_size ⟨Nat.le_of_ble_eq_true rfl, Nat.le_of_ble_eq_true rfl⟩) (kW_V hP hK (va_recv (q0 := 3) (ci := 3) hK hP rfl rfl)) rfl rfl hl.1 rfl (lv_room (Nat.le_of_ble_eq_true rfl)) d_LogFs_write_54 ⟨Nat.le_of_ble_eq_true rfl, Nat.le_of_ble_eq_true rfl⟩) hS (fun q _ h => h) (fun q h => h) (fun r0 u t H locs ht hvm hw hB _ _ hS => ?_)
            subst r0
            have hP := kW_P hB ht
            have hJ := Option.some.inj hJ
            subst hJ
            exact x_ret (W.iret (v := x8) hx hb hr (fun t ht hW => ⟨⟨rfl, kW_end hP hK ht hW rfl⟩, hS.F ht⟩) hS.2.2 d_LogFs_write_57)
          · have hJ := j_f hJ hk
            have hP := kW_P hB ht
            have hJ := Option.some.inj hJ
            subst hJ
            exact x_out (fun x h => (hno x h).elim) hlocks hk hq hv hc (fun t ht hW => kW_end hP hK ht hW rfl) hS (Nat.le_of_eq (Nat.zero_add _)) (Nat.le_of_eq (Nat.zero_add _))
        · have hJ := j_t hJ h5
          refine lv_iconst (v := ((-1) : Int32)) hx hb d_LogFs_write_31 (by decide) ?_
          have hJ := Option.some.inj hJ
          subst hJ
          exact x_ret (W.iret (v := ((-1) : Int32)) hx hb hr (fun t ht hW => ⟨⟨rfl, kW_end hP hK ht hW rfl⟩, hS.F ht⟩) hS.2.2 d_LogFs_write_32)
  · have hJ := j_f hJ hk
    have hP := kW_P hB ht
    have hJ := Option.some.inj hJ
    subst hJ
    exact x_out (fun x h => (hno x h).elim) hlocks hk hq hv hc (fun t ht hW => kW_end hP hK ht hW rfl) hS (Nat.le_of_eq (Nat.zero_add _)) (Nat.le_of_eq (Nat.zero_add _))
def J_LogFs_fill (σ : CS) (a1 : Int32) (a2 : Int32) (a3 : Int32) (a4 : Int32) : Option (Nat × Int32 × CS) :=
  (J_LogFs_requirePower σ).bind fun x1 => (if x1 = 0 then (if a3 < (0 : Int32) then some (0, ((-1) : Int32), σ) else (if (255 : Int32) < a3 then some (0, ((-1) : Int32), σ) else (if a4 < (1 : Int32) then some (0, ((-1) : Int32), σ) else (if (64 : Int32) < a4 then some (0, ((-1) : Int32), σ) else (J_Volume_canPut σ a1 a2 a4).bind fun x6 => (if x6 = (0 : Int32) then some (0, ((-1) : Int32), σ) else (J_LogFs_commitIfMany σ).bind fun x8 => (if x8.1 = 0 then (J_Volume_putSame x8.2 a1 a2 a3 a4).bind fun x9 => (J_Volume_size x9 a1).bind fun x10 => some (0, x10, x9) else some (x8.1, (0 : Int32), x8.2))))))) else some (x1, (0 : Int32), σ))
abbrev rm_LogFs_fill : Room := { frames := 8, cells := 1, slots := 6, locals := 159 }
set_option maxHeartbeats 4000000 in
set_option maxRecDepth 100000 in
theorem c_LogFs_fill {l : Launch} (hl0 : l.stackTraces = false) {dC : Nat → ClassId} {dI : Nat → Nat → Nat} {ga : Nat → Nat} {cB cI : ClassId} {A : Nat → Prop} {sx : Nat → Nat} (hDa : ∀ σ, va_D A (wC ga cB cI σ)) {σ : CS} {a1 : Int32} {a2 : Int32} {a3 : Int32} {a4 : Int32} {res : Nat × Int32 × CS} (hJ : J_LogFs_fill σ a1 a2 a3 a4 = some res) :
    xMet l y_LogFs_fill (mw y_LogFs_fill b_LogFs_fill 5 (some .int)) rm_LogFs_fill (va_Pc [.ref (ga 0), .int a1, .int a2, .int a3, .int a4] (fun U => kW (dC, dI) (tC cB cI) (wC ga cB cI σ) U ∧ kX A sx U)) res.1 (some (.int res.2.1)) (fun t => kW (dC, dI) (tC cB cI) (wC ga cB cI res.2.2) t) A (xc res.1) (xs res.1) := by
  refine x_ofW (cc := b_LogFs_fill) (maxL := 5) (ret := (some .int)) (by decide) rfl ?_
  intro p e s m args below meth c s₁ B hml hno hv
  obtain ⟨rfl, ⟨hP, hK⟩, hX⟩ := hv
  have hx := B.exec
  have hb := B.bytes
  have hr := B.returns
  have hts := atoms_spec (ws := (mw y_LogFs_fill b_LogFs_fill 5 (some .int))) B.pre
  have htb : ∀ w ∈ tb, w.before [.ref (ga 0), .int a1, .int a2, .int a3, .int a4].toArray s = true := fun w h => hts w (mwIn h)
  have hown : s.vm.findClass "LogFs" = some m.cls := findClass_of_methodNamed B.named
  have hlocks := B.notSynchronized
  have hS : va_S A s.heap s.heap [] := va_S.rf
  have hl := lv_entry ([.ref (ga 0), .int a1, .int a2, .int a3, .int a4]) (n := 5) (Nat.le_of_ble_eq_true rfl)
  rw [lg_entry_eq]
  generalize (lg_sl ([.ref (ga 0), .int a1, .int a2, .int a3, .int a4]) ++ List.replicate (5 - (lg_sl ([.ref (ga 0), .int a1, .int a2, .int a3, .int a4])).length) Slot.unset).toArray = ls at hl ⊢
  have hl : lv_has ls 5 [(0, .ref (ga 0)), (1, .int a1), (2, .int a2), (3, .int a3), (4, .int a4)] := hl
  unfold J_LogFs_fill at hJ
  refine lv_aload_n hx hb d_LogFs_fill_0 rfl (lv_at hl 0 rfl) ?_
  obtain ⟨x1, e1, hJ⟩ := j_bind hJ
  refine x_call (xb_runV (As := []) (rest := []) ⟨hx, hb, hml, hown, htb⟩ (c_LogFs_requirePower (l := l) hl0 (dC := dC) (dI := dI) (sx := sx) hDa e1) (xcV 0 htb tw184 tw1 tw181 tw183 ts_LogFs_requirePower rfl rfl hd_LogFs_requirePower ⟨Nat.le_of_ble_eq_true rfl, Nat.le_of_ble_eq_true rfl⟩) (kX_V hP hK hX hS (va_recv (q0 := 0) (ci := 4) hK hP rfl rfl)) rfl rfl hl.1 rfl (lv_room (Nat.le_of_ble_eq_true rfl)) d_LogFs_fill_1 ⟨Nat.le_of_ble_eq_true rfl, Nat.le_of_ble_eq_true rfl⟩) hS (fun hk t H locs ht hW hB _ hS => ?_) (fun hk q ce t H locs ht hW hB _ hS hq hv hc => ?_)
  · have hJ := j_t hJ hk
    have hP := kW_P hB ht
    refine W.cs (cells' := 0) (slots' := 0) (xc_0 hk) (xs_0 hk) ?_
    refine W.eq (g2 := F0 m 4 ls []) rfl ?_
    refine lv_iload_n hx hb d_LogFs_fill_4 rfl (lv_at hl 3 rfl) ?_
    refine lv_if_lt (tgt := 42) hx hb d_LogFs_fill_5 (by decide) (fun h2 => ?_) (fun h2 => ?_)
    · have hJ := j_t hJ h2
      refine lv_iconst (v := ((-1) : Int32)) hx hb d_LogFs_fill_42 (by decide) ?_
      have hJ := Option.some.inj hJ
      subst hJ
      exact x_ret (W.iret (v := ((-1) : Int32)) hx hb hr (fun t ht hW => ⟨⟨rfl, kW_end hP hK ht hW rfl⟩, hS.F ht⟩) hS.2.2 d_LogFs_fill_43)
    · have hJ := j_f hJ h2
      refine lv_iload_n hx hb d_LogFs_fill_8 rfl (lv_at hl 3 rfl) ?_
      refine lv_sipush (v := (255 : Int32)) hx hb d_LogFs_fill_9 (by decide) ?_
      refine lv_icmp_gt (tgt := 42) hx hb d_LogFs_fill_12 (by decide) (fun h3 => ?_) (fun h3 => ?_)
      · have hJ := j_t hJ h3
        refine lv_iconst (v := ((-1) : Int32)) hx hb d_LogFs_fill_42 (by decide) ?_
        have hJ := Option.some.inj hJ
        subst hJ
        exact x_ret (W.iret (v := ((-1) : Int32)) hx hb hr (fun t ht hW => ⟨⟨rfl, kW_end hP hK ht hW rfl⟩, hS.F ht⟩) hS.2.2 d_LogFs_fill_43)
      · have hJ := j_f hJ h3
        refine lv_iload hx hb d_LogFs_fill_15 (lv_at hl 4 rfl) ?_
        refine lv_iconst (v := (1 : Int32)) hx hb d_LogFs_fill_17 (by decide) ?_
        refine lv_icmp_lt (tgt := 42) hx hb d_LogFs_fill_18 (by decide) (fun h4 => ?_) (fun h4 => ?_)
        · have hJ := j_t hJ h4
          refine lv_iconst (v := ((-1) : Int32)) hx hb d_LogFs_fill_42 (by decide) ?_
          have hJ := Option.some.inj hJ
          subst hJ
          exact x_ret (W.iret (v := ((-1) : Int32)) hx hb hr (fun t ht hW => ⟨⟨rfl, kW_end hP hK ht hW rfl⟩, hS.F ht⟩) hS.2.2 d_LogFs_fill_43)
        · have hJ := j_f hJ h4
          refine lv_iload hx hb d_LogFs_fill_21 (lv_at hl 4 rfl) ?_
          refine lv_bipush (v := (64 : Int32)) hx hb d_LogFs_fill_23 (by decide) ?_
          refine lv_icmp_gt (tgt := 42) hx hb d_LogFs_fill_25 (by decide) (fun h5 => ?_) (fun h5 => ?_)
          · have hJ := j_t hJ h5
            refine lv_iconst (v := ((-1) : Int32)) hx hb d_LogFs_fill_42 (by decide) ?_
            have hJ := Option.some.inj hJ
            subst hJ
            exact x_ret (W.iret (v := ((-1) : Int32)) hx hb hr (fun t ht hW => ⟨⟨rfl, kW_end hP hK ht hW rfl⟩, hS.F ht⟩) hS.2.2 d_LogFs_fill_43)
          · have hJ := j_f hJ h5
            refine lv_aload_n hx hb d_LogFs_fill_28 rfl (lv_at hl 0 rfl) ?_
            refine va_get (D := (dC, dI)) (ci := 4) (v := .ref (ga 3)) (C := R_LogFs) (T := T_LogFs) (N := 4) hx hb htb uin_LogFs hown hK hP 0 rfl rfl 2 (by decide) (htb _ tw119) (fun _ h9 => h9) rfl d_LogFs_fill_29 ?_
            refine lv_iload_n hx hb d_LogFs_fill_32 rfl (lv_at hl 1 rfl) ?_
            refine lv_iload_n hx hb d_LogFs_fill_33 rfl (lv_at hl 2 rfl) ?_
            refine lv_iload hx hb d_LogFs_fill_34 (lv_at hl 4 rfl) ?_
            obtain ⟨x6, e6, hJ⟩ := j_bind hJ
            refine va_calli (va_runV (As := [.int a1, .int a2, .int a4]) (rest := []) ⟨hx, hb, hml, hown, htb⟩ (c_Volume_canPut (l := l) (dC := dC) (dI := dI) hDa e6) (xcV 3 htb tw474 tw5 tw471 tw472 tw473 rfl rfl hd_Volume_canPut ⟨Nat.le_of_ble_eq_true rfl, Nat.le_of_ble_eq_true rfl⟩) (kW_V hP hK (va_recv (q0 := 3) (ci := 3) hK hP rfl rfl)) rfl rfl hl.1 rfl (lv_room (Nat.le_of_ble_eq_true rfl)) d_LogFs_fill_36 ⟨Nat.le_of_ble_eq_true rfl, Nat.le_of_ble_eq_true rfl⟩) hS (fun q _ h => h) (fun q h => h) (fun r0 u t H locs ht hvm hw hB _ _ hS => ?_)
            subst r0
            have hP := kW_P hB ht
            refine lv_if_ne (tgt := 44) hx hb d_LogFs_fill_39 (by decide) (fun h7 => ?_) (fun h7 => ?_)
            · have hJ := j_f hJ h7
              refine lv_aload_n hx hb d_LogFs_fill_44 rfl (lv_at hl 0 rfl) ?_
              obtain ⟨x8, e8, hJ⟩ := j_bind hJ
              refine x_call (xb_runV (As := []) (rest := []) ⟨hx, hb, hml, hown, htb⟩ (c_LogFs_commitIfMany (l := l) hl0 (dC := dC) (dI := dI) (sx := sx) hDa e8) (xcV 0 htb tw305 tw1 tw302 tw304 ts_LogFs_commitIfMany rfl rfl hd_LogFs_commitIfMany ⟨Nat.le_of_ble_eq_true rfl, Nat.le_of_ble_eq_true rfl⟩) (kX_V hP hK hX hS (va_recv (q0 := 0) (ci := 4) hK hP rfl rfl)) rfl rfl hl.1 rfl (lv_room (Nat.le_of_ble_eq_true rfl)) d_LogFs_fill_45 ⟨Nat.le_of_ble_eq_true rfl, Nat.le_of_ble_eq_true rfl⟩) hS (fun hk t H locs ht hW hB _ hS => ?_) (fun hk q ce t H locs ht hW hB _ hS hq hv hc => ?_)
              · have hJ := j_t hJ hk
                have hP := kW_P hB ht
                refine W.cs (cells' := 0) (slots' := 0) (xc_0 hk) (xs_0 hk) ?_
                refine W.eq (g2 := F0 m 48 ls []) rfl ?_
                refine lv_aload_n hx hb d_LogFs_fill_48 rfl (lv_at hl 0 rfl) ?_
                refine va_get (D := (dC, dI)) (ci := 4) (v := .ref (ga 3)) (C := R_LogFs) (T := T_LogFs) (N := 4) hx hb htb uin_LogFs hown hK hP 0 rfl rfl 2 (by decide) (htb _ tw119) (fun _ h9 => h9) rfl d_LogFs_fill_49 ?_
                refine lv_iload_n hx hb d_LogFs_fill_52 rfl (lv_at hl 1 rfl) ?_
                refine lv_iload_n hx hb d_LogFs_fill_53 rfl (lv_at hl 2 rfl) ?_
                refine lv_iload_n hx hb d_LogFs_fill_54 rfl (lv_at hl 3 rfl) ?_
                refine lv_iload hx hb d_LogFs_fill_55 (lv_at hl 4 rfl) ?_
                obtain ⟨x9, e9, hJ⟩ := j_bind hJ
                refine va_callv (va_runV (As := [.int a1, .int a2, .int a3, .int a4]) (rest := []) ⟨hx, hb, hml, hown, htb⟩ (c_Volume_putSame (l := l) (dC := dC) (dI := dI) hDa e9) (xcV 4 htb tw487 tw5 tw484 tw485 tw486 rfl rfl hd_Volume_putSame ⟨Nat.le_of_ble_eq_true rfl, Nat.le_of_ble_eq_true rfl⟩) (kW_V hP hK (va_recv (q0 := 3) (ci := 3) hK hP rfl rfl)) rfl rfl hl.1 rfl (lv_room (Nat.le_of_ble_eq_true rfl)) d_LogFs_fill_57 ⟨Nat.le_of_ble_eq_true rfl, Nat.le_of_ble_eq_true rfl⟩) hS (fun q _ h => h) (fun q h => h) (fun u t H locs ht hvm hw hB _ _ hS => ?_)
                have hP := kW_P hB ht
                refine lv_aload_n hx hb d_LogFs_fill_60 rfl (lv_at hl 0 rfl) ?_
                refine va_get (D := (dC, dI)) (ci := 4) (v := .ref (ga 3)) (C := R_LogFs) (T := T_LogFs) (N := 4) hx hb htb uin_LogFs hown hK hP 0 rfl rfl 2 (by decide) (htb _ tw119) (fun _ h9 => h9) rfl d_LogFs_fill_61 ?_
                refine lv_iload_n hx hb d_LogFs_fill_64 rfl (lv_at hl 1 rfl) ?_
                obtain ⟨x10, e10, hJ⟩ := j_bind hJ
                refine va_calli (va_runV (As := [.int a1]) (rest := []) ⟨hx, hb, hml, hown, htb⟩ (c_Volume_size (l := l) (dC := dC) (dI := dI) hDa e10) (xcV 1 htb tw277 tw5 tw476 tw275 tw276 rfl rfl hd_Volume_size ⟨Nat.le_of_ble_eq_true rfl, Nat.le_of_ble_eq_true rfl⟩) (kW_V hP hK (va_recv (q0 := 3) (ci := 3) hK hP rfl rfl)) rfl rfl hl.1 rfl (lv_room (Nat.le_of_ble_eq_true rfl)) d_LogFs_fill_65 ⟨Nat.le_of_ble_eq_true rfl, Nat.le_of_ble_eq_true rfl⟩) hS (fun q _ h => h) (fun q h => h) (fun r0 u t H locs ht hvm hw hB _ _ hS => ?_)
                subst r0
                have hP := kW_P hB ht
                have hJ := Option.some.inj hJ
                subst hJ
                exact x_ret (W.iret (v := x10) hx hb hr (fun t ht hW => ⟨⟨rfl, kW_end hP hK ht hW rfl⟩, hS.F ht⟩) hS.2.2 d_LogFs_fill_68)
              · have hJ := j_f hJ hk
                have hP := kW_P hB ht
                have hJ := Option.some.inj hJ
                subst hJ
                exact x_out (fun x h => (hno x h).elim) hlocks hk hq hv hc (fun t ht hW => kW_end hP hK ht hW rfl) hS (Nat.le_of_eq (Nat.zero_add _)) (Nat.le_of_eq (Nat.zero_add _))
            · have hJ := j_t hJ h7
              refine lv_iconst (v := ((-1) : Int32)) hx hb d_LogFs_fill_42 (by decide) ?_
              have hJ := Option.some.inj hJ
              subst hJ
              exact x_ret (W.iret (v := ((-1) : Int32)) hx hb hr (fun t ht hW => ⟨⟨rfl, kW_end hP hK ht hW rfl⟩, hS.F ht⟩) hS.2.2 d_LogFs_fill_43)
  · have hJ := j_f hJ hk
    have hP := kW_P hB ht
    have hJ := Option.some.inj hJ
    subst hJ
    exact x_out (fun x h => (hno x h).elim) hlocks hk hq hv hc (fun t ht hW => kW_end hP hK ht hW rfl) hS (Nat.le_of_eq (Nat.zero_add _)) (Nat.le_of_eq (Nat.zero_add _))
def J_LogFs_truncate (σ : CS) (a1 : Int32) : Option (Nat × Int32 × CS) :=
  (J_LogFs_requirePower σ).bind fun x1 => (if x1 = 0 then (J_Volume_isFile σ a1).bind fun x2 => (if x2 = (0 : Int32) then some (0, (0 : Int32), σ) else (J_Volume_size σ a1).bind fun x4 => (if x4 = (0 : Int32) then some (0, (0 : Int32), σ) else (J_LogFs_commitIfMany σ).bind fun x6 => (if x6.1 = 0 then (J_Volume_empty x6.2 a1).bind fun x7 => some (0, (1 : Int32), x7) else some (x6.1, (0 : Int32), x6.2)))) else some (x1, (0 : Int32), σ))
abbrev rm_LogFs_truncate : Room := { frames := 8, cells := 1, slots := 6, locals := 155 }
set_option maxHeartbeats 4000000 in
set_option maxRecDepth 100000 in
theorem c_LogFs_truncate {l : Launch} (hl0 : l.stackTraces = false) {dC : Nat → ClassId} {dI : Nat → Nat → Nat} {ga : Nat → Nat} {cB cI : ClassId} {A : Nat → Prop} {sx : Nat → Nat} (hDa : ∀ σ, va_D A (wC ga cB cI σ)) {σ : CS} {a1 : Int32} {res : Nat × Int32 × CS} (hJ : J_LogFs_truncate σ a1 = some res) :
    xMet l y_LogFs_truncate (mw y_LogFs_truncate b_LogFs_truncate 2 (some .boolean)) rm_LogFs_truncate (va_Pc [.ref (ga 0), .int a1] (fun U => kW (dC, dI) (tC cB cI) (wC ga cB cI σ) U ∧ kX A sx U)) res.1 (some (.int res.2.1)) (fun t => kW (dC, dI) (tC cB cI) (wC ga cB cI res.2.2) t) A (xc res.1) (xs res.1) := by
  refine x_ofW (cc := b_LogFs_truncate) (maxL := 2) (ret := (some .boolean)) (by decide) rfl ?_
  intro p e s m args below meth c s₁ B hml hno hv
  obtain ⟨rfl, ⟨hP, hK⟩, hX⟩ := hv
  have hx := B.exec
  have hb := B.bytes
  have hr := B.returns
  have hts := atoms_spec (ws := (mw y_LogFs_truncate b_LogFs_truncate 2 (some .boolean))) B.pre
  have htb : ∀ w ∈ tb, w.before [.ref (ga 0), .int a1].toArray s = true := fun w h => hts w (mwIn h)
  have hown : s.vm.findClass "LogFs" = some m.cls := findClass_of_methodNamed B.named
  have hlocks := B.notSynchronized
  have hS : va_S A s.heap s.heap [] := va_S.rf
  have hl := lv_entry ([.ref (ga 0), .int a1]) (n := 2) (Nat.le_of_ble_eq_true rfl)
  rw [lg_entry_eq]
  generalize (lg_sl ([.ref (ga 0), .int a1]) ++ List.replicate (2 - (lg_sl ([.ref (ga 0), .int a1])).length) Slot.unset).toArray = ls at hl ⊢
  have hl : lv_has ls 2 [(0, .ref (ga 0)), (1, .int a1)] := hl
  unfold J_LogFs_truncate at hJ
  refine lv_aload_n hx hb d_LogFs_truncate_0 rfl (lv_at hl 0 rfl) ?_
  obtain ⟨x1, e1, hJ⟩ := j_bind hJ
  refine x_call (xb_runV (As := []) (rest := []) ⟨hx, hb, hml, hown, htb⟩ (c_LogFs_requirePower (l := l) hl0 (dC := dC) (dI := dI) (sx := sx) hDa e1) (xcV 0 htb tw184 tw1 tw181 tw183 ts_LogFs_requirePower rfl rfl hd_LogFs_requirePower ⟨Nat.le_of_ble_eq_true rfl, Nat.le_of_ble_eq_true rfl⟩) (kX_V hP hK hX hS (va_recv (q0 := 0) (ci := 4) hK hP rfl rfl)) rfl rfl hl.1 rfl (lv_room (Nat.le_of_ble_eq_true rfl)) d_LogFs_truncate_1 ⟨Nat.le_of_ble_eq_true rfl, Nat.le_of_ble_eq_true rfl⟩) hS (fun hk t H locs ht hW hB _ hS => ?_) (fun hk q ce t H locs ht hW hB _ hS hq hv hc => ?_)
  · have hJ := j_t hJ hk
    have hP := kW_P hB ht
    refine W.cs (cells' := 0) (slots' := 0) (xc_0 hk) (xs_0 hk) ?_
    refine W.eq (g2 := F0 m 4 ls []) rfl ?_
    refine lv_aload_n hx hb d_LogFs_truncate_4 rfl (lv_at hl 0 rfl) ?_
    refine va_get (D := (dC, dI)) (ci := 4) (v := .ref (ga 3)) (C := R_LogFs) (T := T_LogFs) (N := 4) hx hb htb uin_LogFs hown hK hP 0 rfl rfl 2 (by decide) (htb _ tw119) (fun _ h9 => h9) rfl d_LogFs_truncate_5 ?_
    refine lv_iload_n hx hb d_LogFs_truncate_8 rfl (lv_at hl 1 rfl) ?_
    obtain ⟨x2, e2, hJ⟩ := j_bind hJ
    refine va_calli (va_runV (As := [.int a1]) (rest := []) ⟨hx, hb, hml, hown, htb⟩ (c_Volume_isFile (l := l) (dC := dC) (dI := dI) hDa e2) (xcV 1 htb tw426 tw5 tw423 tw424 tw425 rfl rfl hd_Volume_isFile ⟨Nat.le_of_ble_eq_true rfl, Nat.le_of_ble_eq_true rfl⟩) (kW_V hP hK (va_recv (q0 := 3) (ci := 3) hK hP rfl rfl)) rfl rfl hl.1 rfl (lv_room (Nat.le_of_ble_eq_true rfl)) d_LogFs_truncate_9 ⟨Nat.le_of_ble_eq_true rfl, Nat.le_of_ble_eq_true rfl⟩) hS (fun q _ h => h) (fun q h => h) (fun r0 u t H locs ht hvm hw hB _ _ hS => ?_)
    subst r0
    have hP := kW_P hB ht
    refine lv_if_eq (tgt := 26) hx hb d_LogFs_truncate_12 (by decide) (fun h3 => ?_) (fun h3 => ?_)
    · have hJ := j_t hJ h3
      refine lv_iconst (v := (0 : Int32)) hx hb d_LogFs_truncate_26 (by decide) ?_
      have hJ := Option.some.inj hJ
      subst hJ
      exact x_ret (W.zret (v := (0 : Int32)) (ty := .boolean) hx hb hr (by decide +kernel) (fun t ht hW => ⟨⟨rfl, kW_end hP hK ht hW rfl⟩, hS.F ht⟩) hS.2.2 d_LogFs_truncate_27)
    · have hJ := j_f hJ h3
      refine lv_aload_n hx hb d_LogFs_truncate_15 rfl (lv_at hl 0 rfl) ?_
      refine va_get (D := (dC, dI)) (ci := 4) (v := .ref (ga 3)) (C := R_LogFs) (T := T_LogFs) (N := 4) hx hb htb uin_LogFs hown hK hP 0 rfl rfl 2 (by decide) (htb _ tw119) (fun _ h9 => h9) rfl d_LogFs_truncate_16 ?_
      refine lv_iload_n hx hb d_LogFs_truncate_19 rfl (lv_at hl 1 rfl) ?_
      obtain ⟨x4, e4, hJ⟩ := j_bind hJ
      refine va_calli (va_runV (As := [.int a1]) (rest := []) ⟨hx, hb, hml, hown, htb⟩ (c_Volume_size (l := l) (dC := dC) (dI := dI) hDa e4) (xcV 1 htb tw277 tw5 tw476 tw275 tw276 rfl rfl hd_Volume_size ⟨Nat.le_of_ble_eq_true rfl, Nat.le_of_ble_eq_true rfl⟩) (kW_V hP hK (va_recv (q0 := 3) (ci := 3) hK hP rfl rfl)) rfl rfl hl.1 rfl (lv_room (Nat.le_of_ble_eq_true rfl)) d_LogFs_truncate_20 ⟨Nat.le_of_ble_eq_true rfl, Nat.le_of_ble_eq_true rfl⟩) hS (fun q _ h => h) (fun q h => h) (fun r0 u t H locs ht hvm hw hB _ _ hS => ?_)
      subst r0
      have hP := kW_P hB ht
      refine lv_if_ne (tgt := 28) hx hb d_LogFs_truncate_23 (by decide) (fun h5 => ?_) (fun h5 => ?_)
      · have hJ := j_f hJ h5
        refine lv_aload_n hx hb d_LogFs_truncate_28 rfl (lv_at hl 0 rfl) ?_
        obtain ⟨x6, e6, hJ⟩ := j_bind hJ
        refine x_call (xb_runV (As := []) (rest := []) ⟨hx, hb, hml, hown, htb⟩ (c_LogFs_commitIfMany (l := l) hl0 (dC := dC) (dI := dI) (sx := sx) hDa e6) (xcV 0 htb tw305 tw1 tw302 tw304 ts_LogFs_commitIfMany rfl rfl hd_LogFs_commitIfMany ⟨Nat.le_of_ble_eq_true rfl, Nat.le_of_ble_eq_true rfl⟩) (kX_V hP hK hX hS (va_recv (q0 := 0) (ci := 4) hK hP rfl rfl)) rfl rfl hl.1 rfl (lv_room (Nat.le_of_ble_eq_true rfl)) d_LogFs_truncate_29 ⟨Nat.le_of_ble_eq_true rfl, Nat.le_of_ble_eq_true rfl⟩) hS (fun hk t H locs ht hW hB _ hS => ?_) (fun hk q ce t H locs ht hW hB _ hS hq hv hc => ?_)
        · have hJ := j_t hJ hk
          have hP := kW_P hB ht
          refine W.cs (cells' := 0) (slots' := 0) (xc_0 hk) (xs_0 hk) ?_
          refine W.eq (g2 := F0 m 32 ls []) rfl ?_
          refine lv_aload_n hx hb d_LogFs_truncate_32 rfl (lv_at hl 0 rfl) ?_
          refine va_get (D := (dC, dI)) (ci := 4) (v := .ref (ga 3)) (C := R_LogFs) (T := T_LogFs) (N := 4) hx hb htb uin_LogFs hown hK hP 0 rfl rfl 2 (by decide) (htb _ tw119) (fun _ h9 => h9) rfl d_LogFs_truncate_33 ?_
          refine lv_iload_n hx hb d_LogFs_truncate_36 rfl (lv_at hl 1 rfl) ?_
          obtain ⟨x7, e7, hJ⟩ := j_bind hJ
          refine va_callv (va_runV (As := [.int a1]) (rest := []) ⟨hx, hb, hml, hown, htb⟩ (c_Volume_empty (l := l) (dC := dC) (dI := dI) hDa e7) (xcV 1 htb tw459 tw5 tw495 tw457 tw458 rfl rfl hd_Volume_empty ⟨Nat.le_of_ble_eq_true rfl, Nat.le_of_ble_eq_true rfl⟩) (kW_V hP hK (va_recv (q0 := 3) (ci := 3) hK hP rfl rfl)) rfl rfl hl.1 rfl (lv_room (Nat.le_of_ble_eq_true rfl)) d_LogFs_truncate_37 ⟨Nat.le_of_ble_eq_true rfl, Nat.le_of_ble_eq_true rfl⟩) hS (fun q _ h => h) (fun q h => h) (fun u t H locs ht hvm hw hB _ _ hS => ?_)
          have hP := kW_P hB ht
          refine lv_iconst (v := (1 : Int32)) hx hb d_LogFs_truncate_40 (by decide) ?_
          have hJ := Option.some.inj hJ
          subst hJ
          exact x_ret (W.zret (v := (1 : Int32)) (ty := .boolean) hx hb hr (by decide +kernel) (fun t ht hW => ⟨⟨rfl, kW_end hP hK ht hW rfl⟩, hS.F ht⟩) hS.2.2 d_LogFs_truncate_41)
        · have hJ := j_f hJ hk
          have hP := kW_P hB ht
          have hJ := Option.some.inj hJ
          subst hJ
          exact x_out (fun x h => (hno x h).elim) hlocks hk hq hv hc (fun t ht hW => kW_end hP hK ht hW rfl) hS (Nat.le_of_eq (Nat.zero_add _)) (Nat.le_of_eq (Nat.zero_add _))
      · have hJ := j_t hJ h5
        refine lv_iconst (v := (0 : Int32)) hx hb d_LogFs_truncate_26 (by decide) ?_
        have hJ := Option.some.inj hJ
        subst hJ
        exact x_ret (W.zret (v := (0 : Int32)) (ty := .boolean) hx hb hr (by decide +kernel) (fun t ht hW => ⟨⟨rfl, kW_end hP hK ht hW rfl⟩, hS.F ht⟩) hS.2.2 d_LogFs_truncate_27)
  · have hJ := j_f hJ hk
    have hP := kW_P hB ht
    have hJ := Option.some.inj hJ
    subst hJ
    exact x_out (fun x h => (hno x h).elim) hlocks hk hq hv hc (fun t ht hW => kW_end hP hK ht hW rfl) hS (Nat.le_of_eq (Nat.zero_add _)) (Nat.le_of_eq (Nat.zero_add _))
def J_LogFs_sync (σ : CS)  : Option (Nat × Int32 × CS) :=
  (J_LogFs_requirePower σ).bind fun x1 => (if x1 = 0 then (J_LogFs_commit σ).bind fun x2 => (if x2.1 = 0 then some (0, ((c_w x2.2) - (c_w σ)), x2.2) else some (x2.1, (0 : Int32), x2.2)) else some (x1, (0 : Int32), σ))
abbrev rm_LogFs_sync : Room := { frames := 7, cells := 1, slots := 6, locals := 135 }
set_option maxHeartbeats 4000000 in
set_option maxRecDepth 100000 in
theorem c_LogFs_sync {l : Launch} (hl0 : l.stackTraces = false) {dC : Nat → ClassId} {dI : Nat → Nat → Nat} {ga : Nat → Nat} {cB cI : ClassId} {A : Nat → Prop} {sx : Nat → Nat} (hDa : ∀ σ, va_D A (wC ga cB cI σ)) {σ : CS} {res : Nat × Int32 × CS} (hJ : J_LogFs_sync σ = some res) :
    xMet l y_LogFs_sync (mw y_LogFs_sync b_LogFs_sync 2 (some .int)) rm_LogFs_sync (va_Pc [.ref (ga 0)] (fun U => kW (dC, dI) (tC cB cI) (wC ga cB cI σ) U ∧ kX A sx U)) res.1 (some (.int res.2.1)) (fun t => kW (dC, dI) (tC cB cI) (wC ga cB cI res.2.2) t) A (xc res.1) (xs res.1) := by
  refine x_ofW (cc := b_LogFs_sync) (maxL := 2) (ret := (some .int)) (by decide) rfl ?_
  intro p e s m args below meth c s₁ B hml hno hv
  obtain ⟨rfl, ⟨hP, hK⟩, hX⟩ := hv
  have hx := B.exec
  have hb := B.bytes
  have hr := B.returns
  have hts := atoms_spec (ws := (mw y_LogFs_sync b_LogFs_sync 2 (some .int))) B.pre
  have htb : ∀ w ∈ tb, w.before [.ref (ga 0)].toArray s = true := fun w h => hts w (mwIn h)
  have hown : s.vm.findClass "LogFs" = some m.cls := findClass_of_methodNamed B.named
  have hlocks := B.notSynchronized
  have hS : va_S A s.heap s.heap [] := va_S.rf
  have hl := lv_entry ([.ref (ga 0)]) (n := 2) (Nat.le_of_ble_eq_true rfl)
  rw [lg_entry_eq]
  generalize (lg_sl ([.ref (ga 0)]) ++ List.replicate (2 - (lg_sl ([.ref (ga 0)])).length) Slot.unset).toArray = ls at hl ⊢
  have hl : lv_has ls 2 [(0, .ref (ga 0))] := hl
  unfold J_LogFs_sync at hJ
  refine lv_aload_n hx hb d_LogFs_sync_0 rfl (lv_at hl 0 rfl) ?_
  obtain ⟨x1, e1, hJ⟩ := j_bind hJ
  refine x_call (xb_runV (As := []) (rest := []) ⟨hx, hb, hml, hown, htb⟩ (c_LogFs_requirePower (l := l) hl0 (dC := dC) (dI := dI) (sx := sx) hDa e1) (xcV 0 htb tw184 tw1 tw181 tw183 ts_LogFs_requirePower rfl rfl hd_LogFs_requirePower ⟨Nat.le_of_ble_eq_true rfl, Nat.le_of_ble_eq_true rfl⟩) (kX_V hP hK hX hS (va_recv (q0 := 0) (ci := 4) hK hP rfl rfl)) rfl rfl hl.1 rfl (lv_room (Nat.le_of_ble_eq_true rfl)) d_LogFs_sync_1 ⟨Nat.le_of_ble_eq_true rfl, Nat.le_of_ble_eq_true rfl⟩) hS (fun hk t H locs ht hW hB _ hS => ?_) (fun hk q ce t H locs ht hW hB _ hS hq hv hc => ?_)
  · have hJ := j_t hJ hk
    have hP := kW_P hB ht
    refine W.cs (cells' := 0) (slots' := 0) (xc_0 hk) (xs_0 hk) ?_
    refine W.eq (g2 := F0 m 4 ls []) rfl ?_
    refine lv_aload_n hx hb d_LogFs_sync_4 rfl (lv_at hl 0 rfl) ?_
    refine va_get (D := (dC, dI)) (ci := 4) (v := .ref (ga 1)) (C := R_LogFs) (T := T_LogFs) (N := 4) hx hb htb uin_LogFs hown hK hP 0 rfl rfl 0 (by decide) (htb _ tw117) (fun _ h9 => h9) rfl d_LogFs_sync_5 ?_
    refine va_getN (D := (dC, dI)) (ci := 1) (v := .int (c_w σ)) (C := R_Disk) (T := T_Disk) (N := 4) hx hb htb uin_Disk hown hK hP 1 rfl rfl 1 (by decide) (htb _ tw51) (fun _ h9 => h9) rfl d_LogFs_sync_8 ?_
    refine lv_istore_n hx hb d_LogFs_sync_11 rfl hl (Nat.le_of_ble_eq_true rfl) rfl (fun ls hl => ?_)
    have hl : lv_has ls 2 [(1, .int (c_w σ)), (0, .ref (ga 0))] := hl
    refine lv_aload_n hx hb d_LogFs_sync_12 rfl (lv_at hl 1 rfl) ?_
    obtain ⟨x2, e2, hJ⟩ := j_bind hJ
    refine x_call (xb_runV (As := []) (rest := []) ⟨hx, hb, hml, hown, htb⟩ (c_LogFs_commit (l := l) hl0 (dC := dC) (dI := dI) (sx := sx) hDa e2) (xcV 0 htb tw309 tw1 tw306 tw308 ts_LogFs_commit rfl rfl hd_LogFs_commit ⟨Nat.le_of_ble_eq_true rfl, Nat.le_of_ble_eq_true rfl⟩) (kX_V hP hK hX hS (va_recv (q0 := 0) (ci := 4) hK hP rfl rfl)) rfl rfl hl.1 rfl (lv_room (Nat.le_of_ble_eq_true rfl)) d_LogFs_sync_13 ⟨Nat.le_of_ble_eq_true rfl, Nat.le_of_ble_eq_true rfl⟩) hS (fun hk t H locs ht hW hB _ hS => ?_) (fun hk q ce t H locs ht hW hB _ hS hq hv hc => ?_)
    · have hJ := j_t hJ hk
      have hP := kW_P hB ht
      refine W.cs (cells' := 0) (slots' := 0) (xc_0 hk) (xs_0 hk) ?_
      refine W.eq (g2 := F0 m 16 ls []) rfl ?_
      refine lv_aload_n hx hb d_LogFs_sync_16 rfl (lv_at hl 1 rfl) ?_
      refine va_get (D := (dC, dI)) (ci := 4) (v := .ref (ga 1)) (C := R_LogFs) (T := T_LogFs) (N := 4) hx hb htb uin_LogFs hown hK hP 0 rfl rfl 0 (by decide) (htb _ tw117) (fun _ h9 => h9) rfl d_LogFs_sync_17 ?_
      refine va_getN (D := (dC, dI)) (ci := 1) (v := .int (c_w x2.2)) (C := R_Disk) (T := T_Disk) (N := 4) hx hb htb uin_Disk hown hK hP 1 rfl rfl 1 (by decide) (htb _ tw51) (fun _ h9 => h9) rfl d_LogFs_sync_20 ?_
      refine lv_iload_n hx hb d_LogFs_sync_23 rfl (lv_at hl 0 rfl) ?_
      refine lv_isub hx hb d_LogFs_sync_24 ?_
      have hJ := Option.some.inj hJ
      subst hJ
      exact x_ret (W.iret (v := ((c_w x2.2) - (c_w σ))) hx hb hr (fun t ht hW => ⟨⟨rfl, kW_end hP hK ht hW rfl⟩, hS.F ht⟩) hS.2.2 d_LogFs_sync_25)
    · have hJ := j_f hJ hk
      have hP := kW_P hB ht
      have hJ := Option.some.inj hJ
      subst hJ
      exact x_out (fun x h => (hno x h).elim) hlocks hk hq hv hc (fun t ht hW => kW_end hP hK ht hW rfl) hS (Nat.le_of_eq (Nat.zero_add _)) (Nat.le_of_eq (Nat.zero_add _))
  · have hJ := j_f hJ hk
    have hP := kW_P hB ht
    have hJ := Option.some.inj hJ
    subst hJ
    exact x_out (fun x h => (hno x h).elim) hlocks hk hq hv hc (fun t ht hW => kW_end hP hK ht hW rfl) hS (Nat.le_of_eq (Nat.zero_add _)) (Nat.le_of_eq (Nat.zero_add _))
def J_LogFs_mount_46 (σ : CS) (v1 : Int32) : Option (Nat × Int32 × CS) :=
  (J_Memory_load σ).bind fun x3 => some (0, v1, x3)
def J_LogFs_mount (σ : CS)  : Option (Nat × Int32 × CS) :=
  (J_Blocks_get_d (s_o σ (0 : Int32)) (1 : Int32) (0 : Int32)).bind fun x1 => (if x1 ≤ (0 : Int32) then J_LogFs_mount_46 (s_o σ (0 : Int32)) x1 else (J_Disk_replayLog (s_o σ (0 : Int32)) x1).bind fun x4 => (if x4.1 = (0 : Int32) then some (2, (0 : Int32), x4.2) else J_LogFs_mount_46 x4.2 x1))
abbrev rm_LogFs_mount : Room := { frames := 6, cells := 1, slots := 6, locals := 94 }
set_option maxHeartbeats 4000000 in
set_option maxRecDepth 100000 in
theorem c_LogFs_mount {l : Launch} (hl0 : l.stackTraces = false) {dC : Nat → ClassId} {dI : Nat → Nat → Nat} {ga : Nat → Nat} {cB cI : ClassId} {A : Nat → Prop} {sx : Nat → Nat} (hDa : ∀ σ, va_D A (wC ga cB cI σ)) {σ : CS} {res : Nat × Int32 × CS} (hJ : J_LogFs_mount σ = some res) :
    xMet l y_LogFs_mount (mw y_LogFs_mount b_LogFs_mount 2 (some .int)) rm_LogFs_mount (va_Pc [.ref (ga 0)] (fun U => kW (dC, dI) (tC cB cI) (wC ga cB cI σ) U ∧ kX A sx U)) res.1 (some (.int res.2.1)) (fun t => kW (dC, dI) (tC cB cI) (wC ga cB cI res.2.2) t) A (xc res.1) (xs res.1) := by
  refine x_ofW (cc := b_LogFs_mount) (maxL := 2) (ret := (some .int)) (by decide) rfl ?_
  intro p e s m args below meth c s₁ B hml hno hv
  obtain ⟨rfl, ⟨hP, hK⟩, hX⟩ := hv
  have hx := B.exec
  have hb := B.bytes
  have hr := B.returns
  have hts := atoms_spec (ws := (mw y_LogFs_mount b_LogFs_mount 2 (some .int))) B.pre
  have htb : ∀ w ∈ tb, w.before [.ref (ga 0)].toArray s = true := fun w h => hts w (mwIn h)
  have hown : s.vm.findClass "LogFs" = some m.cls := findClass_of_methodNamed B.named
  have hlocks := B.notSynchronized
  have hS : va_S A s.heap s.heap [] := va_S.rf
  have hl := lv_entry ([.ref (ga 0)]) (n := 2) (Nat.le_of_ble_eq_true rfl)
  rw [lg_entry_eq]
  generalize (lg_sl ([.ref (ga 0)]) ++ List.replicate (2 - (lg_sl ([.ref (ga 0)])).length) Slot.unset).toArray = ls at hl ⊢
  have hl : lv_has ls 2 [(0, .ref (ga 0))] := hl
  have blk46 : ∀ (σ : CS) (v1 : Int32) (ls : Array Slot) (H : Heap) (locs : List Loc), J_LogFs_mount_46 σ v1 = some res → lv_has ls 2 [(0, .ref (ga 0)), (1, .int v1)] → va_P (dC, dI) cls (wC ga cB cI σ) H → va_S A s.heap H locs → W p l e (headSpec (mw y_LogFs_mount b_LogFs_mount 2 (some .int)) rm_LogFs_mount).room s m [.ref (ga 0)].toArray below meth c H locs 0 0 (xMQ below res.1 (some (.int res.2.1)) (fun t => kW (dC, dI) (tC cB cI) (wC ga cB cI res.2.2) t) A s (xc res.1) (xs res.1)) (F0 m 46 ls []) := by
    intro σ v1 ls H locs hJ hl hP hS
    unfold J_LogFs_mount_46 at hJ
    refine lv_aload_n hx hb d_LogFs_mount_46 rfl (lv_at hl 0 rfl) ?_
    refine va_get (D := (dC, dI)) (ci := 4) (v := .ref (ga 2)) (C := R_LogFs) (T := T_LogFs) (N := 4) hx hb htb uin_LogFs hown hK hP 0 rfl rfl 1 (by decide) (htb _ tw118) (fun _ h9 => h9) rfl d_LogFs_mount_47 ?_
    refine lv_aload_n hx hb d_LogFs_mount_50 rfl (lv_at hl 0 rfl) ?_
    refine va_get (D := (dC, dI)) (ci := 4) (v := .ref (ga 1)) (C := R_LogFs) (T := T_LogFs) (N := 4) hx hb htb uin_LogFs hown hK hP 0 rfl rfl 0 (by decide) (htb _ tw117) (fun _ h9 => h9) rfl d_LogFs_mount_51 ?_
    refine va_getN (D := (dC, dI)) (ci := 1) (v := .ref (ga 4)) (C := R_Disk) (T := T_Disk) (N := 4) hx hb htb uin_Disk hown hK hP 1 rfl rfl 0 (by decide) (htb _ tw49) (fun _ h9 => h9) rfl d_LogFs_mount_54 ?_
    obtain ⟨x3, e3, hJ⟩ := j_bind hJ
    refine va_callv (va_runV (As := [.ref (ga 4)]) (rest := []) ⟨hx, hb, hml, hown, htb⟩ (c_Memory_load (l := l) (dC := dC) (dI := dI) hDa e3) (xcV 1 htb tw105 tw4 tw102 tw103 tw104 rfl rfl hd_Memory_load ⟨Nat.le_of_ble_eq_true rfl, Nat.le_of_ble_eq_true rfl⟩) (kW_V hP hK (va_recv (q0 := 2) (ci := 2) hK hP rfl rfl)) rfl rfl hl.1 rfl (lv_room (Nat.le_of_ble_eq_true rfl)) d_LogFs_mount_57 ⟨Nat.le_of_ble_eq_true rfl, Nat.le_of_ble_eq_true rfl⟩) hS (fun q _ h => h) (fun q h => h) (fun u t H locs ht hvm hw hB _ _ hS => ?_)
    have hP := kW_P hB ht
    refine lv_iload_n hx hb d_LogFs_mount_60 rfl (lv_at hl 1 rfl) ?_
    have hJ := Option.some.inj hJ
    subst hJ
    exact x_ret (W.iret (v := v1) hx hb hr (fun t ht hW => ⟨⟨rfl, kW_end hP hK ht hW rfl⟩, hS.F ht⟩) hS.2.2 d_LogFs_mount_61)
  unfold J_LogFs_mount at hJ
  refine lv_aload_n hx hb d_LogFs_mount_0 rfl (lv_at hl 0 rfl) ?_
  refine va_get (D := (dC, dI)) (ci := 4) (v := .ref (ga 1)) (C := R_LogFs) (T := T_LogFs) (N := 4) hx hb htb uin_LogFs hown hK hP 0 rfl rfl 0 (by decide) (htb _ tw117) (fun _ h9 => h9) rfl d_LogFs_mount_1 ?_
  refine lv_iconst (v := (0 : Int32)) hx hb d_LogFs_mount_4 (by decide) ?_
  refine va_putN (D := (dC, dI)) (ci := 1) (v := .int (0 : Int32)) (ty := .boolean) (C := R_Disk) (T := T_Disk) (N := 4) hx hb htb uin_Disk t_Disk t_Disk_ok n_Disk hown hK hP (hDa _) hS 1 rfl rfl 3 (by decide) (htb _ tw55) (fun _ h9 => h9) rfl (by decide +kernel) (by decide +kernel) (by decide +kernel) (Nat.le_of_ble_eq_true rfl) d_LogFs_mount_5 (fun H locs hP _ hS => ?_)
  have hP : va_P (dC, dI) cls (wC ga cB cI (s_o σ (0 : Int32))) H := hP
  refine lv_aload_n hx hb d_LogFs_mount_8 rfl (lv_at hl 0 rfl) ?_
  refine va_get (D := (dC, dI)) (ci := 4) (v := .ref (ga 1)) (C := R_LogFs) (T := T_LogFs) (N := 4) hx hb htb uin_LogFs hown hK hP 0 rfl rfl 0 (by decide) (htb _ tw117) (fun _ h9 => h9) rfl d_LogFs_mount_9 ?_
  refine va_getN (D := (dC, dI)) (ci := 1) (v := .ref (ga 4)) (C := R_Disk) (T := T_Disk) (N := 4) hx hb htb uin_Disk hown hK hP 1 rfl rfl 0 (by decide) (htb _ tw49) (fun _ h9 => h9) rfl d_LogFs_mount_12 ?_
  refine lv_iconst (v := (1 : Int32)) hx hb d_LogFs_mount_15 (by decide) ?_
  refine lv_iconst (v := (0 : Int32)) hx hb d_LogFs_mount_16 (by decide) ?_
  obtain ⟨x1, e1, hJ⟩ := j_bind hJ
  refine va_calli (va_runV (As := [.int (1 : Int32), .int (0 : Int32)]) (rest := []) ⟨hx, hb, hml, hown, htb⟩ (c_Blocks_get_d (l := l) (dC := dC) (dI := dI) hDa e1) (xcV 2 htb tw47 tw3 tw510 tw45 tw46 rfl rfl hd_Blocks_get ⟨Nat.le_of_ble_eq_true rfl, Nat.le_of_ble_eq_true rfl⟩) (kW_V hP hK (va_recv (q0 := 4) (ci := 0) hK hP rfl rfl)) rfl rfl hl.1 rfl (lv_room (Nat.le_of_ble_eq_true rfl)) d_LogFs_mount_17 ⟨Nat.le_of_ble_eq_true rfl, Nat.le_of_ble_eq_true rfl⟩) hS (fun q _ h => h) (fun q h => h) (fun r0 u t H locs ht hvm hw hB _ _ hS => ?_)
  subst r0
  have hP := kW_P hB ht
  refine lv_istore_n hx hb d_LogFs_mount_20 rfl hl (Nat.le_of_ble_eq_true rfl) rfl (fun ls hl => ?_)
  have hl : lv_has ls 2 [(1, .int x1), (0, .ref (ga 0))] := hl
  refine lv_iload_n hx hb d_LogFs_mount_21 rfl (lv_at hl 0 rfl) ?_
  refine lv_if_le (tgt := 46) hx hb d_LogFs_mount_22 (by decide) (fun h2 => ?_) (fun h2 => ?_)
  · have hJ := j_t hJ h2
    exact blk46 _ _ _ _ _ hJ (lv_sub hl [1, 0] rfl) hP hS
  · have hJ := j_f hJ h2
    refine lv_aload_n hx hb d_LogFs_mount_25 rfl (lv_at hl 1 rfl) ?_
    refine va_get (D := (dC, dI)) (ci := 4) (v := .ref (ga 1)) (C := R_LogFs) (T := T_LogFs) (N := 4) hx hb htb uin_LogFs hown hK hP 0 rfl rfl 0 (by decide) (htb _ tw117) (fun _ h9 => h9) rfl d_LogFs_mount_26 ?_
    refine lv_iload_n hx hb d_LogFs_mount_29 rfl (lv_at hl 0 rfl) ?_
    obtain ⟨x4, e4, hJ⟩ := j_bind hJ
    refine va_calli (va_runV (As := [.int x1]) (rest := []) ⟨hx, hb, hml, hown, htb⟩ (c_Disk_replayLog (l := l) (dC := dC) (dI := dI) hDa e4) (xcV 1 htb tw514 tw2 tw511 tw512 tw513 rfl rfl hd_Disk_replayLog ⟨Nat.le_of_ble_eq_true rfl, Nat.le_of_ble_eq_true rfl⟩) (kW_V hP hK (va_recv (q0 := 1) (ci := 1) hK hP rfl rfl)) rfl rfl hl.1 rfl (lv_room (Nat.le_of_ble_eq_true rfl)) d_LogFs_mount_30 ⟨Nat.le_of_ble_eq_true rfl, Nat.le_of_ble_eq_true rfl⟩) hS (fun q _ h => h) (fun q h => h) (fun r0 u t H locs ht hvm hw hB _ _ hS => ?_)
    subst r0
    have hP := kW_P hB ht
    refine lv_if_ne (tgt := 46) hx hb d_LogFs_mount_33 (by decide) (fun h5 => ?_) (fun h5 => ?_)
    · have hJ := j_f hJ h5
      exact blk46 _ _ _ _ _ hJ (lv_sub hl [1, 0] rfl) hP hS
    · have hJ := j_t hJ h5
      have hJ := Option.some.inj hJ
      subst hJ
      exact x_throw (k := 2) (names := ["java/lang/RuntimeException", "java/lang/Exception"]) hx hb hl0 hown (by decide +kernel) (by decide +kernel) (by decide) (xo_at htb xo_2) hX.2.2.2.2.1 hX.1 hX.2.1 hS (hl.1.trans hml.symm) d_LogFs_mount_36 d_LogFs_mount_39 d_LogFs_mount_40 d_LogFs_mount_42 d_LogFs_mount_45 (fun x h => (hno x h).elim) (Nat.le_of_ble_eq_true rfl) (Nat.le_of_ble_eq_true rfl) (Nat.le_of_ble_eq_true rfl) (Nat.le_of_ble_eq_true rfl) hlocks (fun t hW h1 h2 => kW_new hP hK hW h2) (Nat.le_of_ble_eq_true rfl) (Nat.le_of_ble_eq_true rfl)
def J_LogFs_find (σ : CS) (a1 : Int32) (a2 : Int64) : Option (Nat × Int32) :=
  (J_LogFs_requirePower σ).bind fun x1 => (if x1 = 0 then (J_Volume_placeOf σ a1 a2).bind fun x2 => (if x2 = ((-1) : Int32) then some (0, ((-1) : Int32)) else (J_Volume_inodeAt σ a1 x2).bind fun x4 => some (0, x4)) else some (x1, (0 : Int32)))
abbrev rm_LogFs_find : Room := { frames := 7, cells := 1, slots := 6, locals := 118 }
set_option maxHeartbeats 4000000 in
set_option maxRecDepth 100000 in
theorem c_LogFs_find {l : Launch} (hl0 : l.stackTraces = false) {dC : Nat → ClassId} {dI : Nat → Nat → Nat} {ga : Nat → Nat} {cB cI : ClassId} {A : Nat → Prop} {sx : Nat → Nat} (hDa : ∀ σ, va_D A (wC ga cB cI σ)) {σ : CS} {a1 : Int32} {a2 : Int64} {res : Nat × Int32} (hJ : J_LogFs_find σ a1 a2 = some res) :
    xMet l y_LogFs_find (mw y_LogFs_find b_LogFs_find 5 (some .int)) rm_LogFs_find (va_Pc [.ref (ga 0), .int a1, .long a2] (fun U => kW (dC, dI) (tC cB cI) (wC ga cB cI σ) U ∧ kX A sx U)) res.1 (some (.int res.2)) (fun t => kW (dC, dI) (tC cB cI) (wC ga cB cI σ) t) A (xc res.1) (xs res.1) := by
  refine x_ofW (cc := b_LogFs_find) (maxL := 5) (ret := (some .int)) (by decide) rfl ?_
  intro p e s m args below meth c s₁ B hml hno hv
  obtain ⟨rfl, ⟨hP, hK⟩, hX⟩ := hv
  have hx := B.exec
  have hb := B.bytes
  have hr := B.returns
  have hts := atoms_spec (ws := (mw y_LogFs_find b_LogFs_find 5 (some .int))) B.pre
  have htb : ∀ w ∈ tb, w.before [.ref (ga 0), .int a1, .long a2].toArray s = true := fun w h => hts w (mwIn h)
  have hown : s.vm.findClass "LogFs" = some m.cls := findClass_of_methodNamed B.named
  have hlocks := B.notSynchronized
  have hS : va_S A s.heap s.heap [] := va_S.rf
  have hl := lv_entry ([.ref (ga 0), .int a1, .long a2]) (n := 5) (Nat.le_of_ble_eq_true rfl)
  rw [lg_entry_eq]
  generalize (lg_sl ([.ref (ga 0), .int a1, .long a2]) ++ List.replicate (5 - (lg_sl ([.ref (ga 0), .int a1, .long a2])).length) Slot.unset).toArray = ls at hl ⊢
  have hl : lv_has ls 5 [(0, .ref (ga 0)), (1, .int a1), (2, .long a2)] := hl
  unfold J_LogFs_find at hJ
  refine lv_aload_n hx hb d_LogFs_find_0 rfl (lv_at hl 0 rfl) ?_
  obtain ⟨x1, e1, hJ⟩ := j_bind hJ
  refine x_call (xb_runV (As := []) (rest := []) ⟨hx, hb, hml, hown, htb⟩ (c_LogFs_requirePower (l := l) hl0 (dC := dC) (dI := dI) (sx := sx) hDa e1) (xcV 0 htb tw184 tw1 tw181 tw183 ts_LogFs_requirePower rfl rfl hd_LogFs_requirePower ⟨Nat.le_of_ble_eq_true rfl, Nat.le_of_ble_eq_true rfl⟩) (kX_V hP hK hX hS (va_recv (q0 := 0) (ci := 4) hK hP rfl rfl)) rfl rfl hl.1 rfl (lv_room (Nat.le_of_ble_eq_true rfl)) d_LogFs_find_1 ⟨Nat.le_of_ble_eq_true rfl, Nat.le_of_ble_eq_true rfl⟩) hS (fun hk t H locs ht hW hB _ hS => ?_) (fun hk q ce t H locs ht hW hB _ hS hq hv hc => ?_)
  · have hJ := j_t hJ hk
    have hP := kW_P hB ht
    refine W.cs (cells' := 0) (slots' := 0) (xc_0 hk) (xs_0 hk) ?_
    refine W.eq (g2 := F0 m 4 ls []) rfl ?_
    refine lv_aload_n hx hb d_LogFs_find_4 rfl (lv_at hl 0 rfl) ?_
    refine va_get (D := (dC, dI)) (ci := 4) (v := .ref (ga 3)) (C := R_LogFs) (T := T_LogFs) (N := 4) hx hb htb uin_LogFs hown hK hP 0 rfl rfl 2 (by decide) (htb _ tw119) (fun _ h9 => h9) rfl d_LogFs_find_5 ?_
    refine lv_iload_n hx hb d_LogFs_find_8 rfl (lv_at hl 1 rfl) ?_
    refine lv_lload_n hx hb d_LogFs_find_9 rfl (lv_at hl 2 rfl) ?_
    obtain ⟨x2, e2, hJ⟩ := j_bind hJ
    refine va_calli (va_runV (As := [.int a1, .long a2]) (rest := []) ⟨hx, hb, hml, hown, htb⟩ (c_Volume_placeOf (l := l) (dC := dC) (dI := dI) hDa e2) (xcV 2 htb tw273 tw5 tw443 tw271 tw272 rfl rfl hd_Volume_placeOf ⟨Nat.le_of_ble_eq_true rfl, Nat.le_of_ble_eq_true rfl⟩) (kW_V hP hK (va_recv (q0 := 3) (ci := 3) hK hP rfl rfl)) rfl rfl hl.1 rfl (lv_room (Nat.le_of_ble_eq_true rfl)) d_LogFs_find_10 ⟨Nat.le_of_ble_eq_true rfl, Nat.le_of_ble_eq_true rfl⟩) hS (fun q _ h => h) (fun q h => h) (fun r0 u t H locs ht hvm hw hB _ _ hS => ?_)
    subst r0
    have hP := kW_P hB ht
    refine lv_istore hx hb d_LogFs_find_13 hl (Nat.le_of_ble_eq_true rfl) rfl (fun ls hl => ?_)
    have hl : lv_has ls 5 [(4, .int x2), (0, .ref (ga 0)), (1, .int a1), (2, .long a2)] := hl
    refine lv_iload hx hb d_LogFs_find_15 (lv_at hl 0 rfl) ?_
    refine lv_iconst (v := ((-1) : Int32)) hx hb d_LogFs_find_17 (by decide) ?_
    refine lv_icmp_ne (tgt := 25) hx hb d_LogFs_find_18 (by decide) (fun h3 => ?_) (fun h3 => ?_)
    · have hJ := j_f hJ h3
      refine lv_aload_n hx hb d_LogFs_find_25 rfl (lv_at hl 1 rfl) ?_
      refine va_get (D := (dC, dI)) (ci := 4) (v := .ref (ga 3)) (C := R_LogFs) (T := T_LogFs) (N := 4) hx hb htb uin_LogFs hown hK hP 0 rfl rfl 2 (by decide) (htb _ tw119) (fun _ h9 => h9) rfl d_LogFs_find_26 ?_
      refine lv_iload_n hx hb d_LogFs_find_29 rfl (lv_at hl 2 rfl) ?_
      refine lv_iload hx hb d_LogFs_find_30 (lv_at hl 0 rfl) ?_
      obtain ⟨x4, e4, hJ⟩ := j_bind hJ
      refine va_calli (va_runV (As := [.int a1, .int x2]) (rest := []) ⟨hx, hb, hml, hown, htb⟩ (c_Volume_inodeAt (l := l) (dC := dC) (dI := dI) hDa e4) (xcV 2 htb tw447 tw5 tw444 tw445 tw446 rfl rfl hd_Volume_inodeAt ⟨Nat.le_of_ble_eq_true rfl, Nat.le_of_ble_eq_true rfl⟩) (kW_V hP hK (va_recv (q0 := 3) (ci := 3) hK hP rfl rfl)) rfl rfl hl.1 rfl (lv_room (Nat.le_of_ble_eq_true rfl)) d_LogFs_find_32 ⟨Nat.le_of_ble_eq_true rfl, Nat.le_of_ble_eq_true rfl⟩) hS (fun q _ h => h) (fun q h => h) (fun r0 u t H locs ht hvm hw hB _ _ hS => ?_)
      subst r0
      have hP := kW_P hB ht
      have hJ := Option.some.inj hJ
      subst hJ
      exact x_ret (W.iret (v := x4) hx hb hr (fun t ht hW => ⟨⟨rfl, kW_end hP hK ht hW rfl⟩, hS.F ht⟩) hS.2.2 d_LogFs_find_35)
    · have hJ := j_t hJ h3
      refine lv_iconst (v := ((-1) : Int32)) hx hb d_LogFs_find_21 (by decide) ?_
      refine lv_goto (tgt := 35) hx hb d_LogFs_find_22 (by decide) ?_
      have hJ := Option.some.inj hJ
      subst hJ
      exact x_ret (W.iret (v := ((-1) : Int32)) hx hb hr (fun t ht hW => ⟨⟨rfl, kW_end hP hK ht hW rfl⟩, hS.F ht⟩) hS.2.2 d_LogFs_find_35)
  · have hJ := j_f hJ hk
    have hP := kW_P hB ht
    have hJ := Option.some.inj hJ
    subst hJ
    exact x_out (fun x h => (hno x h).elim) hlocks hk hq hv hc (fun t ht hW => kW_end hP hK ht hW rfl) hS (Nat.le_of_eq (Nat.zero_add _)) (Nat.le_of_eq (Nat.zero_add _))
def J_LogFs_read_20 (σ : CS)  : Option (Nat × Int32) :=
  some (3, (0 : Int32))
def J_LogFs_read (σ : CS) (a1 : Int32) (a2 : Int32) : Option (Nat × Int32) :=
  (J_LogFs_requirePower σ).bind fun x1 => (if x1 = 0 then (if a2 < (0 : Int32) then J_LogFs_read_20 σ else (J_Volume_size σ a1).bind fun x3 => (if a2 < x3 then (J_Volume_contentByte σ a1 a2).bind fun x5 => some (0, x5) else J_LogFs_read_20 σ)) else some (x1, (0 : Int32)))
abbrev rm_LogFs_read : Room := { frames := 7, cells := 1, slots := 6, locals := 110 }
set_option maxHeartbeats 4000000 in
set_option maxRecDepth 100000 in
theorem c_LogFs_read {l : Launch} (hl0 : l.stackTraces = false) {dC : Nat → ClassId} {dI : Nat → Nat → Nat} {ga : Nat → Nat} {cB cI : ClassId} {A : Nat → Prop} {sx : Nat → Nat} (hDa : ∀ σ, va_D A (wC ga cB cI σ)) {σ : CS} {a1 : Int32} {a2 : Int32} {res : Nat × Int32} (hJ : J_LogFs_read σ a1 a2 = some res) :
    xMet l y_LogFs_read (mw y_LogFs_read b_LogFs_read 3 (some .int)) rm_LogFs_read (va_Pc [.ref (ga 0), .int a1, .int a2] (fun U => kW (dC, dI) (tC cB cI) (wC ga cB cI σ) U ∧ kX A sx U)) res.1 (some (.int res.2)) (fun t => kW (dC, dI) (tC cB cI) (wC ga cB cI σ) t) A (xc res.1) (xs res.1) := by
  refine x_ofW (cc := b_LogFs_read) (maxL := 3) (ret := (some .int)) (by decide) rfl ?_
  intro p e s m args below meth c s₁ B hml hno hv
  obtain ⟨rfl, ⟨hP, hK⟩, hX⟩ := hv
  have hx := B.exec
  have hb := B.bytes
  have hr := B.returns
  have hts := atoms_spec (ws := (mw y_LogFs_read b_LogFs_read 3 (some .int))) B.pre
  have htb : ∀ w ∈ tb, w.before [.ref (ga 0), .int a1, .int a2].toArray s = true := fun w h => hts w (mwIn h)
  have hown : s.vm.findClass "LogFs" = some m.cls := findClass_of_methodNamed B.named
  have hlocks := B.notSynchronized
  have hS : va_S A s.heap s.heap [] := va_S.rf
  have hl := lv_entry ([.ref (ga 0), .int a1, .int a2]) (n := 3) (Nat.le_of_ble_eq_true rfl)
  rw [lg_entry_eq]
  generalize (lg_sl ([.ref (ga 0), .int a1, .int a2]) ++ List.replicate (3 - (lg_sl ([.ref (ga 0), .int a1, .int a2])).length) Slot.unset).toArray = ls at hl ⊢
  have hl : lv_has ls 3 [(0, .ref (ga 0)), (1, .int a1), (2, .int a2)] := hl
  have blk20 : ∀ (ls : Array Slot) (H : Heap) (locs : List Loc), J_LogFs_read_20 σ = some res → lv_has ls 3 [] → va_P (dC, dI) cls (wC ga cB cI σ) H → va_S A s.heap H locs → W p l e (headSpec (mw y_LogFs_read b_LogFs_read 3 (some .int)) rm_LogFs_read).room s m [.ref (ga 0), .int a1, .int a2].toArray below meth c H locs 0 0 (xMQ below res.1 (some (.int res.2)) (fun t => kW (dC, dI) (tC cB cI) (wC ga cB cI σ) t) A s (xc res.1) (xs res.1)) (F0 m 20 ls []) := by
    intro ls H locs hJ hl hP hS
    unfold J_LogFs_read_20 at hJ
    have hJ := Option.some.inj hJ
    subst hJ
    exact x_throw (k := 3) (names := ["java/lang/RuntimeException", "java/lang/Exception"]) hx hb hl0 hown (by decide +kernel) (by decide +kernel) (by decide) (xo_at htb xo_3) hX.2.2.2.2.2.1 hX.1 hX.2.1 hS (hl.1.trans hml.symm) d_LogFs_read_20 d_LogFs_read_23 d_LogFs_read_24 d_LogFs_read_26 d_LogFs_read_29 (fun x h => (hno x h).elim) (Nat.le_of_ble_eq_true rfl) (Nat.le_of_ble_eq_true rfl) (Nat.le_of_ble_eq_true rfl) (Nat.le_of_ble_eq_true rfl) hlocks (fun t hW h1 h2 => kW_new hP hK hW h2) (Nat.le_of_ble_eq_true rfl) (Nat.le_of_ble_eq_true rfl)
  unfold J_LogFs_read at hJ
  refine lv_aload_n hx hb d_LogFs_read_0 rfl (lv_at hl 0 rfl) ?_
  obtain ⟨x1, e1, hJ⟩ := j_bind hJ
  refine x_call (xb_runV (As := []) (rest := []) ⟨hx, hb, hml, hown, htb⟩ (c_LogFs_requirePower (l := l) hl0 (dC := dC) (dI := dI) (sx := sx) hDa e1) (xcV 0 htb tw184 tw1 tw181 tw183 ts_LogFs_requirePower rfl rfl hd_LogFs_requirePower ⟨Nat.le_of_ble_eq_true rfl, Nat.le_of_ble_eq_true rfl⟩) (kX_V hP hK hX hS (va_recv (q0 := 0) (ci := 4) hK hP rfl rfl)) rfl rfl hl.1 rfl (lv_room (Nat.le_of_ble_eq_true rfl)) d_LogFs_read_1 ⟨Nat.le_of_ble_eq_true rfl, Nat.le_of_ble_eq_true rfl⟩) hS (fun hk t H locs ht hW hB _ hS => ?_) (fun hk q ce t H locs ht hW hB _ hS hq hv hc => ?_)
  · have hJ := j_t hJ hk
    have hP := kW_P hB ht
    refine W.cs (cells' := 0) (slots' := 0) (xc_0 hk) (xs_0 hk) ?_
    refine W.eq (g2 := F0 m 4 ls []) rfl ?_
    refine lv_iload_n hx hb d_LogFs_read_4 rfl (lv_at hl 2 rfl) ?_
    refine lv_if_lt (tgt := 20) hx hb d_LogFs_read_5 (by decide) (fun h2 => ?_) (fun h2 => ?_)
    · have hJ := j_t hJ h2
      exact blk20 _ _ _ hJ (lv_sub hl [] rfl) hP hS
    · have hJ := j_f hJ h2
      refine lv_iload_n hx hb d_LogFs_read_8 rfl (lv_at hl 2 rfl) ?_
      refine lv_aload_n hx hb d_LogFs_read_9 rfl (lv_at hl 0 rfl) ?_
      refine va_get (D := (dC, dI)) (ci := 4) (v := .ref (ga 3)) (C := R_LogFs) (T := T_LogFs) (N := 4) hx hb htb uin_LogFs hown hK hP 0 rfl rfl 2 (by decide) (htb _ tw119) (fun _ h9 => h9) rfl d_LogFs_read_10 ?_
      refine lv_iload_n hx hb d_LogFs_read_13 rfl (lv_at hl 1 rfl) ?_
      obtain ⟨x3, e3, hJ⟩ := j_bind hJ
      refine va_calli (va_runV (As := [.int a1]) (rest := [.int a2]) ⟨hx, hb, hml, hown, htb⟩ (c_Volume_size (l := l) (dC := dC) (dI := dI) hDa e3) (xcV 1 htb tw277 tw5 tw476 tw275 tw276 rfl rfl hd_Volume_size ⟨Nat.le_of_ble_eq_true rfl, Nat.le_of_ble_eq_true rfl⟩) (kW_V hP hK (va_recv (q0 := 3) (ci := 3) hK hP rfl rfl)) rfl rfl hl.1 rfl (lv_room (Nat.le_of_ble_eq_true rfl)) d_LogFs_read_14 ⟨Nat.le_of_ble_eq_true rfl, Nat.le_of_ble_eq_true rfl⟩) hS (fun q _ h => h) (fun q h => h) (fun r0 u t H locs ht hvm hw hB _ _ hS => ?_)
      subst r0
      have hP := kW_P hB ht
      refine lv_icmp_lt (tgt := 30) hx hb d_LogFs_read_17 (by decide) (fun h4 => ?_) (fun h4 => ?_)
      · have hJ := j_t hJ h4
        refine lv_aload_n hx hb d_LogFs_read_30 rfl (lv_at hl 0 rfl) ?_
        refine va_get (D := (dC, dI)) (ci := 4) (v := .ref (ga 3)) (C := R_LogFs) (T := T_LogFs) (N := 4) hx hb htb uin_LogFs hown hK hP 0 rfl rfl 2 (by decide) (htb _ tw119) (fun _ h9 => h9) rfl d_LogFs_read_31 ?_
        refine lv_iload_n hx hb d_LogFs_read_34 rfl (lv_at hl 1 rfl) ?_
        refine lv_iload_n hx hb d_LogFs_read_35 rfl (lv_at hl 2 rfl) ?_
        obtain ⟨x5, e5, hJ⟩ := j_bind hJ
        refine va_calli (va_runV (As := [.int a1, .int a2]) (rest := []) ⟨hx, hb, hml, hown, htb⟩ (c_Volume_contentByte (l := l) (dC := dC) (dI := dI) hDa e5) (xcV 2 htb tw549 tw5 tw546 tw547 tw548 rfl rfl hd_Volume_contentByte ⟨Nat.le_of_ble_eq_true rfl, Nat.le_of_ble_eq_true rfl⟩) (kW_V hP hK (va_recv (q0 := 3) (ci := 3) hK hP rfl rfl)) rfl rfl hl.1 rfl (lv_room (Nat.le_of_ble_eq_true rfl)) d_LogFs_read_36 ⟨Nat.le_of_ble_eq_true rfl, Nat.le_of_ble_eq_true rfl⟩) hS (fun q _ h => h) (fun q h => h) (fun r0 u t H locs ht hvm hw hB _ _ hS => ?_)
        subst r0
        have hP := kW_P hB ht
        have hJ := Option.some.inj hJ
        subst hJ
        exact x_ret (W.iret (v := x5) hx hb hr (fun t ht hW => ⟨⟨rfl, kW_end hP hK ht hW rfl⟩, hS.F ht⟩) hS.2.2 d_LogFs_read_39)
      · have hJ := j_f hJ h4
        exact blk20 _ _ _ hJ (lv_sub hl [] rfl) hP hS
  · have hJ := j_f hJ hk
    have hP := kW_P hB ht
    have hJ := Option.some.inj hJ
    subst hJ
    exact x_out (fun x h => (hno x h).elim) hlocks hk hq hv hc (fun t ht hW => kW_end hP hK ht hW rfl) hS (Nat.le_of_eq (Nat.zero_add _)) (Nat.le_of_eq (Nat.zero_add _))
def J_LogFs_look (σ : CS) (a1 : Int32) (a2 : Int32) : Option (Nat × Int32) :=
  (J_LogFs_requirePower σ).bind fun x1 => (if x1 = 0 then (J_LogFs_isInode a1).bind fun x2 => (if x2 = (0 : Int32) then some (3, (0 : Int32)) else (if a2 = (0 : Int32) then (J_Volume_type σ a1).bind fun x5 => some (0, x5) else (if a2 = (1 : Int32) then (J_Volume_links σ a1).bind fun x7 => some (0, x7) else (if a2 = (2 : Int32) then (J_Volume_size σ a1).bind fun x9 => some (0, x9) else (if a2 = (3 : Int32) then (J_Volume_size σ a1).bind fun x11 => (J_LogFs_blocksFor x11).bind fun x12 => some (0, x12) else (if a2 = (4 : Int32) then (J_Volume_entries σ a1).bind fun x14 => some (0, x14) else some (3, (0 : Int32)))))))) else some (x1, (0 : Int32)))
abbrev rm_LogFs_look : Room := { frames := 7, cells := 1, slots := 6, locals := 117 }
set_option maxHeartbeats 4000000 in
set_option maxRecDepth 100000 in
theorem c_LogFs_look {l : Launch} (hl0 : l.stackTraces = false) {dC : Nat → ClassId} {dI : Nat → Nat → Nat} {ga : Nat → Nat} {cB cI : ClassId} {A : Nat → Prop} {sx : Nat → Nat} (hDa : ∀ σ, va_D A (wC ga cB cI σ)) {σ : CS} {a1 : Int32} {a2 : Int32} {res : Nat × Int32} (hJ : J_LogFs_look σ a1 a2 = some res) :
    xMet l y_LogFs_look (mw y_LogFs_look b_LogFs_look 3 (some .int)) rm_LogFs_look (va_Pc [.ref (ga 0), .int a1, .int a2] (fun U => kW (dC, dI) (tC cB cI) (wC ga cB cI σ) U ∧ kX A sx U)) res.1 (some (.int res.2)) (fun t => kW (dC, dI) (tC cB cI) (wC ga cB cI σ) t) A (xc res.1) (xs res.1) := by
  refine x_ofW (cc := b_LogFs_look) (maxL := 3) (ret := (some .int)) (by decide) rfl ?_
  intro p e s m args below meth c s₁ B hml hno hv
  obtain ⟨rfl, ⟨hP, hK⟩, hX⟩ := hv
  have hx := B.exec
  have hb := B.bytes
  have hr := B.returns
  have hts := atoms_spec (ws := (mw y_LogFs_look b_LogFs_look 3 (some .int))) B.pre
  have htb : ∀ w ∈ tb, w.before [.ref (ga 0), .int a1, .int a2].toArray s = true := fun w h => hts w (mwIn h)
  have hown : s.vm.findClass "LogFs" = some m.cls := findClass_of_methodNamed B.named
  have hlocks := B.notSynchronized
  have hS : va_S A s.heap s.heap [] := va_S.rf
  have hl := lv_entry ([.ref (ga 0), .int a1, .int a2]) (n := 3) (Nat.le_of_ble_eq_true rfl)
  rw [lg_entry_eq]
  generalize (lg_sl ([.ref (ga 0), .int a1, .int a2]) ++ List.replicate (3 - (lg_sl ([.ref (ga 0), .int a1, .int a2])).length) Slot.unset).toArray = ls at hl ⊢
  have hl : lv_has ls 3 [(0, .ref (ga 0)), (1, .int a1), (2, .int a2)] := hl
  unfold J_LogFs_look at hJ
  refine lv_aload_n hx hb d_LogFs_look_0 rfl (lv_at hl 0 rfl) ?_
  obtain ⟨x1, e1, hJ⟩ := j_bind hJ
  refine x_call (xb_runV (As := []) (rest := []) ⟨hx, hb, hml, hown, htb⟩ (c_LogFs_requirePower (l := l) hl0 (dC := dC) (dI := dI) (sx := sx) hDa e1) (xcV 0 htb tw184 tw1 tw181 tw183 ts_LogFs_requirePower rfl rfl hd_LogFs_requirePower ⟨Nat.le_of_ble_eq_true rfl, Nat.le_of_ble_eq_true rfl⟩) (kX_V hP hK hX hS (va_recv (q0 := 0) (ci := 4) hK hP rfl rfl)) rfl rfl hl.1 rfl (lv_room (Nat.le_of_ble_eq_true rfl)) d_LogFs_look_1 ⟨Nat.le_of_ble_eq_true rfl, Nat.le_of_ble_eq_true rfl⟩) hS (fun hk t H locs ht hW hB _ hS => ?_) (fun hk q ce t H locs ht hW hB _ hS hq hv hc => ?_)
  · have hJ := j_t hJ hk
    have hP := kW_P hB ht
    refine W.cs (cells' := 0) (slots' := 0) (xc_0 hk) (xs_0 hk) ?_
    refine W.eq (g2 := F0 m 4 ls []) rfl ?_
    refine lv_iload_n hx hb d_LogFs_look_4 rfl (lv_at hl 1 rfl) ?_
    obtain ⟨x2, e2, hJ⟩ := j_bind hJ
    refine va_calli (va_runS (As := [.int a1]) (rest := []) ⟨hx, hb, hml, hown, htb⟩ (c_LogFs_isInode (l := l) (dC := dC) (dI := dI) (σ := σ) hDa e2) (xcS 1 htb tw167 tw1 tw557 tw166 rfl rfl hd_LogFs_isInode ⟨Nat.le_of_ble_eq_true rfl, Nat.le_of_ble_eq_true rfl⟩) (kW_S hP hK) rfl rfl hl.1 rfl (lv_room (Nat.le_of_ble_eq_true rfl)) d_LogFs_look_5 ⟨Nat.le_of_ble_eq_true rfl, Nat.le_of_ble_eq_true rfl⟩) hS (fun q _ h => h) (fun q h => h) (fun r0 u t H locs ht hvm hw hB _ _ hS => ?_)
    subst r0
    have hP := kW_P hB ht
    refine lv_if_ne (tgt := 21) hx hb d_LogFs_look_8 (by decide) (fun h3 => ?_) (fun h3 => ?_)
    · have hJ := j_f hJ h3
      refine lv_iload_n hx hb d_LogFs_look_21 rfl (lv_at hl 2 rfl) ?_
      by_cases h4 : a2 = (0 : Int32)
      · have hJ := j_t hJ h4
        refine lv_tableIn (tgt := 56) (off := 34) hx hb d_LogFs_look_22 (by rw [h4]; decide) (by rw [h4]; decide) (by rw [h4]; rfl) (by decide) ?_
        refine lv_aload_n hx hb d_LogFs_look_56 rfl (lv_at hl 0 rfl) ?_
        refine va_get (D := (dC, dI)) (ci := 4) (v := .ref (ga 3)) (C := R_LogFs) (T := T_LogFs) (N := 4) hx hb htb uin_LogFs hown hK hP 0 rfl rfl 2 (by decide) (htb _ tw119) (fun _ h9 => h9) rfl d_LogFs_look_57 ?_
        refine lv_iload_n hx hb d_LogFs_look_60 rfl (lv_at hl 1 rfl) ?_
        obtain ⟨x5, e5, hJ⟩ := j_bind hJ
        refine va_calli (va_runV (As := [.int a1]) (rest := []) ⟨hx, hb, hml, hown, htb⟩ (c_Volume_type (l := l) (dC := dC) (dI := dI) hDa e5) (xcV 1 htb tw160 tw5 tw559 tw158 tw159 rfl rfl hd_Volume_type ⟨Nat.le_of_ble_eq_true rfl, Nat.le_of_ble_eq_true rfl⟩) (kW_V hP hK (va_recv (q0 := 3) (ci := 3) hK hP rfl rfl)) rfl rfl hl.1 rfl (lv_room (Nat.le_of_ble_eq_true rfl)) d_LogFs_look_61 ⟨Nat.le_of_ble_eq_true rfl, Nat.le_of_ble_eq_true rfl⟩) hS (fun q _ h => h) (fun q h => h) (fun r0 u t H locs ht hvm hw hB _ _ hS => ?_)
        subst r0
        have hP := kW_P hB ht
        have hJ := Option.some.inj hJ
        subst hJ
        exact x_ret (W.iret (v := x5) hx hb hr (fun t ht hW => ⟨⟨rfl, kW_end hP hK ht hW rfl⟩, hS.F ht⟩) hS.2.2 d_LogFs_look_64)
      · have hJ := j_f hJ h4
        by_cases h6 : a2 = (1 : Int32)
        · have hJ := j_t hJ h6
          refine lv_tableIn (tgt := 65) (off := 43) hx hb d_LogFs_look_22 (by rw [h6]; decide) (by rw [h6]; decide) (by rw [h6]; rfl) (by decide) ?_
          refine lv_aload_n hx hb d_LogFs_look_65 rfl (lv_at hl 0 rfl) ?_
          refine va_get (D := (dC, dI)) (ci := 4) (v := .ref (ga 3)) (C := R_LogFs) (T := T_LogFs) (N := 4) hx hb htb uin_LogFs hown hK hP 0 rfl rfl 2 (by decide) (htb _ tw119) (fun _ h9 => h9) rfl d_LogFs_look_66 ?_
          refine lv_iload_n hx hb d_LogFs_look_69 rfl (lv_at hl 1 rfl) ?_
          obtain ⟨x7, e7, hJ⟩ := j_bind hJ
          refine va_calli (va_runV (As := [.int a1]) (rest := []) ⟨hx, hb, hml, hown, htb⟩ (c_Volume_links (l := l) (dC := dC) (dI := dI) hDa e7) (xcV 1 htb tw430 tw5 tw427 tw428 tw429 rfl rfl hd_Volume_links ⟨Nat.le_of_ble_eq_true rfl, Nat.le_of_ble_eq_true rfl⟩) (kW_V hP hK (va_recv (q0 := 3) (ci := 3) hK hP rfl rfl)) rfl rfl hl.1 rfl (lv_room (Nat.le_of_ble_eq_true rfl)) d_LogFs_look_70 ⟨Nat.le_of_ble_eq_true rfl, Nat.le_of_ble_eq_true rfl⟩) hS (fun q _ h => h) (fun q h => h) (fun r0 u t H locs ht hvm hw hB _ _ hS => ?_)
          subst r0
          have hP := kW_P hB ht
          have hJ := Option.some.inj hJ
          subst hJ
          exact x_ret (W.iret (v := x7) hx hb hr (fun t ht hW => ⟨⟨rfl, kW_end hP hK ht hW rfl⟩, hS.F ht⟩) hS.2.2 d_LogFs_look_73)
        · have hJ := j_f hJ h6
          by_cases h8 : a2 = (2 : Int32)
          · have hJ := j_t hJ h8
            refine lv_tableIn (tgt := 74) (off := 52) hx hb d_LogFs_look_22 (by rw [h8]; decide) (by rw [h8]; decide) (by rw [h8]; rfl) (by decide) ?_
            refine lv_aload_n hx hb d_LogFs_look_74 rfl (lv_at hl 0 rfl) ?_
            refine va_get (D := (dC, dI)) (ci := 4) (v := .ref (ga 3)) (C := R_LogFs) (T := T_LogFs) (N := 4) hx hb htb uin_LogFs hown hK hP 0 rfl rfl 2 (by decide) (htb _ tw119) (fun _ h9 => h9) rfl d_LogFs_look_75 ?_
            refine lv_iload_n hx hb d_LogFs_look_78 rfl (lv_at hl 1 rfl) ?_
            obtain ⟨x9, e9, hJ⟩ := j_bind hJ
            refine va_calli (va_runV (As := [.int a1]) (rest := []) ⟨hx, hb, hml, hown, htb⟩ (c_Volume_size (l := l) (dC := dC) (dI := dI) hDa e9) (xcV 1 htb tw277 tw5 tw476 tw275 tw276 rfl rfl hd_Volume_size ⟨Nat.le_of_ble_eq_true rfl, Nat.le_of_ble_eq_true rfl⟩) (kW_V hP hK (va_recv (q0 := 3) (ci := 3) hK hP rfl rfl)) rfl rfl hl.1 rfl (lv_room (Nat.le_of_ble_eq_true rfl)) d_LogFs_look_79 ⟨Nat.le_of_ble_eq_true rfl, Nat.le_of_ble_eq_true rfl⟩) hS (fun q _ h => h) (fun q h => h) (fun r0 u t H locs ht hvm hw hB _ _ hS => ?_)
            subst r0
            have hP := kW_P hB ht
            have hJ := Option.some.inj hJ
            subst hJ
            exact x_ret (W.iret (v := x9) hx hb hr (fun t ht hW => ⟨⟨rfl, kW_end hP hK ht hW rfl⟩, hS.F ht⟩) hS.2.2 d_LogFs_look_82)
          · have hJ := j_f hJ h8
            by_cases h10 : a2 = (3 : Int32)
            · have hJ := j_t hJ h10
              refine lv_tableIn (tgt := 83) (off := 61) hx hb d_LogFs_look_22 (by rw [h10]; decide) (by rw [h10]; decide) (by rw [h10]; rfl) (by decide) ?_
              refine lv_aload_n hx hb d_LogFs_look_83 rfl (lv_at hl 0 rfl) ?_
              refine va_get (D := (dC, dI)) (ci := 4) (v := .ref (ga 3)) (C := R_LogFs) (T := T_LogFs) (N := 4) hx hb htb uin_LogFs hown hK hP 0 rfl rfl 2 (by decide) (htb _ tw119) (fun _ h9 => h9) rfl d_LogFs_look_84 ?_
              refine lv_iload_n hx hb d_LogFs_look_87 rfl (lv_at hl 1 rfl) ?_
              obtain ⟨x11, e11, hJ⟩ := j_bind hJ
              refine va_calli (va_runV (As := [.int a1]) (rest := []) ⟨hx, hb, hml, hown, htb⟩ (c_Volume_size (l := l) (dC := dC) (dI := dI) hDa e11) (xcV 1 htb tw277 tw5 tw476 tw275 tw276 rfl rfl hd_Volume_size ⟨Nat.le_of_ble_eq_true rfl, Nat.le_of_ble_eq_true rfl⟩) (kW_V hP hK (va_recv (q0 := 3) (ci := 3) hK hP rfl rfl)) rfl rfl hl.1 rfl (lv_room (Nat.le_of_ble_eq_true rfl)) d_LogFs_look_88 ⟨Nat.le_of_ble_eq_true rfl, Nat.le_of_ble_eq_true rfl⟩) hS (fun q _ h => h) (fun q h => h) (fun r0 u t H locs ht hvm hw hB _ _ hS => ?_)
              subst r0
              have hP := kW_P hB ht
              obtain ⟨x12, e12, hJ⟩ := j_bind hJ
              refine va_calli (va_runS (As := [.int x11]) (rest := []) ⟨hx, hb, hml, hown, htb⟩ (c_LogFs_blocksFor (l := l) (dC := dC) (dI := dI) (σ := σ) hDa e12) (xcS 1 htb tw300 tw1 tw560 tw299 rfl rfl hd_LogFs_blocksFor ⟨Nat.le_of_ble_eq_true rfl, Nat.le_of_ble_eq_true rfl⟩) (kW_S hP hK) rfl rfl hl.1 rfl (lv_room (Nat.le_of_ble_eq_true rfl)) d_LogFs_look_91 ⟨Nat.le_of_ble_eq_true rfl, Nat.le_of_ble_eq_true rfl⟩) hS (fun q _ h => h) (fun q h => h) (fun r0 u t H locs ht hvm hw hB _ _ hS => ?_)
              subst r0
              have hP := kW_P hB ht
              have hJ := Option.some.inj hJ
              subst hJ
              exact x_ret (W.iret (v := x12) hx hb hr (fun t ht hW => ⟨⟨rfl, kW_end hP hK ht hW rfl⟩, hS.F ht⟩) hS.2.2 d_LogFs_look_94)
            · have hJ := j_f hJ h10
              by_cases h13 : a2 = (4 : Int32)
              · have hJ := j_t hJ h13
                refine lv_tableIn (tgt := 95) (off := 73) hx hb d_LogFs_look_22 (by rw [h13]; decide) (by rw [h13]; decide) (by rw [h13]; rfl) (by decide) ?_
                refine lv_aload_n hx hb d_LogFs_look_95 rfl (lv_at hl 0 rfl) ?_
                refine va_get (D := (dC, dI)) (ci := 4) (v := .ref (ga 3)) (C := R_LogFs) (T := T_LogFs) (N := 4) hx hb htb uin_LogFs hown hK hP 0 rfl rfl 2 (by decide) (htb _ tw119) (fun _ h9 => h9) rfl d_LogFs_look_96 ?_
                refine lv_iload_n hx hb d_LogFs_look_99 rfl (lv_at hl 1 rfl) ?_
                obtain ⟨x14, e14, hJ⟩ := j_bind hJ
                refine va_calli (va_runV (As := [.int a1]) (rest := []) ⟨hx, hb, hml, hown, htb⟩ (c_Volume_entries (l := l) (dC := dC) (dI := dI) hDa e14) (xcV 1 htb tw451 tw5 tw448 tw449 tw450 rfl rfl hd_Volume_entries ⟨Nat.le_of_ble_eq_true rfl, Nat.le_of_ble_eq_true rfl⟩) (kW_V hP hK (va_recv (q0 := 3) (ci := 3) hK hP rfl rfl)) rfl rfl hl.1 rfl (lv_room (Nat.le_of_ble_eq_true rfl)) d_LogFs_look_100 ⟨Nat.le_of_ble_eq_true rfl, Nat.le_of_ble_eq_true rfl⟩) hS (fun q _ h => h) (fun q h => h) (fun r0 u t H locs ht hvm hw hB _ _ hS => ?_)
                subst r0
                have hP := kW_P hB ht
                have hJ := Option.some.inj hJ
                subst hJ
                exact x_ret (W.iret (v := x14) hx hb hr (fun t ht hW => ⟨⟨rfl, kW_end hP hK ht hW rfl⟩, hS.F ht⟩) hS.2.2 d_LogFs_look_103)
              · have hJ := j_f hJ h13
                refine lv_tableOut (tgt := 104) hx hb d_LogFs_look_22 (by have := lv_neT h4 (show ((0 : Int32) : Int32).toInt = 0 by decide); have := lv_neT h6 (show ((1 : Int32) : Int32).toInt = 1 by decide); have := lv_neT h8 (show ((2 : Int32) : Int32).toInt = 2 by decide); have := lv_neT h10 (show ((3 : Int32) : Int32).toInt = 3 by decide); have := lv_neT h13 (show ((4 : Int32) : Int32).toInt = 4 by decide); omega) (by decide) ?_
                have hJ := Option.some.inj hJ
                subst hJ
                exact x_throw (k := 3) (names := ["java/lang/RuntimeException", "java/lang/Exception"]) hx hb hl0 hown (by decide +kernel) (by decide +kernel) (by decide) (xo_at htb xo_3) hX.2.2.2.2.2.2.2.1 hX.1 hX.2.1 hS (hl.1.trans hml.symm) d_LogFs_look_104 d_LogFs_look_107 d_LogFs_look_108 d_LogFs_look_110 d_LogFs_look_113 (fun x h => (hno x h).elim) (Nat.le_of_ble_eq_true rfl) (Nat.le_of_ble_eq_true rfl) (Nat.le_of_ble_eq_true rfl) (Nat.le_of_ble_eq_true rfl) hlocks (fun t hW h1 h2 => kW_new hP hK hW h2) (Nat.le_of_ble_eq_true rfl) (Nat.le_of_ble_eq_true rfl)
    · have hJ := j_t hJ h3
      have hJ := Option.some.inj hJ
      subst hJ
      exact x_throw (k := 3) (names := ["java/lang/RuntimeException", "java/lang/Exception"]) hx hb hl0 hown (by decide +kernel) (by decide +kernel) (by decide) (xo_at htb xo_3) hX.2.2.2.2.2.2.1 hX.1 hX.2.1 hS (hl.1.trans hml.symm) d_LogFs_look_11 d_LogFs_look_14 d_LogFs_look_15 d_LogFs_look_17 d_LogFs_look_20 (fun x h => (hno x h).elim) (Nat.le_of_ble_eq_true rfl) (Nat.le_of_ble_eq_true rfl) (Nat.le_of_ble_eq_true rfl) (Nat.le_of_ble_eq_true rfl) hlocks (fun t hW h1 h2 => kW_new hP hK hW h2) (Nat.le_of_ble_eq_true rfl) (Nat.le_of_ble_eq_true rfl)
  · have hJ := j_f hJ hk
    have hP := kW_P hB ht
    have hJ := Option.some.inj hJ
    subst hJ
    exact x_out (fun x h => (hno x h).elim) hlocks hk hq hv hc (fun t ht hW => kW_end hP hK ht hW rfl) hS (Nat.le_of_eq (Nat.zero_add _)) (Nat.le_of_eq (Nat.zero_add _))
def J_LogFs_disk (σ : CS) (a1 : Int32) (a2 : Int32) : Option (Nat × Int32) :=
  (J_LogFs_requireByte a1 a2).bind fun x1 => (if x1 = 0 then (J_Blocks_get_d σ a1 a2).bind fun x2 => some (0, x2) else some (x1, (0 : Int32)))
abbrev rm_LogFs_disk : Room := { frames := 7, cells := 1, slots := 6, locals := 111 }
set_option maxHeartbeats 4000000 in
set_option maxRecDepth 100000 in
theorem c_LogFs_disk {l : Launch} (hl0 : l.stackTraces = false) {dC : Nat → ClassId} {dI : Nat → Nat → Nat} {ga : Nat → Nat} {cB cI : ClassId} {A : Nat → Prop} {sx : Nat → Nat} (hDa : ∀ σ, va_D A (wC ga cB cI σ)) {σ : CS} {a1 : Int32} {a2 : Int32} {res : Nat × Int32} (hJ : J_LogFs_disk σ a1 a2 = some res) :
    xMet l y_LogFs_disk (mw y_LogFs_disk b_LogFs_disk 3 (some .int)) rm_LogFs_disk (va_Pc [.ref (ga 0), .int a1, .int a2] (fun U => kW (dC, dI) (tC cB cI) (wC ga cB cI σ) U ∧ kX A sx U)) res.1 (some (.int res.2)) (fun t => kW (dC, dI) (tC cB cI) (wC ga cB cI σ) t) A (xc res.1) (xs res.1) := by
  refine x_ofW (cc := b_LogFs_disk) (maxL := 3) (ret := (some .int)) (by decide) rfl ?_
  intro p e s m args below meth c s₁ B hml hno hv
  obtain ⟨rfl, ⟨hP, hK⟩, hX⟩ := hv
  have hx := B.exec
  have hb := B.bytes
  have hr := B.returns
  have hts := atoms_spec (ws := (mw y_LogFs_disk b_LogFs_disk 3 (some .int))) B.pre
  have htb : ∀ w ∈ tb, w.before [.ref (ga 0), .int a1, .int a2].toArray s = true := fun w h => hts w (mwIn h)
  have hown : s.vm.findClass "LogFs" = some m.cls := findClass_of_methodNamed B.named
  have hlocks := B.notSynchronized
  have hS : va_S A s.heap s.heap [] := va_S.rf
  have hl := lv_entry ([.ref (ga 0), .int a1, .int a2]) (n := 3) (Nat.le_of_ble_eq_true rfl)
  rw [lg_entry_eq]
  generalize (lg_sl ([.ref (ga 0), .int a1, .int a2]) ++ List.replicate (3 - (lg_sl ([.ref (ga 0), .int a1, .int a2])).length) Slot.unset).toArray = ls at hl ⊢
  have hl : lv_has ls 3 [(0, .ref (ga 0)), (1, .int a1), (2, .int a2)] := hl
  unfold J_LogFs_disk at hJ
  refine lv_iload_n hx hb d_LogFs_disk_0 rfl (lv_at hl 1 rfl) ?_
  refine lv_iload_n hx hb d_LogFs_disk_1 rfl (lv_at hl 2 rfl) ?_
  obtain ⟨x1, e1, hJ⟩ := j_bind hJ
  refine x_call (xb_runS (As := [.int a1, .int a2]) (rest := []) ⟨hx, hb, hml, hown, htb⟩ (c_LogFs_requireByte (l := l) hl0 (dC := dC) (dI := dI) (sx := sx) (σ := σ) hDa e1) (xcS 2 htb tw571 tw1 tw569 tw570 rfl rfl hd_LogFs_requireByte ⟨Nat.le_of_ble_eq_true rfl, Nat.le_of_ble_eq_true rfl⟩) (kX_S hP hK hX hS) rfl rfl hl.1 rfl (lv_room (Nat.le_of_ble_eq_true rfl)) d_LogFs_disk_2 ⟨Nat.le_of_ble_eq_true rfl, Nat.le_of_ble_eq_true rfl⟩) hS (fun hk t H locs ht hW hB _ hS => ?_) (fun hk q ce t H locs ht hW hB _ hS hq hv hc => ?_)
  · have hJ := j_t hJ hk
    have hP := kW_P hB ht
    refine W.cs (cells' := 0) (slots' := 0) (xc_0 hk) (xs_0 hk) ?_
    refine W.eq (g2 := F0 m 5 ls []) rfl ?_
    refine lv_aload_n hx hb d_LogFs_disk_5 rfl (lv_at hl 0 rfl) ?_
    refine va_get (D := (dC, dI)) (ci := 4) (v := .ref (ga 1)) (C := R_LogFs) (T := T_LogFs) (N := 4) hx hb htb uin_LogFs hown hK hP 0 rfl rfl 0 (by decide) (htb _ tw117) (fun _ h9 => h9) rfl d_LogFs_disk_6 ?_
    refine va_getN (D := (dC, dI)) (ci := 1) (v := .ref (ga 4)) (C := R_Disk) (T := T_Disk) (N := 4) hx hb htb uin_Disk hown hK hP 1 rfl rfl 0 (by decide) (htb _ tw49) (fun _ h9 => h9) rfl d_LogFs_disk_9 ?_
    refine lv_iload_n hx hb d_LogFs_disk_12 rfl (lv_at hl 1 rfl) ?_
    refine lv_iload_n hx hb d_LogFs_disk_13 rfl (lv_at hl 2 rfl) ?_
    obtain ⟨x2, e2, hJ⟩ := j_bind hJ
    refine va_calli (va_runV (As := [.int a1, .int a2]) (rest := []) ⟨hx, hb, hml, hown, htb⟩ (c_Blocks_get_d (l := l) (dC := dC) (dI := dI) hDa e2) (xcV 2 htb tw47 tw3 tw510 tw45 tw46 rfl rfl hd_Blocks_get ⟨Nat.le_of_ble_eq_true rfl, Nat.le_of_ble_eq_true rfl⟩) (kW_V hP hK (va_recv (q0 := 4) (ci := 0) hK hP rfl rfl)) rfl rfl hl.1 rfl (lv_room (Nat.le_of_ble_eq_true rfl)) d_LogFs_disk_14 ⟨Nat.le_of_ble_eq_true rfl, Nat.le_of_ble_eq_true rfl⟩) hS (fun q _ h => h) (fun q h => h) (fun r0 u t H locs ht hvm hw hB _ _ hS => ?_)
    subst r0
    have hP := kW_P hB ht
    have hJ := Option.some.inj hJ
    subst hJ
    exact x_ret (W.iret (v := x2) hx hb hr (fun t ht hW => ⟨⟨rfl, kW_end hP hK ht hW rfl⟩, hS.F ht⟩) hS.2.2 d_LogFs_disk_17)
  · have hJ := j_f hJ hk
    have hP := kW_P hB ht
    have hJ := Option.some.inj hJ
    subst hJ
    exact x_out (fun x h => (hno x h).elim) hlocks hk hq hv hc (fun t ht hW => kW_end hP hK ht hW rfl) hS (Nat.le_of_eq (Nat.zero_add _)) (Nat.le_of_eq (Nat.zero_add _))
def J_LogFs_memory (σ : CS) (a1 : Int32) (a2 : Int32) : Option (Nat × Int32) :=
  (J_LogFs_requirePower σ).bind fun x1 => (if x1 = 0 then (J_LogFs_requireByte a1 a2).bind fun x2 => (if x2 = 0 then (J_Blocks_get_m σ a1 a2).bind fun x3 => some (0, x3) else some (x2, (0 : Int32))) else some (x1, (0 : Int32)))
abbrev rm_LogFs_memory : Room := { frames := 7, cells := 1, slots := 6, locals := 111 }
set_option maxHeartbeats 4000000 in
set_option maxRecDepth 100000 in
theorem c_LogFs_memory {l : Launch} (hl0 : l.stackTraces = false) {dC : Nat → ClassId} {dI : Nat → Nat → Nat} {ga : Nat → Nat} {cB cI : ClassId} {A : Nat → Prop} {sx : Nat → Nat} (hDa : ∀ σ, va_D A (wC ga cB cI σ)) {σ : CS} {a1 : Int32} {a2 : Int32} {res : Nat × Int32} (hJ : J_LogFs_memory σ a1 a2 = some res) :
    xMet l y_LogFs_memory (mw y_LogFs_memory b_LogFs_memory 3 (some .int)) rm_LogFs_memory (va_Pc [.ref (ga 0), .int a1, .int a2] (fun U => kW (dC, dI) (tC cB cI) (wC ga cB cI σ) U ∧ kX A sx U)) res.1 (some (.int res.2)) (fun t => kW (dC, dI) (tC cB cI) (wC ga cB cI σ) t) A (xc res.1) (xs res.1) := by
  refine x_ofW (cc := b_LogFs_memory) (maxL := 3) (ret := (some .int)) (by decide) rfl ?_
  intro p e s m args below meth c s₁ B hml hno hv
  obtain ⟨rfl, ⟨hP, hK⟩, hX⟩ := hv
  have hx := B.exec
  have hb := B.bytes
  have hr := B.returns
  have hts := atoms_spec (ws := (mw y_LogFs_memory b_LogFs_memory 3 (some .int))) B.pre
  have htb : ∀ w ∈ tb, w.before [.ref (ga 0), .int a1, .int a2].toArray s = true := fun w h => hts w (mwIn h)
  have hown : s.vm.findClass "LogFs" = some m.cls := findClass_of_methodNamed B.named
  have hlocks := B.notSynchronized
  have hS : va_S A s.heap s.heap [] := va_S.rf
  have hl := lv_entry ([.ref (ga 0), .int a1, .int a2]) (n := 3) (Nat.le_of_ble_eq_true rfl)
  rw [lg_entry_eq]
  generalize (lg_sl ([.ref (ga 0), .int a1, .int a2]) ++ List.replicate (3 - (lg_sl ([.ref (ga 0), .int a1, .int a2])).length) Slot.unset).toArray = ls at hl ⊢
  have hl : lv_has ls 3 [(0, .ref (ga 0)), (1, .int a1), (2, .int a2)] := hl
  unfold J_LogFs_memory at hJ
  refine lv_aload_n hx hb d_LogFs_memory_0 rfl (lv_at hl 0 rfl) ?_
  obtain ⟨x1, e1, hJ⟩ := j_bind hJ
  refine x_call (xb_runV (As := []) (rest := []) ⟨hx, hb, hml, hown, htb⟩ (c_LogFs_requirePower (l := l) hl0 (dC := dC) (dI := dI) (sx := sx) hDa e1) (xcV 0 htb tw184 tw1 tw181 tw183 ts_LogFs_requirePower rfl rfl hd_LogFs_requirePower ⟨Nat.le_of_ble_eq_true rfl, Nat.le_of_ble_eq_true rfl⟩) (kX_V hP hK hX hS (va_recv (q0 := 0) (ci := 4) hK hP rfl rfl)) rfl rfl hl.1 rfl (lv_room (Nat.le_of_ble_eq_true rfl)) d_LogFs_memory_1 ⟨Nat.le_of_ble_eq_true rfl, Nat.le_of_ble_eq_true rfl⟩) hS (fun hk t H locs ht hW hB _ hS => ?_) (fun hk q ce t H locs ht hW hB _ hS hq hv hc => ?_)
  · have hJ := j_t hJ hk
    have hP := kW_P hB ht
    refine W.cs (cells' := 0) (slots' := 0) (xc_0 hk) (xs_0 hk) ?_
    refine W.eq (g2 := F0 m 4 ls []) rfl ?_
    refine lv_iload_n hx hb d_LogFs_memory_4 rfl (lv_at hl 1 rfl) ?_
    refine lv_iload_n hx hb d_LogFs_memory_5 rfl (lv_at hl 2 rfl) ?_
    obtain ⟨x2, e2, hJ⟩ := j_bind hJ
    refine x_call (xb_runS (As := [.int a1, .int a2]) (rest := []) ⟨hx, hb, hml, hown, htb⟩ (c_LogFs_requireByte (l := l) hl0 (dC := dC) (dI := dI) (sx := sx) (σ := σ) hDa e2) (xcS 2 htb tw571 tw1 tw569 tw570 rfl rfl hd_LogFs_requireByte ⟨Nat.le_of_ble_eq_true rfl, Nat.le_of_ble_eq_true rfl⟩) (kX_S hP hK hX hS) rfl rfl hl.1 rfl (lv_room (Nat.le_of_ble_eq_true rfl)) d_LogFs_memory_6 ⟨Nat.le_of_ble_eq_true rfl, Nat.le_of_ble_eq_true rfl⟩) hS (fun hk t H locs ht hW hB _ hS => ?_) (fun hk q ce t H locs ht hW hB _ hS hq hv hc => ?_)
    · have hJ := j_t hJ hk
      have hP := kW_P hB ht
      refine W.cs (cells' := 0) (slots' := 0) (xc_0 hk) (xs_0 hk) ?_
      refine W.eq (g2 := F0 m 9 ls []) rfl ?_
      refine lv_aload_n hx hb d_LogFs_memory_9 rfl (lv_at hl 0 rfl) ?_
      refine va_get (D := (dC, dI)) (ci := 4) (v := .ref (ga 2)) (C := R_LogFs) (T := T_LogFs) (N := 4) hx hb htb uin_LogFs hown hK hP 0 rfl rfl 1 (by decide) (htb _ tw118) (fun _ h9 => h9) rfl d_LogFs_memory_10 ?_
      refine va_getN (D := (dC, dI)) (ci := 2) (v := .ref (ga 5)) (C := R_Memory) (T := T_Memory) (N := 3) hx hb htb uin_Memory hown hK hP 2 rfl rfl 0 (by decide) (htb _ tw76) (fun _ h9 => h9) rfl d_LogFs_memory_13 ?_
      refine lv_iload_n hx hb d_LogFs_memory_16 rfl (lv_at hl 1 rfl) ?_
      refine lv_iload_n hx hb d_LogFs_memory_17 rfl (lv_at hl 2 rfl) ?_
      obtain ⟨x3, e3, hJ⟩ := j_bind hJ
      refine va_calli (va_runV (As := [.int a1, .int a2]) (rest := []) ⟨hx, hb, hml, hown, htb⟩ (c_Blocks_get_m (l := l) (dC := dC) (dI := dI) hDa e3) (xcV 2 htb tw47 tw3 tw510 tw45 tw46 rfl rfl hd_Blocks_get ⟨Nat.le_of_ble_eq_true rfl, Nat.le_of_ble_eq_true rfl⟩) (kW_V hP hK (va_recv (q0 := 5) (ci := 0) hK hP rfl rfl)) rfl rfl hl.1 rfl (lv_room (Nat.le_of_ble_eq_true rfl)) d_LogFs_memory_18 ⟨Nat.le_of_ble_eq_true rfl, Nat.le_of_ble_eq_true rfl⟩) hS (fun q _ h => h) (fun q h => h) (fun r0 u t H locs ht hvm hw hB _ _ hS => ?_)
      subst r0
      have hP := kW_P hB ht
      have hJ := Option.some.inj hJ
      subst hJ
      exact x_ret (W.iret (v := x3) hx hb hr (fun t ht hW => ⟨⟨rfl, kW_end hP hK ht hW rfl⟩, hS.F ht⟩) hS.2.2 d_LogFs_memory_21)
    · have hJ := j_f hJ hk
      have hP := kW_P hB ht
      have hJ := Option.some.inj hJ
      subst hJ
      exact x_out (fun x h => (hno x h).elim) hlocks hk hq hv hc (fun t ht hW => kW_end hP hK ht hW rfl) hS (Nat.le_of_eq (Nat.zero_add _)) (Nat.le_of_eq (Nat.zero_add _))
  · have hJ := j_f hJ hk
    have hP := kW_P hB ht
    have hJ := Option.some.inj hJ
    subst hJ
    exact x_out (fun x h => (hno x h).elim) hlocks hk hq hv hc (fun t ht hW => kW_end hP hK ht hW rfl) hS (Nat.le_of_eq (Nat.zero_add _)) (Nat.le_of_eq (Nat.zero_add _))
