/-! LogFs: failAfter, count, and what may throw, first part. Written by wip/gen/classes.py. -/
def J_LogFs_failAfter (σ : CS) (a1 : Int32) : Option (Int32 × CS) :=
  (if (0 : Int32) ≤ a1 then some ((1 : Int32), (s_f σ a1)) else some ((0 : Int32), σ))
abbrev rm_LogFs_failAfter : Room := { frames := 0, cells := 0, slots := 0, locals := 0 }
set_option maxHeartbeats 4000000 in
set_option maxRecDepth 100000 in
theorem c_LogFs_failAfter {l : Launch} {dC : Nat → ClassId} {dI : Nat → Nat → Nat} {ga : Nat → Nat} {cB cI : ClassId} {A : Nat → Prop} (hDa : ∀ σ, va_D A (wC ga cB cI σ)) {σ : CS} {a1 : Int32} {res : Int32 × CS} (hJ : J_LogFs_failAfter σ a1 = some res) :
    Met l y_LogFs_failAfter (mw y_LogFs_failAfter b_LogFs_failAfter 2 (some .boolean)) rm_LogFs_failAfter (va_Pc [.ref (ga 0), .int a1] (kW (dC, dI) (tC cB cI) (wC ga cB cI σ))) (va_Qi (fun (x : Int32) (_ : Unit) => x = res.1) (fun _ t => kW (dC, dI) (tC cB cI) (wC ga cB cI res.2) t) A) 0 0 A := by
  refine Met.ofW (cc := b_LogFs_failAfter) (maxL := 2) (ret := (some .boolean)) (by decide) rfl ?_
  intro p e s m args below meth c s₁ B hml hv
  obtain ⟨rfl, hP, hK⟩ := hv
  have hx := B.exec
  have hb := B.bytes
  have hr := B.returns
  have hts := atoms_spec (ws := (mw y_LogFs_failAfter b_LogFs_failAfter 2 (some .boolean))) B.pre
  have htb : ∀ w ∈ tb, w.before [.ref (ga 0), .int a1].toArray s = true := fun w h => hts w (mwIn h)
  have hown : s.vm.findClass "LogFs" = some m.cls := findClass_of_methodNamed B.named
  have hlocks := B.notSynchronized
  have hS : va_S A s.heap s.heap [] := va_S.rf
  have hl := lv_entry ([.ref (ga 0), .int a1]) (n := 2) (Nat.le_of_ble_eq_true rfl)
  rw [lg_entry_eq]
  generalize (lg_sl ([.ref (ga 0), .int a1]) ++ List.replicate (2 - (lg_sl ([.ref (ga 0), .int a1])).length) Slot.unset).toArray = ls at hl ⊢
  have hl : lv_has ls 2 [(0, .ref (ga 0)), (1, .int a1)] := hl
  unfold J_LogFs_failAfter at hJ
  refine lv_iload_n hx hb d_LogFs_failAfter_0 rfl (lv_at hl 1 rfl) ?_
  refine lv_if_ge (tgt := 6) hx hb d_LogFs_failAfter_1 (by decide) (fun h1 => ?_) (fun h1 => ?_)
  · have hJ := j_t hJ h1
    refine lv_aload_n hx hb d_LogFs_failAfter_6 rfl (lv_at hl 0 rfl) ?_
    refine va_get (D := (dC, dI)) (ci := 4) (v := .ref (ga 1)) (C := R_LogFs) (T := T_LogFs) (N := 4) hx hb htb uin_LogFs hown hK hP 0 rfl rfl 0 (by decide) (htb _ tw117) (fun _ h9 => h9) rfl d_LogFs_failAfter_7 ?_
    refine lv_iload_n hx hb d_LogFs_failAfter_10 rfl (lv_at hl 1 rfl) ?_
    refine va_putN (D := (dC, dI)) (ci := 1) (v := .int a1) (ty := .int) (C := R_Disk) (T := T_Disk) (N := 4) hx hb htb uin_Disk t_Disk t_Disk_ok n_Disk hown hK hP (hDa _) hS 1 rfl rfl 2 (by decide) (htb _ tw53) (fun _ h9 => h9) rfl (by decide +kernel) rfl rfl (Nat.le_of_ble_eq_true rfl) d_LogFs_failAfter_11 (fun H locs hP _ hS => ?_)
    have hP : va_P (dC, dI) cls (wC ga cB cI (s_f σ a1)) H := hP
    refine lv_iconst (v := (1 : Int32)) hx hb d_LogFs_failAfter_14 (by decide) ?_
    have hJ := Option.some.inj hJ
    exact W.zret (v := (1 : Int32)) (ty := .boolean) hx hb hr (by decide +kernel) (fun t ht hW => ⟨⟨_, (), rfl, (j_p1 hJ), kW_end hP hK ht hW (congrArg (fun z => wC ga cB cI z) (j_p2 hJ))⟩, hS.F ht⟩) hS.2.2 d_LogFs_failAfter_15
  · have hJ := j_f hJ h1
    refine lv_iconst (v := (0 : Int32)) hx hb d_LogFs_failAfter_4 (by decide) ?_
    have hJ := Option.some.inj hJ
    exact W.zret (v := (0 : Int32)) (ty := .boolean) hx hb hr (by decide +kernel) (fun t ht hW => ⟨⟨_, (), rfl, (j_p1 hJ), kW_end hP hK ht hW (congrArg (fun z => wC ga cB cI z) (j_p2 hJ))⟩, hS.F ht⟩) hS.2.2 d_LogFs_failAfter_5
def J_LogFs_countInMemory (σ : CS) (a1 : Int32) : Option (Int32) :=
  (if a1 = (0 : Int32) then some (c_n σ) else (if a1 = (1 : Int32) then (J_Volume_freeBlocks σ).bind fun x3 => some x3 else (if a1 = (2 : Int32) then (J_Volume_freeInodes σ).bind fun x5 => some x5 else (if (8 : Int32) ≤ a1 then (J_Memory_pendingAt σ (a1 - (8 : Int32))).bind fun x7 => some x7 else some ((-1) : Int32)))))
abbrev rm_LogFs_countInMemory : Room := { frames := 4, cells := 0, slots := 0, locals := 87 }
set_option maxHeartbeats 4000000 in
set_option maxRecDepth 100000 in
theorem c_LogFs_countInMemory {l : Launch} {dC : Nat → ClassId} {dI : Nat → Nat → Nat} {ga : Nat → Nat} {cB cI : ClassId} {A : Nat → Prop} (hDa : ∀ σ, va_D A (wC ga cB cI σ)) {σ : CS} {a1 : Int32} {res : Int32} (hJ : J_LogFs_countInMemory σ a1 = some res) :
    Met l y_LogFs_countInMemory (mw y_LogFs_countInMemory b_LogFs_countInMemory 2 (some .int)) rm_LogFs_countInMemory (va_Pc [.ref (ga 0), .int a1] (kW (dC, dI) (tC cB cI) (wC ga cB cI σ))) (va_Qi (fun (x : Int32) (_ : Unit) => x = res) (fun _ t => kW (dC, dI) (tC cB cI) (wC ga cB cI σ) t) A) 0 0 A := by
  refine Met.ofW (cc := b_LogFs_countInMemory) (maxL := 2) (ret := (some .int)) (by decide) rfl ?_
  intro p e s m args below meth c s₁ B hml hv
  obtain ⟨rfl, hP, hK⟩ := hv
  have hx := B.exec
  have hb := B.bytes
  have hr := B.returns
  have hts := atoms_spec (ws := (mw y_LogFs_countInMemory b_LogFs_countInMemory 2 (some .int))) B.pre
  have htb : ∀ w ∈ tb, w.before [.ref (ga 0), .int a1].toArray s = true := fun w h => hts w (mwIn h)
  have hown : s.vm.findClass "LogFs" = some m.cls := findClass_of_methodNamed B.named
  have hlocks := B.notSynchronized
  have hS : va_S A s.heap s.heap [] := va_S.rf
  have hl := lv_entry ([.ref (ga 0), .int a1]) (n := 2) (Nat.le_of_ble_eq_true rfl)
  rw [lg_entry_eq]
  generalize (lg_sl ([.ref (ga 0), .int a1]) ++ List.replicate (2 - (lg_sl ([.ref (ga 0), .int a1])).length) Slot.unset).toArray = ls at hl ⊢
  have hl : lv_has ls 2 [(0, .ref (ga 0)), (1, .int a1)] := hl
  unfold J_LogFs_countInMemory at hJ
  refine lv_iload_n hx hb d_LogFs_countInMemory_0 rfl (lv_at hl 1 rfl) ?_
  by_cases h1 : a1 = (0 : Int32)
  · have hJ := j_t hJ h1
    refine lv_tableIn (tgt := 28) (off := 27) hx hb d_LogFs_countInMemory_1 (by rw [h1]; decide) (by rw [h1]; decide) (by rw [h1]; rfl) (by decide) ?_
    refine lv_aload_n hx hb d_LogFs_countInMemory_28 rfl (lv_at hl 0 rfl) ?_
    refine va_get (D := (dC, dI)) (ci := 4) (v := .ref (ga 2)) (C := R_LogFs) (T := T_LogFs) (N := 4) hx hb htb uin_LogFs hown hK hP 0 rfl rfl 1 (by decide) (htb _ tw118) (fun _ h9 => h9) rfl d_LogFs_countInMemory_29 ?_
    refine va_getN (D := (dC, dI)) (ci := 2) (v := .int (c_n σ)) (C := R_Memory) (T := T_Memory) (N := 3) hx hb htb uin_Memory hown hK hP 2 rfl rfl 2 (by decide) (htb _ tw80) (fun _ h9 => h9) rfl d_LogFs_countInMemory_32 ?_
    have hJ := Option.some.inj hJ
    exact W.iret (v := (c_n σ)) hx hb hr (fun t ht hW => ⟨⟨_, (), rfl, hJ, kW_end hP hK ht hW rfl⟩, hS.F ht⟩) hS.2.2 d_LogFs_countInMemory_35
  · have hJ := j_f hJ h1
    by_cases h2 : a1 = (1 : Int32)
    · have hJ := j_t hJ h2
      refine lv_tableIn (tgt := 36) (off := 35) hx hb d_LogFs_countInMemory_1 (by rw [h2]; decide) (by rw [h2]; decide) (by rw [h2]; rfl) (by decide) ?_
      refine lv_aload_n hx hb d_LogFs_countInMemory_36 rfl (lv_at hl 0 rfl) ?_
      refine va_get (D := (dC, dI)) (ci := 4) (v := .ref (ga 3)) (C := R_LogFs) (T := T_LogFs) (N := 4) hx hb htb uin_LogFs hown hK hP 0 rfl rfl 2 (by decide) (htb _ tw119) (fun _ h9 => h9) rfl d_LogFs_countInMemory_37 ?_
      obtain ⟨x3, e3, hJ⟩ := j_bind hJ
      refine va_calli (va_runV (As := []) (rest := []) ⟨hx, hb, hml, hown, htb⟩ (c_Volume_freeBlocks (l := l) (dC := dC) (dI := dI) hDa e3) (xcV 0 htb tw145 tw5 tw142 tw143 tw144 rfl rfl hd_Volume_freeBlocks ⟨Nat.le_of_ble_eq_true rfl, Nat.le_of_ble_eq_true rfl⟩) (kW_V hP hK (va_recv (q0 := 3) (ci := 3) hK hP rfl rfl)) rfl rfl hl.1 rfl (lv_room (Nat.le_of_ble_eq_true rfl)) d_LogFs_countInMemory_40 ⟨Nat.le_of_ble_eq_true rfl, Nat.le_of_ble_eq_true rfl⟩) hS (fun q _ h => h) (fun q h => h) (fun r0 u t H locs ht hvm hw hB _ _ hS => ?_)
      subst r0
      have hP := kW_P hB ht
      have hJ := Option.some.inj hJ
      exact W.iret (v := x3) hx hb hr (fun t ht hW => ⟨⟨_, (), rfl, hJ, kW_end hP hK ht hW rfl⟩, hS.F ht⟩) hS.2.2 d_LogFs_countInMemory_43
    · have hJ := j_f hJ h2
      by_cases h4 : a1 = (2 : Int32)
      · have hJ := j_t hJ h4
        refine lv_tableIn (tgt := 44) (off := 43) hx hb d_LogFs_countInMemory_1 (by rw [h4]; decide) (by rw [h4]; decide) (by rw [h4]; rfl) (by decide) ?_
        refine lv_aload_n hx hb d_LogFs_countInMemory_44 rfl (lv_at hl 0 rfl) ?_
        refine va_get (D := (dC, dI)) (ci := 4) (v := .ref (ga 3)) (C := R_LogFs) (T := T_LogFs) (N := 4) hx hb htb uin_LogFs hown hK hP 0 rfl rfl 2 (by decide) (htb _ tw119) (fun _ h9 => h9) rfl d_LogFs_countInMemory_45 ?_
        obtain ⟨x5, e5, hJ⟩ := j_bind hJ
        refine va_calli (va_runV (As := []) (rest := []) ⟨hx, hb, hml, hown, htb⟩ (c_Volume_freeInodes (l := l) (dC := dC) (dI := dI) hDa e5) (xcV 0 htb tw156 tw5 tw153 tw154 tw155 rfl rfl hd_Volume_freeInodes ⟨Nat.le_of_ble_eq_true rfl, Nat.le_of_ble_eq_true rfl⟩) (kW_V hP hK (va_recv (q0 := 3) (ci := 3) hK hP rfl rfl)) rfl rfl hl.1 rfl (lv_room (Nat.le_of_ble_eq_true rfl)) d_LogFs_countInMemory_48 ⟨Nat.le_of_ble_eq_true rfl, Nat.le_of_ble_eq_true rfl⟩) hS (fun q _ h => h) (fun q h => h) (fun r0 u t H locs ht hvm hw hB _ _ hS => ?_)
        subst r0
        have hP := kW_P hB ht
        have hJ := Option.some.inj hJ
        exact W.iret (v := x5) hx hb hr (fun t ht hW => ⟨⟨_, (), rfl, hJ, kW_end hP hK ht hW rfl⟩, hS.F ht⟩) hS.2.2 d_LogFs_countInMemory_51
      · have hJ := j_f hJ h4
        refine lv_tableOut (tgt := 52) hx hb d_LogFs_countInMemory_1 (by have := lv_neT h1 (show ((0 : Int32) : Int32).toInt = 0 by decide); have := lv_neT h2 (show ((1 : Int32) : Int32).toInt = 1 by decide); have := lv_neT h4 (show ((2 : Int32) : Int32).toInt = 2 by decide); omega) (by decide) ?_
        refine lv_iload_n hx hb d_LogFs_countInMemory_52 rfl (lv_at hl 1 rfl) ?_
        refine lv_bipush (v := (8 : Int32)) hx hb d_LogFs_countInMemory_53 (by decide) ?_
        refine lv_icmp_ge (tgt := 62) hx hb d_LogFs_countInMemory_55 (by decide) (fun h6 => ?_) (fun h6 => ?_)
        · have hJ := j_t hJ h6
          refine lv_aload_n hx hb d_LogFs_countInMemory_62 rfl (lv_at hl 0 rfl) ?_
          refine va_get (D := (dC, dI)) (ci := 4) (v := .ref (ga 2)) (C := R_LogFs) (T := T_LogFs) (N := 4) hx hb htb uin_LogFs hown hK hP 0 rfl rfl 1 (by decide) (htb _ tw118) (fun _ h9 => h9) rfl d_LogFs_countInMemory_63 ?_
          refine lv_iload_n hx hb d_LogFs_countInMemory_66 rfl (lv_at hl 1 rfl) ?_
          refine lv_bipush (v := (8 : Int32)) hx hb d_LogFs_countInMemory_67 (by decide) ?_
          refine lv_isub hx hb d_LogFs_countInMemory_69 ?_
          obtain ⟨x7, e7, hJ⟩ := j_bind hJ
          refine va_calli (va_runV (As := [.int (a1 - (8 : Int32))]) (rest := []) ⟨hx, hb, hml, hown, htb⟩ (c_Memory_pendingAt (l := l) (dC := dC) (dI := dI) hDa e7) (xcV 1 htb tw171 tw4 tw168 tw169 tw170 rfl rfl hd_Memory_pendingAt ⟨Nat.le_of_ble_eq_true rfl, Nat.le_of_ble_eq_true rfl⟩) (kW_V hP hK (va_recv (q0 := 2) (ci := 2) hK hP rfl rfl)) rfl rfl hl.1 rfl (lv_room (Nat.le_of_ble_eq_true rfl)) d_LogFs_countInMemory_70 ⟨Nat.le_of_ble_eq_true rfl, Nat.le_of_ble_eq_true rfl⟩) hS (fun q _ h => h) (fun q h => h) (fun r0 u t H locs ht hvm hw hB _ _ hS => ?_)
          subst r0
          have hP := kW_P hB ht
          have hJ := Option.some.inj hJ
          exact W.iret (v := x7) hx hb hr (fun t ht hW => ⟨⟨_, (), rfl, hJ, kW_end hP hK ht hW rfl⟩, hS.F ht⟩) hS.2.2 d_LogFs_countInMemory_73
        · have hJ := j_f hJ h6
          refine lv_iconst (v := ((-1) : Int32)) hx hb d_LogFs_countInMemory_58 (by decide) ?_
          refine lv_goto (tgt := 73) hx hb d_LogFs_countInMemory_59 (by decide) ?_
          have hJ := Option.some.inj hJ
          exact W.iret (v := ((-1) : Int32)) hx hb hr (fun t ht hW => ⟨⟨_, (), rfl, hJ, kW_end hP hK ht hW rfl⟩, hS.F ht⟩) hS.2.2 d_LogFs_countInMemory_73
def J_LogFs_count (σ : CS) (a1 : Int32) : Option (Int32) :=
  (if a1 = (3 : Int32) then some (c_w σ) else (if a1 = (4 : Int32) then some (c_c σ) else (if a1 = (5 : Int32) then (if (c_o σ) = (0 : Int32) then some (0 : Int32) else some (1 : Int32)) else (if (c_o σ) = (0 : Int32) then (J_LogFs_countInMemory σ a1).bind fun x6 => some x6 else some ((-1) : Int32)))))
abbrev rm_LogFs_count : Room := { frames := 5, cells := 0, slots := 0, locals := 108 }
set_option maxHeartbeats 4000000 in
set_option maxRecDepth 100000 in
theorem c_LogFs_count {l : Launch} {dC : Nat → ClassId} {dI : Nat → Nat → Nat} {ga : Nat → Nat} {cB cI : ClassId} {A : Nat → Prop} (hDa : ∀ σ, va_D A (wC ga cB cI σ)) {σ : CS} {a1 : Int32} {res : Int32} (hJ : J_LogFs_count σ a1 = some res) :
    Met l y_LogFs_count (mw y_LogFs_count b_LogFs_count 2 (some .int)) rm_LogFs_count (va_Pc [.ref (ga 0), .int a1] (kW (dC, dI) (tC cB cI) (wC ga cB cI σ))) (va_Qi (fun (x : Int32) (_ : Unit) => x = res) (fun _ t => kW (dC, dI) (tC cB cI) (wC ga cB cI σ) t) A) 0 0 A := by
  refine Met.ofW (cc := b_LogFs_count) (maxL := 2) (ret := (some .int)) (by decide) rfl ?_
  intro p e s m args below meth c s₁ B hml hv
  obtain ⟨rfl, hP, hK⟩ := hv
  have hx := B.exec
  have hb := B.bytes
  have hr := B.returns
  have hts := atoms_spec (ws := (mw y_LogFs_count b_LogFs_count 2 (some .int))) B.pre
  have htb : ∀ w ∈ tb, w.before [.ref (ga 0), .int a1].toArray s = true := fun w h => hts w (mwIn h)
  have hown : s.vm.findClass "LogFs" = some m.cls := findClass_of_methodNamed B.named
  have hlocks := B.notSynchronized
  have hS : va_S A s.heap s.heap [] := va_S.rf
  have hl := lv_entry ([.ref (ga 0), .int a1]) (n := 2) (Nat.le_of_ble_eq_true rfl)
  rw [lg_entry_eq]
  generalize (lg_sl ([.ref (ga 0), .int a1]) ++ List.replicate (2 - (lg_sl ([.ref (ga 0), .int a1])).length) Slot.unset).toArray = ls at hl ⊢
  have hl : lv_has ls 2 [(0, .ref (ga 0)), (1, .int a1)] := hl
  unfold J_LogFs_count at hJ
  refine lv_iload_n hx hb d_LogFs_count_0 rfl (lv_at hl 1 rfl) ?_
  by_cases h1 : a1 = (3 : Int32)
  · have hJ := j_t hJ h1
    refine lv_tableIn (tgt := 28) (off := 27) hx hb d_LogFs_count_1 (by rw [h1]; decide) (by rw [h1]; decide) (by rw [h1]; rfl) (by decide) ?_
    refine lv_aload_n hx hb d_LogFs_count_28 rfl (lv_at hl 0 rfl) ?_
    refine va_get (D := (dC, dI)) (ci := 4) (v := .ref (ga 1)) (C := R_LogFs) (T := T_LogFs) (N := 4) hx hb htb uin_LogFs hown hK hP 0 rfl rfl 0 (by decide) (htb _ tw117) (fun _ h9 => h9) rfl d_LogFs_count_29 ?_
    refine va_getN (D := (dC, dI)) (ci := 1) (v := .int (c_w σ)) (C := R_Disk) (T := T_Disk) (N := 4) hx hb htb uin_Disk hown hK hP 1 rfl rfl 1 (by decide) (htb _ tw51) (fun _ h9 => h9) rfl d_LogFs_count_32 ?_
    have hJ := Option.some.inj hJ
    exact W.iret (v := (c_w σ)) hx hb hr (fun t ht hW => ⟨⟨_, (), rfl, hJ, kW_end hP hK ht hW rfl⟩, hS.F ht⟩) hS.2.2 d_LogFs_count_35
  · have hJ := j_f hJ h1
    by_cases h2 : a1 = (4 : Int32)
    · have hJ := j_t hJ h2
      refine lv_tableIn (tgt := 36) (off := 35) hx hb d_LogFs_count_1 (by rw [h2]; decide) (by rw [h2]; decide) (by rw [h2]; rfl) (by decide) ?_
      refine lv_aload_n hx hb d_LogFs_count_36 rfl (lv_at hl 0 rfl) ?_
      refine va_get (D := (dC, dI)) (ci := 4) (v := .int (c_c σ)) (C := R_LogFs) (T := T_LogFs) (N := 4) hx hb htb uin_LogFs hown hK hP 0 rfl rfl 3 (by decide) (htb _ tw120) (fun _ h9 => h9) rfl d_LogFs_count_37 ?_
      have hJ := Option.some.inj hJ
      exact W.iret (v := (c_c σ)) hx hb hr (fun t ht hW => ⟨⟨_, (), rfl, hJ, kW_end hP hK ht hW rfl⟩, hS.F ht⟩) hS.2.2 d_LogFs_count_40
    · have hJ := j_f hJ h2
      by_cases h3 : a1 = (5 : Int32)
      · have hJ := j_t hJ h3
        refine lv_tableIn (tgt := 41) (off := 40) hx hb d_LogFs_count_1 (by rw [h3]; decide) (by rw [h3]; decide) (by rw [h3]; rfl) (by decide) ?_
        refine lv_aload_n hx hb d_LogFs_count_41 rfl (lv_at hl 0 rfl) ?_
        refine va_get (D := (dC, dI)) (ci := 4) (v := .ref (ga 1)) (C := R_LogFs) (T := T_LogFs) (N := 4) hx hb htb uin_LogFs hown hK hP 0 rfl rfl 0 (by decide) (htb _ tw117) (fun _ h9 => h9) rfl d_LogFs_count_42 ?_
        refine va_getN (D := (dC, dI)) (ci := 1) (v := .int (c_o σ)) (C := R_Disk) (T := T_Disk) (N := 4) hx hb htb uin_Disk hown hK hP 1 rfl rfl 3 (by decide) (htb _ tw55) (fun _ h9 => h9) rfl d_LogFs_count_45 ?_
        refine lv_if_eq (tgt := 55) hx hb d_LogFs_count_48 (by decide) (fun h4 => ?_) (fun h4 => ?_)
        · have hJ := j_t hJ h4
          refine lv_iconst (v := (0 : Int32)) hx hb d_LogFs_count_55 (by decide) ?_
          have hJ := Option.some.inj hJ
          exact W.iret (v := (0 : Int32)) hx hb hr (fun t ht hW => ⟨⟨_, (), rfl, hJ, kW_end hP hK ht hW rfl⟩, hS.F ht⟩) hS.2.2 d_LogFs_count_56
        · have hJ := j_f hJ h4
          refine lv_iconst (v := (1 : Int32)) hx hb d_LogFs_count_51 (by decide) ?_
          refine lv_goto (tgt := 56) hx hb d_LogFs_count_52 (by decide) ?_
          have hJ := Option.some.inj hJ
          exact W.iret (v := (1 : Int32)) hx hb hr (fun t ht hW => ⟨⟨_, (), rfl, hJ, kW_end hP hK ht hW rfl⟩, hS.F ht⟩) hS.2.2 d_LogFs_count_56
      · have hJ := j_f hJ h3
        refine lv_tableOut (tgt := 57) hx hb d_LogFs_count_1 (by have := lv_neT h1 (show ((3 : Int32) : Int32).toInt = 3 by decide); have := lv_neT h2 (show ((4 : Int32) : Int32).toInt = 4 by decide); have := lv_neT h3 (show ((5 : Int32) : Int32).toInt = 5 by decide); omega) (by decide) ?_
        refine lv_aload_n hx hb d_LogFs_count_57 rfl (lv_at hl 0 rfl) ?_
        refine va_get (D := (dC, dI)) (ci := 4) (v := .ref (ga 1)) (C := R_LogFs) (T := T_LogFs) (N := 4) hx hb htb uin_LogFs hown hK hP 0 rfl rfl 0 (by decide) (htb _ tw117) (fun _ h9 => h9) rfl d_LogFs_count_58 ?_
        refine va_getN (D := (dC, dI)) (ci := 1) (v := .int (c_o σ)) (C := R_Disk) (T := T_Disk) (N := 4) hx hb htb uin_Disk hown hK hP 1 rfl rfl 3 (by decide) (htb _ tw55) (fun _ h9 => h9) rfl d_LogFs_count_61 ?_
        refine lv_if_eq (tgt := 71) hx hb d_LogFs_count_64 (by decide) (fun h5 => ?_) (fun h5 => ?_)
        · have hJ := j_t hJ h5
          refine lv_aload_n hx hb d_LogFs_count_71 rfl (lv_at hl 0 rfl) ?_
          refine lv_iload_n hx hb d_LogFs_count_72 rfl (lv_at hl 1 rfl) ?_
          obtain ⟨x6, e6, hJ⟩ := j_bind hJ
          refine va_calli (va_runV (As := [.int a1]) (rest := []) ⟨hx, hb, hml, hown, htb⟩ (c_LogFs_countInMemory (l := l) (dC := dC) (dI := dI) hDa e6) (xcV 1 htb tw141 tw1 tw138 tw140 ts_LogFs_countInMemory rfl rfl hd_LogFs_countInMemory ⟨Nat.le_of_ble_eq_true rfl, Nat.le_of_ble_eq_true rfl⟩) (kW_V hP hK (va_recv (q0 := 0) (ci := 4) hK hP rfl rfl)) rfl rfl hl.1 rfl (lv_room (Nat.le_of_ble_eq_true rfl)) d_LogFs_count_73 ⟨Nat.le_of_ble_eq_true rfl, Nat.le_of_ble_eq_true rfl⟩) hS (fun q _ h => h) (fun q h => h) (fun r0 u t H locs ht hvm hw hB _ _ hS => ?_)
          subst r0
          have hP := kW_P hB ht
          have hJ := Option.some.inj hJ
          exact W.iret (v := x6) hx hb hr (fun t ht hW => ⟨⟨_, (), rfl, hJ, kW_end hP hK ht hW rfl⟩, hS.F ht⟩) hS.2.2 d_LogFs_count_76
        · have hJ := j_f hJ h5
          refine lv_iconst (v := ((-1) : Int32)) hx hb d_LogFs_count_67 (by decide) ?_
          refine lv_goto (tgt := 76) hx hb d_LogFs_count_68 (by decide) ?_
          have hJ := Option.some.inj hJ
          exact W.iret (v := ((-1) : Int32)) hx hb hr (fun t ht hW => ⟨⟨_, (), rfl, hJ, kW_end hP hK ht hW rfl⟩, hS.F ht⟩) hS.2.2 d_LogFs_count_76
def J_LogFs_requirePower (σ : CS)  : Option (Nat) :=
  (if (c_o σ) = (0 : Int32) then some 0 else some 1)
abbrev rm_LogFs_requirePower : Room := { frames := 6, cells := 1, slots := 6, locals := 90 }
set_option maxHeartbeats 4000000 in
set_option maxRecDepth 100000 in
theorem c_LogFs_requirePower {l : Launch} (hl0 : l.stackTraces = false) {dC : Nat → ClassId} {dI : Nat → Nat → Nat} {ga : Nat → Nat} {cB cI : ClassId} {A : Nat → Prop} {sx : Nat → Nat} (hDa : ∀ σ, va_D A (wC ga cB cI σ)) {σ : CS} {res : Nat} (hJ : J_LogFs_requirePower σ = some res) :
    xMet l y_LogFs_requirePower (mw y_LogFs_requirePower b_LogFs_requirePower 1 none) rm_LogFs_requirePower (va_Pc [.ref (ga 0)] (fun U => kW (dC, dI) (tC cB cI) (wC ga cB cI σ) U ∧ kX A sx U)) res none (fun t => kW (dC, dI) (tC cB cI) (wC ga cB cI σ) t) A (xc res) (xs res) := by
  refine x_ofW (cc := b_LogFs_requirePower) (maxL := 1) (ret := none) (by decide) rfl ?_
  intro p e s m args below meth c s₁ B hml hno hv
  obtain ⟨rfl, ⟨hP, hK⟩, hX⟩ := hv
  have hx := B.exec
  have hb := B.bytes
  have hr := B.returns
  have hts := atoms_spec (ws := (mw y_LogFs_requirePower b_LogFs_requirePower 1 none)) B.pre
  have htb : ∀ w ∈ tb, w.before [.ref (ga 0)].toArray s = true := fun w h => hts w (mwIn h)
  have hown : s.vm.findClass "LogFs" = some m.cls := findClass_of_methodNamed B.named
  have hlocks := B.notSynchronized
  have hS : va_S A s.heap s.heap [] := va_S.rf
  have hl := lv_entry ([.ref (ga 0)]) (n := 1) (Nat.le_of_ble_eq_true rfl)
  rw [lg_entry_eq]
  generalize (lg_sl ([.ref (ga 0)]) ++ List.replicate (1 - (lg_sl ([.ref (ga 0)])).length) Slot.unset).toArray = ls at hl ⊢
  have hl : lv_has ls 1 [(0, .ref (ga 0))] := hl
  unfold J_LogFs_requirePower at hJ
  refine lv_aload_n hx hb d_LogFs_requirePower_0 rfl (lv_at hl 0 rfl) ?_
  refine va_get (D := (dC, dI)) (ci := 4) (v := .ref (ga 1)) (C := R_LogFs) (T := T_LogFs) (N := 4) hx hb htb uin_LogFs hown hK hP 0 rfl rfl 0 (by decide) (htb _ tw117) (fun _ h9 => h9) rfl d_LogFs_requirePower_1 ?_
  refine va_getN (D := (dC, dI)) (ci := 1) (v := .int (c_o σ)) (C := R_Disk) (T := T_Disk) (N := 4) hx hb htb uin_Disk hown hK hP 1 rfl rfl 3 (by decide) (htb _ tw55) (fun _ h9 => h9) rfl d_LogFs_requirePower_4 ?_
  refine lv_if_eq (tgt := 20) hx hb d_LogFs_requirePower_7 (by decide) (fun h1 => ?_) (fun h1 => ?_)
  · have hJ := j_t hJ h1
    have hJ := Option.some.inj hJ
    subst hJ
    exact x_ret (W.vret hx hb hr (fun t ht hW => ⟨⟨rfl, kW_end hP hK ht hW rfl⟩, hS.F ht⟩) hS.2.2 d_LogFs_requirePower_20)
  · have hJ := j_f hJ h1
    have hJ := Option.some.inj hJ
    subst hJ
    exact x_throw (k := 1) (names := ["java/lang/RuntimeException", "java/lang/Exception"]) hx hb hl0 hown (by decide +kernel) (by decide +kernel) (by decide) (xo_at htb xo_1) hX.2.2.2.1 hX.1 hX.2.1 hS (hl.1.trans hml.symm) d_LogFs_requirePower_10 d_LogFs_requirePower_13 d_LogFs_requirePower_14 d_LogFs_requirePower_16 d_LogFs_requirePower_19 (fun x h => (hno x h).elim) (Nat.le_of_ble_eq_true rfl) (Nat.le_of_ble_eq_true rfl) (Nat.le_of_ble_eq_true rfl) (Nat.le_of_ble_eq_true rfl) hlocks (fun t hW h1 h2 => kW_new hP hK hW h2) (Nat.le_of_ble_eq_true rfl) (Nat.le_of_ble_eq_true rfl)
def J_LogFs_requireByte_21  : Option (Nat) :=
  some 3
def J_LogFs_requireByte (a1 : Int32) (a2 : Int32) : Option (Nat) :=
  (if a1 < (0 : Int32) then J_LogFs_requireByte_21 else (if (128 : Int32) ≤ a1 then J_LogFs_requireByte_21 else (if a2 < (0 : Int32) then J_LogFs_requireByte_21 else (if a2 < (64 : Int32) then some 0 else J_LogFs_requireByte_21))))
abbrev rm_LogFs_requireByte : Room := { frames := 6, cells := 1, slots := 6, locals := 90 }
set_option maxHeartbeats 4000000 in
set_option maxRecDepth 100000 in
theorem c_LogFs_requireByte {l : Launch} (hl0 : l.stackTraces = false) {dC : Nat → ClassId} {dI : Nat → Nat → Nat} {ga : Nat → Nat} {cB cI : ClassId} {A : Nat → Prop} {sx : Nat → Nat} (hDa : ∀ σ, va_D A (wC ga cB cI σ)) {σ : CS} {a1 : Int32} {a2 : Int32} {res : Nat} (hJ : J_LogFs_requireByte a1 a2 = some res) :
    xMet l y_LogFs_requireByte (mw y_LogFs_requireByte b_LogFs_requireByte 2 none) rm_LogFs_requireByte (va_Pc [.int a1, .int a2] (fun U => kW (dC, dI) (tC cB cI) (wC ga cB cI σ) U ∧ kX A sx U)) res none (fun t => kW (dC, dI) (tC cB cI) (wC ga cB cI σ) t) A (xc res) (xs res) := by
  refine x_ofW (cc := b_LogFs_requireByte) (maxL := 2) (ret := none) (by decide) rfl ?_
  intro p e s m args below meth c s₁ B hml hno hv
  obtain ⟨rfl, ⟨hP, hK⟩, hX⟩ := hv
  have hx := B.exec
  have hb := B.bytes
  have hr := B.returns
  have hts := atoms_spec (ws := (mw y_LogFs_requireByte b_LogFs_requireByte 2 none)) B.pre
  have htb : ∀ w ∈ tb, w.before [.int a1, .int a2].toArray s = true := fun w h => hts w (mwIn h)
  have hown : s.vm.findClass "LogFs" = some m.cls := findClass_of_methodNamed B.named
  have hlocks := B.notSynchronized
  have hS : va_S A s.heap s.heap [] := va_S.rf
  have hl := lv_entry ([.int a1, .int a2]) (n := 2) (Nat.le_of_ble_eq_true rfl)
  rw [lg_entry_eq]
  generalize (lg_sl ([.int a1, .int a2]) ++ List.replicate (2 - (lg_sl ([.int a1, .int a2])).length) Slot.unset).toArray = ls at hl ⊢
  have hl : lv_has ls 2 [(0, .int a1), (1, .int a2)] := hl
  have blk21 : ∀ (ls : Array Slot) (H : Heap) (locs : List Loc), J_LogFs_requireByte_21  = some res → lv_has ls 2 [] → va_P (dC, dI) cls (wC ga cB cI σ) H → va_S A s.heap H locs → W p l e (headSpec (mw y_LogFs_requireByte b_LogFs_requireByte 2 none) rm_LogFs_requireByte).room s m [.int a1, .int a2].toArray below meth c H locs 0 0 (xMQ below res none (fun t => kW (dC, dI) (tC cB cI) (wC ga cB cI σ) t) A s (xc res) (xs res)) (F0 m 21 ls []) := by
    intro ls H locs hJ hl hP hS
    unfold J_LogFs_requireByte_21 at hJ
    have hJ := Option.some.inj hJ
    subst hJ
    exact x_throw (k := 3) (names := ["java/lang/RuntimeException", "java/lang/Exception"]) hx hb hl0 hown (by decide +kernel) (by decide +kernel) (by decide) (xo_at htb xo_3) hX.2.2.2.2.2.2.2.2 hX.1 hX.2.1 hS (hl.1.trans hml.symm) d_LogFs_requireByte_21 d_LogFs_requireByte_24 d_LogFs_requireByte_25 d_LogFs_requireByte_27 d_LogFs_requireByte_30 (fun x h => (hno x h).elim) (Nat.le_of_ble_eq_true rfl) (Nat.le_of_ble_eq_true rfl) (Nat.le_of_ble_eq_true rfl) (Nat.le_of_ble_eq_true rfl) hlocks (fun t hW h1 h2 => kW_new hP hK hW h2) (Nat.le_of_ble_eq_true rfl) (Nat.le_of_ble_eq_true rfl)
  unfold J_LogFs_requireByte at hJ
  refine lv_iload_n hx hb d_LogFs_requireByte_0 rfl (lv_at hl 0 rfl) ?_
  refine lv_if_lt (tgt := 21) hx hb d_LogFs_requireByte_1 (by decide) (fun h1 => ?_) (fun h1 => ?_)
  · have hJ := j_t hJ h1
    exact blk21 _ _ _ hJ (lv_sub hl [] rfl) hP hS
  · have hJ := j_f hJ h1
    refine lv_iload_n hx hb d_LogFs_requireByte_4 rfl (lv_at hl 0 rfl) ?_
    refine lv_sipush (v := (128 : Int32)) hx hb d_LogFs_requireByte_5 (by decide) ?_
    refine lv_icmp_ge (tgt := 21) hx hb d_LogFs_requireByte_8 (by decide) (fun h2 => ?_) (fun h2 => ?_)
    · have hJ := j_t hJ h2
      exact blk21 _ _ _ hJ (lv_sub hl [] rfl) hP hS
    · have hJ := j_f hJ h2
      refine lv_iload_n hx hb d_LogFs_requireByte_11 rfl (lv_at hl 1 rfl) ?_
      refine lv_if_lt (tgt := 21) hx hb d_LogFs_requireByte_12 (by decide) (fun h3 => ?_) (fun h3 => ?_)
      · have hJ := j_t hJ h3
        exact blk21 _ _ _ hJ (lv_sub hl [] rfl) hP hS
      · have hJ := j_f hJ h3
        refine lv_iload_n hx hb d_LogFs_requireByte_15 rfl (lv_at hl 1 rfl) ?_
        refine lv_bipush (v := (64 : Int32)) hx hb d_LogFs_requireByte_16 (by decide) ?_
        refine lv_icmp_lt (tgt := 31) hx hb d_LogFs_requireByte_18 (by decide) (fun h4 => ?_) (fun h4 => ?_)
        · have hJ := j_t hJ h4
          have hJ := Option.some.inj hJ
          subst hJ
          exact x_ret (W.vret hx hb hr (fun t ht hW => ⟨⟨rfl, kW_end hP hK ht hW rfl⟩, hS.F ht⟩) hS.2.2 d_LogFs_requireByte_31)
        · have hJ := j_f hJ h4
          exact blk21 _ _ _ hJ (lv_sub hl [] rfl) hP hS
def J_LogFs_commit (σ : CS)  : Option (Nat × CS) :=
  (if (c_n σ) = (0 : Int32) then some (0, σ) else (J_Disk_storePending (s_c σ ((c_c σ) + (1 : Int32)))).bind fun x2 => (if x2.1 = (0 : Int32) then some (2, x2.2) else (J_Memory_forgetPending x2.2).bind fun x4 => some (0, x4)))
abbrev rm_LogFs_commit : Room := { frames := 6, cells := 1, slots := 6, locals := 115 }
set_option maxHeartbeats 4000000 in
set_option maxRecDepth 100000 in
theorem c_LogFs_commit {l : Launch} (hl0 : l.stackTraces = false) {dC : Nat → ClassId} {dI : Nat → Nat → Nat} {ga : Nat → Nat} {cB cI : ClassId} {A : Nat → Prop} {sx : Nat → Nat} (hDa : ∀ σ, va_D A (wC ga cB cI σ)) {σ : CS} {res : Nat × CS} (hJ : J_LogFs_commit σ = some res) :
    xMet l y_LogFs_commit (mw y_LogFs_commit b_LogFs_commit 1 none) rm_LogFs_commit (va_Pc [.ref (ga 0)] (fun U => kW (dC, dI) (tC cB cI) (wC ga cB cI σ) U ∧ kX A sx U)) res.1 none (fun t => kW (dC, dI) (tC cB cI) (wC ga cB cI res.2) t) A (xc res.1) (xs res.1) := by
  refine x_ofW (cc := b_LogFs_commit) (maxL := 1) (ret := none) (by decide) rfl ?_
  intro p e s m args below meth c s₁ B hml hno hv
  obtain ⟨rfl, ⟨hP, hK⟩, hX⟩ := hv
  have hx := B.exec
  have hb := B.bytes
  have hr := B.returns
  have hts := atoms_spec (ws := (mw y_LogFs_commit b_LogFs_commit 1 none)) B.pre
  have htb : ∀ w ∈ tb, w.before [.ref (ga 0)].toArray s = true := fun w h => hts w (mwIn h)
  have hown : s.vm.findClass "LogFs" = some m.cls := findClass_of_methodNamed B.named
  have hlocks := B.notSynchronized
  have hS : va_S A s.heap s.heap [] := va_S.rf
  have hl := lv_entry ([.ref (ga 0)]) (n := 1) (Nat.le_of_ble_eq_true rfl)
  rw [lg_entry_eq]
  generalize (lg_sl ([.ref (ga 0)]) ++ List.replicate (1 - (lg_sl ([.ref (ga 0)])).length) Slot.unset).toArray = ls at hl ⊢
  have hl : lv_has ls 1 [(0, .ref (ga 0))] := hl
  unfold J_LogFs_commit at hJ
  refine lv_aload_n hx hb d_LogFs_commit_0 rfl (lv_at hl 0 rfl) ?_
  refine va_get (D := (dC, dI)) (ci := 4) (v := .ref (ga 2)) (C := R_LogFs) (T := T_LogFs) (N := 4) hx hb htb uin_LogFs hown hK hP 0 rfl rfl 1 (by decide) (htb _ tw118) (fun _ h9 => h9) rfl d_LogFs_commit_1 ?_
  refine va_getN (D := (dC, dI)) (ci := 2) (v := .int (c_n σ)) (C := R_Memory) (T := T_Memory) (N := 3) hx hb htb uin_Memory hown hK hP 2 rfl rfl 2 (by decide) (htb _ tw80) (fun _ h9 => h9) rfl d_LogFs_commit_4 ?_
  refine lv_if_ne (tgt := 11) hx hb d_LogFs_commit_7 (by decide) (fun h1 => ?_) (fun h1 => ?_)
  · have hJ := j_f hJ h1
    refine lv_aload_n hx hb d_LogFs_commit_11 rfl (lv_at hl 0 rfl) ?_
    refine lv_dup hx hb d_LogFs_commit_12 rfl ?_
    refine va_get (D := (dC, dI)) (ci := 4) (v := .int (c_c σ)) (C := R_LogFs) (T := T_LogFs) (N := 4) hx hb htb uin_LogFs hown hK hP 0 rfl rfl 3 (by decide) (htb _ tw120) (fun _ h9 => h9) rfl d_LogFs_commit_13 ?_
    refine lv_iconst (v := (1 : Int32)) hx hb d_LogFs_commit_16 (by decide) ?_
    refine lv_iadd hx hb d_LogFs_commit_17 ?_
    refine va_put (D := (dC, dI)) (ci := 4) (v := .int ((c_c σ) + (1 : Int32))) (ty := .int) (C := R_LogFs) (T := T_LogFs) (N := 4) hx hb htb uin_LogFs t_LogFs t_LogFs_ok n_LogFs hown hK hP (hDa _) hS 0 rfl rfl 3 (by decide) (htb _ tw120) (fun _ h9 => h9) rfl (by decide +kernel) rfl rfl (Nat.le_of_ble_eq_true rfl) d_LogFs_commit_18 (fun H locs hP _ hS => ?_)
    have hP : va_P (dC, dI) cls (wC ga cB cI (s_c σ ((c_c σ) + (1 : Int32)))) H := hP
    refine lv_aload_n hx hb d_LogFs_commit_21 rfl (lv_at hl 0 rfl) ?_
    refine va_get (D := (dC, dI)) (ci := 4) (v := .ref (ga 1)) (C := R_LogFs) (T := T_LogFs) (N := 4) hx hb htb uin_LogFs hown hK hP 0 rfl rfl 0 (by decide) (htb _ tw117) (fun _ h9 => h9) rfl d_LogFs_commit_22 ?_
    refine lv_aload_n hx hb d_LogFs_commit_25 rfl (lv_at hl 0 rfl) ?_
    refine va_get (D := (dC, dI)) (ci := 4) (v := .ref (ga 2)) (C := R_LogFs) (T := T_LogFs) (N := 4) hx hb htb uin_LogFs hown hK hP 0 rfl rfl 1 (by decide) (htb _ tw118) (fun _ h9 => h9) rfl d_LogFs_commit_26 ?_
    obtain ⟨x2, e2, hJ⟩ := j_bind hJ
    refine va_calli (va_runV (As := [.ref (ga 2)]) (rest := []) ⟨hx, hb, hml, hown, htb⟩ (c_Disk_storePending (l := l) (dC := dC) (dI := dI) hDa e2) (xcV 1 htb tw313 tw2 tw310 tw311 tw312 rfl rfl hd_Disk_storePending ⟨Nat.le_of_ble_eq_true rfl, Nat.le_of_ble_eq_true rfl⟩) (kW_V hP hK (va_recv (q0 := 1) (ci := 1) hK hP rfl rfl)) rfl rfl hl.1 rfl (lv_room (Nat.le_of_ble_eq_true rfl)) d_LogFs_commit_29 ⟨Nat.le_of_ble_eq_true rfl, Nat.le_of_ble_eq_true rfl⟩) hS (fun q _ h => h) (fun q h => h) (fun r0 u t H locs ht hvm hw hB _ _ hS => ?_)
    subst r0
    have hP := kW_P hB ht
    refine lv_if_ne (tgt := 45) hx hb d_LogFs_commit_32 (by decide) (fun h3 => ?_) (fun h3 => ?_)
    · have hJ := j_f hJ h3
      refine lv_aload_n hx hb d_LogFs_commit_45 rfl (lv_at hl 0 rfl) ?_
      refine va_get (D := (dC, dI)) (ci := 4) (v := .ref (ga 2)) (C := R_LogFs) (T := T_LogFs) (N := 4) hx hb htb uin_LogFs hown hK hP 0 rfl rfl 1 (by decide) (htb _ tw118) (fun _ h9 => h9) rfl d_LogFs_commit_46 ?_
      obtain ⟨x4, e4, hJ⟩ := j_bind hJ
      refine va_callv (va_runV (As := []) (rest := []) ⟨hx, hb, hml, hown, htb⟩ (c_Memory_forgetPending (l := l) (dC := dC) (dI := dI) hDa e4) (xcV 0 htb tw116 tw4 tw364 tw114 tw115 rfl rfl hd_Memory_forgetPending ⟨Nat.le_of_ble_eq_true rfl, Nat.le_of_ble_eq_true rfl⟩) (kW_V hP hK (va_recv (q0 := 2) (ci := 2) hK hP rfl rfl)) rfl rfl hl.1 rfl (lv_room (Nat.le_of_ble_eq_true rfl)) d_LogFs_commit_49 ⟨Nat.le_of_ble_eq_true rfl, Nat.le_of_ble_eq_true rfl⟩) hS (fun q _ h => h) (fun q h => h) (fun u t H locs ht hvm hw hB _ _ hS => ?_)
      have hP := kW_P hB ht
      have hJ := Option.some.inj hJ
      subst hJ
      exact x_ret (W.vret hx hb hr (fun t ht hW => ⟨⟨rfl, kW_end hP hK ht hW rfl⟩, hS.F ht⟩) hS.2.2 d_LogFs_commit_52)
    · have hJ := j_t hJ h3
      have hJ := Option.some.inj hJ
      subst hJ
      exact x_throw (k := 2) (names := ["java/lang/RuntimeException", "java/lang/Exception"]) hx hb hl0 hown (by decide +kernel) (by decide +kernel) (by decide) (xo_at htb xo_2) hX.2.2.2.2.1 hX.1 hX.2.1 hS (hl.1.trans hml.symm) d_LogFs_commit_35 d_LogFs_commit_38 d_LogFs_commit_39 d_LogFs_commit_41 d_LogFs_commit_44 (fun x h => (hno x h).elim) (Nat.le_of_ble_eq_true rfl) (Nat.le_of_ble_eq_true rfl) (Nat.le_of_ble_eq_true rfl) (Nat.le_of_ble_eq_true rfl) hlocks (fun t hW h1 h2 => kW_new hP hK hW h2) (Nat.le_of_ble_eq_true rfl) (Nat.le_of_ble_eq_true rfl)
  · have hJ := j_t hJ h1
    have hJ := Option.some.inj hJ
    subst hJ
    exact x_ret (W.vret hx hb hr (fun t ht hW => ⟨⟨rfl, kW_end hP hK ht hW rfl⟩, hS.F ht⟩) hS.2.2 d_LogFs_commit_10)
def J_LogFs_commitIfMany (σ : CS)  : Option (Nat × CS) :=
  (if (c_n σ) ≤ (10 : Int32) then some (0, σ) else (J_LogFs_commit σ).bind fun x2 => (if x2.1 = 0 then some (0, x2.2) else some (x2.1, x2.2)))
abbrev rm_LogFs_commitIfMany : Room := { frames := 7, cells := 1, slots := 6, locals := 135 }
set_option maxHeartbeats 4000000 in
set_option maxRecDepth 100000 in
theorem c_LogFs_commitIfMany {l : Launch} (hl0 : l.stackTraces = false) {dC : Nat → ClassId} {dI : Nat → Nat → Nat} {ga : Nat → Nat} {cB cI : ClassId} {A : Nat → Prop} {sx : Nat → Nat} (hDa : ∀ σ, va_D A (wC ga cB cI σ)) {σ : CS} {res : Nat × CS} (hJ : J_LogFs_commitIfMany σ = some res) :
    xMet l y_LogFs_commitIfMany (mw y_LogFs_commitIfMany b_LogFs_commitIfMany 1 none) rm_LogFs_commitIfMany (va_Pc [.ref (ga 0)] (fun U => kW (dC, dI) (tC cB cI) (wC ga cB cI σ) U ∧ kX A sx U)) res.1 none (fun t => kW (dC, dI) (tC cB cI) (wC ga cB cI res.2) t) A (xc res.1) (xs res.1) := by
  refine x_ofW (cc := b_LogFs_commitIfMany) (maxL := 1) (ret := none) (by decide) rfl ?_
  intro p e s m args below meth c s₁ B hml hno hv
  obtain ⟨rfl, ⟨hP, hK⟩, hX⟩ := hv
  have hx := B.exec
  have hb := B.bytes
  have hr := B.returns
  have hts := atoms_spec (ws := (mw y_LogFs_commitIfMany b_LogFs_commitIfMany 1 none)) B.pre
  have htb : ∀ w ∈ tb, w.before [.ref (ga 0)].toArray s = true := fun w h => hts w (mwIn h)
  have hown : s.vm.findClass "LogFs" = some m.cls := findClass_of_methodNamed B.named
  have hlocks := B.notSynchronized
  have hS : va_S A s.heap s.heap [] := va_S.rf
  have hl := lv_entry ([.ref (ga 0)]) (n := 1) (Nat.le_of_ble_eq_true rfl)
  rw [lg_entry_eq]
  generalize (lg_sl ([.ref (ga 0)]) ++ List.replicate (1 - (lg_sl ([.ref (ga 0)])).length) Slot.unset).toArray = ls at hl ⊢
  have hl : lv_has ls 1 [(0, .ref (ga 0))] := hl
  unfold J_LogFs_commitIfMany at hJ
  refine lv_aload_n hx hb d_LogFs_commitIfMany_0 rfl (lv_at hl 0 rfl) ?_
  refine va_get (D := (dC, dI)) (ci := 4) (v := .ref (ga 2)) (C := R_LogFs) (T := T_LogFs) (N := 4) hx hb htb uin_LogFs hown hK hP 0 rfl rfl 1 (by decide) (htb _ tw118) (fun _ h9 => h9) rfl d_LogFs_commitIfMany_1 ?_
  refine va_getN (D := (dC, dI)) (ci := 2) (v := .int (c_n σ)) (C := R_Memory) (T := T_Memory) (N := 3) hx hb htb uin_Memory hown hK hP 2 rfl rfl 2 (by decide) (htb _ tw80) (fun _ h9 => h9) rfl d_LogFs_commitIfMany_4 ?_
  refine lv_bipush (v := (10 : Int32)) hx hb d_LogFs_commitIfMany_7 (by decide) ?_
  refine lv_icmp_le (tgt := 16) hx hb d_LogFs_commitIfMany_9 (by decide) (fun h1 => ?_) (fun h1 => ?_)
  · have hJ := j_t hJ h1
    have hJ := Option.some.inj hJ
    subst hJ
    exact x_ret (W.vret hx hb hr (fun t ht hW => ⟨⟨rfl, kW_end hP hK ht hW rfl⟩, hS.F ht⟩) hS.2.2 d_LogFs_commitIfMany_16)
  · have hJ := j_f hJ h1
    refine lv_aload_n hx hb d_LogFs_commitIfMany_12 rfl (lv_at hl 0 rfl) ?_
    obtain ⟨x2, e2, hJ⟩ := j_bind hJ
    refine x_call (xb_runV (As := []) (rest := []) ⟨hx, hb, hml, hown, htb⟩ (c_LogFs_commit (l := l) hl0 (dC := dC) (dI := dI) (sx := sx) hDa e2) (xcV 0 htb tw309 tw1 tw306 tw308 ts_LogFs_commit rfl rfl hd_LogFs_commit ⟨Nat.le_of_ble_eq_true rfl, Nat.le_of_ble_eq_true rfl⟩) (kX_V hP hK hX hS (va_recv (q0 := 0) (ci := 4) hK hP rfl rfl)) rfl rfl hl.1 rfl (lv_room (Nat.le_of_ble_eq_true rfl)) d_LogFs_commitIfMany_13 ⟨Nat.le_of_ble_eq_true rfl, Nat.le_of_ble_eq_true rfl⟩) hS (fun hk t H locs ht hW hB _ hS => ?_) (fun hk q ce t H locs ht hW hB _ hS hq hv hc => ?_)
    · have hJ := j_t hJ hk
      have hP := kW_P hB ht
      refine W.cs (cells' := 0) (slots' := 0) (xc_0 hk) (xs_0 hk) ?_
      refine W.eq (g2 := F0 m 16 ls []) rfl ?_
      have hJ := Option.some.inj hJ
      subst hJ
      exact x_ret (W.vret hx hb hr (fun t ht hW => ⟨⟨rfl, kW_end hP hK ht hW rfl⟩, hS.F ht⟩) hS.2.2 d_LogFs_commitIfMany_16)
    · have hJ := j_f hJ hk
      have hP := kW_P hB ht
      have hJ := Option.some.inj hJ
      subst hJ
      exact x_out (fun x h => (hno x h).elim) hlocks hk hq hv hc (fun t ht hW => kW_end hP hK ht hW rfl) hS (Nat.le_of_eq (Nat.zero_add _)) (Nat.le_of_eq (Nat.zero_add _))
