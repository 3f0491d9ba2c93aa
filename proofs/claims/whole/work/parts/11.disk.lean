/-! Memory and Disk. Written by wip/gen/classes.py. -/
def J_Memory_forgetPending (σ : CS)  : Option (CS) :=
  some (s_n σ (0 : Int32))
abbrev rm_Memory_forgetPending : Room := { frames := 0, cells := 0, slots := 0, locals := 0 }
set_option maxHeartbeats 4000000 in
set_option maxRecDepth 100000 in
theorem c_Memory_forgetPending {l : Launch} {dC : Nat → ClassId} {dI : Nat → Nat → Nat} {ga : Nat → Nat} {cB cI : ClassId} {A : Nat → Prop} (hDa : ∀ σ, va_D A (wC ga cB cI σ)) {σ : CS} {res : CS} (hJ : J_Memory_forgetPending σ = some res) :
    Met l y_Memory_forgetPending (mw y_Memory_forgetPending b_Memory_forgetPending 1 none) rm_Memory_forgetPending (va_Pc [.ref (ga 2)] (kW (dC, dI) (tC cB cI) (wC ga cB cI σ))) (va_Qv (fun (_ : Unit) => True) (fun _ t => kW (dC, dI) (tC cB cI) (wC ga cB cI res) t) A) 0 0 A := by
  refine Met.ofW (cc := b_Memory_forgetPending) (maxL := 1) (ret := none) (by decide) rfl ?_
  intro p e s m args below meth c s₁ B hml hv
  obtain ⟨rfl, hP, hK⟩ := hv
  have hx := B.exec
  have hb := B.bytes
  have hr := B.returns
  have hts := atoms_spec (ws := (mw y_Memory_forgetPending b_Memory_forgetPending 1 none)) B.pre
  have htb : ∀ w ∈ tb, w.before [.ref (ga 2)].toArray s = true := fun w h => hts w (mwIn h)
  have hown : s.vm.findClass "LogFs$Memory" = some m.cls := findClass_of_methodNamed B.named
  have hlocks := B.notSynchronized
  have hS : va_S A s.heap s.heap [] := va_S.rf
  have hl := lv_entry ([.ref (ga 2)]) (n := 1) (Nat.le_of_ble_eq_true rfl)
  rw [lg_entry_eq]
  generalize (lg_sl ([.ref (ga 2)]) ++ List.replicate (1 - (lg_sl ([.ref (ga 2)])).length) Slot.unset).toArray = ls at hl ⊢
  have hl : lv_has ls 1 [(0, .ref (ga 2))] := hl
  unfold J_Memory_forgetPending at hJ
  refine lv_aload_n hx hb d_Memory_forgetPending_0 rfl (lv_at hl 0 rfl) ?_
  refine lv_iconst (v := (0 : Int32)) hx hb d_Memory_forgetPending_1 (by decide) ?_
  refine va_put (D := (dC, dI)) (ci := 2) (v := .int (0 : Int32)) (ty := .int) (C := R_Memory) (T := T_Memory) (N := 3) hx hb htb uin_Memory t_Memory t_Memory_ok n_Memory hown hK hP (hDa _) hS 2 rfl rfl 2 (by decide) (htb _ tw78) (fun _ h9 => h9) rfl (by decide +kernel) rfl rfl (Nat.le_of_ble_eq_true rfl) d_Memory_forgetPending_2 (fun H locs hP _ hS => ?_)
  have hP : va_P (dC, dI) cls (wC ga cB cI (s_n σ (0 : Int32))) H := hP
  have hJ := Option.some.inj hJ
  exact W.vret hx hb hr (fun t ht hW => ⟨⟨(), rfl, trivial, kW_end hP hK ht hW (congrArg (fun z => wC ga cB cI z) hJ)⟩, hS.F ht⟩) hS.2.2 d_Memory_forgetPending_5
def J_Memory_load (σ : CS)  : Option (CS) :=
  (J_Blocks_copyAll σ).bind fun x1 => (J_Memory_forgetPending x1).bind fun x2 => some x2
abbrev rm_Memory_load : Room := { frames := 2, cells := 0, slots := 0, locals := 47 }
set_option maxHeartbeats 4000000 in
set_option maxRecDepth 100000 in
theorem c_Memory_load {l : Launch} {dC : Nat → ClassId} {dI : Nat → Nat → Nat} {ga : Nat → Nat} {cB cI : ClassId} {A : Nat → Prop} (hDa : ∀ σ, va_D A (wC ga cB cI σ)) {σ : CS} {res : CS} (hJ : J_Memory_load σ = some res) :
    Met l y_Memory_load (mw y_Memory_load b_Memory_load 2 none) rm_Memory_load (va_Pc [.ref (ga 2), .ref (ga 4)] (kW (dC, dI) (tC cB cI) (wC ga cB cI σ))) (va_Qv (fun (_ : Unit) => True) (fun _ t => kW (dC, dI) (tC cB cI) (wC ga cB cI res) t) A) 0 0 A := by
  refine Met.ofW (cc := b_Memory_load) (maxL := 2) (ret := none) (by decide) rfl ?_
  intro p e s m args below meth c s₁ B hml hv
  obtain ⟨rfl, hP, hK⟩ := hv
  have hx := B.exec
  have hb := B.bytes
  have hr := B.returns
  have hts := atoms_spec (ws := (mw y_Memory_load b_Memory_load 2 none)) B.pre
  have htb : ∀ w ∈ tb, w.before [.ref (ga 2), .ref (ga 4)].toArray s = true := fun w h => hts w (mwIn h)
  have hown : s.vm.findClass "LogFs$Memory" = some m.cls := findClass_of_methodNamed B.named
  have hlocks := B.notSynchronized
  have hS : va_S A s.heap s.heap [] := va_S.rf
  have hl := lv_entry ([.ref (ga 2), .ref (ga 4)]) (n := 2) (Nat.le_of_ble_eq_true rfl)
  rw [lg_entry_eq]
  generalize (lg_sl ([.ref (ga 2), .ref (ga 4)]) ++ List.replicate (2 - (lg_sl ([.ref (ga 2), .ref (ga 4)])).length) Slot.unset).toArray = ls at hl ⊢
  have hl : lv_has ls 2 [(0, .ref (ga 2)), (1, .ref (ga 4))] := hl
  unfold J_Memory_load at hJ
  refine lv_aload_n hx hb d_Memory_load_0 rfl (lv_at hl 0 rfl) ?_
  refine va_get (D := (dC, dI)) (ci := 2) (v := .ref (ga 5)) (C := R_Memory) (T := T_Memory) (N := 3) hx hb htb uin_Memory hown hK hP 2 rfl rfl 0 (by decide) (htb _ tw74) (fun _ h9 => h9) rfl d_Memory_load_1 ?_
  refine lv_aload_n hx hb d_Memory_load_4 rfl (lv_at hl 1 rfl) ?_
  obtain ⟨x1, e1, hJ⟩ := j_bind hJ
  refine va_callv (va_runV (As := [.ref (ga 4)]) (rest := []) ⟨hx, hb, hml, hown, htb⟩ (c_Blocks_copyAll (l := l) (dC := dC) (dI := dI) hDa e1) (xcV 1 htb tw109 tw3 tw106 tw107 tw108 rfl rfl hd_Blocks_copyAll ⟨Nat.le_of_ble_eq_true rfl, Nat.le_of_ble_eq_true rfl⟩) (kW_V hP hK (va_recv (q0 := 5) (ci := 0) hK hP rfl rfl)) rfl rfl hl.1 rfl (lv_room (Nat.le_of_ble_eq_true rfl)) d_Memory_load_5 ⟨Nat.le_of_ble_eq_true rfl, Nat.le_of_ble_eq_true rfl⟩) hS (fun q _ h => h) (fun q h => h) (fun u t H locs ht hvm hw hB _ _ hS => ?_)
  have hP := kW_P hB ht
  refine lv_aload_n hx hb d_Memory_load_8 rfl (lv_at hl 0 rfl) ?_
  obtain ⟨x2, e2, hJ⟩ := j_bind hJ
  refine va_callv (va_runV (As := []) (rest := []) ⟨hx, hb, hml, hown, htb⟩ (c_Memory_forgetPending (l := l) (dC := dC) (dI := dI) hDa e2) (xcV 0 htb tw116 tw4 tw113 tw114 tw115 rfl rfl hd_Memory_forgetPending ⟨Nat.le_of_ble_eq_true rfl, Nat.le_of_ble_eq_true rfl⟩) (kW_V hP hK (va_recv (q0 := 2) (ci := 2) hK hP rfl rfl)) rfl rfl hl.1 rfl (lv_room (Nat.le_of_ble_eq_true rfl)) d_Memory_load_9 ⟨Nat.le_of_ble_eq_true rfl, Nat.le_of_ble_eq_true rfl⟩) hS (fun q _ h => h) (fun q h => h) (fun u t H locs ht hvm hw hB _ _ hS => ?_)
  have hP := kW_P hB ht
  have hJ := Option.some.inj hJ
  exact W.vret hx hb hr (fun t ht hW => ⟨⟨(), rfl, trivial, kW_end hP hK ht hW (congrArg (fun z => wC ga cB cI z) hJ)⟩, hS.F ht⟩) hS.2.2 d_Memory_load_12
def J_Memory_pendingAt (σ : CS) (a1 : Int32) : Option (Int32) :=
  (if a1 < (0 : Int32) then some ((-1) : Int32) else (if (c_n σ) ≤ a1 then some ((-1) : Int32) else (if jin a1 15 = true then some ((c_P σ) a1.toNatClampNeg) else none)))
abbrev rm_Memory_pendingAt : Room := { frames := 0, cells := 0, slots := 0, locals := 0 }
set_option maxHeartbeats 4000000 in
set_option maxRecDepth 100000 in
theorem c_Memory_pendingAt {l : Launch} {dC : Nat → ClassId} {dI : Nat → Nat → Nat} {ga : Nat → Nat} {cB cI : ClassId} {A : Nat → Prop} (hDa : ∀ σ, va_D A (wC ga cB cI σ)) {σ : CS} {a1 : Int32} {res : Int32} (hJ : J_Memory_pendingAt σ a1 = some res) :
    Met l y_Memory_pendingAt (mw y_Memory_pendingAt b_Memory_pendingAt 2 (some .int)) rm_Memory_pendingAt (va_Pc [.ref (ga 2), .int a1] (kW (dC, dI) (tC cB cI) (wC ga cB cI σ))) (va_Qi (fun (x : Int32) (_ : Unit) => x = res) (fun _ t => kW (dC, dI) (tC cB cI) (wC ga cB cI σ) t) A) 0 0 A := by
  refine Met.ofW (cc := b_Memory_pendingAt) (maxL := 2) (ret := (some .int)) (by decide) rfl ?_
  intro p e s m args below meth c s₁ B hml hv
  obtain ⟨rfl, hP, hK⟩ := hv
  have hx := B.exec
  have hb := B.bytes
  have hr := B.returns
  have hts := atoms_spec (ws := (mw y_Memory_pendingAt b_Memory_pendingAt 2 (some .int))) B.pre
  have htb : ∀ w ∈ tb, w.before [.ref (ga 2), .int a1].toArray s = true := fun w h => hts w (mwIn h)
  have hown : s.vm.findClass "LogFs$Memory" = some m.cls := findClass_of_methodNamed B.named
  have hlocks := B.notSynchronized
  have hS : va_S A s.heap s.heap [] := va_S.rf
  have hl := lv_entry ([.ref (ga 2), .int a1]) (n := 2) (Nat.le_of_ble_eq_true rfl)
  rw [lg_entry_eq]
  generalize (lg_sl ([.ref (ga 2), .int a1]) ++ List.replicate (2 - (lg_sl ([.ref (ga 2), .int a1])).length) Slot.unset).toArray = ls at hl ⊢
  have hl : lv_has ls 2 [(0, .ref (ga 2)), (1, .int a1)] := hl
  unfold J_Memory_pendingAt at hJ
  refine lv_iload_n hx hb d_Memory_pendingAt_0 rfl (lv_at hl 1 rfl) ?_
  refine lv_if_lt (tgt := 21) hx hb d_Memory_pendingAt_1 (by decide) (fun h1 => ?_) (fun h1 => ?_)
  · have hJ := j_t hJ h1
    refine lv_iconst (v := ((-1) : Int32)) hx hb d_Memory_pendingAt_21 (by decide) ?_
    have hJ := Option.some.inj hJ
    exact W.iret (v := ((-1) : Int32)) hx hb hr (fun t ht hW => ⟨⟨_, (), rfl, hJ, kW_end hP hK ht hW rfl⟩, hS.F ht⟩) hS.2.2 d_Memory_pendingAt_22
  · have hJ := j_f hJ h1
    refine lv_iload_n hx hb d_Memory_pendingAt_4 rfl (lv_at hl 1 rfl) ?_
    refine lv_aload_n hx hb d_Memory_pendingAt_5 rfl (lv_at hl 0 rfl) ?_
    refine va_get (D := (dC, dI)) (ci := 2) (v := .int (c_n σ)) (C := R_Memory) (T := T_Memory) (N := 3) hx hb htb uin_Memory hown hK hP 2 rfl rfl 2 (by decide) (htb _ tw78) (fun _ h9 => h9) rfl d_Memory_pendingAt_6 ?_
    refine lv_icmp_ge (tgt := 21) hx hb d_Memory_pendingAt_9 (by decide) (fun h2 => ?_) (fun h2 => ?_)
    · have hJ := j_t hJ h2
      refine lv_iconst (v := ((-1) : Int32)) hx hb d_Memory_pendingAt_21 (by decide) ?_
      have hJ := Option.some.inj hJ
      exact W.iret (v := ((-1) : Int32)) hx hb hr (fun t ht hW => ⟨⟨_, (), rfl, hJ, kW_end hP hK ht hW rfl⟩, hS.F ht⟩) hS.2.2 d_Memory_pendingAt_22
    · have hJ := j_f hJ h2
      refine lv_aload_n hx hb d_Memory_pendingAt_12 rfl (lv_at hl 0 rfl) ?_
      refine va_get (D := (dC, dI)) (ci := 2) (v := .ref (ga 8)) (C := R_Memory) (T := T_Memory) (N := 3) hx hb htb uin_Memory hown hK hP 2 rfl rfl 1 (by decide) (htb _ tw77) (fun _ h9 => h9) rfl d_Memory_pendingAt_13 ?_
      refine lv_iload_n hx hb d_Memory_pendingAt_16 rfl (lv_at hl 1 rfl) ?_
      obtain ⟨h3, hJ⟩ := j_g hJ
      refine va_iald hx hb hK hP 8 1 rfl rfl (j_in h3) d_Memory_pendingAt_17 ?_
      refine lv_goto (tgt := 22) hx hb d_Memory_pendingAt_18 (by decide) ?_
      have hJ := Option.some.inj hJ
      exact W.iret (v := ((c_P σ) a1.toNatClampNeg)) hx hb hr (fun t ht hW => ⟨⟨_, (), rfl, hJ, kW_end hP hK ht hW rfl⟩, hS.F ht⟩) hS.2.2 d_Memory_pendingAt_22
def J_Memory_markPending_2_b (k : CS → Int32 → Int32 → Option (CS)) (σ : CS) (v1 : Int32) (v2 : Int32) : Option (CS) :=
  (if (c_n σ) ≤ v2 then (if (15 : Int32) ≤ (c_n σ) then some σ else (if jin (c_n σ) 15 = true then some (s_n (s_P σ (upd (c_P σ) (c_n σ).toNatClampNeg v1)) ((c_n (s_P σ (upd (c_P σ) (c_n σ).toNatClampNeg v1))) + (1 : Int32))) else none)) else (if jin v2 15 = true then (if ((c_P σ) v2.toNatClampNeg) = v1 then some σ else k σ v1 (v2 + (1 : Int32))) else none))
def J_Memory_markPending_2 : Nat → CS → Int32 → Int32 → Option (CS)
  | 0, _, _, _ => none
  | n + 1, σ, v1, v2 => J_Memory_markPending_2_b (J_Memory_markPending_2 n) σ v1 v2
def J_Memory_markPending (σ : CS) (a1 : Int32) : Option (CS) :=
  J_Memory_markPending_2 9000 σ a1 (0 : Int32)
abbrev rm_Memory_markPending : Room := { frames := 0, cells := 0, slots := 0, locals := 0 }
set_option maxHeartbeats 4000000 in
set_option maxRecDepth 100000 in
theorem c_Memory_markPending {l : Launch} {dC : Nat → ClassId} {dI : Nat → Nat → Nat} {ga : Nat → Nat} {cB cI : ClassId} {A : Nat → Prop} (hDa : ∀ σ, va_D A (wC ga cB cI σ)) {σ : CS} {a1 : Int32} {res : CS} (hJ : J_Memory_markPending σ a1 = some res) :
    Met l y_Memory_markPending (mw y_Memory_markPending b_Memory_markPending 3 none) rm_Memory_markPending (va_Pc [.ref (ga 2), .int a1] (kW (dC, dI) (tC cB cI) (wC ga cB cI σ))) (va_Qv (fun (_ : Unit) => True) (fun _ t => kW (dC, dI) (tC cB cI) (wC ga cB cI res) t) A) 0 0 A := by
  refine Met.ofW (cc := b_Memory_markPending) (maxL := 3) (ret := none) (by decide) rfl ?_
  intro p e s m args below meth c s₁ B hml hv
  obtain ⟨rfl, hP, hK⟩ := hv
  have hx := B.exec
  have hb := B.bytes
  have hr := B.returns
  have hts := atoms_spec (ws := (mw y_Memory_markPending b_Memory_markPending 3 none)) B.pre
  have htb : ∀ w ∈ tb, w.before [.ref (ga 2), .int a1].toArray s = true := fun w h => hts w (mwIn h)
  have hown : s.vm.findClass "LogFs$Memory" = some m.cls := findClass_of_methodNamed B.named
  have hlocks := B.notSynchronized
  have hS : va_S A s.heap s.heap [] := va_S.rf
  have hl := lv_entry ([.ref (ga 2), .int a1]) (n := 3) (Nat.le_of_ble_eq_true rfl)
  rw [lg_entry_eq]
  generalize (lg_sl ([.ref (ga 2), .int a1]) ++ List.replicate (3 - (lg_sl ([.ref (ga 2), .int a1])).length) Slot.unset).toArray = ls at hl ⊢
  have hl : lv_has ls 3 [(0, .ref (ga 2)), (1, .int a1)] := hl
  have blk2 : ∀ (n : Nat) (σ : CS) (v1 : Int32) (v2 : Int32) (ls : Array Slot) (H : Heap) (locs : List Loc), J_Memory_markPending_2 n σ v1 v2 = some res → lv_has ls 3 [(0, .ref (ga 2)), (1, .int v1), (2, .int v2)] → va_P (dC, dI) cls (wC ga cB cI σ) H → va_S A s.heap H locs → W p l e (headSpec (mw y_Memory_markPending b_Memory_markPending 3 none) rm_Memory_markPending).room s m [.ref (ga 2), .int a1].toArray below meth c H locs 0 0 (MQ below (va_Qv (fun (_ : Unit) => True) (fun _ t => kW (dC, dI) (tC cB cI) (wC ga cB cI res) t) A) [.ref (ga 2), .int a1].toArray s 0 0 A) (F0 m 2 ls []) := by
    intro n
    induction n with
    | zero => intro σ v1 v2 ls H locs hJ; exact j_none hJ
    | succ n hk =>
      intro σ v1 v2 ls H locs hJ hl hP hS
      have hJ : J_Memory_markPending_2_b (J_Memory_markPending_2 n) σ v1 v2 = some res := hJ
      unfold J_Memory_markPending_2_b at hJ
      refine lv_iload_n hx hb d_Memory_markPending_2 rfl (lv_at hl 2 rfl) ?_
      refine lv_aload_n hx hb d_Memory_markPending_3 rfl (lv_at hl 0 rfl) ?_
      refine va_get (D := (dC, dI)) (ci := 2) (v := .int (c_n σ)) (C := R_Memory) (T := T_Memory) (N := 3) hx hb htb uin_Memory hown hK hP 2 rfl rfl 2 (by decide) (htb _ tw78) (fun _ h9 => h9) rfl d_Memory_markPending_4 ?_
      refine lv_icmp_ge (tgt := 27) hx hb d_Memory_markPending_7 (by decide) (fun h1 => ?_) (fun h1 => ?_)
      · have hJ := j_t hJ h1
        refine lv_aload_n hx hb d_Memory_markPending_27 rfl (lv_at hl 0 rfl) ?_
        refine va_get (D := (dC, dI)) (ci := 2) (v := .int (c_n σ)) (C := R_Memory) (T := T_Memory) (N := 3) hx hb htb uin_Memory hown hK hP 2 rfl rfl 2 (by decide) (htb _ tw78) (fun _ h9 => h9) rfl d_Memory_markPending_28 ?_
        refine lv_bipush (v := (15 : Int32)) hx hb d_Memory_markPending_31 (by decide) ?_
        refine lv_icmp_ge (tgt := 56) hx hb d_Memory_markPending_33 (by decide) (fun h2 => ?_) (fun h2 => ?_)
        · have hJ := j_t hJ h2
          have hJ := Option.some.inj hJ
          exact W.vret hx hb hr (fun t ht hW => ⟨⟨(), rfl, trivial, kW_end hP hK ht hW (congrArg (fun z => wC ga cB cI z) hJ)⟩, hS.F ht⟩) hS.2.2 d_Memory_markPending_56
        · have hJ := j_f hJ h2
          refine lv_aload_n hx hb d_Memory_markPending_36 rfl (lv_at hl 0 rfl) ?_
          refine va_get (D := (dC, dI)) (ci := 2) (v := .ref (ga 8)) (C := R_Memory) (T := T_Memory) (N := 3) hx hb htb uin_Memory hown hK hP 2 rfl rfl 1 (by decide) (htb _ tw77) (fun _ h9 => h9) rfl d_Memory_markPending_37 ?_
          refine lv_aload_n hx hb d_Memory_markPending_40 rfl (lv_at hl 0 rfl) ?_
          refine va_get (D := (dC, dI)) (ci := 2) (v := .int (c_n σ)) (C := R_Memory) (T := T_Memory) (N := 3) hx hb htb uin_Memory hown hK hP 2 rfl rfl 2 (by decide) (htb _ tw78) (fun _ h9 => h9) rfl d_Memory_markPending_41 ?_
          refine lv_iload_n hx hb d_Memory_markPending_44 rfl (lv_at hl 1 rfl) ?_
          obtain ⟨h3, hJ⟩ := j_g hJ
          refine va_iast hx hb hK hP (hDa _) hS 8 1 rfl rfl (j_in h3) d_Memory_markPending_45 (fun H locs hP _ hS => ?_)
          have hP : va_P (dC, dI) cls (wC ga cB cI (s_P σ (upd (c_P σ) (c_n σ).toNatClampNeg v1))) H := hP
          refine lv_aload_n hx hb d_Memory_markPending_46 rfl (lv_at hl 0 rfl) ?_
          refine lv_dup hx hb d_Memory_markPending_47 rfl ?_
          refine va_get (D := (dC, dI)) (ci := 2) (v := .int (c_n (s_P σ (upd (c_P σ) (c_n σ).toNatClampNeg v1)))) (C := R_Memory) (T := T_Memory) (N := 3) hx hb htb uin_Memory hown hK hP 2 rfl rfl 2 (by decide) (htb _ tw78) (fun _ h9 => h9) rfl d_Memory_markPending_48 ?_
          refine lv_iconst (v := (1 : Int32)) hx hb d_Memory_markPending_51 (by decide) ?_
          refine lv_iadd hx hb d_Memory_markPending_52 ?_
          refine va_put (D := (dC, dI)) (ci := 2) (v := .int ((c_n (s_P σ (upd (c_P σ) (c_n σ).toNatClampNeg v1))) + (1 : Int32))) (ty := .int) (C := R_Memory) (T := T_Memory) (N := 3) hx hb htb uin_Memory t_Memory t_Memory_ok n_Memory hown hK hP (hDa _) hS 2 rfl rfl 2 (by decide) (htb _ tw78) (fun _ h9 => h9) rfl (by decide +kernel) rfl rfl (Nat.le_of_ble_eq_true rfl) d_Memory_markPending_53 (fun H locs hP _ hS => ?_)
          have hP : va_P (dC, dI) cls (wC ga cB cI (s_n (s_P σ (upd (c_P σ) (c_n σ).toNatClampNeg v1)) ((c_n (s_P σ (upd (c_P σ) (c_n σ).toNatClampNeg v1))) + (1 : Int32)))) H := hP
          have hJ := Option.some.inj hJ
          exact W.vret hx hb hr (fun t ht hW => ⟨⟨(), rfl, trivial, kW_end hP hK ht hW (congrArg (fun z => wC ga cB cI z) hJ)⟩, hS.F ht⟩) hS.2.2 d_Memory_markPending_56
      · have hJ := j_f hJ h1
        refine lv_aload_n hx hb d_Memory_markPending_10 rfl (lv_at hl 0 rfl) ?_
        refine va_get (D := (dC, dI)) (ci := 2) (v := .ref (ga 8)) (C := R_Memory) (T := T_Memory) (N := 3) hx hb htb uin_Memory hown hK hP 2 rfl rfl 1 (by decide) (htb _ tw77) (fun _ h9 => h9) rfl d_Memory_markPending_11 ?_
        refine lv_iload_n hx hb d_Memory_markPending_14 rfl (lv_at hl 2 rfl) ?_
        obtain ⟨h4, hJ⟩ := j_g hJ
        refine va_iald hx hb hK hP 8 1 rfl rfl (j_in h4) d_Memory_markPending_15 ?_
        refine lv_iload_n hx hb d_Memory_markPending_16 rfl (lv_at hl 1 rfl) ?_
        refine lv_icmp_ne (tgt := 21) hx hb d_Memory_markPending_17 (by decide) (fun h5 => ?_) (fun h5 => ?_)
        · have hJ := j_f hJ h5
          refine lv_iinc (k := 2) (v := (v2 + (1 : Int32))) hx hb d_Memory_markPending_21 hl rfl rfl (Nat.le_of_ble_eq_true rfl) rfl (fun ls hl => ?_)
          have hl : lv_has ls 3 [(2, .int (v2 + (1 : Int32))), (0, .ref (ga 2)), (1, .int v1)] := hl
          refine lv_goto (tgt := 2) hx hb d_Memory_markPending_24 (by decide) ?_
          exact hk _ _ _ _ _ _ hJ (lv_sub hl [1, 2, 0] rfl) hP hS
        · have hJ := j_t hJ h5
          have hJ := Option.some.inj hJ
          exact W.vret hx hb hr (fun t ht hW => ⟨⟨(), rfl, trivial, kW_end hP hK ht hW (congrArg (fun z => wC ga cB cI z) hJ)⟩, hS.F ht⟩) hS.2.2 d_Memory_markPending_20
  unfold J_Memory_markPending at hJ
  refine lv_iconst (v := (0 : Int32)) hx hb d_Memory_markPending_0 (by decide) ?_
  refine lv_istore_n hx hb d_Memory_markPending_1 rfl hl (Nat.le_of_ble_eq_true rfl) rfl (fun ls hl => ?_)
  have hl : lv_has ls 3 [(2, .int (0 : Int32)), (0, .ref (ga 2)), (1, .int a1)] := hl
  exact blk2 9000 _ _ _ _ _ _ hJ (lv_sub hl [1, 2, 0] rfl) hP hS
def J_Memory_change (σ : CS) (a1 : Int32) (a2 : Int32) (a3 : Int32) : Option (CS) :=
  (J_Memory_markPending σ a1).bind fun x1 => (J_Blocks_set_m x1 a1 a2 a3).bind fun x2 => some x2
abbrev rm_Memory_change : Room := { frames := 1, cells := 0, slots := 0, locals := 23 }
set_option maxHeartbeats 4000000 in
set_option maxRecDepth 100000 in
theorem c_Memory_change {l : Launch} {dC : Nat → ClassId} {dI : Nat → Nat → Nat} {ga : Nat → Nat} {cB cI : ClassId} {A : Nat → Prop} (hDa : ∀ σ, va_D A (wC ga cB cI σ)) {σ : CS} {a1 : Int32} {a2 : Int32} {a3 : Int32} {res : CS} (hJ : J_Memory_change σ a1 a2 a3 = some res) :
    Met l y_Memory_change (mw y_Memory_change b_Memory_change 4 none) rm_Memory_change (va_Pc [.ref (ga 2), .int a1, .int a2, .int a3] (kW (dC, dI) (tC cB cI) (wC ga cB cI σ))) (va_Qv (fun (_ : Unit) => True) (fun _ t => kW (dC, dI) (tC cB cI) (wC ga cB cI res) t) A) 0 0 A := by
  refine Met.ofW (cc := b_Memory_change) (maxL := 4) (ret := none) (by decide) rfl ?_
  intro p e s m args below meth c s₁ B hml hv
  obtain ⟨rfl, hP, hK⟩ := hv
  have hx := B.exec
  have hb := B.bytes
  have hr := B.returns
  have hts := atoms_spec (ws := (mw y_Memory_change b_Memory_change 4 none)) B.pre
  have htb : ∀ w ∈ tb, w.before [.ref (ga 2), .int a1, .int a2, .int a3].toArray s = true := fun w h => hts w (mwIn h)
  have hown : s.vm.findClass "LogFs$Memory" = some m.cls := findClass_of_methodNamed B.named
  have hlocks := B.notSynchronized
  have hS : va_S A s.heap s.heap [] := va_S.rf
  have hl := lv_entry ([.ref (ga 2), .int a1, .int a2, .int a3]) (n := 4) (Nat.le_of_ble_eq_true rfl)
  rw [lg_entry_eq]
  generalize (lg_sl ([.ref (ga 2), .int a1, .int a2, .int a3]) ++ List.replicate (4 - (lg_sl ([.ref (ga 2), .int a1, .int a2, .int a3])).length) Slot.unset).toArray = ls at hl ⊢
  have hl : lv_has ls 4 [(0, .ref (ga 2)), (1, .int a1), (2, .int a2), (3, .int a3)] := hl
  unfold J_Memory_change at hJ
  refine lv_aload_n hx hb d_Memory_change_0 rfl (lv_at hl 0 rfl) ?_
  refine lv_iload_n hx hb d_Memory_change_1 rfl (lv_at hl 1 rfl) ?_
  obtain ⟨x1, e1, hJ⟩ := j_bind hJ
  refine va_callv (va_runV (As := [.int a1]) (rest := []) ⟨hx, hb, hml, hown, htb⟩ (c_Memory_markPending (l := l) (dC := dC) (dI := dI) hDa e1) (xcV 1 htb tw380 tw4 tw377 tw379 ts_Memory_markPending rfl rfl hd_Memory_markPending ⟨Nat.le_of_ble_eq_true rfl, Nat.le_of_ble_eq_true rfl⟩) (kW_V hP hK (va_recv (q0 := 2) (ci := 2) hK hP rfl rfl)) rfl rfl hl.1 rfl (lv_room (Nat.le_of_ble_eq_true rfl)) d_Memory_change_2 ⟨Nat.le_of_ble_eq_true rfl, Nat.le_of_ble_eq_true rfl⟩) hS (fun q _ h => h) (fun q h => h) (fun u t H locs ht hvm hw hB _ _ hS => ?_)
  have hP := kW_P hB ht
  refine lv_aload_n hx hb d_Memory_change_5 rfl (lv_at hl 0 rfl) ?_
  refine va_get (D := (dC, dI)) (ci := 2) (v := .ref (ga 5)) (C := R_Memory) (T := T_Memory) (N := 3) hx hb htb uin_Memory hown hK hP 2 rfl rfl 0 (by decide) (htb _ tw74) (fun _ h9 => h9) rfl d_Memory_change_6 ?_
  refine lv_iload_n hx hb d_Memory_change_9 rfl (lv_at hl 1 rfl) ?_
  refine lv_iload_n hx hb d_Memory_change_10 rfl (lv_at hl 2 rfl) ?_
  refine lv_iload_n hx hb d_Memory_change_11 rfl (lv_at hl 3 rfl) ?_
  obtain ⟨x2, e2, hJ⟩ := j_bind hJ
  refine va_callv (va_runV (As := [.int a1, .int a2, .int a3]) (rest := []) ⟨hx, hb, hml, hown, htb⟩ (c_Blocks_set_m (l := l) (dC := dC) (dI := dI) hDa e2) (xcV 3 htb tw43 tw3 tw381 tw41 tw42 rfl rfl hd_Blocks_set ⟨Nat.le_of_ble_eq_true rfl, Nat.le_of_ble_eq_true rfl⟩) (kW_V hP hK (va_recv (q0 := 5) (ci := 0) hK hP rfl rfl)) rfl rfl hl.1 rfl (lv_room (Nat.le_of_ble_eq_true rfl)) d_Memory_change_12 ⟨Nat.le_of_ble_eq_true rfl, Nat.le_of_ble_eq_true rfl⟩) hS (fun q _ h => h) (fun q h => h) (fun u t H locs ht hvm hw hB _ _ hS => ?_)
  have hP := kW_P hB ht
  have hJ := Option.some.inj hJ
  exact W.vret hx hb hr (fun t ht hW => ⟨⟨(), rfl, trivial, kW_end hP hK ht hW (congrArg (fun z => wC ga cB cI z) hJ)⟩, hS.F ht⟩) hS.2.2 d_Memory_change_15
def J_Memory_clear (σ : CS) (a1 : Int32) : Option (CS) :=
  (J_Memory_markPending σ a1).bind fun x1 => (J_Blocks_clear_m x1 a1).bind fun x2 => some x2
abbrev rm_Memory_clear : Room := { frames := 2, cells := 0, slots := 0, locals := 45 }
set_option maxHeartbeats 4000000 in
set_option maxRecDepth 100000 in
theorem c_Memory_clear {l : Launch} {dC : Nat → ClassId} {dI : Nat → Nat → Nat} {ga : Nat → Nat} {cB cI : ClassId} {A : Nat → Prop} (hDa : ∀ σ, va_D A (wC ga cB cI σ)) {σ : CS} {a1 : Int32} {res : CS} (hJ : J_Memory_clear σ a1 = some res) :
    Met l y_Memory_clear (mw y_Memory_clear b_Memory_clear 2 none) rm_Memory_clear (va_Pc [.ref (ga 2), .int a1] (kW (dC, dI) (tC cB cI) (wC ga cB cI σ))) (va_Qv (fun (_ : Unit) => True) (fun _ t => kW (dC, dI) (tC cB cI) (wC ga cB cI res) t) A) 0 0 A := by
  refine Met.ofW (cc := b_Memory_clear) (maxL := 2) (ret := none) (by decide) rfl ?_
  intro p e s m args below meth c s₁ B hml hv
  obtain ⟨rfl, hP, hK⟩ := hv
  have hx := B.exec
  have hb := B.bytes
  have hr := B.returns
  have hts := atoms_spec (ws := (mw y_Memory_clear b_Memory_clear 2 none)) B.pre
  have htb : ∀ w ∈ tb, w.before [.ref (ga 2), .int a1].toArray s = true := fun w h => hts w (mwIn h)
  have hown : s.vm.findClass "LogFs$Memory" = some m.cls := findClass_of_methodNamed B.named
  have hlocks := B.notSynchronized
  have hS : va_S A s.heap s.heap [] := va_S.rf
  have hl := lv_entry ([.ref (ga 2), .int a1]) (n := 2) (Nat.le_of_ble_eq_true rfl)
  rw [lg_entry_eq]
  generalize (lg_sl ([.ref (ga 2), .int a1]) ++ List.replicate (2 - (lg_sl ([.ref (ga 2), .int a1])).length) Slot.unset).toArray = ls at hl ⊢
  have hl : lv_has ls 2 [(0, .ref (ga 2)), (1, .int a1)] := hl
  unfold J_Memory_clear at hJ
  refine lv_aload_n hx hb d_Memory_clear_0 rfl (lv_at hl 0 rfl) ?_
  refine lv_iload_n hx hb d_Memory_clear_1 rfl (lv_at hl 1 rfl) ?_
  obtain ⟨x1, e1, hJ⟩ := j_bind hJ
  refine va_callv (va_runV (As := [.int a1]) (rest := []) ⟨hx, hb, hml, hown, htb⟩ (c_Memory_markPending (l := l) (dC := dC) (dI := dI) hDa e1) (xcV 1 htb tw380 tw4 tw377 tw379 ts_Memory_markPending rfl rfl hd_Memory_markPending ⟨Nat.le_of_ble_eq_true rfl, Nat.le_of_ble_eq_true rfl⟩) (kW_V hP hK (va_recv (q0 := 2) (ci := 2) hK hP rfl rfl)) rfl rfl hl.1 rfl (lv_room (Nat.le_of_ble_eq_true rfl)) d_Memory_clear_2 ⟨Nat.le_of_ble_eq_true rfl, Nat.le_of_ble_eq_true rfl⟩) hS (fun q _ h => h) (fun q h => h) (fun u t H locs ht hvm hw hB _ _ hS => ?_)
  have hP := kW_P hB ht
  refine lv_aload_n hx hb d_Memory_clear_5 rfl (lv_at hl 0 rfl) ?_
  refine va_get (D := (dC, dI)) (ci := 2) (v := .ref (ga 5)) (C := R_Memory) (T := T_Memory) (N := 3) hx hb htb uin_Memory hown hK hP 2 rfl rfl 0 (by decide) (htb _ tw74) (fun _ h9 => h9) rfl d_Memory_clear_6 ?_
  refine lv_iload_n hx hb d_Memory_clear_9 rfl (lv_at hl 1 rfl) ?_
  obtain ⟨x2, e2, hJ⟩ := j_bind hJ
  refine va_callv (va_runV (As := [.int a1]) (rest := []) ⟨hx, hb, hml, hown, htb⟩ (c_Blocks_clear_m (l := l) (dC := dC) (dI := dI) hDa e2) (xcV 1 htb tw338 tw3 tw411 tw336 tw337 rfl rfl hd_Blocks_clear ⟨Nat.le_of_ble_eq_true rfl, Nat.le_of_ble_eq_true rfl⟩) (kW_V hP hK (va_recv (q0 := 5) (ci := 0) hK hP rfl rfl)) rfl rfl hl.1 rfl (lv_room (Nat.le_of_ble_eq_true rfl)) d_Memory_clear_10 ⟨Nat.le_of_ble_eq_true rfl, Nat.le_of_ble_eq_true rfl⟩) hS (fun q _ h => h) (fun q h => h) (fun u t H locs ht hvm hw hB _ _ hS => ?_)
  have hP := kW_P hB ht
  have hJ := Option.some.inj hJ
  exact W.vret hx hb hr (fun t ht hW => ⟨⟨(), rfl, trivial, kW_end hP hK ht hW (congrArg (fun z => wC ga cB cI z) hJ)⟩, hS.F ht⟩) hS.2.2 d_Memory_clear_13
def J_Disk_spendWrite (σ : CS)  : Option (Int32 × CS) :=
  (if (c_f σ) = (0 : Int32) then some ((0 : Int32), (s_o (s_f σ ((-1) : Int32)) (1 : Int32))) else (if (c_f σ) ≤ (0 : Int32) then some ((1 : Int32), (s_w σ ((c_w σ) + (1 : Int32)))) else some ((1 : Int32), (s_w (s_f σ ((c_f σ) - (1 : Int32))) ((c_w (s_f σ ((c_f σ) - (1 : Int32)))) + (1 : Int32))))))
abbrev rm_Disk_spendWrite : Room := { frames := 0, cells := 0, slots := 0, locals := 0 }
set_option maxHeartbeats 4000000 in
set_option maxRecDepth 100000 in
theorem c_Disk_spendWrite {l : Launch} {dC : Nat → ClassId} {dI : Nat → Nat → Nat} {ga : Nat → Nat} {cB cI : ClassId} {A : Nat → Prop} (hDa : ∀ σ, va_D A (wC ga cB cI σ)) {σ : CS} {res : Int32 × CS} (hJ : J_Disk_spendWrite σ = some res) :
    Met l y_Disk_spendWrite (mw y_Disk_spendWrite b_Disk_spendWrite 1 (some .boolean)) rm_Disk_spendWrite (va_Pc [.ref (ga 1)] (kW (dC, dI) (tC cB cI) (wC ga cB cI σ))) (va_Qi (fun (x : Int32) (_ : Unit) => x = res.1) (fun _ t => kW (dC, dI) (tC cB cI) (wC ga cB cI res.2) t) A) 0 0 A := by
  refine Met.ofW (cc := b_Disk_spendWrite) (maxL := 1) (ret := (some .boolean)) (by decide) rfl ?_
  intro p e s m args below meth c s₁ B hml hv
  obtain ⟨rfl, hP, hK⟩ := hv
  have hx := B.exec
  have hb := B.bytes
  have hr := B.returns
  have hts := atoms_spec (ws := (mw y_Disk_spendWrite b_Disk_spendWrite 1 (some .boolean))) B.pre
  have htb : ∀ w ∈ tb, w.before [.ref (ga 1)].toArray s = true := fun w h => hts w (mwIn h)
  have hown : s.vm.findClass "LogFs$Disk" = some m.cls := findClass_of_methodNamed B.named
  have hlocks := B.notSynchronized
  have hS : va_S A s.heap s.heap [] := va_S.rf
  have hl := lv_entry ([.ref (ga 1)]) (n := 1) (Nat.le_of_ble_eq_true rfl)
  rw [lg_entry_eq]
  generalize (lg_sl ([.ref (ga 1)]) ++ List.replicate (1 - (lg_sl ([.ref (ga 1)])).length) Slot.unset).toArray = ls at hl ⊢
  have hl : lv_has ls 1 [(0, .ref (ga 1))] := hl
  unfold J_Disk_spendWrite at hJ
  refine lv_aload_n hx hb d_Disk_spendWrite_0 rfl (lv_at hl 0 rfl) ?_
  refine va_get (D := (dC, dI)) (ci := 1) (v := .int (c_f σ)) (C := R_Disk) (T := T_Disk) (N := 4) hx hb htb uin_Disk hown hK hP 1 rfl rfl 2 (by decide) (htb _ tw52) (fun _ h9 => h9) rfl d_Disk_spendWrite_1 ?_
  refine lv_if_ne (tgt := 19) hx hb d_Disk_spendWrite_4 (by decide) (fun h1 => ?_) (fun h1 => ?_)
  · have hJ := j_f hJ h1
    refine lv_aload_n hx hb d_Disk_spendWrite_19 rfl (lv_at hl 0 rfl) ?_
    refine va_get (D := (dC, dI)) (ci := 1) (v := .int (c_f σ)) (C := R_Disk) (T := T_Disk) (N := 4) hx hb htb uin_Disk hown hK hP 1 rfl rfl 2 (by decide) (htb _ tw52) (fun _ h9 => h9) rfl d_Disk_spendWrite_20 ?_
    refine lv_if_le (tgt := 36) hx hb d_Disk_spendWrite_23 (by decide) (fun h2 => ?_) (fun h2 => ?_)
    · have hJ := j_t hJ h2
      refine lv_aload_n hx hb d_Disk_spendWrite_36 rfl (lv_at hl 0 rfl) ?_
      refine lv_dup hx hb d_Disk_spendWrite_37 rfl ?_
      refine va_get (D := (dC, dI)) (ci := 1) (v := .int (c_w σ)) (C := R_Disk) (T := T_Disk) (N := 4) hx hb htb uin_Disk hown hK hP 1 rfl rfl 1 (by decide) (htb _ tw50) (fun _ h9 => h9) rfl d_Disk_spendWrite_38 ?_
      refine lv_iconst (v := (1 : Int32)) hx hb d_Disk_spendWrite_41 (by decide) ?_
      refine lv_iadd hx hb d_Disk_spendWrite_42 ?_
      refine va_put (D := (dC, dI)) (ci := 1) (v := .int ((c_w σ) + (1 : Int32))) (ty := .int) (C := R_Disk) (T := T_Disk) (N := 4) hx hb htb uin_Disk t_Disk t_Disk_ok n_Disk hown hK hP (hDa _) hS 1 rfl rfl 1 (by decide) (htb _ tw50) (fun _ h9 => h9) rfl (by decide +kernel) rfl rfl (Nat.le_of_ble_eq_true rfl) d_Disk_spendWrite_43 (fun H locs hP _ hS => ?_)
      have hP : va_P (dC, dI) cls (wC ga cB cI (s_w σ ((c_w σ) + (1 : Int32)))) H := hP
      refine lv_iconst (v := (1 : Int32)) hx hb d_Disk_spendWrite_46 (by decide) ?_
      have hJ := Option.some.inj hJ
      exact W.zret (v := (1 : Int32)) (ty := .boolean) hx hb hr (by decide +kernel) (fun t ht hW => ⟨⟨_, (), rfl, (j_p1 hJ), kW_end hP hK ht hW (congrArg (fun z => wC ga cB cI z) (j_p2 hJ))⟩, hS.F ht⟩) hS.2.2 d_Disk_spendWrite_47
    · have hJ := j_f hJ h2
      refine lv_aload_n hx hb d_Disk_spendWrite_26 rfl (lv_at hl 0 rfl) ?_
      refine lv_dup hx hb d_Disk_spendWrite_27 rfl ?_
      refine va_get (D := (dC, dI)) (ci := 1) (v := .int (c_f σ)) (C := R_Disk) (T := T_Disk) (N := 4) hx hb htb uin_Disk hown hK hP 1 rfl rfl 2 (by decide) (htb _ tw52) (fun _ h9 => h9) rfl d_Disk_spendWrite_28 ?_
      refine lv_iconst (v := (1 : Int32)) hx hb d_Disk_spendWrite_31 (by decide) ?_
      refine lv_isub hx hb d_Disk_spendWrite_32 ?_
      refine va_put (D := (dC, dI)) (ci := 1) (v := .int ((c_f σ) - (1 : Int32))) (ty := .int) (C := R_Disk) (T := T_Disk) (N := 4) hx hb htb uin_Disk t_Disk t_Disk_ok n_Disk hown hK hP (hDa _) hS 1 rfl rfl 2 (by decide) (htb _ tw52) (fun _ h9 => h9) rfl (by decide +kernel) rfl rfl (Nat.le_of_ble_eq_true rfl) d_Disk_spendWrite_33 (fun H locs hP _ hS => ?_)
      have hP : va_P (dC, dI) cls (wC ga cB cI (s_f σ ((c_f σ) - (1 : Int32)))) H := hP
      refine lv_aload_n hx hb d_Disk_spendWrite_36 rfl (lv_at hl 0 rfl) ?_
      refine lv_dup hx hb d_Disk_spendWrite_37 rfl ?_
      refine va_get (D := (dC, dI)) (ci := 1) (v := .int (c_w (s_f σ ((c_f σ) - (1 : Int32))))) (C := R_Disk) (T := T_Disk) (N := 4) hx hb htb uin_Disk hown hK hP 1 rfl rfl 1 (by decide) (htb _ tw50) (fun _ h9 => h9) rfl d_Disk_spendWrite_38 ?_
      refine lv_iconst (v := (1 : Int32)) hx hb d_Disk_spendWrite_41 (by decide) ?_
      refine lv_iadd hx hb d_Disk_spendWrite_42 ?_
      refine va_put (D := (dC, dI)) (ci := 1) (v := .int ((c_w (s_f σ ((c_f σ) - (1 : Int32)))) + (1 : Int32))) (ty := .int) (C := R_Disk) (T := T_Disk) (N := 4) hx hb htb uin_Disk t_Disk t_Disk_ok n_Disk hown hK hP (hDa _) hS 1 rfl rfl 1 (by decide) (htb _ tw50) (fun _ h9 => h9) rfl (by decide +kernel) rfl rfl (Nat.le_of_ble_eq_true rfl) d_Disk_spendWrite_43 (fun H locs hP _ hS => ?_)
      have hP : va_P (dC, dI) cls (wC ga cB cI (s_w (s_f σ ((c_f σ) - (1 : Int32))) ((c_w (s_f σ ((c_f σ) - (1 : Int32)))) + (1 : Int32)))) H := hP
      refine lv_iconst (v := (1 : Int32)) hx hb d_Disk_spendWrite_46 (by decide) ?_
      have hJ := Option.some.inj hJ
      exact W.zret (v := (1 : Int32)) (ty := .boolean) hx hb hr (by decide +kernel) (fun t ht hW => ⟨⟨_, (), rfl, (j_p1 hJ), kW_end hP hK ht hW (congrArg (fun z => wC ga cB cI z) (j_p2 hJ))⟩, hS.F ht⟩) hS.2.2 d_Disk_spendWrite_47
  · have hJ := j_t hJ h1
    refine lv_aload_n hx hb d_Disk_spendWrite_7 rfl (lv_at hl 0 rfl) ?_
    refine lv_iconst (v := ((-1) : Int32)) hx hb d_Disk_spendWrite_8 (by decide) ?_
    refine va_put (D := (dC, dI)) (ci := 1) (v := .int ((-1) : Int32)) (ty := .int) (C := R_Disk) (T := T_Disk) (N := 4) hx hb htb uin_Disk t_Disk t_Disk_ok n_Disk hown hK hP (hDa _) hS 1 rfl rfl 2 (by decide) (htb _ tw52) (fun _ h9 => h9) rfl (by decide +kernel) rfl rfl (Nat.le_of_ble_eq_true rfl) d_Disk_spendWrite_9 (fun H locs hP _ hS => ?_)
    have hP : va_P (dC, dI) cls (wC ga cB cI (s_f σ ((-1) : Int32))) H := hP
    refine lv_aload_n hx hb d_Disk_spendWrite_12 rfl (lv_at hl 0 rfl) ?_
    refine lv_iconst (v := (1 : Int32)) hx hb d_Disk_spendWrite_13 (by decide) ?_
    refine va_put (D := (dC, dI)) (ci := 1) (v := .int (1 : Int32)) (ty := .boolean) (C := R_Disk) (T := T_Disk) (N := 4) hx hb htb uin_Disk t_Disk t_Disk_ok n_Disk hown hK hP (hDa _) hS 1 rfl rfl 3 (by decide) (htb _ tw54) (fun _ h9 => h9) rfl (by decide +kernel) (by decide +kernel) (by decide +kernel) (Nat.le_of_ble_eq_true rfl) d_Disk_spendWrite_14 (fun H locs hP _ hS => ?_)
    have hP : va_P (dC, dI) cls (wC ga cB cI (s_o (s_f σ ((-1) : Int32)) (1 : Int32))) H := hP
    refine lv_iconst (v := (0 : Int32)) hx hb d_Disk_spendWrite_17 (by decide) ?_
    have hJ := Option.some.inj hJ
    exact W.zret (v := (0 : Int32)) (ty := .boolean) hx hb hr (by decide +kernel) (fun t ht hW => ⟨⟨_, (), rfl, (j_p1 hJ), kW_end hP hK ht hW (congrArg (fun z => wC ga cB cI z) (j_p2 hJ))⟩, hS.F ht⟩) hS.2.2 d_Disk_spendWrite_18
def J_Disk_storeBlock_m (σ : CS) (a1 : Int32) (a2 : Int32) : Option (Int32 × CS) :=
  (J_Disk_spendWrite σ).bind fun x1 => (if x1.1 = (0 : Int32) then some ((0 : Int32), x1.2) else (J_Blocks_copyBlock_md x1.2 a1 a2).bind fun x3 => some ((1 : Int32), x3))
abbrev rm_Disk_storeBlock_m : Room := { frames := 2, cells := 0, slots := 0, locals := 49 }
set_option maxHeartbeats 4000000 in
set_option maxRecDepth 100000 in
theorem c_Disk_storeBlock_m {l : Launch} {dC : Nat → ClassId} {dI : Nat → Nat → Nat} {ga : Nat → Nat} {cB cI : ClassId} {A : Nat → Prop} (hDa : ∀ σ, va_D A (wC ga cB cI σ)) {σ : CS} {a1 : Int32} {a2 : Int32} {res : Int32 × CS} (hJ : J_Disk_storeBlock_m σ a1 a2 = some res) :
    Met l y_Disk_storeBlock (mw y_Disk_storeBlock b_Disk_storeBlock 4 (some .boolean)) rm_Disk_storeBlock_m (va_Pc [.ref (ga 1), .ref (ga 5), .int a1, .int a2] (kW (dC, dI) (tC cB cI) (wC ga cB cI σ))) (va_Qi (fun (x : Int32) (_ : Unit) => x = res.1) (fun _ t => kW (dC, dI) (tC cB cI) (wC ga cB cI res.2) t) A) 0 0 A := by
  refine Met.ofW (cc := b_Disk_storeBlock) (maxL := 4) (ret := (some .boolean)) (by decide) rfl ?_
  intro p e s m args below meth c s₁ B hml hv
  obtain ⟨rfl, hP, hK⟩ := hv
  have hx := B.exec
  have hb := B.bytes
  have hr := B.returns
  have hts := atoms_spec (ws := (mw y_Disk_storeBlock b_Disk_storeBlock 4 (some .boolean))) B.pre
  have htb : ∀ w ∈ tb, w.before [.ref (ga 1), .ref (ga 5), .int a1, .int a2].toArray s = true := fun w h => hts w (mwIn h)
  have hown : s.vm.findClass "LogFs$Disk" = some m.cls := findClass_of_methodNamed B.named
  have hlocks := B.notSynchronized
  have hS : va_S A s.heap s.heap [] := va_S.rf
  have hl := lv_entry ([.ref (ga 1), .ref (ga 5), .int a1, .int a2]) (n := 4) (Nat.le_of_ble_eq_true rfl)
  rw [lg_entry_eq]
  generalize (lg_sl ([.ref (ga 1), .ref (ga 5), .int a1, .int a2]) ++ List.replicate (4 - (lg_sl ([.ref (ga 1), .ref (ga 5), .int a1, .int a2])).length) Slot.unset).toArray = ls at hl ⊢
  have hl : lv_has ls 4 [(0, .ref (ga 1)), (1, .ref (ga 5)), (2, .int a1), (3, .int a2)] := hl
  unfold J_Disk_storeBlock_m at hJ
  refine lv_aload_n hx hb d_Disk_storeBlock_0 rfl (lv_at hl 0 rfl) ?_
  obtain ⟨x1, e1, hJ⟩ := j_bind hJ
  refine va_calli (va_runV (As := []) (rest := []) ⟨hx, hb, hml, hown, htb⟩ (c_Disk_spendWrite (l := l) (dC := dC) (dI := dI) hDa e1) (xcV 0 htb tw326 tw2 tw323 tw325 ts_Disk_spendWrite rfl rfl hd_Disk_spendWrite ⟨Nat.le_of_ble_eq_true rfl, Nat.le_of_ble_eq_true rfl⟩) (kW_V hP hK (va_recv (q0 := 1) (ci := 1) hK hP rfl rfl)) rfl rfl hl.1 rfl (lv_room (Nat.le_of_ble_eq_true rfl)) d_Disk_storeBlock_1 ⟨Nat.le_of_ble_eq_true rfl, Nat.le_of_ble_eq_true rfl⟩) hS (fun q _ h => h) (fun q h => h) (fun r0 u t H locs ht hvm hw hB _ _ hS => ?_)
  subst r0
  have hP := kW_P hB ht
  refine lv_if_ne (tgt := 9) hx hb d_Disk_storeBlock_4 (by decide) (fun h2 => ?_) (fun h2 => ?_)
  · have hJ := j_f hJ h2
    refine lv_aload_n hx hb d_Disk_storeBlock_9 rfl (lv_at hl 0 rfl) ?_
    refine va_get (D := (dC, dI)) (ci := 1) (v := .ref (ga 4)) (C := R_Disk) (T := T_Disk) (N := 4) hx hb htb uin_Disk hown hK hP 1 rfl rfl 0 (by decide) (htb _ tw48) (fun _ h9 => h9) rfl d_Disk_storeBlock_10 ?_
    refine lv_aload_n hx hb d_Disk_storeBlock_13 rfl (lv_at hl 1 rfl) ?_
    refine lv_iload_n hx hb d_Disk_storeBlock_14 rfl (lv_at hl 2 rfl) ?_
    refine lv_iload_n hx hb d_Disk_storeBlock_15 rfl (lv_at hl 3 rfl) ?_
    obtain ⟨x3, e3, hJ⟩ := j_bind hJ
    refine va_callv (va_runV (As := [.ref (ga 5), .int a1, .int a2]) (rest := []) ⟨hx, hb, hml, hown, htb⟩ (c_Blocks_copyBlock_md (l := l) (dC := dC) (dI := dI) hDa e3) (xcV 3 htb tw330 tw3 tw327 tw328 tw329 rfl rfl hd_Blocks_copyBlock ⟨Nat.le_of_ble_eq_true rfl, Nat.le_of_ble_eq_true rfl⟩) (kW_V hP hK (va_recv (q0 := 4) (ci := 0) hK hP rfl rfl)) rfl rfl hl.1 rfl (lv_room (Nat.le_of_ble_eq_true rfl)) d_Disk_storeBlock_16 ⟨Nat.le_of_ble_eq_true rfl, Nat.le_of_ble_eq_true rfl⟩) hS (fun q _ h => h) (fun q h => h) (fun u t H locs ht hvm hw hB _ _ hS => ?_)
    have hP := kW_P hB ht
    refine lv_iconst (v := (1 : Int32)) hx hb d_Disk_storeBlock_19 (by decide) ?_
    have hJ := Option.some.inj hJ
    exact W.zret (v := (1 : Int32)) (ty := .boolean) hx hb hr (by decide +kernel) (fun t ht hW => ⟨⟨_, (), rfl, (j_p1 hJ), kW_end hP hK ht hW (congrArg (fun z => wC ga cB cI z) (j_p2 hJ))⟩, hS.F ht⟩) hS.2.2 d_Disk_storeBlock_20
  · have hJ := j_t hJ h2
    refine lv_iconst (v := (0 : Int32)) hx hb d_Disk_storeBlock_7 (by decide) ?_
    have hJ := Option.some.inj hJ
    exact W.zret (v := (0 : Int32)) (ty := .boolean) hx hb hr (by decide +kernel) (fun t ht hW => ⟨⟨_, (), rfl, (j_p1 hJ), kW_end hP hK ht hW (congrArg (fun z => wC ga cB cI z) (j_p2 hJ))⟩, hS.F ht⟩) hS.2.2 d_Disk_storeBlock_8
def J_Disk_storeBlock_d (σ : CS) (a1 : Int32) (a2 : Int32) : Option (Int32 × CS) :=
  (J_Disk_spendWrite σ).bind fun x1 => (if x1.1 = (0 : Int32) then some ((0 : Int32), x1.2) else (J_Blocks_copyBlock_dd x1.2 a1 a2).bind fun x3 => some ((1 : Int32), x3))
abbrev rm_Disk_storeBlock_d : Room := { frames := 2, cells := 0, slots := 0, locals := 49 }
set_option maxHeartbeats 4000000 in
set_option maxRecDepth 100000 in
theorem c_Disk_storeBlock_d {l : Launch} {dC : Nat → ClassId} {dI : Nat → Nat → Nat} {ga : Nat → Nat} {cB cI : ClassId} {A : Nat → Prop} (hDa : ∀ σ, va_D A (wC ga cB cI σ)) {σ : CS} {a1 : Int32} {a2 : Int32} {res : Int32 × CS} (hJ : J_Disk_storeBlock_d σ a1 a2 = some res) :
    Met l y_Disk_storeBlock (mw y_Disk_storeBlock b_Disk_storeBlock 4 (some .boolean)) rm_Disk_storeBlock_d (va_Pc [.ref (ga 1), .ref (ga 4), .int a1, .int a2] (kW (dC, dI) (tC cB cI) (wC ga cB cI σ))) (va_Qi (fun (x : Int32) (_ : Unit) => x = res.1) (fun _ t => kW (dC, dI) (tC cB cI) (wC ga cB cI res.2) t) A) 0 0 A := by
  refine Met.ofW (cc := b_Disk_storeBlock) (maxL := 4) (ret := (some .boolean)) (by decide) rfl ?_
  intro p e s m args below meth c s₁ B hml hv
  obtain ⟨rfl, hP, hK⟩ := hv
  have hx := B.exec
  have hb := B.bytes
  have hr := B.returns
  have hts := atoms_spec (ws := (mw y_Disk_storeBlock b_Disk_storeBlock 4 (some .boolean))) B.pre
  have htb : ∀ w ∈ tb, w.before [.ref (ga 1), .ref (ga 4), .int a1, .int a2].toArray s = true := fun w h => hts w (mwIn h)
  have hown : s.vm.findClass "LogFs$Disk" = some m.cls := findClass_of_methodNamed B.named
  have hlocks := B.notSynchronized
  have hS : va_S A s.heap s.heap [] := va_S.rf
  have hl := lv_entry ([.ref (ga 1), .ref (ga 4), .int a1, .int a2]) (n := 4) (Nat.le_of_ble_eq_true rfl)
  rw [lg_entry_eq]
  generalize (lg_sl ([.ref (ga 1), .ref (ga 4), .int a1, .int a2]) ++ List.replicate (4 - (lg_sl ([.ref (ga 1), .ref (ga 4), .int a1, .int a2])).length) Slot.unset).toArray = ls at hl ⊢
  have hl : lv_has ls 4 [(0, .ref (ga 1)), (1, .ref (ga 4)), (2, .int a1), (3, .int a2)] := hl
  unfold J_Disk_storeBlock_d at hJ
  refine lv_aload_n hx hb d_Disk_storeBlock_0 rfl (lv_at hl 0 rfl) ?_
  obtain ⟨x1, e1, hJ⟩ := j_bind hJ
  refine va_calli (va_runV (As := []) (rest := []) ⟨hx, hb, hml, hown, htb⟩ (c_Disk_spendWrite (l := l) (dC := dC) (dI := dI) hDa e1) (xcV 0 htb tw326 tw2 tw323 tw325 ts_Disk_spendWrite rfl rfl hd_Disk_spendWrite ⟨Nat.le_of_ble_eq_true rfl, Nat.le_of_ble_eq_true rfl⟩) (kW_V hP hK (va_recv (q0 := 1) (ci := 1) hK hP rfl rfl)) rfl rfl hl.1 rfl (lv_room (Nat.le_of_ble_eq_true rfl)) d_Disk_storeBlock_1 ⟨Nat.le_of_ble_eq_true rfl, Nat.le_of_ble_eq_true rfl⟩) hS (fun q _ h => h) (fun q h => h) (fun r0 u t H locs ht hvm hw hB _ _ hS => ?_)
  subst r0
  have hP := kW_P hB ht
  refine lv_if_ne (tgt := 9) hx hb d_Disk_storeBlock_4 (by decide) (fun h2 => ?_) (fun h2 => ?_)
  · have hJ := j_f hJ h2
    refine lv_aload_n hx hb d_Disk_storeBlock_9 rfl (lv_at hl 0 rfl) ?_
    refine va_get (D := (dC, dI)) (ci := 1) (v := .ref (ga 4)) (C := R_Disk) (T := T_Disk) (N := 4) hx hb htb uin_Disk hown hK hP 1 rfl rfl 0 (by decide) (htb _ tw48) (fun _ h9 => h9) rfl d_Disk_storeBlock_10 ?_
    refine lv_aload_n hx hb d_Disk_storeBlock_13 rfl (lv_at hl 1 rfl) ?_
    refine lv_iload_n hx hb d_Disk_storeBlock_14 rfl (lv_at hl 2 rfl) ?_
    refine lv_iload_n hx hb d_Disk_storeBlock_15 rfl (lv_at hl 3 rfl) ?_
    obtain ⟨x3, e3, hJ⟩ := j_bind hJ
    refine va_callv (va_runV (As := [.ref (ga 4), .int a1, .int a2]) (rest := []) ⟨hx, hb, hml, hown, htb⟩ (c_Blocks_copyBlock_dd (l := l) (dC := dC) (dI := dI) hDa e3) (xcV 3 htb tw330 tw3 tw327 tw328 tw329 rfl rfl hd_Blocks_copyBlock ⟨Nat.le_of_ble_eq_true rfl, Nat.le_of_ble_eq_true rfl⟩) (kW_V hP hK (va_recv (q0 := 4) (ci := 0) hK hP rfl rfl)) rfl rfl hl.1 rfl (lv_room (Nat.le_of_ble_eq_true rfl)) d_Disk_storeBlock_16 ⟨Nat.le_of_ble_eq_true rfl, Nat.le_of_ble_eq_true rfl⟩) hS (fun q _ h => h) (fun q h => h) (fun u t H locs ht hvm hw hB _ _ hS => ?_)
    have hP := kW_P hB ht
    refine lv_iconst (v := (1 : Int32)) hx hb d_Disk_storeBlock_19 (by decide) ?_
    have hJ := Option.some.inj hJ
    exact W.zret (v := (1 : Int32)) (ty := .boolean) hx hb hr (by decide +kernel) (fun t ht hW => ⟨⟨_, (), rfl, (j_p1 hJ), kW_end hP hK ht hW (congrArg (fun z => wC ga cB cI z) (j_p2 hJ))⟩, hS.F ht⟩) hS.2.2 d_Disk_storeBlock_20
  · have hJ := j_t hJ h2
    refine lv_iconst (v := (0 : Int32)) hx hb d_Disk_storeBlock_7 (by decide) ?_
    have hJ := Option.some.inj hJ
    exact W.zret (v := (0 : Int32)) (ty := .boolean) hx hb hr (by decide +kernel) (fun t ht hW => ⟨⟨_, (), rfl, (j_p1 hJ), kW_end hP hK ht hW (congrArg (fun z => wC ga cB cI z) (j_p2 hJ))⟩, hS.F ht⟩) hS.2.2 d_Disk_storeBlock_8
def J_Disk_clearHead (σ : CS)  : Option (Int32 × CS) :=
  (J_Disk_spendWrite σ).bind fun x1 => (if x1.1 = (0 : Int32) then some ((0 : Int32), x1.2) else (J_Blocks_clear_d x1.2 (1 : Int32)).bind fun x3 => some ((1 : Int32), x3))
abbrev rm_Disk_clearHead : Room := { frames := 2, cells := 0, slots := 0, locals := 45 }
set_option maxHeartbeats 4000000 in
set_option maxRecDepth 100000 in
theorem c_Disk_clearHead {l : Launch} {dC : Nat → ClassId} {dI : Nat → Nat → Nat} {ga : Nat → Nat} {cB cI : ClassId} {A : Nat → Prop} (hDa : ∀ σ, va_D A (wC ga cB cI σ)) {σ : CS} {res : Int32 × CS} (hJ : J_Disk_clearHead σ = some res) :
    Met l y_Disk_clearHead (mw y_Disk_clearHead b_Disk_clearHead 1 (some .boolean)) rm_Disk_clearHead (va_Pc [.ref (ga 1)] (kW (dC, dI) (tC cB cI) (wC ga cB cI σ))) (va_Qi (fun (x : Int32) (_ : Unit) => x = res.1) (fun _ t => kW (dC, dI) (tC cB cI) (wC ga cB cI res.2) t) A) 0 0 A := by
  refine Met.ofW (cc := b_Disk_clearHead) (maxL := 1) (ret := (some .boolean)) (by decide) rfl ?_
  intro p e s m args below meth c s₁ B hml hv
  obtain ⟨rfl, hP, hK⟩ := hv
  have hx := B.exec
  have hb := B.bytes
  have hr := B.returns
  have hts := atoms_spec (ws := (mw y_Disk_clearHead b_Disk_clearHead 1 (some .boolean))) B.pre
  have htb : ∀ w ∈ tb, w.before [.ref (ga 1)].toArray s = true := fun w h => hts w (mwIn h)
  have hown : s.vm.findClass "LogFs$Disk" = some m.cls := findClass_of_methodNamed B.named
  have hlocks := B.notSynchronized
  have hS : va_S A s.heap s.heap [] := va_S.rf
  have hl := lv_entry ([.ref (ga 1)]) (n := 1) (Nat.le_of_ble_eq_true rfl)
  rw [lg_entry_eq]
  generalize (lg_sl ([.ref (ga 1)]) ++ List.replicate (1 - (lg_sl ([.ref (ga 1)])).length) Slot.unset).toArray = ls at hl ⊢
  have hl : lv_has ls 1 [(0, .ref (ga 1))] := hl
  unfold J_Disk_clearHead at hJ
  refine lv_aload_n hx hb d_Disk_clearHead_0 rfl (lv_at hl 0 rfl) ?_
  obtain ⟨x1, e1, hJ⟩ := j_bind hJ
  refine va_calli (va_runV (As := []) (rest := []) ⟨hx, hb, hml, hown, htb⟩ (c_Disk_spendWrite (l := l) (dC := dC) (dI := dI) hDa e1) (xcV 0 htb tw326 tw2 tw323 tw325 ts_Disk_spendWrite rfl rfl hd_Disk_spendWrite ⟨Nat.le_of_ble_eq_true rfl, Nat.le_of_ble_eq_true rfl⟩) (kW_V hP hK (va_recv (q0 := 1) (ci := 1) hK hP rfl rfl)) rfl rfl hl.1 rfl (lv_room (Nat.le_of_ble_eq_true rfl)) d_Disk_clearHead_1 ⟨Nat.le_of_ble_eq_true rfl, Nat.le_of_ble_eq_true rfl⟩) hS (fun q _ h => h) (fun q h => h) (fun r0 u t H locs ht hvm hw hB _ _ hS => ?_)
  subst r0
  have hP := kW_P hB ht
  refine lv_if_ne (tgt := 9) hx hb d_Disk_clearHead_4 (by decide) (fun h2 => ?_) (fun h2 => ?_)
  · have hJ := j_f hJ h2
    refine lv_aload_n hx hb d_Disk_clearHead_9 rfl (lv_at hl 0 rfl) ?_
    refine va_get (D := (dC, dI)) (ci := 1) (v := .ref (ga 4)) (C := R_Disk) (T := T_Disk) (N := 4) hx hb htb uin_Disk hown hK hP 1 rfl rfl 0 (by decide) (htb _ tw48) (fun _ h9 => h9) rfl d_Disk_clearHead_10 ?_
    refine lv_iconst (v := (1 : Int32)) hx hb d_Disk_clearHead_13 (by decide) ?_
    obtain ⟨x3, e3, hJ⟩ := j_bind hJ
    refine va_callv (va_runV (As := [.int (1 : Int32)]) (rest := []) ⟨hx, hb, hml, hown, htb⟩ (c_Blocks_clear_d (l := l) (dC := dC) (dI := dI) hDa e3) (xcV 1 htb tw338 tw3 tw335 tw336 tw337 rfl rfl hd_Blocks_clear ⟨Nat.le_of_ble_eq_true rfl, Nat.le_of_ble_eq_true rfl⟩) (kW_V hP hK (va_recv (q0 := 4) (ci := 0) hK hP rfl rfl)) rfl rfl hl.1 rfl (lv_room (Nat.le_of_ble_eq_true rfl)) d_Disk_clearHead_14 ⟨Nat.le_of_ble_eq_true rfl, Nat.le_of_ble_eq_true rfl⟩) hS (fun q _ h => h) (fun q h => h) (fun u t H locs ht hvm hw hB _ _ hS => ?_)
    have hP := kW_P hB ht
    refine lv_iconst (v := (1 : Int32)) hx hb d_Disk_clearHead_17 (by decide) ?_
    have hJ := Option.some.inj hJ
    exact W.zret (v := (1 : Int32)) (ty := .boolean) hx hb hr (by decide +kernel) (fun t ht hW => ⟨⟨_, (), rfl, (j_p1 hJ), kW_end hP hK ht hW (congrArg (fun z => wC ga cB cI z) (j_p2 hJ))⟩, hS.F ht⟩) hS.2.2 d_Disk_clearHead_18
  · have hJ := j_t hJ h2
    refine lv_iconst (v := (0 : Int32)) hx hb d_Disk_clearHead_7 (by decide) ?_
    have hJ := Option.some.inj hJ
    exact W.zret (v := (0 : Int32)) (ty := .boolean) hx hb hr (by decide +kernel) (fun t ht hW => ⟨⟨_, (), rfl, (j_p1 hJ), kW_end hP hK ht hW (congrArg (fun z => wC ga cB cI z) (j_p2 hJ))⟩, hS.F ht⟩) hS.2.2 d_Disk_clearHead_8
def J_Disk_storeHead_32_b (k : CS → Int32 → Option (Int32 × CS)) (σ : CS) (v2 : Int32) : Option (Int32 × CS) :=
  (if (c_n σ) ≤ v2 then some ((1 : Int32), σ) else (J_Memory_pendingAt σ v2).bind fun x6 => (J_Blocks_set_d σ (1 : Int32) ((1 : Int32) + v2) x6).bind fun x7 => k x7 (v2 + (1 : Int32)))
def J_Disk_storeHead_32 : Nat → CS → Int32 → Option (Int32 × CS)
  | 0, _, _ => none
  | n + 1, σ, v2 => J_Disk_storeHead_32_b (J_Disk_storeHead_32 n) σ v2
def J_Disk_storeHead (σ : CS)  : Option (Int32 × CS) :=
  (J_Disk_spendWrite σ).bind fun x1 => (if x1.1 = (0 : Int32) then some ((0 : Int32), x1.2) else (J_Blocks_clear_d x1.2 (1 : Int32)).bind fun x3 => (J_Blocks_set_d x3 (1 : Int32) (0 : Int32) (c_n x3)).bind fun x4 => J_Disk_storeHead_32 9000 x4 (0 : Int32))
abbrev rm_Disk_storeHead : Room := { frames := 2, cells := 0, slots := 0, locals := 45 }
set_option maxHeartbeats 4000000 in
set_option maxRecDepth 100000 in
theorem c_Disk_storeHead {l : Launch} {dC : Nat → ClassId} {dI : Nat → Nat → Nat} {ga : Nat → Nat} {cB cI : ClassId} {A : Nat → Prop} (hDa : ∀ σ, va_D A (wC ga cB cI σ)) {σ : CS} {res : Int32 × CS} (hJ : J_Disk_storeHead σ = some res) :
    Met l y_Disk_storeHead (mw y_Disk_storeHead b_Disk_storeHead 3 (some .boolean)) rm_Disk_storeHead (va_Pc [.ref (ga 1), .ref (ga 2)] (kW (dC, dI) (tC cB cI) (wC ga cB cI σ))) (va_Qi (fun (x : Int32) (_ : Unit) => x = res.1) (fun _ t => kW (dC, dI) (tC cB cI) (wC ga cB cI res.2) t) A) 0 0 A := by
  refine Met.ofW (cc := b_Disk_storeHead) (maxL := 3) (ret := (some .boolean)) (by decide) rfl ?_
  intro p e s m args below meth c s₁ B hml hv
  obtain ⟨rfl, hP, hK⟩ := hv
  have hx := B.exec
  have hb := B.bytes
  have hr := B.returns
  have hts := atoms_spec (ws := (mw y_Disk_storeHead b_Disk_storeHead 3 (some .boolean))) B.pre
  have htb : ∀ w ∈ tb, w.before [.ref (ga 1), .ref (ga 2)].toArray s = true := fun w h => hts w (mwIn h)
  have hown : s.vm.findClass "LogFs$Disk" = some m.cls := findClass_of_methodNamed B.named
  have hlocks := B.notSynchronized
  have hS : va_S A s.heap s.heap [] := va_S.rf
  have hl := lv_entry ([.ref (ga 1), .ref (ga 2)]) (n := 3) (Nat.le_of_ble_eq_true rfl)
  rw [lg_entry_eq]
  generalize (lg_sl ([.ref (ga 1), .ref (ga 2)]) ++ List.replicate (3 - (lg_sl ([.ref (ga 1), .ref (ga 2)])).length) Slot.unset).toArray = ls at hl ⊢
  have hl : lv_has ls 3 [(0, .ref (ga 1)), (1, .ref (ga 2))] := hl
  have blk32 : ∀ (n : Nat) (σ : CS) (v2 : Int32) (ls : Array Slot) (H : Heap) (locs : List Loc), J_Disk_storeHead_32 n σ v2 = some res → lv_has ls 3 [(0, .ref (ga 1)), (1, .ref (ga 2)), (2, .int v2)] → va_P (dC, dI) cls (wC ga cB cI σ) H → va_S A s.heap H locs → W p l e (headSpec (mw y_Disk_storeHead b_Disk_storeHead 3 (some .boolean)) rm_Disk_storeHead).room s m [.ref (ga 1), .ref (ga 2)].toArray below meth c H locs 0 0 (MQ below (va_Qi (fun (x : Int32) (_ : Unit) => x = res.1) (fun _ t => kW (dC, dI) (tC cB cI) (wC ga cB cI res.2) t) A) [.ref (ga 1), .ref (ga 2)].toArray s 0 0 A) (F0 m 32 ls []) := by
    intro n
    induction n with
    | zero => intro σ v2 ls H locs hJ; exact j_none hJ
    | succ n hk =>
      intro σ v2 ls H locs hJ hl hP hS
      have hJ : J_Disk_storeHead_32_b (J_Disk_storeHead_32 n) σ v2 = some res := hJ
      unfold J_Disk_storeHead_32_b at hJ
      refine lv_iload_n hx hb d_Disk_storeHead_32 rfl (lv_at hl 2 rfl) ?_
      refine lv_aload_n hx hb d_Disk_storeHead_33 rfl (lv_at hl 1 rfl) ?_
      refine va_getN (D := (dC, dI)) (ci := 2) (v := .int (c_n σ)) (C := R_Memory) (T := T_Memory) (N := 3) hx hb htb uin_Memory hown hK hP 2 rfl rfl 2 (by decide) (htb _ tw79) (fun _ h9 => h9) rfl d_Disk_storeHead_34 ?_
      refine lv_icmp_ge (tgt := 62) hx hb d_Disk_storeHead_37 (by decide) (fun h5 => ?_) (fun h5 => ?_)
      · have hJ := j_t hJ h5
        refine lv_iconst (v := (1 : Int32)) hx hb d_Disk_storeHead_62 (by decide) ?_
        have hJ := Option.some.inj hJ
        exact W.zret (v := (1 : Int32)) (ty := .boolean) hx hb hr (by decide +kernel) (fun t ht hW => ⟨⟨_, (), rfl, (j_p1 hJ), kW_end hP hK ht hW (congrArg (fun z => wC ga cB cI z) (j_p2 hJ))⟩, hS.F ht⟩) hS.2.2 d_Disk_storeHead_63
      · have hJ := j_f hJ h5
        refine lv_aload_n hx hb d_Disk_storeHead_40 rfl (lv_at hl 0 rfl) ?_
        refine va_get (D := (dC, dI)) (ci := 1) (v := .ref (ga 4)) (C := R_Disk) (T := T_Disk) (N := 4) hx hb htb uin_Disk hown hK hP 1 rfl rfl 0 (by decide) (htb _ tw48) (fun _ h9 => h9) rfl d_Disk_storeHead_41 ?_
        refine lv_iconst (v := (1 : Int32)) hx hb d_Disk_storeHead_44 (by decide) ?_
        refine lv_iconst (v := (1 : Int32)) hx hb d_Disk_storeHead_45 (by decide) ?_
        refine lv_iload_n hx hb d_Disk_storeHead_46 rfl (lv_at hl 2 rfl) ?_
        refine lv_iadd hx hb d_Disk_storeHead_47 ?_
        refine lv_aload_n hx hb d_Disk_storeHead_48 rfl (lv_at hl 1 rfl) ?_
        refine lv_iload_n hx hb d_Disk_storeHead_49 rfl (lv_at hl 2 rfl) ?_
        obtain ⟨x6, e6, hJ⟩ := j_bind hJ
        refine va_calli (va_runV (As := [.int v2]) (rest := [.int ((1 : Int32) + v2), .int (1 : Int32), .ref (ga 4)]) ⟨hx, hb, hml, hown, htb⟩ (c_Memory_pendingAt (l := l) (dC := dC) (dI := dI) hDa e6) (xcV 1 htb tw171 tw4 tw318 tw169 tw170 rfl rfl hd_Memory_pendingAt ⟨Nat.le_of_ble_eq_true rfl, Nat.le_of_ble_eq_true rfl⟩) (kW_V hP hK (va_recv (q0 := 2) (ci := 2) hK hP rfl rfl)) rfl rfl hl.1 rfl (lv_room (Nat.le_of_ble_eq_true rfl)) d_Disk_storeHead_50 ⟨Nat.le_of_ble_eq_true rfl, Nat.le_of_ble_eq_true rfl⟩) hS (fun q _ h => h) (fun q h => h) (fun r0 u t H locs ht hvm hw hB _ _ hS => ?_)
        subst r0
        have hP := kW_P hB ht
        obtain ⟨x7, e7, hJ⟩ := j_bind hJ
        refine va_callv (va_runV (As := [.int (1 : Int32), .int ((1 : Int32) + v2), .int x6]) (rest := []) ⟨hx, hb, hml, hown, htb⟩ (c_Blocks_set_d (l := l) (dC := dC) (dI := dI) hDa e7) (xcV 3 htb tw43 tw3 tw40 tw41 tw42 rfl rfl hd_Blocks_set ⟨Nat.le_of_ble_eq_true rfl, Nat.le_of_ble_eq_true rfl⟩) (kW_V hP hK (va_recv (q0 := 4) (ci := 0) hK hP rfl rfl)) rfl rfl hl.1 rfl (lv_room (Nat.le_of_ble_eq_true rfl)) d_Disk_storeHead_53 ⟨Nat.le_of_ble_eq_true rfl, Nat.le_of_ble_eq_true rfl⟩) hS (fun q _ h => h) (fun q h => h) (fun u t H locs ht hvm hw hB _ _ hS => ?_)
        have hP := kW_P hB ht
        refine lv_iinc (k := 2) (v := (v2 + (1 : Int32))) hx hb d_Disk_storeHead_56 hl rfl rfl (Nat.le_of_ble_eq_true rfl) rfl (fun ls hl => ?_)
        have hl : lv_has ls 3 [(2, .int (v2 + (1 : Int32))), (0, .ref (ga 1)), (1, .ref (ga 2))] := hl
        refine lv_goto (tgt := 32) hx hb d_Disk_storeHead_59 (by decide) ?_
        exact hk _ _ _ _ _ hJ (lv_sub hl [1, 2, 0] rfl) hP hS
  unfold J_Disk_storeHead at hJ
  refine lv_aload_n hx hb d_Disk_storeHead_0 rfl (lv_at hl 0 rfl) ?_
  obtain ⟨x1, e1, hJ⟩ := j_bind hJ
  refine va_calli (va_runV (As := []) (rest := []) ⟨hx, hb, hml, hown, htb⟩ (c_Disk_spendWrite (l := l) (dC := dC) (dI := dI) hDa e1) (xcV 0 htb tw326 tw2 tw323 tw325 ts_Disk_spendWrite rfl rfl hd_Disk_spendWrite ⟨Nat.le_of_ble_eq_true rfl, Nat.le_of_ble_eq_true rfl⟩) (kW_V hP hK (va_recv (q0 := 1) (ci := 1) hK hP rfl rfl)) rfl rfl hl.1 rfl (lv_room (Nat.le_of_ble_eq_true rfl)) d_Disk_storeHead_1 ⟨Nat.le_of_ble_eq_true rfl, Nat.le_of_ble_eq_true rfl⟩) hS (fun q _ h => h) (fun q h => h) (fun r0 u t H locs ht hvm hw hB _ _ hS => ?_)
  subst r0
  have hP := kW_P hB ht
  refine lv_if_ne (tgt := 9) hx hb d_Disk_storeHead_4 (by decide) (fun h2 => ?_) (fun h2 => ?_)
  · have hJ := j_f hJ h2
    refine lv_aload_n hx hb d_Disk_storeHead_9 rfl (lv_at hl 0 rfl) ?_
    refine va_get (D := (dC, dI)) (ci := 1) (v := .ref (ga 4)) (C := R_Disk) (T := T_Disk) (N := 4) hx hb htb uin_Disk hown hK hP 1 rfl rfl 0 (by decide) (htb _ tw48) (fun _ h9 => h9) rfl d_Disk_storeHead_10 ?_
    refine lv_iconst (v := (1 : Int32)) hx hb d_Disk_storeHead_13 (by decide) ?_
    obtain ⟨x3, e3, hJ⟩ := j_bind hJ
    refine va_callv (va_runV (As := [.int (1 : Int32)]) (rest := []) ⟨hx, hb, hml, hown, htb⟩ (c_Blocks_clear_d (l := l) (dC := dC) (dI := dI) hDa e3) (xcV 1 htb tw338 tw3 tw335 tw336 tw337 rfl rfl hd_Blocks_clear ⟨Nat.le_of_ble_eq_true rfl, Nat.le_of_ble_eq_true rfl⟩) (kW_V hP hK (va_recv (q0 := 4) (ci := 0) hK hP rfl rfl)) rfl rfl hl.1 rfl (lv_room (Nat.le_of_ble_eq_true rfl)) d_Disk_storeHead_14 ⟨Nat.le_of_ble_eq_true rfl, Nat.le_of_ble_eq_true rfl⟩) hS (fun q _ h => h) (fun q h => h) (fun u t H locs ht hvm hw hB _ _ hS => ?_)
    have hP := kW_P hB ht
    refine lv_aload_n hx hb d_Disk_storeHead_17 rfl (lv_at hl 0 rfl) ?_
    refine va_get (D := (dC, dI)) (ci := 1) (v := .ref (ga 4)) (C := R_Disk) (T := T_Disk) (N := 4) hx hb htb uin_Disk hown hK hP 1 rfl rfl 0 (by decide) (htb _ tw48) (fun _ h9 => h9) rfl d_Disk_storeHead_18 ?_
    refine lv_iconst (v := (1 : Int32)) hx hb d_Disk_storeHead_21 (by decide) ?_
    refine lv_iconst (v := (0 : Int32)) hx hb d_Disk_storeHead_22 (by decide) ?_
    refine lv_aload_n hx hb d_Disk_storeHead_23 rfl (lv_at hl 1 rfl) ?_
    refine va_getN (D := (dC, dI)) (ci := 2) (v := .int (c_n x3)) (C := R_Memory) (T := T_Memory) (N := 3) hx hb htb uin_Memory hown hK hP 2 rfl rfl 2 (by decide) (htb _ tw79) (fun _ h9 => h9) rfl d_Disk_storeHead_24 ?_
    obtain ⟨x4, e4, hJ⟩ := j_bind hJ
    refine va_callv (va_runV (As := [.int (1 : Int32), .int (0 : Int32), .int (c_n x3)]) (rest := []) ⟨hx, hb, hml, hown, htb⟩ (c_Blocks_set_d (l := l) (dC := dC) (dI := dI) hDa e4) (xcV 3 htb tw43 tw3 tw40 tw41 tw42 rfl rfl hd_Blocks_set ⟨Nat.le_of_ble_eq_true rfl, Nat.le_of_ble_eq_true rfl⟩) (kW_V hP hK (va_recv (q0 := 4) (ci := 0) hK hP rfl rfl)) rfl rfl hl.1 rfl (lv_room (Nat.le_of_ble_eq_true rfl)) d_Disk_storeHead_27 ⟨Nat.le_of_ble_eq_true rfl, Nat.le_of_ble_eq_true rfl⟩) hS (fun q _ h => h) (fun q h => h) (fun u t H locs ht hvm hw hB _ _ hS => ?_)
    have hP := kW_P hB ht
    refine lv_iconst (v := (0 : Int32)) hx hb d_Disk_storeHead_30 (by decide) ?_
    refine lv_istore_n hx hb d_Disk_storeHead_31 rfl hl (Nat.le_of_ble_eq_true rfl) rfl (fun ls hl => ?_)
    have hl : lv_has ls 3 [(2, .int (0 : Int32)), (0, .ref (ga 1)), (1, .ref (ga 2))] := hl
    exact blk32 9000 _ _ _ _ _ hJ (lv_sub hl [1, 2, 0] rfl) hP hS
  · have hJ := j_t hJ h2
    refine lv_iconst (v := (0 : Int32)) hx hb d_Disk_storeHead_7 (by decide) ?_
    have hJ := Option.some.inj hJ
    exact W.zret (v := (0 : Int32)) (ty := .boolean) hx hb hr (by decide +kernel) (fun t ht hW => ⟨⟨_, (), rfl, (j_p1 hJ), kW_end hP hK ht hW (congrArg (fun z => wC ga cB cI z) (j_p2 hJ))⟩, hS.F ht⟩) hS.2.2 d_Disk_storeHead_8
def J_Disk_storeInLog_2_b (k : CS → Int32 → Option (Int32 × CS)) (σ : CS) (v2 : Int32) : Option (Int32 × CS) :=
  (if (c_n σ) ≤ v2 then some ((1 : Int32), σ) else (J_Memory_pendingAt σ v2).bind fun x2 => (J_Disk_storeBlock_m σ x2 ((2 : Int32) + v2)).bind fun x3 => (if x3.1 = (0 : Int32) then some ((0 : Int32), x3.2) else k x3.2 (v2 + (1 : Int32))))
def J_Disk_storeInLog_2 : Nat → CS → Int32 → Option (Int32 × CS)
  | 0, _, _ => none
  | n + 1, σ, v2 => J_Disk_storeInLog_2_b (J_Disk_storeInLog_2 n) σ v2
def J_Disk_storeInLog (σ : CS)  : Option (Int32 × CS) :=
  J_Disk_storeInLog_2 9000 σ (0 : Int32)
abbrev rm_Disk_storeInLog : Room := { frames := 3, cells := 0, slots := 0, locals := 72 }
set_option maxHeartbeats 4000000 in
set_option maxRecDepth 100000 in
theorem c_Disk_storeInLog {l : Launch} {dC : Nat → ClassId} {dI : Nat → Nat → Nat} {ga : Nat → Nat} {cB cI : ClassId} {A : Nat → Prop} (hDa : ∀ σ, va_D A (wC ga cB cI σ)) {σ : CS} {res : Int32 × CS} (hJ : J_Disk_storeInLog σ = some res) :
    Met l y_Disk_storeInLog (mw y_Disk_storeInLog b_Disk_storeInLog 3 (some .boolean)) rm_Disk_storeInLog (va_Pc [.ref (ga 1), .ref (ga 2)] (kW (dC, dI) (tC cB cI) (wC ga cB cI σ))) (va_Qi (fun (x : Int32) (_ : Unit) => x = res.1) (fun _ t => kW (dC, dI) (tC cB cI) (wC ga cB cI res.2) t) A) 0 0 A := by
  refine Met.ofW (cc := b_Disk_storeInLog) (maxL := 3) (ret := (some .boolean)) (by decide) rfl ?_
  intro p e s m args below meth c s₁ B hml hv
  obtain ⟨rfl, hP, hK⟩ := hv
  have hx := B.exec
  have hb := B.bytes
  have hr := B.returns
  have hts := atoms_spec (ws := (mw y_Disk_storeInLog b_Disk_storeInLog 3 (some .boolean))) B.pre
  have htb : ∀ w ∈ tb, w.before [.ref (ga 1), .ref (ga 2)].toArray s = true := fun w h => hts w (mwIn h)
  have hown : s.vm.findClass "LogFs$Disk" = some m.cls := findClass_of_methodNamed B.named
  have hlocks := B.notSynchronized
  have hS : va_S A s.heap s.heap [] := va_S.rf
  have hl := lv_entry ([.ref (ga 1), .ref (ga 2)]) (n := 3) (Nat.le_of_ble_eq_true rfl)
  rw [lg_entry_eq]
  generalize (lg_sl ([.ref (ga 1), .ref (ga 2)]) ++ List.replicate (3 - (lg_sl ([.ref (ga 1), .ref (ga 2)])).length) Slot.unset).toArray = ls at hl ⊢
  have hl : lv_has ls 3 [(0, .ref (ga 1)), (1, .ref (ga 2))] := hl
  have blk2 : ∀ (n : Nat) (σ : CS) (v2 : Int32) (ls : Array Slot) (H : Heap) (locs : List Loc), J_Disk_storeInLog_2 n σ v2 = some res → lv_has ls 3 [(0, .ref (ga 1)), (1, .ref (ga 2)), (2, .int v2)] → va_P (dC, dI) cls (wC ga cB cI σ) H → va_S A s.heap H locs → W p l e (headSpec (mw y_Disk_storeInLog b_Disk_storeInLog 3 (some .boolean)) rm_Disk_storeInLog).room s m [.ref (ga 1), .ref (ga 2)].toArray below meth c H locs 0 0 (MQ below (va_Qi (fun (x : Int32) (_ : Unit) => x = res.1) (fun _ t => kW (dC, dI) (tC cB cI) (wC ga cB cI res.2) t) A) [.ref (ga 1), .ref (ga 2)].toArray s 0 0 A) (F0 m 2 ls []) := by
    intro n
    induction n with
    | zero => intro σ v2 ls H locs hJ; exact j_none hJ
    | succ n hk =>
      intro σ v2 ls H locs hJ hl hP hS
      have hJ : J_Disk_storeInLog_2_b (J_Disk_storeInLog_2 n) σ v2 = some res := hJ
      unfold J_Disk_storeInLog_2_b at hJ
      refine lv_iload_n hx hb d_Disk_storeInLog_2 rfl (lv_at hl 2 rfl) ?_
      refine lv_aload_n hx hb d_Disk_storeInLog_3 rfl (lv_at hl 1 rfl) ?_
      refine va_getN (D := (dC, dI)) (ci := 2) (v := .int (c_n σ)) (C := R_Memory) (T := T_Memory) (N := 3) hx hb htb uin_Memory hown hK hP 2 rfl rfl 2 (by decide) (htb _ tw79) (fun _ h9 => h9) rfl d_Disk_storeInLog_4 ?_
      refine lv_icmp_ge (tgt := 37) hx hb d_Disk_storeInLog_7 (by decide) (fun h1 => ?_) (fun h1 => ?_)
      · have hJ := j_t hJ h1
        refine lv_iconst (v := (1 : Int32)) hx hb d_Disk_storeInLog_37 (by decide) ?_
        have hJ := Option.some.inj hJ
        exact W.zret (v := (1 : Int32)) (ty := .boolean) hx hb hr (by decide +kernel) (fun t ht hW => ⟨⟨_, (), rfl, (j_p1 hJ), kW_end hP hK ht hW (congrArg (fun z => wC ga cB cI z) (j_p2 hJ))⟩, hS.F ht⟩) hS.2.2 d_Disk_storeInLog_38
      · have hJ := j_f hJ h1
        refine lv_aload_n hx hb d_Disk_storeInLog_10 rfl (lv_at hl 0 rfl) ?_
        refine lv_aload_n hx hb d_Disk_storeInLog_11 rfl (lv_at hl 1 rfl) ?_
        refine va_getN (D := (dC, dI)) (ci := 2) (v := .ref (ga 5)) (C := R_Memory) (T := T_Memory) (N := 3) hx hb htb uin_Memory hown hK hP 2 rfl rfl 0 (by decide) (htb _ tw75) (fun _ h9 => h9) rfl d_Disk_storeInLog_12 ?_
        refine lv_aload_n hx hb d_Disk_storeInLog_15 rfl (lv_at hl 1 rfl) ?_
        refine lv_iload_n hx hb d_Disk_storeInLog_16 rfl (lv_at hl 2 rfl) ?_
        obtain ⟨x2, e2, hJ⟩ := j_bind hJ
        refine va_calli (va_runV (As := [.int v2]) (rest := [.ref (ga 5), .ref (ga 1)]) ⟨hx, hb, hml, hown, htb⟩ (c_Memory_pendingAt (l := l) (dC := dC) (dI := dI) hDa e2) (xcV 1 htb tw171 tw4 tw318 tw169 tw170 rfl rfl hd_Memory_pendingAt ⟨Nat.le_of_ble_eq_true rfl, Nat.le_of_ble_eq_true rfl⟩) (kW_V hP hK (va_recv (q0 := 2) (ci := 2) hK hP rfl rfl)) rfl rfl hl.1 rfl (lv_room (Nat.le_of_ble_eq_true rfl)) d_Disk_storeInLog_17 ⟨Nat.le_of_ble_eq_true rfl, Nat.le_of_ble_eq_true rfl⟩) hS (fun q _ h => h) (fun q h => h) (fun r0 u t H locs ht hvm hw hB _ _ hS => ?_)
        subst r0
        have hP := kW_P hB ht
        refine lv_iconst (v := (2 : Int32)) hx hb d_Disk_storeInLog_20 (by decide) ?_
        refine lv_iload_n hx hb d_Disk_storeInLog_21 rfl (lv_at hl 2 rfl) ?_
        refine lv_iadd hx hb d_Disk_storeInLog_22 ?_
        obtain ⟨x3, e3, hJ⟩ := j_bind hJ
        refine va_calli (va_runV (As := [.ref (ga 5), .int x2, .int ((2 : Int32) + v2)]) (rest := []) ⟨hx, hb, hml, hown, htb⟩ (c_Disk_storeBlock_m (l := l) (dC := dC) (dI := dI) hDa e3) (xcV 3 htb tw322 tw2 tw319 tw321 ts_Disk_storeBlock rfl rfl hd_Disk_storeBlock ⟨Nat.le_of_ble_eq_true rfl, Nat.le_of_ble_eq_true rfl⟩) (kW_V hP hK (va_recv (q0 := 1) (ci := 1) hK hP rfl rfl)) rfl rfl hl.1 rfl (lv_room (Nat.le_of_ble_eq_true rfl)) d_Disk_storeInLog_23 ⟨Nat.le_of_ble_eq_true rfl, Nat.le_of_ble_eq_true rfl⟩) hS (fun q _ h => h) (fun q h => h) (fun r0 u t H locs ht hvm hw hB _ _ hS => ?_)
        subst r0
        have hP := kW_P hB ht
        refine lv_if_ne (tgt := 31) hx hb d_Disk_storeInLog_26 (by decide) (fun h4 => ?_) (fun h4 => ?_)
        · have hJ := j_f hJ h4
          refine lv_iinc (k := 2) (v := (v2 + (1 : Int32))) hx hb d_Disk_storeInLog_31 hl rfl rfl (Nat.le_of_ble_eq_true rfl) rfl (fun ls hl => ?_)
          have hl : lv_has ls 3 [(2, .int (v2 + (1 : Int32))), (0, .ref (ga 1)), (1, .ref (ga 2))] := hl
          refine lv_goto (tgt := 2) hx hb d_Disk_storeInLog_34 (by decide) ?_
          exact hk _ _ _ _ _ hJ (lv_sub hl [1, 2, 0] rfl) hP hS
        · have hJ := j_t hJ h4
          refine lv_iconst (v := (0 : Int32)) hx hb d_Disk_storeInLog_29 (by decide) ?_
          have hJ := Option.some.inj hJ
          exact W.zret (v := (0 : Int32)) (ty := .boolean) hx hb hr (by decide +kernel) (fun t ht hW => ⟨⟨_, (), rfl, (j_p1 hJ), kW_end hP hK ht hW (congrArg (fun z => wC ga cB cI z) (j_p2 hJ))⟩, hS.F ht⟩) hS.2.2 d_Disk_storeInLog_30
  unfold J_Disk_storeInLog at hJ
  refine lv_iconst (v := (0 : Int32)) hx hb d_Disk_storeInLog_0 (by decide) ?_
  refine lv_istore_n hx hb d_Disk_storeInLog_1 rfl hl (Nat.le_of_ble_eq_true rfl) rfl (fun ls hl => ?_)
  have hl : lv_has ls 3 [(2, .int (0 : Int32)), (0, .ref (ga 1)), (1, .ref (ga 2))] := hl
  exact blk2 9000 _ _ _ _ _ hJ (lv_sub hl [1, 2, 0] rfl) hP hS
def J_Disk_storeInPlace_2_b (k : CS → Int32 → Option (Int32 × CS)) (σ : CS) (v2 : Int32) : Option (Int32 × CS) :=
  (if (c_n σ) ≤ v2 then some ((1 : Int32), σ) else (J_Memory_pendingAt σ v2).bind fun x2 => (J_Memory_pendingAt σ v2).bind fun x3 => (J_Disk_storeBlock_m σ x2 x3).bind fun x4 => (if x4.1 = (0 : Int32) then some ((0 : Int32), x4.2) else k x4.2 (v2 + (1 : Int32))))
def J_Disk_storeInPlace_2 : Nat → CS → Int32 → Option (Int32 × CS)
  | 0, _, _ => none
  | n + 1, σ, v2 => J_Disk_storeInPlace_2_b (J_Disk_storeInPlace_2 n) σ v2
def J_Disk_storeInPlace (σ : CS)  : Option (Int32 × CS) :=
  J_Disk_storeInPlace_2 9000 σ (0 : Int32)
abbrev rm_Disk_storeInPlace : Room := { frames := 3, cells := 0, slots := 0, locals := 72 }
set_option maxHeartbeats 4000000 in
set_option maxRecDepth 100000 in
theorem c_Disk_storeInPlace {l : Launch} {dC : Nat → ClassId} {dI : Nat → Nat → Nat} {ga : Nat → Nat} {cB cI : ClassId} {A : Nat → Prop} (hDa : ∀ σ, va_D A (wC ga cB cI σ)) {σ : CS} {res : Int32 × CS} (hJ : J_Disk_storeInPlace σ = some res) :
    Met l y_Disk_storeInPlace (mw y_Disk_storeInPlace b_Disk_storeInPlace 3 (some .boolean)) rm_Disk_storeInPlace (va_Pc [.ref (ga 1), .ref (ga 2)] (kW (dC, dI) (tC cB cI) (wC ga cB cI σ))) (va_Qi (fun (x : Int32) (_ : Unit) => x = res.1) (fun _ t => kW (dC, dI) (tC cB cI) (wC ga cB cI res.2) t) A) 0 0 A := by
  refine Met.ofW (cc := b_Disk_storeInPlace) (maxL := 3) (ret := (some .boolean)) (by decide) rfl ?_
  intro p e s m args below meth c s₁ B hml hv
  obtain ⟨rfl, hP, hK⟩ := hv
  have hx := B.exec
  have hb := B.bytes
  have hr := B.returns
  have hts := atoms_spec (ws := (mw y_Disk_storeInPlace b_Disk_storeInPlace 3 (some .boolean))) B.pre
  have htb : ∀ w ∈ tb, w.before [.ref (ga 1), .ref (ga 2)].toArray s = true := fun w h => hts w (mwIn h)
  have hown : s.vm.findClass "LogFs$Disk" = some m.cls := findClass_of_methodNamed B.named
  have hlocks := B.notSynchronized
  have hS : va_S A s.heap s.heap [] := va_S.rf
  have hl := lv_entry ([.ref (ga 1), .ref (ga 2)]) (n := 3) (Nat.le_of_ble_eq_true rfl)
  rw [lg_entry_eq]
  generalize (lg_sl ([.ref (ga 1), .ref (ga 2)]) ++ List.replicate (3 - (lg_sl ([.ref (ga 1), .ref (ga 2)])).length) Slot.unset).toArray = ls at hl ⊢
  have hl : lv_has ls 3 [(0, .ref (ga 1)), (1, .ref (ga 2))] := hl
  have blk2 : ∀ (n : Nat) (σ : CS) (v2 : Int32) (ls : Array Slot) (H : Heap) (locs : List Loc), J_Disk_storeInPlace_2 n σ v2 = some res → lv_has ls 3 [(0, .ref (ga 1)), (1, .ref (ga 2)), (2, .int v2)] → va_P (dC, dI) cls (wC ga cB cI σ) H → va_S A s.heap H locs → W p l e (headSpec (mw y_Disk_storeInPlace b_Disk_storeInPlace 3 (some .boolean)) rm_Disk_storeInPlace).room s m [.ref (ga 1), .ref (ga 2)].toArray below meth c H locs 0 0 (MQ below (va_Qi (fun (x : Int32) (_ : Unit) => x = res.1) (fun _ t => kW (dC, dI) (tC cB cI) (wC ga cB cI res.2) t) A) [.ref (ga 1), .ref (ga 2)].toArray s 0 0 A) (F0 m 2 ls []) := by
    intro n
    induction n with
    | zero => intro σ v2 ls H locs hJ; exact j_none hJ
    | succ n hk =>
      intro σ v2 ls H locs hJ hl hP hS
      have hJ : J_Disk_storeInPlace_2_b (J_Disk_storeInPlace_2 n) σ v2 = some res := hJ
      unfold J_Disk_storeInPlace_2_b at hJ
      refine lv_iload_n hx hb d_Disk_storeInPlace_2 rfl (lv_at hl 2 rfl) ?_
      refine lv_aload_n hx hb d_Disk_storeInPlace_3 rfl (lv_at hl 1 rfl) ?_
      refine va_getN (D := (dC, dI)) (ci := 2) (v := .int (c_n σ)) (C := R_Memory) (T := T_Memory) (N := 3) hx hb htb uin_Memory hown hK hP 2 rfl rfl 2 (by decide) (htb _ tw79) (fun _ h9 => h9) rfl d_Disk_storeInPlace_4 ?_
      refine lv_icmp_ge (tgt := 39) hx hb d_Disk_storeInPlace_7 (by decide) (fun h1 => ?_) (fun h1 => ?_)
      · have hJ := j_t hJ h1
        refine lv_iconst (v := (1 : Int32)) hx hb d_Disk_storeInPlace_39 (by decide) ?_
        have hJ := Option.some.inj hJ
        exact W.zret (v := (1 : Int32)) (ty := .boolean) hx hb hr (by decide +kernel) (fun t ht hW => ⟨⟨_, (), rfl, (j_p1 hJ), kW_end hP hK ht hW (congrArg (fun z => wC ga cB cI z) (j_p2 hJ))⟩, hS.F ht⟩) hS.2.2 d_Disk_storeInPlace_40
      · have hJ := j_f hJ h1
        refine lv_aload_n hx hb d_Disk_storeInPlace_10 rfl (lv_at hl 0 rfl) ?_
        refine lv_aload_n hx hb d_Disk_storeInPlace_11 rfl (lv_at hl 1 rfl) ?_
        refine va_getN (D := (dC, dI)) (ci := 2) (v := .ref (ga 5)) (C := R_Memory) (T := T_Memory) (N := 3) hx hb htb uin_Memory hown hK hP 2 rfl rfl 0 (by decide) (htb _ tw75) (fun _ h9 => h9) rfl d_Disk_storeInPlace_12 ?_
        refine lv_aload_n hx hb d_Disk_storeInPlace_15 rfl (lv_at hl 1 rfl) ?_
        refine lv_iload_n hx hb d_Disk_storeInPlace_16 rfl (lv_at hl 2 rfl) ?_
        obtain ⟨x2, e2, hJ⟩ := j_bind hJ
        refine va_calli (va_runV (As := [.int v2]) (rest := [.ref (ga 5), .ref (ga 1)]) ⟨hx, hb, hml, hown, htb⟩ (c_Memory_pendingAt (l := l) (dC := dC) (dI := dI) hDa e2) (xcV 1 htb tw171 tw4 tw318 tw169 tw170 rfl rfl hd_Memory_pendingAt ⟨Nat.le_of_ble_eq_true rfl, Nat.le_of_ble_eq_true rfl⟩) (kW_V hP hK (va_recv (q0 := 2) (ci := 2) hK hP rfl rfl)) rfl rfl hl.1 rfl (lv_room (Nat.le_of_ble_eq_true rfl)) d_Disk_storeInPlace_17 ⟨Nat.le_of_ble_eq_true rfl, Nat.le_of_ble_eq_true rfl⟩) hS (fun q _ h => h) (fun q h => h) (fun r0 u t H locs ht hvm hw hB _ _ hS => ?_)
        subst r0
        have hP := kW_P hB ht
        refine lv_aload_n hx hb d_Disk_storeInPlace_20 rfl (lv_at hl 1 rfl) ?_
        refine lv_iload_n hx hb d_Disk_storeInPlace_21 rfl (lv_at hl 2 rfl) ?_
        obtain ⟨x3, e3, hJ⟩ := j_bind hJ
        refine va_calli (va_runV (As := [.int v2]) (rest := [.int x2, .ref (ga 5), .ref (ga 1)]) ⟨hx, hb, hml, hown, htb⟩ (c_Memory_pendingAt (l := l) (dC := dC) (dI := dI) hDa e3) (xcV 1 htb tw171 tw4 tw318 tw169 tw170 rfl rfl hd_Memory_pendingAt ⟨Nat.le_of_ble_eq_true rfl, Nat.le_of_ble_eq_true rfl⟩) (kW_V hP hK (va_recv (q0 := 2) (ci := 2) hK hP rfl rfl)) rfl rfl hl.1 rfl (lv_room (Nat.le_of_ble_eq_true rfl)) d_Disk_storeInPlace_22 ⟨Nat.le_of_ble_eq_true rfl, Nat.le_of_ble_eq_true rfl⟩) hS (fun q _ h => h) (fun q h => h) (fun r0 u t H locs ht hvm hw hB _ _ hS => ?_)
        subst r0
        have hP := kW_P hB ht
        obtain ⟨x4, e4, hJ⟩ := j_bind hJ
        refine va_calli (va_runV (As := [.ref (ga 5), .int x2, .int x3]) (rest := []) ⟨hx, hb, hml, hown, htb⟩ (c_Disk_storeBlock_m (l := l) (dC := dC) (dI := dI) hDa e4) (xcV 3 htb tw322 tw2 tw319 tw321 ts_Disk_storeBlock rfl rfl hd_Disk_storeBlock ⟨Nat.le_of_ble_eq_true rfl, Nat.le_of_ble_eq_true rfl⟩) (kW_V hP hK (va_recv (q0 := 1) (ci := 1) hK hP rfl rfl)) rfl rfl hl.1 rfl (lv_room (Nat.le_of_ble_eq_true rfl)) d_Disk_storeInPlace_25 ⟨Nat.le_of_ble_eq_true rfl, Nat.le_of_ble_eq_true rfl⟩) hS (fun q _ h => h) (fun q h => h) (fun r0 u t H locs ht hvm hw hB _ _ hS => ?_)
        subst r0
        have hP := kW_P hB ht
        refine lv_if_ne (tgt := 33) hx hb d_Disk_storeInPlace_28 (by decide) (fun h5 => ?_) (fun h5 => ?_)
        · have hJ := j_f hJ h5
          refine lv_iinc (k := 2) (v := (v2 + (1 : Int32))) hx hb d_Disk_storeInPlace_33 hl rfl rfl (Nat.le_of_ble_eq_true rfl) rfl (fun ls hl => ?_)
          have hl : lv_has ls 3 [(2, .int (v2 + (1 : Int32))), (0, .ref (ga 1)), (1, .ref (ga 2))] := hl
          refine lv_goto (tgt := 2) hx hb d_Disk_storeInPlace_36 (by decide) ?_
          exact hk _ _ _ _ _ hJ (lv_sub hl [1, 2, 0] rfl) hP hS
        · have hJ := j_t hJ h5
          refine lv_iconst (v := (0 : Int32)) hx hb d_Disk_storeInPlace_31 (by decide) ?_
          have hJ := Option.some.inj hJ
          exact W.zret (v := (0 : Int32)) (ty := .boolean) hx hb hr (by decide +kernel) (fun t ht hW => ⟨⟨_, (), rfl, (j_p1 hJ), kW_end hP hK ht hW (congrArg (fun z => wC ga cB cI z) (j_p2 hJ))⟩, hS.F ht⟩) hS.2.2 d_Disk_storeInPlace_32
  unfold J_Disk_storeInPlace at hJ
  refine lv_iconst (v := (0 : Int32)) hx hb d_Disk_storeInPlace_0 (by decide) ?_
  refine lv_istore_n hx hb d_Disk_storeInPlace_1 rfl hl (Nat.le_of_ble_eq_true rfl) rfl (fun ls hl => ?_)
  have hl : lv_has ls 3 [(2, .int (0 : Int32)), (0, .ref (ga 1)), (1, .ref (ga 2))] := hl
  exact blk2 9000 _ _ _ _ _ hJ (lv_sub hl [1, 2, 0] rfl) hP hS
def J_Disk_storePending (σ : CS)  : Option (Int32 × CS) :=
  (J_Disk_storeInLog σ).bind fun x1 => (if x1.1 = (0 : Int32) then some ((0 : Int32), x1.2) else (J_Disk_storeHead x1.2).bind fun x3 => (if x3.1 = (0 : Int32) then some ((0 : Int32), x3.2) else (J_Disk_storeInPlace x3.2).bind fun x5 => (if x5.1 = (0 : Int32) then some ((0 : Int32), x5.2) else (J_Disk_clearHead x5.2).bind fun x7 => (if x7.1 = (0 : Int32) then some ((0 : Int32), x7.2) else some ((1 : Int32), x7.2)))))
abbrev rm_Disk_storePending : Room := { frames := 4, cells := 0, slots := 0, locals := 94 }
set_option maxHeartbeats 4000000 in
set_option maxRecDepth 100000 in
theorem c_Disk_storePending {l : Launch} {dC : Nat → ClassId} {dI : Nat → Nat → Nat} {ga : Nat → Nat} {cB cI : ClassId} {A : Nat → Prop} (hDa : ∀ σ, va_D A (wC ga cB cI σ)) {σ : CS} {res : Int32 × CS} (hJ : J_Disk_storePending σ = some res) :
    Met l y_Disk_storePending (mw y_Disk_storePending b_Disk_storePending 2 (some .boolean)) rm_Disk_storePending (va_Pc [.ref (ga 1), .ref (ga 2)] (kW (dC, dI) (tC cB cI) (wC ga cB cI σ))) (va_Qi (fun (x : Int32) (_ : Unit) => x = res.1) (fun _ t => kW (dC, dI) (tC cB cI) (wC ga cB cI res.2) t) A) 0 0 A := by
  refine Met.ofW (cc := b_Disk_storePending) (maxL := 2) (ret := (some .boolean)) (by decide) rfl ?_
  intro p e s m args below meth c s₁ B hml hv
  obtain ⟨rfl, hP, hK⟩ := hv
  have hx := B.exec
  have hb := B.bytes
  have hr := B.returns
  have hts := atoms_spec (ws := (mw y_Disk_storePending b_Disk_storePending 2 (some .boolean))) B.pre
  have htb : ∀ w ∈ tb, w.before [.ref (ga 1), .ref (ga 2)].toArray s = true := fun w h => hts w (mwIn h)
  have hown : s.vm.findClass "LogFs$Disk" = some m.cls := findClass_of_methodNamed B.named
  have hlocks := B.notSynchronized
  have hS : va_S A s.heap s.heap [] := va_S.rf
  have hl := lv_entry ([.ref (ga 1), .ref (ga 2)]) (n := 2) (Nat.le_of_ble_eq_true rfl)
  rw [lg_entry_eq]
  generalize (lg_sl ([.ref (ga 1), .ref (ga 2)]) ++ List.replicate (2 - (lg_sl ([.ref (ga 1), .ref (ga 2)])).length) Slot.unset).toArray = ls at hl ⊢
  have hl : lv_has ls 2 [(0, .ref (ga 1)), (1, .ref (ga 2))] := hl
  unfold J_Disk_storePending at hJ
  refine lv_aload_n hx hb d_Disk_storePending_0 rfl (lv_at hl 0 rfl) ?_
  refine lv_aload_n hx hb d_Disk_storePending_1 rfl (lv_at hl 1 rfl) ?_
  obtain ⟨x1, e1, hJ⟩ := j_bind hJ
  refine va_calli (va_runV (As := [.ref (ga 2)]) (rest := []) ⟨hx, hb, hml, hown, htb⟩ (c_Disk_storeInLog (l := l) (dC := dC) (dI := dI) hDa e1) (xcV 1 htb tw317 tw2 tw314 tw316 ts_Disk_storeInLog rfl rfl hd_Disk_storeInLog ⟨Nat.le_of_ble_eq_true rfl, Nat.le_of_ble_eq_true rfl⟩) (kW_V hP hK (va_recv (q0 := 1) (ci := 1) hK hP rfl rfl)) rfl rfl hl.1 rfl (lv_room (Nat.le_of_ble_eq_true rfl)) d_Disk_storePending_2 ⟨Nat.le_of_ble_eq_true rfl, Nat.le_of_ble_eq_true rfl⟩) hS (fun q _ h => h) (fun q h => h) (fun r0 u t H locs ht hvm hw hB _ _ hS => ?_)
  subst r0
  have hP := kW_P hB ht
  refine lv_if_eq (tgt := 35) hx hb d_Disk_storePending_5 (by decide) (fun h2 => ?_) (fun h2 => ?_)
  · have hJ := j_t hJ h2
    refine lv_iconst (v := (0 : Int32)) hx hb d_Disk_storePending_35 (by decide) ?_
    have hJ := Option.some.inj hJ
    exact W.zret (v := (0 : Int32)) (ty := .boolean) hx hb hr (by decide +kernel) (fun t ht hW => ⟨⟨_, (), rfl, (j_p1 hJ), kW_end hP hK ht hW (congrArg (fun z => wC ga cB cI z) (j_p2 hJ))⟩, hS.F ht⟩) hS.2.2 d_Disk_storePending_36
  · have hJ := j_f hJ h2
    refine lv_aload_n hx hb d_Disk_storePending_8 rfl (lv_at hl 0 rfl) ?_
    refine lv_aload_n hx hb d_Disk_storePending_9 rfl (lv_at hl 1 rfl) ?_
    obtain ⟨x3, e3, hJ⟩ := j_bind hJ
    refine va_calli (va_runV (As := [.ref (ga 2)]) (rest := []) ⟨hx, hb, hml, hown, htb⟩ (c_Disk_storeHead (l := l) (dC := dC) (dI := dI) hDa e3) (xcV 1 htb tw334 tw2 tw331 tw333 ts_Disk_storeHead rfl rfl hd_Disk_storeHead ⟨Nat.le_of_ble_eq_true rfl, Nat.le_of_ble_eq_true rfl⟩) (kW_V hP hK (va_recv (q0 := 1) (ci := 1) hK hP rfl rfl)) rfl rfl hl.1 rfl (lv_room (Nat.le_of_ble_eq_true rfl)) d_Disk_storePending_10 ⟨Nat.le_of_ble_eq_true rfl, Nat.le_of_ble_eq_true rfl⟩) hS (fun q _ h => h) (fun q h => h) (fun r0 u t H locs ht hvm hw hB _ _ hS => ?_)
    subst r0
    have hP := kW_P hB ht
    refine lv_if_eq (tgt := 35) hx hb d_Disk_storePending_13 (by decide) (fun h4 => ?_) (fun h4 => ?_)
    · have hJ := j_t hJ h4
      refine lv_iconst (v := (0 : Int32)) hx hb d_Disk_storePending_35 (by decide) ?_
      have hJ := Option.some.inj hJ
      exact W.zret (v := (0 : Int32)) (ty := .boolean) hx hb hr (by decide +kernel) (fun t ht hW => ⟨⟨_, (), rfl, (j_p1 hJ), kW_end hP hK ht hW (congrArg (fun z => wC ga cB cI z) (j_p2 hJ))⟩, hS.F ht⟩) hS.2.2 d_Disk_storePending_36
    · have hJ := j_f hJ h4
      refine lv_aload_n hx hb d_Disk_storePending_16 rfl (lv_at hl 0 rfl) ?_
      refine lv_aload_n hx hb d_Disk_storePending_17 rfl (lv_at hl 1 rfl) ?_
      obtain ⟨x5, e5, hJ⟩ := j_bind hJ
      refine va_calli (va_runV (As := [.ref (ga 2)]) (rest := []) ⟨hx, hb, hml, hown, htb⟩ (c_Disk_storeInPlace (l := l) (dC := dC) (dI := dI) hDa e5) (xcV 1 htb tw343 tw2 tw340 tw342 ts_Disk_storeInPlace rfl rfl hd_Disk_storeInPlace ⟨Nat.le_of_ble_eq_true rfl, Nat.le_of_ble_eq_true rfl⟩) (kW_V hP hK (va_recv (q0 := 1) (ci := 1) hK hP rfl rfl)) rfl rfl hl.1 rfl (lv_room (Nat.le_of_ble_eq_true rfl)) d_Disk_storePending_18 ⟨Nat.le_of_ble_eq_true rfl, Nat.le_of_ble_eq_true rfl⟩) hS (fun q _ h => h) (fun q h => h) (fun r0 u t H locs ht hvm hw hB _ _ hS => ?_)
      subst r0
      have hP := kW_P hB ht
      refine lv_if_eq (tgt := 35) hx hb d_Disk_storePending_21 (by decide) (fun h6 => ?_) (fun h6 => ?_)
      · have hJ := j_t hJ h6
        refine lv_iconst (v := (0 : Int32)) hx hb d_Disk_storePending_35 (by decide) ?_
        have hJ := Option.some.inj hJ
        exact W.zret (v := (0 : Int32)) (ty := .boolean) hx hb hr (by decide +kernel) (fun t ht hW => ⟨⟨_, (), rfl, (j_p1 hJ), kW_end hP hK ht hW (congrArg (fun z => wC ga cB cI z) (j_p2 hJ))⟩, hS.F ht⟩) hS.2.2 d_Disk_storePending_36
      · have hJ := j_f hJ h6
        refine lv_aload_n hx hb d_Disk_storePending_24 rfl (lv_at hl 0 rfl) ?_
        obtain ⟨x7, e7, hJ⟩ := j_bind hJ
        refine va_calli (va_runV (As := []) (rest := []) ⟨hx, hb, hml, hown, htb⟩ (c_Disk_clearHead (l := l) (dC := dC) (dI := dI) hDa e7) (xcV 0 htb tw347 tw2 tw344 tw346 ts_Disk_clearHead rfl rfl hd_Disk_clearHead ⟨Nat.le_of_ble_eq_true rfl, Nat.le_of_ble_eq_true rfl⟩) (kW_V hP hK (va_recv (q0 := 1) (ci := 1) hK hP rfl rfl)) rfl rfl hl.1 rfl (lv_room (Nat.le_of_ble_eq_true rfl)) d_Disk_storePending_25 ⟨Nat.le_of_ble_eq_true rfl, Nat.le_of_ble_eq_true rfl⟩) hS (fun q _ h => h) (fun q h => h) (fun r0 u t H locs ht hvm hw hB _ _ hS => ?_)
        subst r0
        have hP := kW_P hB ht
        refine lv_if_eq (tgt := 35) hx hb d_Disk_storePending_28 (by decide) (fun h8 => ?_) (fun h8 => ?_)
        · have hJ := j_t hJ h8
          refine lv_iconst (v := (0 : Int32)) hx hb d_Disk_storePending_35 (by decide) ?_
          have hJ := Option.some.inj hJ
          exact W.zret (v := (0 : Int32)) (ty := .boolean) hx hb hr (by decide +kernel) (fun t ht hW => ⟨⟨_, (), rfl, (j_p1 hJ), kW_end hP hK ht hW (congrArg (fun z => wC ga cB cI z) (j_p2 hJ))⟩, hS.F ht⟩) hS.2.2 d_Disk_storePending_36
        · have hJ := j_f hJ h8
          refine lv_iconst (v := (1 : Int32)) hx hb d_Disk_storePending_31 (by decide) ?_
          refine lv_goto (tgt := 36) hx hb d_Disk_storePending_32 (by decide) ?_
          have hJ := Option.some.inj hJ
          exact W.zret (v := (1 : Int32)) (ty := .boolean) hx hb hr (by decide +kernel) (fun t ht hW => ⟨⟨_, (), rfl, (j_p1 hJ), kW_end hP hK ht hW (congrArg (fun z => wC ga cB cI z) (j_p2 hJ))⟩, hS.F ht⟩) hS.2.2 d_Disk_storePending_36
def J_Disk_replayLog_2_b (k : CS → Int32 → Int32 → Option (Int32 × CS)) (σ : CS) (v1 : Int32) (v2 : Int32) : Option (Int32 × CS) :=
  (if v1 ≤ v2 then (J_Disk_clearHead σ).bind fun x2 => (if jbl x2.1 = true then some (x2.1, x2.2) else none) else (J_Blocks_get_d σ (1 : Int32) ((1 : Int32) + v2)).bind fun x4 => (J_Disk_storeBlock_d σ ((2 : Int32) + v2) x4).bind fun x5 => (if x5.1 = (0 : Int32) then some ((0 : Int32), x5.2) else k x5.2 v1 (v2 + (1 : Int32))))
def J_Disk_replayLog_2 : Nat → CS → Int32 → Int32 → Option (Int32 × CS)
  | 0, _, _, _ => none
  | n + 1, σ, v1, v2 => J_Disk_replayLog_2_b (J_Disk_replayLog_2 n) σ v1 v2
def J_Disk_replayLog (σ : CS) (a1 : Int32) : Option (Int32 × CS) :=
  J_Disk_replayLog_2 9000 σ a1 (0 : Int32)
abbrev rm_Disk_replayLog : Room := { frames := 3, cells := 0, slots := 0, locals := 72 }
set_option maxHeartbeats 4000000 in
set_option maxRecDepth 100000 in
theorem c_Disk_replayLog {l : Launch} {dC : Nat → ClassId} {dI : Nat → Nat → Nat} {ga : Nat → Nat} {cB cI : ClassId} {A : Nat → Prop} (hDa : ∀ σ, va_D A (wC ga cB cI σ)) {σ : CS} {a1 : Int32} {res : Int32 × CS} (hJ : J_Disk_replayLog σ a1 = some res) :
    Met l y_Disk_replayLog (mw y_Disk_replayLog b_Disk_replayLog 3 (some .boolean)) rm_Disk_replayLog (va_Pc [.ref (ga 1), .int a1] (kW (dC, dI) (tC cB cI) (wC ga cB cI σ))) (va_Qi (fun (x : Int32) (_ : Unit) => x = res.1) (fun _ t => kW (dC, dI) (tC cB cI) (wC ga cB cI res.2) t) A) 0 0 A := by
  refine Met.ofW (cc := b_Disk_replayLog) (maxL := 3) (ret := (some .boolean)) (by decide) rfl ?_
  intro p e s m args below meth c s₁ B hml hv
  obtain ⟨rfl, hP, hK⟩ := hv
  have hx := B.exec
  have hb := B.bytes
  have hr := B.returns
  have hts := atoms_spec (ws := (mw y_Disk_replayLog b_Disk_replayLog 3 (some .boolean))) B.pre
  have htb : ∀ w ∈ tb, w.before [.ref (ga 1), .int a1].toArray s = true := fun w h => hts w (mwIn h)
  have hown : s.vm.findClass "LogFs$Disk" = some m.cls := findClass_of_methodNamed B.named
  have hlocks := B.notSynchronized
  have hS : va_S A s.heap s.heap [] := va_S.rf
  have hl := lv_entry ([.ref (ga 1), .int a1]) (n := 3) (Nat.le_of_ble_eq_true rfl)
  rw [lg_entry_eq]
  generalize (lg_sl ([.ref (ga 1), .int a1]) ++ List.replicate (3 - (lg_sl ([.ref (ga 1), .int a1])).length) Slot.unset).toArray = ls at hl ⊢
  have hl : lv_has ls 3 [(0, .ref (ga 1)), (1, .int a1)] := hl
  have blk2 : ∀ (n : Nat) (σ : CS) (v1 : Int32) (v2 : Int32) (ls : Array Slot) (H : Heap) (locs : List Loc), J_Disk_replayLog_2 n σ v1 v2 = some res → lv_has ls 3 [(0, .ref (ga 1)), (1, .int v1), (2, .int v2)] → va_P (dC, dI) cls (wC ga cB cI σ) H → va_S A s.heap H locs → W p l e (headSpec (mw y_Disk_replayLog b_Disk_replayLog 3 (some .boolean)) rm_Disk_replayLog).room s m [.ref (ga 1), .int a1].toArray below meth c H locs 0 0 (MQ below (va_Qi (fun (x : Int32) (_ : Unit) => x = res.1) (fun _ t => kW (dC, dI) (tC cB cI) (wC ga cB cI res.2) t) A) [.ref (ga 1), .int a1].toArray s 0 0 A) (F0 m 2 ls []) := by
    intro n
    induction n with
    | zero => intro σ v1 v2 ls H locs hJ; exact j_none hJ
    | succ n hk =>
      intro σ v1 v2 ls H locs hJ hl hP hS
      have hJ : J_Disk_replayLog_2_b (J_Disk_replayLog_2 n) σ v1 v2 = some res := hJ
      unfold J_Disk_replayLog_2_b at hJ
      refine lv_iload_n hx hb d_Disk_replayLog_2 rfl (lv_at hl 2 rfl) ?_
      refine lv_iload_n hx hb d_Disk_replayLog_3 rfl (lv_at hl 1 rfl) ?_
      refine lv_icmp_ge (tgt := 40) hx hb d_Disk_replayLog_4 (by decide) (fun h1 => ?_) (fun h1 => ?_)
      · have hJ := j_t hJ h1
        refine lv_aload_n hx hb d_Disk_replayLog_40 rfl (lv_at hl 0 rfl) ?_
        obtain ⟨x2, e2, hJ⟩ := j_bind hJ
        refine va_calli (va_runV (As := []) (rest := []) ⟨hx, hb, hml, hown, htb⟩ (c_Disk_clearHead (l := l) (dC := dC) (dI := dI) hDa e2) (xcV 0 htb tw347 tw2 tw344 tw346 ts_Disk_clearHead rfl rfl hd_Disk_clearHead ⟨Nat.le_of_ble_eq_true rfl, Nat.le_of_ble_eq_true rfl⟩) (kW_V hP hK (va_recv (q0 := 1) (ci := 1) hK hP rfl rfl)) rfl rfl hl.1 rfl (lv_room (Nat.le_of_ble_eq_true rfl)) d_Disk_replayLog_41 ⟨Nat.le_of_ble_eq_true rfl, Nat.le_of_ble_eq_true rfl⟩) hS (fun q _ h => h) (fun q h => h) (fun r0 u t H locs ht hvm hw hB _ _ hS => ?_)
        subst r0
        have hP := kW_P hB ht
        obtain ⟨h3, hJ⟩ := j_g hJ
        have hJ := Option.some.inj hJ
        exact W.zret (v := x2.1) (ty := .boolean) hx hb hr (j_bl h3).1 (fun t ht hW => ⟨⟨_, (), rfl, (j_p1 hJ), kW_end hP hK ht hW (congrArg (fun z => wC ga cB cI z) (j_p2 hJ))⟩, hS.F ht⟩) hS.2.2 d_Disk_replayLog_44
      · have hJ := j_f hJ h1
        refine lv_aload_n hx hb d_Disk_replayLog_7 rfl (lv_at hl 0 rfl) ?_
        refine lv_aload_n hx hb d_Disk_replayLog_8 rfl (lv_at hl 0 rfl) ?_
        refine va_get (D := (dC, dI)) (ci := 1) (v := .ref (ga 4)) (C := R_Disk) (T := T_Disk) (N := 4) hx hb htb uin_Disk hown hK hP 1 rfl rfl 0 (by decide) (htb _ tw48) (fun _ h9 => h9) rfl d_Disk_replayLog_9 ?_
        refine lv_iconst (v := (2 : Int32)) hx hb d_Disk_replayLog_12 (by decide) ?_
        refine lv_iload_n hx hb d_Disk_replayLog_13 rfl (lv_at hl 2 rfl) ?_
        refine lv_iadd hx hb d_Disk_replayLog_14 ?_
        refine lv_aload_n hx hb d_Disk_replayLog_15 rfl (lv_at hl 0 rfl) ?_
        refine va_get (D := (dC, dI)) (ci := 1) (v := .ref (ga 4)) (C := R_Disk) (T := T_Disk) (N := 4) hx hb htb uin_Disk hown hK hP 1 rfl rfl 0 (by decide) (htb _ tw48) (fun _ h9 => h9) rfl d_Disk_replayLog_16 ?_
        refine lv_iconst (v := (1 : Int32)) hx hb d_Disk_replayLog_19 (by decide) ?_
        refine lv_iconst (v := (1 : Int32)) hx hb d_Disk_replayLog_20 (by decide) ?_
        refine lv_iload_n hx hb d_Disk_replayLog_21 rfl (lv_at hl 2 rfl) ?_
        refine lv_iadd hx hb d_Disk_replayLog_22 ?_
        obtain ⟨x4, e4, hJ⟩ := j_bind hJ
        refine va_calli (va_runV (As := [.int (1 : Int32), .int ((1 : Int32) + v2)]) (rest := [.int ((2 : Int32) + v2), .ref (ga 4), .ref (ga 1)]) ⟨hx, hb, hml, hown, htb⟩ (c_Blocks_get_d (l := l) (dC := dC) (dI := dI) hDa e4) (xcV 2 htb tw47 tw3 tw44 tw45 tw46 rfl rfl hd_Blocks_get ⟨Nat.le_of_ble_eq_true rfl, Nat.le_of_ble_eq_true rfl⟩) (kW_V hP hK (va_recv (q0 := 4) (ci := 0) hK hP rfl rfl)) rfl rfl hl.1 rfl (lv_room (Nat.le_of_ble_eq_true rfl)) d_Disk_replayLog_23 ⟨Nat.le_of_ble_eq_true rfl, Nat.le_of_ble_eq_true rfl⟩) hS (fun q _ h => h) (fun q h => h) (fun r0 u t H locs ht hvm hw hB _ _ hS => ?_)
        subst r0
        have hP := kW_P hB ht
        obtain ⟨x5, e5, hJ⟩ := j_bind hJ
        refine va_calli (va_runV (As := [.ref (ga 4), .int ((2 : Int32) + v2), .int x4]) (rest := []) ⟨hx, hb, hml, hown, htb⟩ (c_Disk_storeBlock_d (l := l) (dC := dC) (dI := dI) hDa e5) (xcV 3 htb tw322 tw2 tw319 tw321 ts_Disk_storeBlock rfl rfl hd_Disk_storeBlock ⟨Nat.le_of_ble_eq_true rfl, Nat.le_of_ble_eq_true rfl⟩) (kW_V hP hK (va_recv (q0 := 1) (ci := 1) hK hP rfl rfl)) rfl rfl hl.1 rfl (lv_room (Nat.le_of_ble_eq_true rfl)) d_Disk_replayLog_26 ⟨Nat.le_of_ble_eq_true rfl, Nat.le_of_ble_eq_true rfl⟩) hS (fun q _ h => h) (fun q h => h) (fun r0 u t H locs ht hvm hw hB _ _ hS => ?_)
        subst r0
        have hP := kW_P hB ht
        refine lv_if_ne (tgt := 34) hx hb d_Disk_replayLog_29 (by decide) (fun h6 => ?_) (fun h6 => ?_)
        · have hJ := j_f hJ h6
          refine lv_iinc (k := 2) (v := (v2 + (1 : Int32))) hx hb d_Disk_replayLog_34 hl rfl rfl (Nat.le_of_ble_eq_true rfl) rfl (fun ls hl => ?_)
          have hl : lv_has ls 3 [(2, .int (v2 + (1 : Int32))), (0, .ref (ga 1)), (1, .int v1)] := hl
          refine lv_goto (tgt := 2) hx hb d_Disk_replayLog_37 (by decide) ?_
          exact hk _ _ _ _ _ _ hJ (lv_sub hl [1, 2, 0] rfl) hP hS
        · have hJ := j_t hJ h6
          refine lv_iconst (v := (0 : Int32)) hx hb d_Disk_replayLog_32 (by decide) ?_
          have hJ := Option.some.inj hJ
          exact W.zret (v := (0 : Int32)) (ty := .boolean) hx hb hr (by decide +kernel) (fun t ht hW => ⟨⟨_, (), rfl, (j_p1 hJ), kW_end hP hK ht hW (congrArg (fun z => wC ga cB cI z) (j_p2 hJ))⟩, hS.F ht⟩) hS.2.2 d_Disk_replayLog_33
  unfold J_Disk_replayLog at hJ
  refine lv_iconst (v := (0 : Int32)) hx hb d_Disk_replayLog_0 (by decide) ?_
  refine lv_istore_n hx hb d_Disk_replayLog_1 rfl hl (Nat.le_of_ble_eq_true rfl) rfl (fun ls hl => ?_)
  have hl : lv_has ls 3 [(2, .int (0 : Int32)), (0, .ref (ga 1)), (1, .int a1)] := hl
  exact blk2 9000 _ _ _ _ _ _ hJ (lv_sub hl [1, 2, 0] rfl) hP hS
