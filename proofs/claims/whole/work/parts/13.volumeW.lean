/-! What Volume changes. Written by wip/gen/classes.py. -/
def J_Volume_begin (σ : CS) (a1 : Int32) (a2 : Int32) : Option (CS) :=
  (J_Volume_setInodeByte σ a1 (0 : Int32) a2).bind fun x1 => (J_Volume_setInodeByte x1 a1 (1 : Int32) (1 : Int32)).bind fun x2 => some x2
abbrev rm_Volume_begin : Room := { frames := 3, cells := 0, slots := 0, locals := 69 }
set_option maxHeartbeats 4000000 in
set_option maxRecDepth 100000 in
theorem c_Volume_begin {l : Launch} {dC : Nat → ClassId} {dI : Nat → Nat → Nat} {ga : Nat → Nat} {cB cI : ClassId} {A : Nat → Prop} (hDa : ∀ σ, va_D A (wC ga cB cI σ)) {σ : CS} {a1 : Int32} {a2 : Int32} {res : CS} (hJ : J_Volume_begin σ a1 a2 = some res) :
    Met l y_Volume_begin (mw y_Volume_begin b_Volume_begin 3 none) rm_Volume_begin (va_Pc [.ref (ga 3), .int a1, .int a2] (kW (dC, dI) (tC cB cI) (wC ga cB cI σ))) (va_Qv (fun (_ : Unit) => True) (fun _ t => kW (dC, dI) (tC cB cI) (wC ga cB cI res) t) A) 0 0 A := by
  refine Met.ofW (cc := b_Volume_begin) (maxL := 3) (ret := none) (by decide) rfl ?_
  intro p e s m args below meth c s₁ B hml hv
  obtain ⟨rfl, hP, hK⟩ := hv
  have hx := B.exec
  have hb := B.bytes
  have hr := B.returns
  have hts := atoms_spec (ws := (mw y_Volume_begin b_Volume_begin 3 none)) B.pre
  have htb : ∀ w ∈ tb, w.before [.ref (ga 3), .int a1, .int a2].toArray s = true := fun w h => hts w (mwIn h)
  have hown : s.vm.findClass "LogFs$Volume" = some m.cls := findClass_of_methodNamed B.named
  have hlocks := B.notSynchronized
  have hS : va_S A s.heap s.heap [] := va_S.rf
  have hl := lv_entry ([.ref (ga 3), .int a1, .int a2]) (n := 3) (Nat.le_of_ble_eq_true rfl)
  rw [lg_entry_eq]
  generalize (lg_sl ([.ref (ga 3), .int a1, .int a2]) ++ List.replicate (3 - (lg_sl ([.ref (ga 3), .int a1, .int a2])).length) Slot.unset).toArray = ls at hl ⊢
  have hl : lv_has ls 3 [(0, .ref (ga 3)), (1, .int a1), (2, .int a2)] := hl
  unfold J_Volume_begin at hJ
  refine lv_aload_n hx hb d_Volume_begin_0 rfl (lv_at hl 0 rfl) ?_
  refine lv_iload_n hx hb d_Volume_begin_1 rfl (lv_at hl 1 rfl) ?_
  refine lv_iconst (v := (0 : Int32)) hx hb d_Volume_begin_2 (by decide) ?_
  refine lv_iload_n hx hb d_Volume_begin_3 rfl (lv_at hl 2 rfl) ?_
  obtain ⟨x1, e1, hJ⟩ := j_bind hJ
  refine va_callv (va_runV (As := [.int a1, .int (0 : Int32), .int a2]) (rest := []) ⟨hx, hb, hml, hown, htb⟩ (c_Volume_setInodeByte (l := l) (dC := dC) (dI := dI) hDa e1) (xcV 3 htb tw372 tw5 tw369 tw371 ts_Volume_setInodeByte rfl rfl hd_Volume_setInodeByte ⟨Nat.le_of_ble_eq_true rfl, Nat.le_of_ble_eq_true rfl⟩) (kW_V hP hK (va_recv (q0 := 3) (ci := 3) hK hP rfl rfl)) rfl rfl hl.1 rfl (lv_room (Nat.le_of_ble_eq_true rfl)) d_Volume_begin_4 ⟨Nat.le_of_ble_eq_true rfl, Nat.le_of_ble_eq_true rfl⟩) hS (fun q _ h => h) (fun q h => h) (fun u t H locs ht hvm hw hB _ _ hS => ?_)
  have hP := kW_P hB ht
  refine lv_aload_n hx hb d_Volume_begin_7 rfl (lv_at hl 0 rfl) ?_
  refine lv_iload_n hx hb d_Volume_begin_8 rfl (lv_at hl 1 rfl) ?_
  refine lv_iconst (v := (1 : Int32)) hx hb d_Volume_begin_9 (by decide) ?_
  refine lv_iconst (v := (1 : Int32)) hx hb d_Volume_begin_10 (by decide) ?_
  obtain ⟨x2, e2, hJ⟩ := j_bind hJ
  refine va_callv (va_runV (As := [.int a1, .int (1 : Int32), .int (1 : Int32)]) (rest := []) ⟨hx, hb, hml, hown, htb⟩ (c_Volume_setInodeByte (l := l) (dC := dC) (dI := dI) hDa e2) (xcV 3 htb tw372 tw5 tw369 tw371 ts_Volume_setInodeByte rfl rfl hd_Volume_setInodeByte ⟨Nat.le_of_ble_eq_true rfl, Nat.le_of_ble_eq_true rfl⟩) (kW_V hP hK (va_recv (q0 := 3) (ci := 3) hK hP rfl rfl)) rfl rfl hl.1 rfl (lv_room (Nat.le_of_ble_eq_true rfl)) d_Volume_begin_11 ⟨Nat.le_of_ble_eq_true rfl, Nat.le_of_ble_eq_true rfl⟩) hS (fun q _ h => h) (fun q h => h) (fun u t H locs ht hvm hw hB _ _ hS => ?_)
  have hP := kW_P hB ht
  have hJ := Option.some.inj hJ
  exact W.vret hx hb hr (fun t ht hW => ⟨⟨(), rfl, trivial, kW_end hP hK ht hW (congrArg (fun z => wC ga cB cI z) hJ)⟩, hS.F ht⟩) hS.2.2 d_Volume_begin_14
def J_Volume_addLink (σ : CS) (a1 : Int32) : Option (CS) :=
  (J_Volume_links σ a1).bind fun x1 => (J_Volume_setInodeByte σ a1 (1 : Int32) (x1 + (1 : Int32))).bind fun x2 => some x2
abbrev rm_Volume_addLink : Room := { frames := 3, cells := 0, slots := 0, locals := 69 }
set_option maxHeartbeats 4000000 in
set_option maxRecDepth 100000 in
theorem c_Volume_addLink {l : Launch} {dC : Nat → ClassId} {dI : Nat → Nat → Nat} {ga : Nat → Nat} {cB cI : ClassId} {A : Nat → Prop} (hDa : ∀ σ, va_D A (wC ga cB cI σ)) {σ : CS} {a1 : Int32} {res : CS} (hJ : J_Volume_addLink σ a1 = some res) :
    Met l y_Volume_addLink (mw y_Volume_addLink b_Volume_addLink 2 none) rm_Volume_addLink (va_Pc [.ref (ga 3), .int a1] (kW (dC, dI) (tC cB cI) (wC ga cB cI σ))) (va_Qv (fun (_ : Unit) => True) (fun _ t => kW (dC, dI) (tC cB cI) (wC ga cB cI res) t) A) 0 0 A := by
  refine Met.ofW (cc := b_Volume_addLink) (maxL := 2) (ret := none) (by decide) rfl ?_
  intro p e s m args below meth c s₁ B hml hv
  obtain ⟨rfl, hP, hK⟩ := hv
  have hx := B.exec
  have hb := B.bytes
  have hr := B.returns
  have hts := atoms_spec (ws := (mw y_Volume_addLink b_Volume_addLink 2 none)) B.pre
  have htb : ∀ w ∈ tb, w.before [.ref (ga 3), .int a1].toArray s = true := fun w h => hts w (mwIn h)
  have hown : s.vm.findClass "LogFs$Volume" = some m.cls := findClass_of_methodNamed B.named
  have hlocks := B.notSynchronized
  have hS : va_S A s.heap s.heap [] := va_S.rf
  have hl := lv_entry ([.ref (ga 3), .int a1]) (n := 2) (Nat.le_of_ble_eq_true rfl)
  rw [lg_entry_eq]
  generalize (lg_sl ([.ref (ga 3), .int a1]) ++ List.replicate (2 - (lg_sl ([.ref (ga 3), .int a1])).length) Slot.unset).toArray = ls at hl ⊢
  have hl : lv_has ls 2 [(0, .ref (ga 3)), (1, .int a1)] := hl
  unfold J_Volume_addLink at hJ
  refine lv_aload_n hx hb d_Volume_addLink_0 rfl (lv_at hl 0 rfl) ?_
  refine lv_iload_n hx hb d_Volume_addLink_1 rfl (lv_at hl 1 rfl) ?_
  refine lv_iconst (v := (1 : Int32)) hx hb d_Volume_addLink_2 (by decide) ?_
  refine lv_aload_n hx hb d_Volume_addLink_3 rfl (lv_at hl 0 rfl) ?_
  refine lv_iload_n hx hb d_Volume_addLink_4 rfl (lv_at hl 1 rfl) ?_
  obtain ⟨x1, e1, hJ⟩ := j_bind hJ
  refine va_calli (va_runV (As := [.int a1]) (rest := [.int (1 : Int32), .int a1, .ref (ga 3)]) ⟨hx, hb, hml, hown, htb⟩ (c_Volume_links (l := l) (dC := dC) (dI := dI) hDa e1) (xcV 1 htb tw430 tw5 tw435 tw428 tw429 rfl rfl hd_Volume_links ⟨Nat.le_of_ble_eq_true rfl, Nat.le_of_ble_eq_true rfl⟩) (kW_V hP hK (va_recv (q0 := 3) (ci := 3) hK hP rfl rfl)) rfl rfl hl.1 rfl (lv_room (Nat.le_of_ble_eq_true rfl)) d_Volume_addLink_5 ⟨Nat.le_of_ble_eq_true rfl, Nat.le_of_ble_eq_true rfl⟩) hS (fun q _ h => h) (fun q h => h) (fun r0 u t H locs ht hvm hw hB _ _ hS => ?_)
  subst r0
  have hP := kW_P hB ht
  refine lv_iconst (v := (1 : Int32)) hx hb d_Volume_addLink_8 (by decide) ?_
  refine lv_iadd hx hb d_Volume_addLink_9 ?_
  obtain ⟨x2, e2, hJ⟩ := j_bind hJ
  refine va_callv (va_runV (As := [.int a1, .int (1 : Int32), .int (x1 + (1 : Int32))]) (rest := []) ⟨hx, hb, hml, hown, htb⟩ (c_Volume_setInodeByte (l := l) (dC := dC) (dI := dI) hDa e2) (xcV 3 htb tw372 tw5 tw369 tw371 ts_Volume_setInodeByte rfl rfl hd_Volume_setInodeByte ⟨Nat.le_of_ble_eq_true rfl, Nat.le_of_ble_eq_true rfl⟩) (kW_V hP hK (va_recv (q0 := 3) (ci := 3) hK hP rfl rfl)) rfl rfl hl.1 rfl (lv_room (Nat.le_of_ble_eq_true rfl)) d_Volume_addLink_10 ⟨Nat.le_of_ble_eq_true rfl, Nat.le_of_ble_eq_true rfl⟩) hS (fun q _ h => h) (fun q h => h) (fun u t H locs ht hvm hw hB _ _ hS => ?_)
  have hP := kW_P hB ht
  have hJ := Option.some.inj hJ
  exact W.vret hx hb hr (fun t ht hW => ⟨⟨(), rfl, trivial, kW_end hP hK ht hW (congrArg (fun z => wC ga cB cI z) hJ)⟩, hS.F ht⟩) hS.2.2 d_Volume_addLink_13
def J_Volume_leastFreeBlock_3_b (k : Int32 → Option (Int32)) (σ : CS) (v1 : Int32) : Option (Int32) :=
  (if (128 : Int32) ≤ v1 then some (0 : Int32) else (J_Blocks_get_m σ (25 : Int32) (v1 / (8 : Int32))).bind fun x2 => (if ((x2 >>> ((v1 - v1 / (8 : Int32) * (8 : Int32)) &&& 31)) &&& (1 : Int32)) = (0 : Int32) then some v1 else k (v1 + (1 : Int32))))
def J_Volume_leastFreeBlock_3 : Nat → CS → Int32 → Option (Int32)
  | 0, _, _ => none
  | n + 1, σ, v1 => J_Volume_leastFreeBlock_3_b (J_Volume_leastFreeBlock_3 n σ) σ v1
def J_Volume_leastFreeBlock (σ : CS)  : Option (Int32) :=
  J_Volume_leastFreeBlock_3 9000 σ (26 : Int32)
abbrev rm_Volume_leastFreeBlock : Room := { frames := 1, cells := 0, slots := 0, locals := 22 }
set_option maxHeartbeats 4000000 in
set_option maxRecDepth 100000 in
theorem c_Volume_leastFreeBlock {l : Launch} {dC : Nat → ClassId} {dI : Nat → Nat → Nat} {ga : Nat → Nat} {cB cI : ClassId} {A : Nat → Prop} (hDa : ∀ σ, va_D A (wC ga cB cI σ)) {σ : CS} {res : Int32} (hJ : J_Volume_leastFreeBlock σ = some res) :
    Met l y_Volume_leastFreeBlock (mw y_Volume_leastFreeBlock b_Volume_leastFreeBlock 2 (some .int)) rm_Volume_leastFreeBlock (va_Pc [.ref (ga 3)] (kW (dC, dI) (tC cB cI) (wC ga cB cI σ))) (va_Qi (fun (x : Int32) (_ : Unit) => x = res) (fun _ t => kW (dC, dI) (tC cB cI) (wC ga cB cI σ) t) A) 0 0 A := by
  refine Met.ofW (cc := b_Volume_leastFreeBlock) (maxL := 2) (ret := (some .int)) (by decide) rfl ?_
  intro p e s m args below meth c s₁ B hml hv
  obtain ⟨rfl, hP, hK⟩ := hv
  have hx := B.exec
  have hb := B.bytes
  have hr := B.returns
  have hts := atoms_spec (ws := (mw y_Volume_leastFreeBlock b_Volume_leastFreeBlock 2 (some .int))) B.pre
  have htb : ∀ w ∈ tb, w.before [.ref (ga 3)].toArray s = true := fun w h => hts w (mwIn h)
  have hown : s.vm.findClass "LogFs$Volume" = some m.cls := findClass_of_methodNamed B.named
  have hlocks := B.notSynchronized
  have hS : va_S A s.heap s.heap [] := va_S.rf
  have hl := lv_entry ([.ref (ga 3)]) (n := 2) (Nat.le_of_ble_eq_true rfl)
  rw [lg_entry_eq]
  generalize (lg_sl ([.ref (ga 3)]) ++ List.replicate (2 - (lg_sl ([.ref (ga 3)])).length) Slot.unset).toArray = ls at hl ⊢
  have hl : lv_has ls 2 [(0, .ref (ga 3))] := hl
  have blk3 : ∀ (n : Nat) (v1 : Int32) (ls : Array Slot) (H : Heap) (locs : List Loc), J_Volume_leastFreeBlock_3 n σ v1 = some res → lv_has ls 2 [(0, .ref (ga 3)), (1, .int v1)] → va_P (dC, dI) cls (wC ga cB cI σ) H → va_S A s.heap H locs → W p l e (headSpec (mw y_Volume_leastFreeBlock b_Volume_leastFreeBlock 2 (some .int)) rm_Volume_leastFreeBlock).room s m [.ref (ga 3)].toArray below meth c H locs 0 0 (MQ below (va_Qi (fun (x : Int32) (_ : Unit) => x = res) (fun _ t => kW (dC, dI) (tC cB cI) (wC ga cB cI σ) t) A) [.ref (ga 3)].toArray s 0 0 A) (F0 m 3 ls []) := by
    intro n
    induction n with
    | zero => intro v1 ls H locs hJ; exact j_none hJ
    | succ n hk =>
      intro v1 ls H locs hJ hl hP hS
      have hJ : J_Volume_leastFreeBlock_3_b (J_Volume_leastFreeBlock_3 n σ) σ v1 = some res := hJ
      unfold J_Volume_leastFreeBlock_3_b at hJ
      refine lv_iload_n hx hb d_Volume_leastFreeBlock_3 rfl (lv_at hl 1 rfl) ?_
      refine lv_sipush (v := (128 : Int32)) hx hb d_Volume_leastFreeBlock_4 (by decide) ?_
      refine lv_icmp_ge (tgt := 41) hx hb d_Volume_leastFreeBlock_7 (by decide) (fun h1 => ?_) (fun h1 => ?_)
      · have hJ := j_t hJ h1
        refine lv_iconst (v := (0 : Int32)) hx hb d_Volume_leastFreeBlock_41 (by decide) ?_
        have hJ := Option.some.inj hJ
        exact W.iret (v := (0 : Int32)) hx hb hr (fun t ht hW => ⟨⟨_, (), rfl, hJ, kW_end hP hK ht hW rfl⟩, hS.F ht⟩) hS.2.2 d_Volume_leastFreeBlock_42
      · have hJ := j_f hJ h1
        refine lv_aload_n hx hb d_Volume_leastFreeBlock_10 rfl (lv_at hl 0 rfl) ?_
        refine va_get (D := (dC, dI)) (ci := 3) (v := .ref (ga 5)) (C := R_Volume) (T := T_Volume) (N := 2) hx hb htb uin_Volume hown hK hP 3 rfl rfl 1 (by decide) (htb _ tw96) (fun _ h9 => h9) rfl d_Volume_leastFreeBlock_11 ?_
        refine lv_bipush (v := (25 : Int32)) hx hb d_Volume_leastFreeBlock_14 (by decide) ?_
        refine lv_iload_n hx hb d_Volume_leastFreeBlock_16 rfl (lv_at hl 1 rfl) ?_
        refine lv_bipush (v := (8 : Int32)) hx hb d_Volume_leastFreeBlock_17 (by decide) ?_
        refine lv_idiv hx hb d_Volume_leastFreeBlock_19 (by decide) ?_
        obtain ⟨x2, e2, hJ⟩ := j_bind hJ
        refine va_calli (va_runV (As := [.int (25 : Int32), .int (v1 / (8 : Int32))]) (rest := []) ⟨hx, hb, hml, hown, htb⟩ (c_Blocks_get_m (l := l) (dC := dC) (dI := dI) hDa e2) (xcV 2 htb tw47 tw3 tw146 tw45 tw46 rfl rfl hd_Blocks_get ⟨Nat.le_of_ble_eq_true rfl, Nat.le_of_ble_eq_true rfl⟩) (kW_V hP hK (va_recv (q0 := 5) (ci := 0) hK hP rfl rfl)) rfl rfl hl.1 rfl (lv_room (Nat.le_of_ble_eq_true rfl)) d_Volume_leastFreeBlock_20 ⟨Nat.le_of_ble_eq_true rfl, Nat.le_of_ble_eq_true rfl⟩) hS (fun q _ h => h) (fun q h => h) (fun r0 u t H locs ht hvm hw hB _ _ hS => ?_)
        subst r0
        have hP := kW_P hB ht
        refine lv_iload_n hx hb d_Volume_leastFreeBlock_23 rfl (lv_at hl 1 rfl) ?_
        refine lv_bipush (v := (8 : Int32)) hx hb d_Volume_leastFreeBlock_24 (by decide) ?_
        refine lv_irem hx hb d_Volume_leastFreeBlock_26 (by decide) ?_
        refine lv_ishr hx hb d_Volume_leastFreeBlock_27 ?_
        refine lv_iconst (v := (1 : Int32)) hx hb d_Volume_leastFreeBlock_28 (by decide) ?_
        refine lv_iand hx hb d_Volume_leastFreeBlock_29 ?_
        refine lv_if_ne (tgt := 35) hx hb d_Volume_leastFreeBlock_30 (by decide) (fun h3 => ?_) (fun h3 => ?_)
        · have hJ := j_f hJ h3
          refine lv_iinc (k := 1) (v := (v1 + (1 : Int32))) hx hb d_Volume_leastFreeBlock_35 hl rfl rfl (Nat.le_of_ble_eq_true rfl) rfl (fun ls hl => ?_)
          have hl : lv_has ls 2 [(1, .int (v1 + (1 : Int32))), (0, .ref (ga 3))] := hl
          refine lv_goto (tgt := 3) hx hb d_Volume_leastFreeBlock_38 (by decide) ?_
          exact hk _ _ _ _ hJ (lv_sub hl [1, 0] rfl) hP hS
        · have hJ := j_t hJ h3
          refine lv_iload_n hx hb d_Volume_leastFreeBlock_33 rfl (lv_at hl 1 rfl) ?_
          have hJ := Option.some.inj hJ
          exact W.iret (v := v1) hx hb hr (fun t ht hW => ⟨⟨_, (), rfl, hJ, kW_end hP hK ht hW rfl⟩, hS.F ht⟩) hS.2.2 d_Volume_leastFreeBlock_34
  unfold J_Volume_leastFreeBlock at hJ
  refine lv_bipush (v := (26 : Int32)) hx hb d_Volume_leastFreeBlock_0 (by decide) ?_
  refine lv_istore_n hx hb d_Volume_leastFreeBlock_2 rfl hl (Nat.le_of_ble_eq_true rfl) rfl (fun ls hl => ?_)
  have hl : lv_has ls 2 [(1, .int (26 : Int32)), (0, .ref (ga 3))] := hl
  exact blk3 9000 _ _ _ _ hJ (lv_sub hl [1, 0] rfl) hP hS
def J_Volume_takeBlock (σ : CS)  : Option (Int32 × CS) :=
  (J_Volume_leastFreeBlock σ).bind fun x1 => (J_Blocks_get_m σ (25 : Int32) (x1 / (8 : Int32))).bind fun x2 => (J_Memory_change σ (25 : Int32) (x1 / (8 : Int32)) (x2 ||| ((1 : Int32) <<< ((x1 - x1 / (8 : Int32) * (8 : Int32)) &&& 31)))).bind fun x3 => (J_Memory_clear x3 x1).bind fun x4 => some (x1, x4)
abbrev rm_Volume_takeBlock : Room := { frames := 3, cells := 0, slots := 0, locals := 66 }
set_option maxHeartbeats 4000000 in
set_option maxRecDepth 100000 in
theorem c_Volume_takeBlock {l : Launch} {dC : Nat → ClassId} {dI : Nat → Nat → Nat} {ga : Nat → Nat} {cB cI : ClassId} {A : Nat → Prop} (hDa : ∀ σ, va_D A (wC ga cB cI σ)) {σ : CS} {res : Int32 × CS} (hJ : J_Volume_takeBlock σ = some res) :
    Met l y_Volume_takeBlock (mw y_Volume_takeBlock b_Volume_takeBlock 2 (some .int)) rm_Volume_takeBlock (va_Pc [.ref (ga 3)] (kW (dC, dI) (tC cB cI) (wC ga cB cI σ))) (va_Qi (fun (x : Int32) (_ : Unit) => x = res.1) (fun _ t => kW (dC, dI) (tC cB cI) (wC ga cB cI res.2) t) A) 0 0 A := by
  refine Met.ofW (cc := b_Volume_takeBlock) (maxL := 2) (ret := (some .int)) (by decide) rfl ?_
  intro p e s m args below meth c s₁ B hml hv
  obtain ⟨rfl, hP, hK⟩ := hv
  have hx := B.exec
  have hb := B.bytes
  have hr := B.returns
  have hts := atoms_spec (ws := (mw y_Volume_takeBlock b_Volume_takeBlock 2 (some .int))) B.pre
  have htb : ∀ w ∈ tb, w.before [.ref (ga 3)].toArray s = true := fun w h => hts w (mwIn h)
  have hown : s.vm.findClass "LogFs$Volume" = some m.cls := findClass_of_methodNamed B.named
  have hlocks := B.notSynchronized
  have hS : va_S A s.heap s.heap [] := va_S.rf
  have hl := lv_entry ([.ref (ga 3)]) (n := 2) (Nat.le_of_ble_eq_true rfl)
  rw [lg_entry_eq]
  generalize (lg_sl ([.ref (ga 3)]) ++ List.replicate (2 - (lg_sl ([.ref (ga 3)])).length) Slot.unset).toArray = ls at hl ⊢
  have hl : lv_has ls 2 [(0, .ref (ga 3))] := hl
  unfold J_Volume_takeBlock at hJ
  refine lv_aload_n hx hb d_Volume_takeBlock_0 rfl (lv_at hl 0 rfl) ?_
  obtain ⟨x1, e1, hJ⟩ := j_bind hJ
  refine va_calli (va_runV (As := []) (rest := []) ⟨hx, hb, hml, hown, htb⟩ (c_Volume_leastFreeBlock (l := l) (dC := dC) (dI := dI) hDa e1) (xcV 0 htb tw406 tw5 tw403 tw405 ts_Volume_leastFreeBlock rfl rfl hd_Volume_leastFreeBlock ⟨Nat.le_of_ble_eq_true rfl, Nat.le_of_ble_eq_true rfl⟩) (kW_V hP hK (va_recv (q0 := 3) (ci := 3) hK hP rfl rfl)) rfl rfl hl.1 rfl (lv_room (Nat.le_of_ble_eq_true rfl)) d_Volume_takeBlock_1 ⟨Nat.le_of_ble_eq_true rfl, Nat.le_of_ble_eq_true rfl⟩) hS (fun q _ h => h) (fun q h => h) (fun r0 u t H locs ht hvm hw hB _ _ hS => ?_)
  subst r0
  have hP := kW_P hB ht
  refine lv_istore_n hx hb d_Volume_takeBlock_4 rfl hl (Nat.le_of_ble_eq_true rfl) rfl (fun ls hl => ?_)
  have hl : lv_has ls 2 [(1, .int x1), (0, .ref (ga 3))] := hl
  refine lv_aload_n hx hb d_Volume_takeBlock_5 rfl (lv_at hl 1 rfl) ?_
  refine va_get (D := (dC, dI)) (ci := 3) (v := .ref (ga 2)) (C := R_Volume) (T := T_Volume) (N := 2) hx hb htb uin_Volume hown hK hP 3 rfl rfl 0 (by decide) (htb _ tw95) (fun _ h9 => h9) rfl d_Volume_takeBlock_6 ?_
  refine lv_bipush (v := (25 : Int32)) hx hb d_Volume_takeBlock_9 (by decide) ?_
  refine lv_iload_n hx hb d_Volume_takeBlock_11 rfl (lv_at hl 0 rfl) ?_
  refine lv_bipush (v := (8 : Int32)) hx hb d_Volume_takeBlock_12 (by decide) ?_
  refine lv_idiv hx hb d_Volume_takeBlock_14 (by decide) ?_
  refine lv_aload_n hx hb d_Volume_takeBlock_15 rfl (lv_at hl 1 rfl) ?_
  refine va_get (D := (dC, dI)) (ci := 3) (v := .ref (ga 5)) (C := R_Volume) (T := T_Volume) (N := 2) hx hb htb uin_Volume hown hK hP 3 rfl rfl 1 (by decide) (htb _ tw96) (fun _ h9 => h9) rfl d_Volume_takeBlock_16 ?_
  refine lv_bipush (v := (25 : Int32)) hx hb d_Volume_takeBlock_19 (by decide) ?_
  refine lv_iload_n hx hb d_Volume_takeBlock_21 rfl (lv_at hl 0 rfl) ?_
  refine lv_bipush (v := (8 : Int32)) hx hb d_Volume_takeBlock_22 (by decide) ?_
  refine lv_idiv hx hb d_Volume_takeBlock_24 (by decide) ?_
  obtain ⟨x2, e2, hJ⟩ := j_bind hJ
  refine va_calli (va_runV (As := [.int (25 : Int32), .int (x1 / (8 : Int32))]) (rest := [.int (x1 / (8 : Int32)), .int (25 : Int32), .ref (ga 2)]) ⟨hx, hb, hml, hown, htb⟩ (c_Blocks_get_m (l := l) (dC := dC) (dI := dI) hDa e2) (xcV 2 htb tw47 tw3 tw146 tw45 tw46 rfl rfl hd_Blocks_get ⟨Nat.le_of_ble_eq_true rfl, Nat.le_of_ble_eq_true rfl⟩) (kW_V hP hK (va_recv (q0 := 5) (ci := 0) hK hP rfl rfl)) rfl rfl hl.1 rfl (lv_room (Nat.le_of_ble_eq_true rfl)) d_Volume_takeBlock_25 ⟨Nat.le_of_ble_eq_true rfl, Nat.le_of_ble_eq_true rfl⟩) hS (fun q _ h => h) (fun q h => h) (fun r0 u t H locs ht hvm hw hB _ _ hS => ?_)
  subst r0
  have hP := kW_P hB ht
  refine lv_iconst (v := (1 : Int32)) hx hb d_Volume_takeBlock_28 (by decide) ?_
  refine lv_iload_n hx hb d_Volume_takeBlock_29 rfl (lv_at hl 0 rfl) ?_
  refine lv_bipush (v := (8 : Int32)) hx hb d_Volume_takeBlock_30 (by decide) ?_
  refine lv_irem hx hb d_Volume_takeBlock_32 (by decide) ?_
  refine lv_ishl hx hb d_Volume_takeBlock_33 ?_
  refine lv_ior hx hb d_Volume_takeBlock_34 ?_
  obtain ⟨x3, e3, hJ⟩ := j_bind hJ
  refine va_callv (va_runV (As := [.int (25 : Int32), .int (x1 / (8 : Int32)), .int (x2 ||| ((1 : Int32) <<< ((x1 - x1 / (8 : Int32) * (8 : Int32)) &&& 31)))]) (rest := []) ⟨hx, hb, hml, hown, htb⟩ (c_Memory_change (l := l) (dC := dC) (dI := dI) hDa e3) (xcV 3 htb tw376 tw4 tw373 tw374 tw375 rfl rfl hd_Memory_change ⟨Nat.le_of_ble_eq_true rfl, Nat.le_of_ble_eq_true rfl⟩) (kW_V hP hK (va_recv (q0 := 2) (ci := 2) hK hP rfl rfl)) rfl rfl hl.1 rfl (lv_room (Nat.le_of_ble_eq_true rfl)) d_Volume_takeBlock_35 ⟨Nat.le_of_ble_eq_true rfl, Nat.le_of_ble_eq_true rfl⟩) hS (fun q _ h => h) (fun q h => h) (fun u t H locs ht hvm hw hB _ _ hS => ?_)
  have hP := kW_P hB ht
  refine lv_aload_n hx hb d_Volume_takeBlock_38 rfl (lv_at hl 1 rfl) ?_
  refine va_get (D := (dC, dI)) (ci := 3) (v := .ref (ga 2)) (C := R_Volume) (T := T_Volume) (N := 2) hx hb htb uin_Volume hown hK hP 3 rfl rfl 0 (by decide) (htb _ tw95) (fun _ h9 => h9) rfl d_Volume_takeBlock_39 ?_
  refine lv_iload_n hx hb d_Volume_takeBlock_42 rfl (lv_at hl 0 rfl) ?_
  obtain ⟨x4, e4, hJ⟩ := j_bind hJ
  refine va_callv (va_runV (As := [.int x1]) (rest := []) ⟨hx, hb, hml, hown, htb⟩ (c_Memory_clear (l := l) (dC := dC) (dI := dI) hDa e4) (xcV 1 htb tw410 tw4 tw407 tw408 tw409 rfl rfl hd_Memory_clear ⟨Nat.le_of_ble_eq_true rfl, Nat.le_of_ble_eq_true rfl⟩) (kW_V hP hK (va_recv (q0 := 2) (ci := 2) hK hP rfl rfl)) rfl rfl hl.1 rfl (lv_room (Nat.le_of_ble_eq_true rfl)) d_Volume_takeBlock_43 ⟨Nat.le_of_ble_eq_true rfl, Nat.le_of_ble_eq_true rfl⟩) hS (fun q _ h => h) (fun q h => h) (fun u t H locs ht hvm hw hB _ _ hS => ?_)
  have hP := kW_P hB ht
  refine lv_iload_n hx hb d_Volume_takeBlock_46 rfl (lv_at hl 0 rfl) ?_
  have hJ := Option.some.inj hJ
  exact W.iret (v := x1) hx hb hr (fun t ht hW => ⟨⟨_, (), rfl, (j_p1 hJ), kW_end hP hK ht hW (congrArg (fun z => wC ga cB cI z) (j_p2 hJ))⟩, hS.F ht⟩) hS.2.2 d_Volume_takeBlock_47
def J_Volume_giveBack (σ : CS) (a1 : Int32) : Option (CS) :=
  (J_Blocks_get_m σ (25 : Int32) (a1 / (8 : Int32))).bind fun x1 => (J_Memory_change σ (25 : Int32) (a1 / (8 : Int32)) (x1 &&& (((1 : Int32) <<< ((a1 - a1 / (8 : Int32) * (8 : Int32)) &&& 31)) ^^^ ((-1) : Int32)))).bind fun x2 => some x2
abbrev rm_Volume_giveBack : Room := { frames := 2, cells := 0, slots := 0, locals := 46 }
set_option maxHeartbeats 4000000 in
set_option maxRecDepth 100000 in
theorem c_Volume_giveBack {l : Launch} {dC : Nat → ClassId} {dI : Nat → Nat → Nat} {ga : Nat → Nat} {cB cI : ClassId} {A : Nat → Prop} (hDa : ∀ σ, va_D A (wC ga cB cI σ)) {σ : CS} {a1 : Int32} {res : CS} (hJ : J_Volume_giveBack σ a1 = some res) :
    Met l y_Volume_giveBack (mw y_Volume_giveBack b_Volume_giveBack 2 none) rm_Volume_giveBack (va_Pc [.ref (ga 3), .int a1] (kW (dC, dI) (tC cB cI) (wC ga cB cI σ))) (va_Qv (fun (_ : Unit) => True) (fun _ t => kW (dC, dI) (tC cB cI) (wC ga cB cI res) t) A) 0 0 A := by
  refine Met.ofW (cc := b_Volume_giveBack) (maxL := 2) (ret := none) (by decide) rfl ?_
  intro p e s m args below meth c s₁ B hml hv
  obtain ⟨rfl, hP, hK⟩ := hv
  have hx := B.exec
  have hb := B.bytes
  have hr := B.returns
  have hts := atoms_spec (ws := (mw y_Volume_giveBack b_Volume_giveBack 2 none)) B.pre
  have htb : ∀ w ∈ tb, w.before [.ref (ga 3), .int a1].toArray s = true := fun w h => hts w (mwIn h)
  have hown : s.vm.findClass "LogFs$Volume" = some m.cls := findClass_of_methodNamed B.named
  have hlocks := B.notSynchronized
  have hS : va_S A s.heap s.heap [] := va_S.rf
  have hl := lv_entry ([.ref (ga 3), .int a1]) (n := 2) (Nat.le_of_ble_eq_true rfl)
  rw [lg_entry_eq]
  generalize (lg_sl ([.ref (ga 3), .int a1]) ++ List.replicate (2 - (lg_sl ([.ref (ga 3), .int a1])).length) Slot.unset).toArray = ls at hl ⊢
  have hl : lv_has ls 2 [(0, .ref (ga 3)), (1, .int a1)] := hl
  unfold J_Volume_giveBack at hJ
  refine lv_aload_n hx hb d_Volume_giveBack_0 rfl (lv_at hl 0 rfl) ?_
  refine va_get (D := (dC, dI)) (ci := 3) (v := .ref (ga 2)) (C := R_Volume) (T := T_Volume) (N := 2) hx hb htb uin_Volume hown hK hP 3 rfl rfl 0 (by decide) (htb _ tw95) (fun _ h9 => h9) rfl d_Volume_giveBack_1 ?_
  refine lv_bipush (v := (25 : Int32)) hx hb d_Volume_giveBack_4 (by decide) ?_
  refine lv_iload_n hx hb d_Volume_giveBack_6 rfl (lv_at hl 1 rfl) ?_
  refine lv_bipush (v := (8 : Int32)) hx hb d_Volume_giveBack_7 (by decide) ?_
  refine lv_idiv hx hb d_Volume_giveBack_9 (by decide) ?_
  refine lv_aload_n hx hb d_Volume_giveBack_10 rfl (lv_at hl 0 rfl) ?_
  refine va_get (D := (dC, dI)) (ci := 3) (v := .ref (ga 5)) (C := R_Volume) (T := T_Volume) (N := 2) hx hb htb uin_Volume hown hK hP 3 rfl rfl 1 (by decide) (htb _ tw96) (fun _ h9 => h9) rfl d_Volume_giveBack_11 ?_
  refine lv_bipush (v := (25 : Int32)) hx hb d_Volume_giveBack_14 (by decide) ?_
  refine lv_iload_n hx hb d_Volume_giveBack_16 rfl (lv_at hl 1 rfl) ?_
  refine lv_bipush (v := (8 : Int32)) hx hb d_Volume_giveBack_17 (by decide) ?_
  refine lv_idiv hx hb d_Volume_giveBack_19 (by decide) ?_
  obtain ⟨x1, e1, hJ⟩ := j_bind hJ
  refine va_calli (va_runV (As := [.int (25 : Int32), .int (a1 / (8 : Int32))]) (rest := [.int (a1 / (8 : Int32)), .int (25 : Int32), .ref (ga 2)]) ⟨hx, hb, hml, hown, htb⟩ (c_Blocks_get_m (l := l) (dC := dC) (dI := dI) hDa e1) (xcV 2 htb tw47 tw3 tw146 tw45 tw46 rfl rfl hd_Blocks_get ⟨Nat.le_of_ble_eq_true rfl, Nat.le_of_ble_eq_true rfl⟩) (kW_V hP hK (va_recv (q0 := 5) (ci := 0) hK hP rfl rfl)) rfl rfl hl.1 rfl (lv_room (Nat.le_of_ble_eq_true rfl)) d_Volume_giveBack_20 ⟨Nat.le_of_ble_eq_true rfl, Nat.le_of_ble_eq_true rfl⟩) hS (fun q _ h => h) (fun q h => h) (fun r0 u t H locs ht hvm hw hB _ _ hS => ?_)
  subst r0
  have hP := kW_P hB ht
  refine lv_iconst (v := (1 : Int32)) hx hb d_Volume_giveBack_23 (by decide) ?_
  refine lv_iload_n hx hb d_Volume_giveBack_24 rfl (lv_at hl 1 rfl) ?_
  refine lv_bipush (v := (8 : Int32)) hx hb d_Volume_giveBack_25 (by decide) ?_
  refine lv_irem hx hb d_Volume_giveBack_27 (by decide) ?_
  refine lv_ishl hx hb d_Volume_giveBack_28 ?_
  refine lv_iconst (v := ((-1) : Int32)) hx hb d_Volume_giveBack_29 (by decide) ?_
  refine lv_ixor hx hb d_Volume_giveBack_30 ?_
  refine lv_iand hx hb d_Volume_giveBack_31 ?_
  obtain ⟨x2, e2, hJ⟩ := j_bind hJ
  refine va_callv (va_runV (As := [.int (25 : Int32), .int (a1 / (8 : Int32)), .int (x1 &&& (((1 : Int32) <<< ((a1 - a1 / (8 : Int32) * (8 : Int32)) &&& 31)) ^^^ ((-1) : Int32)))]) (rest := []) ⟨hx, hb, hml, hown, htb⟩ (c_Memory_change (l := l) (dC := dC) (dI := dI) hDa e2) (xcV 3 htb tw376 tw4 tw373 tw374 tw375 rfl rfl hd_Memory_change ⟨Nat.le_of_ble_eq_true rfl, Nat.le_of_ble_eq_true rfl⟩) (kW_V hP hK (va_recv (q0 := 2) (ci := 2) hK hP rfl rfl)) rfl rfl hl.1 rfl (lv_room (Nat.le_of_ble_eq_true rfl)) d_Volume_giveBack_32 ⟨Nat.le_of_ble_eq_true rfl, Nat.le_of_ble_eq_true rfl⟩) hS (fun q _ h => h) (fun q h => h) (fun u t H locs ht hvm hw hB _ _ hS => ?_)
  have hP := kW_P hB ht
  have hJ := Option.some.inj hJ
  exact W.vret hx hb hr (fun t ht hW => ⟨⟨(), rfl, trivial, kW_end hP hK ht hW (congrArg (fun z => wC ga cB cI z) hJ)⟩, hS.F ht⟩) hS.2.2 d_Volume_giveBack_35
def J_Volume_addContentBlock_44 (σ : CS) (v1 : Int32) (v2 : Int32) : Option (CS) :=
  (J_Volume_takeBlock σ).bind fun x4 => (J_Volume_inodeByte x4.2 v1 (14 : Int32)).bind fun x5 => (J_Memory_change x4.2 x5 (v2 - (10 : Int32)) x4.1).bind fun x6 => some x6
def J_Volume_addContentBlock (σ : CS) (a1 : Int32) (a2 : Int32) : Option (CS) :=
  (if (10 : Int32) ≤ a2 then (J_Volume_inodeByte σ a1 (14 : Int32)).bind fun x2 => (if x2 = (0 : Int32) then (J_Volume_takeBlock σ).bind fun x7 => (J_Volume_setInodeByte x7.2 a1 (14 : Int32) x7.1).bind fun x8 => J_Volume_addContentBlock_44 x8 a1 a2 else J_Volume_addContentBlock_44 σ a1 a2) else (J_Volume_takeBlock σ).bind fun x9 => (J_Volume_setInodeByte x9.2 a1 ((4 : Int32) + a2) x9.1).bind fun x10 => some x10)
abbrev rm_Volume_addContentBlock : Room := { frames := 4, cells := 0, slots := 0, locals := 87 }
set_option maxHeartbeats 4000000 in
set_option maxRecDepth 100000 in
theorem c_Volume_addContentBlock {l : Launch} {dC : Nat → ClassId} {dI : Nat → Nat → Nat} {ga : Nat → Nat} {cB cI : ClassId} {A : Nat → Prop} (hDa : ∀ σ, va_D A (wC ga cB cI σ)) {σ : CS} {a1 : Int32} {a2 : Int32} {res : CS} (hJ : J_Volume_addContentBlock σ a1 a2 = some res) :
    Met l y_Volume_addContentBlock (mw y_Volume_addContentBlock b_Volume_addContentBlock 4 none) rm_Volume_addContentBlock (va_Pc [.ref (ga 3), .int a1, .int a2] (kW (dC, dI) (tC cB cI) (wC ga cB cI σ))) (va_Qv (fun (_ : Unit) => True) (fun _ t => kW (dC, dI) (tC cB cI) (wC ga cB cI res) t) A) 0 0 A := by
  refine Met.ofW (cc := b_Volume_addContentBlock) (maxL := 4) (ret := none) (by decide) rfl ?_
  intro p e s m args below meth c s₁ B hml hv
  obtain ⟨rfl, hP, hK⟩ := hv
  have hx := B.exec
  have hb := B.bytes
  have hr := B.returns
  have hts := atoms_spec (ws := (mw y_Volume_addContentBlock b_Volume_addContentBlock 4 none)) B.pre
  have htb : ∀ w ∈ tb, w.before [.ref (ga 3), .int a1, .int a2].toArray s = true := fun w h => hts w (mwIn h)
  have hown : s.vm.findClass "LogFs$Volume" = some m.cls := findClass_of_methodNamed B.named
  have hlocks := B.notSynchronized
  have hS : va_S A s.heap s.heap [] := va_S.rf
  have hl := lv_entry ([.ref (ga 3), .int a1, .int a2]) (n := 4) (Nat.le_of_ble_eq_true rfl)
  rw [lg_entry_eq]
  generalize (lg_sl ([.ref (ga 3), .int a1, .int a2]) ++ List.replicate (4 - (lg_sl ([.ref (ga 3), .int a1, .int a2])).length) Slot.unset).toArray = ls at hl ⊢
  have hl : lv_has ls 4 [(0, .ref (ga 3)), (1, .int a1), (2, .int a2)] := hl
  have blk44 : ∀ (σ : CS) (v1 : Int32) (v2 : Int32) (ls : Array Slot) (H : Heap) (locs : List Loc), J_Volume_addContentBlock_44 σ v1 v2 = some res → lv_has ls 4 [(0, .ref (ga 3)), (1, .int v1), (2, .int v2)] → va_P (dC, dI) cls (wC ga cB cI σ) H → va_S A s.heap H locs → W p l e (headSpec (mw y_Volume_addContentBlock b_Volume_addContentBlock 4 none) rm_Volume_addContentBlock).room s m [.ref (ga 3), .int a1, .int a2].toArray below meth c H locs 0 0 (MQ below (va_Qv (fun (_ : Unit) => True) (fun _ t => kW (dC, dI) (tC cB cI) (wC ga cB cI res) t) A) [.ref (ga 3), .int a1, .int a2].toArray s 0 0 A) (F0 m 44 ls []) := by
    intro σ v1 v2 ls H locs hJ hl hP hS
    unfold J_Volume_addContentBlock_44 at hJ
    refine lv_aload_n hx hb d_Volume_addContentBlock_44 rfl (lv_at hl 0 rfl) ?_
    obtain ⟨x4, e4, hJ⟩ := j_bind hJ
    refine va_calli (va_runV (As := []) (rest := []) ⟨hx, hb, hml, hown, htb⟩ (c_Volume_takeBlock (l := l) (dC := dC) (dI := dI) hDa e4) (xcV 0 htb tw402 tw5 tw399 tw401 ts_Volume_takeBlock rfl rfl hd_Volume_takeBlock ⟨Nat.le_of_ble_eq_true rfl, Nat.le_of_ble_eq_true rfl⟩) (kW_V hP hK (va_recv (q0 := 3) (ci := 3) hK hP rfl rfl)) rfl rfl hl.1 rfl (lv_room (Nat.le_of_ble_eq_true rfl)) d_Volume_addContentBlock_45 ⟨Nat.le_of_ble_eq_true rfl, Nat.le_of_ble_eq_true rfl⟩) hS (fun q _ h => h) (fun q h => h) (fun r0 u t H locs ht hvm hw hB _ _ hS => ?_)
    subst r0
    have hP := kW_P hB ht
    refine lv_istore_n hx hb d_Volume_addContentBlock_48 rfl hl (Nat.le_of_ble_eq_true rfl) rfl (fun ls hl => ?_)
    have hl : lv_has ls 4 [(3, .int x4.1), (0, .ref (ga 3)), (1, .int v1), (2, .int v2)] := hl
    refine lv_aload_n hx hb d_Volume_addContentBlock_49 rfl (lv_at hl 1 rfl) ?_
    refine va_get (D := (dC, dI)) (ci := 3) (v := .ref (ga 2)) (C := R_Volume) (T := T_Volume) (N := 2) hx hb htb uin_Volume hown hK hP 3 rfl rfl 0 (by decide) (htb _ tw95) (fun _ h9 => h9) rfl d_Volume_addContentBlock_50 ?_
    refine lv_aload_n hx hb d_Volume_addContentBlock_53 rfl (lv_at hl 1 rfl) ?_
    refine lv_iload_n hx hb d_Volume_addContentBlock_54 rfl (lv_at hl 2 rfl) ?_
    refine lv_bipush (v := (14 : Int32)) hx hb d_Volume_addContentBlock_55 (by decide) ?_
    obtain ⟨x5, e5, hJ⟩ := j_bind hJ
    refine va_calli (va_runV (As := [.int v1, .int (14 : Int32)]) (rest := [.ref (ga 2)]) ⟨hx, hb, hml, hown, htb⟩ (c_Volume_inodeByte (l := l) (dC := dC) (dI := dI) hDa e5) (xcV 2 htb tw164 tw5 tw161 tw163 ts_Volume_inodeByte rfl rfl hd_Volume_inodeByte ⟨Nat.le_of_ble_eq_true rfl, Nat.le_of_ble_eq_true rfl⟩) (kW_V hP hK (va_recv (q0 := 3) (ci := 3) hK hP rfl rfl)) rfl rfl hl.1 rfl (lv_room (Nat.le_of_ble_eq_true rfl)) d_Volume_addContentBlock_57 ⟨Nat.le_of_ble_eq_true rfl, Nat.le_of_ble_eq_true rfl⟩) hS (fun q _ h => h) (fun q h => h) (fun r0 u t H locs ht hvm hw hB _ _ hS => ?_)
    subst r0
    have hP := kW_P hB ht
    refine lv_iload_n hx hb d_Volume_addContentBlock_60 rfl (lv_at hl 3 rfl) ?_
    refine lv_bipush (v := (10 : Int32)) hx hb d_Volume_addContentBlock_61 (by decide) ?_
    refine lv_isub hx hb d_Volume_addContentBlock_63 ?_
    refine lv_iload_n hx hb d_Volume_addContentBlock_64 rfl (lv_at hl 0 rfl) ?_
    obtain ⟨x6, e6, hJ⟩ := j_bind hJ
    refine va_callv (va_runV (As := [.int x5, .int (v2 - (10 : Int32)), .int x4.1]) (rest := []) ⟨hx, hb, hml, hown, htb⟩ (c_Memory_change (l := l) (dC := dC) (dI := dI) hDa e6) (xcV 3 htb tw376 tw4 tw373 tw374 tw375 rfl rfl hd_Memory_change ⟨Nat.le_of_ble_eq_true rfl, Nat.le_of_ble_eq_true rfl⟩) (kW_V hP hK (va_recv (q0 := 2) (ci := 2) hK hP rfl rfl)) rfl rfl hl.1 rfl (lv_room (Nat.le_of_ble_eq_true rfl)) d_Volume_addContentBlock_65 ⟨Nat.le_of_ble_eq_true rfl, Nat.le_of_ble_eq_true rfl⟩) hS (fun q _ h => h) (fun q h => h) (fun u t H locs ht hvm hw hB _ _ hS => ?_)
    have hP := kW_P hB ht
    have hJ := Option.some.inj hJ
    exact W.vret hx hb hr (fun t ht hW => ⟨⟨(), rfl, trivial, kW_end hP hK ht hW (congrArg (fun z => wC ga cB cI z) hJ)⟩, hS.F ht⟩) hS.2.2 d_Volume_addContentBlock_68
  unfold J_Volume_addContentBlock at hJ
  refine lv_iload_n hx hb d_Volume_addContentBlock_0 rfl (lv_at hl 2 rfl) ?_
  refine lv_bipush (v := (10 : Int32)) hx hb d_Volume_addContentBlock_1 (by decide) ?_
  refine lv_icmp_ge (tgt := 21) hx hb d_Volume_addContentBlock_3 (by decide) (fun h1 => ?_) (fun h1 => ?_)
  · have hJ := j_t hJ h1
    refine lv_aload_n hx hb d_Volume_addContentBlock_21 rfl (lv_at hl 0 rfl) ?_
    refine lv_iload_n hx hb d_Volume_addContentBlock_22 rfl (lv_at hl 1 rfl) ?_
    refine lv_bipush (v := (14 : Int32)) hx hb d_Volume_addContentBlock_23 (by decide) ?_
    obtain ⟨x2, e2, hJ⟩ := j_bind hJ
    refine va_calli (va_runV (As := [.int a1, .int (14 : Int32)]) (rest := []) ⟨hx, hb, hml, hown, htb⟩ (c_Volume_inodeByte (l := l) (dC := dC) (dI := dI) hDa e2) (xcV 2 htb tw164 tw5 tw161 tw163 ts_Volume_inodeByte rfl rfl hd_Volume_inodeByte ⟨Nat.le_of_ble_eq_true rfl, Nat.le_of_ble_eq_true rfl⟩) (kW_V hP hK (va_recv (q0 := 3) (ci := 3) hK hP rfl rfl)) rfl rfl hl.1 rfl (lv_room (Nat.le_of_ble_eq_true rfl)) d_Volume_addContentBlock_25 ⟨Nat.le_of_ble_eq_true rfl, Nat.le_of_ble_eq_true rfl⟩) hS (fun q _ h => h) (fun q h => h) (fun r0 u t H locs ht hvm hw hB _ _ hS => ?_)
    subst r0
    have hP := kW_P hB ht
    refine lv_if_ne (tgt := 44) hx hb d_Volume_addContentBlock_28 (by decide) (fun h3 => ?_) (fun h3 => ?_)
    · have hJ := j_f hJ h3
      exact blk44 _ _ _ _ _ _ hJ (lv_sub hl [0, 1, 2] rfl) hP hS
    · have hJ := j_t hJ h3
      refine lv_aload_n hx hb d_Volume_addContentBlock_31 rfl (lv_at hl 0 rfl) ?_
      obtain ⟨x7, e7, hJ⟩ := j_bind hJ
      refine va_calli (va_runV (As := []) (rest := []) ⟨hx, hb, hml, hown, htb⟩ (c_Volume_takeBlock (l := l) (dC := dC) (dI := dI) hDa e7) (xcV 0 htb tw402 tw5 tw399 tw401 ts_Volume_takeBlock rfl rfl hd_Volume_takeBlock ⟨Nat.le_of_ble_eq_true rfl, Nat.le_of_ble_eq_true rfl⟩) (kW_V hP hK (va_recv (q0 := 3) (ci := 3) hK hP rfl rfl)) rfl rfl hl.1 rfl (lv_room (Nat.le_of_ble_eq_true rfl)) d_Volume_addContentBlock_32 ⟨Nat.le_of_ble_eq_true rfl, Nat.le_of_ble_eq_true rfl⟩) hS (fun q _ h => h) (fun q h => h) (fun r0 u t H locs ht hvm hw hB _ _ hS => ?_)
      subst r0
      have hP := kW_P hB ht
      refine lv_istore_n hx hb d_Volume_addContentBlock_35 rfl hl (Nat.le_of_ble_eq_true rfl) rfl (fun ls hl => ?_)
      have hl : lv_has ls 4 [(3, .int x7.1), (0, .ref (ga 3)), (1, .int a1), (2, .int a2)] := hl
      refine lv_aload_n hx hb d_Volume_addContentBlock_36 rfl (lv_at hl 1 rfl) ?_
      refine lv_iload_n hx hb d_Volume_addContentBlock_37 rfl (lv_at hl 2 rfl) ?_
      refine lv_bipush (v := (14 : Int32)) hx hb d_Volume_addContentBlock_38 (by decide) ?_
      refine lv_iload_n hx hb d_Volume_addContentBlock_40 rfl (lv_at hl 0 rfl) ?_
      obtain ⟨x8, e8, hJ⟩ := j_bind hJ
      refine va_callv (va_runV (As := [.int a1, .int (14 : Int32), .int x7.1]) (rest := []) ⟨hx, hb, hml, hown, htb⟩ (c_Volume_setInodeByte (l := l) (dC := dC) (dI := dI) hDa e8) (xcV 3 htb tw372 tw5 tw369 tw371 ts_Volume_setInodeByte rfl rfl hd_Volume_setInodeByte ⟨Nat.le_of_ble_eq_true rfl, Nat.le_of_ble_eq_true rfl⟩) (kW_V hP hK (va_recv (q0 := 3) (ci := 3) hK hP rfl rfl)) rfl rfl hl.1 rfl (lv_room (Nat.le_of_ble_eq_true rfl)) d_Volume_addContentBlock_41 ⟨Nat.le_of_ble_eq_true rfl, Nat.le_of_ble_eq_true rfl⟩) hS (fun q _ h => h) (fun q h => h) (fun u t H locs ht hvm hw hB _ _ hS => ?_)
      have hP := kW_P hB ht
      exact blk44 _ _ _ _ _ _ hJ (lv_sub hl [1, 2, 3] rfl) hP hS
  · have hJ := j_f hJ h1
    refine lv_aload_n hx hb d_Volume_addContentBlock_6 rfl (lv_at hl 0 rfl) ?_
    obtain ⟨x9, e9, hJ⟩ := j_bind hJ
    refine va_calli (va_runV (As := []) (rest := []) ⟨hx, hb, hml, hown, htb⟩ (c_Volume_takeBlock (l := l) (dC := dC) (dI := dI) hDa e9) (xcV 0 htb tw402 tw5 tw399 tw401 ts_Volume_takeBlock rfl rfl hd_Volume_takeBlock ⟨Nat.le_of_ble_eq_true rfl, Nat.le_of_ble_eq_true rfl⟩) (kW_V hP hK (va_recv (q0 := 3) (ci := 3) hK hP rfl rfl)) rfl rfl hl.1 rfl (lv_room (Nat.le_of_ble_eq_true rfl)) d_Volume_addContentBlock_7 ⟨Nat.le_of_ble_eq_true rfl, Nat.le_of_ble_eq_true rfl⟩) hS (fun q _ h => h) (fun q h => h) (fun r0 u t H locs ht hvm hw hB _ _ hS => ?_)
    subst r0
    have hP := kW_P hB ht
    refine lv_istore_n hx hb d_Volume_addContentBlock_10 rfl hl (Nat.le_of_ble_eq_true rfl) rfl (fun ls hl => ?_)
    have hl : lv_has ls 4 [(3, .int x9.1), (0, .ref (ga 3)), (1, .int a1), (2, .int a2)] := hl
    refine lv_aload_n hx hb d_Volume_addContentBlock_11 rfl (lv_at hl 1 rfl) ?_
    refine lv_iload_n hx hb d_Volume_addContentBlock_12 rfl (lv_at hl 2 rfl) ?_
    refine lv_iconst (v := (4 : Int32)) hx hb d_Volume_addContentBlock_13 (by decide) ?_
    refine lv_iload_n hx hb d_Volume_addContentBlock_14 rfl (lv_at hl 3 rfl) ?_
    refine lv_iadd hx hb d_Volume_addContentBlock_15 ?_
    refine lv_iload_n hx hb d_Volume_addContentBlock_16 rfl (lv_at hl 0 rfl) ?_
    obtain ⟨x10, e10, hJ⟩ := j_bind hJ
    refine va_callv (va_runV (As := [.int a1, .int ((4 : Int32) + a2), .int x9.1]) (rest := []) ⟨hx, hb, hml, hown, htb⟩ (c_Volume_setInodeByte (l := l) (dC := dC) (dI := dI) hDa e10) (xcV 3 htb tw372 tw5 tw369 tw371 ts_Volume_setInodeByte rfl rfl hd_Volume_setInodeByte ⟨Nat.le_of_ble_eq_true rfl, Nat.le_of_ble_eq_true rfl⟩) (kW_V hP hK (va_recv (q0 := 3) (ci := 3) hK hP rfl rfl)) rfl rfl hl.1 rfl (lv_room (Nat.le_of_ble_eq_true rfl)) d_Volume_addContentBlock_17 ⟨Nat.le_of_ble_eq_true rfl, Nat.le_of_ble_eq_true rfl⟩) hS (fun q _ h => h) (fun q h => h) (fun u t H locs ht hvm hw hB _ _ hS => ?_)
    have hP := kW_P hB ht
    have hJ := Option.some.inj hJ
    exact W.vret hx hb hr (fun t ht hW => ⟨⟨(), rfl, trivial, kW_end hP hK ht hW (congrArg (fun z => wC ga cB cI z) hJ)⟩, hS.F ht⟩) hS.2.2 d_Volume_addContentBlock_20
def J_Volume_putByte_23 (σ : CS) (v1 : Int32) (v2 : Int32) (v3 : Int32) (v4 : Int32) : Option (CS) :=
  (J_Volume_contentBlock σ v1 v4).bind fun x3 => (J_Memory_change σ x3 (v2 - v2 / (64 : Int32) * (64 : Int32)) v3).bind fun x4 => some x4
def J_Volume_putByte (σ : CS) (a1 : Int32) (a2 : Int32) (a3 : Int32) : Option (CS) :=
  (J_Volume_contentBlock σ a1 (a2 / (64 : Int32))).bind fun x1 => (if x1 = (0 : Int32) then (J_Volume_addContentBlock σ a1 (a2 / (64 : Int32))).bind fun x5 => J_Volume_putByte_23 x5 a1 a2 a3 (a2 / (64 : Int32)) else J_Volume_putByte_23 σ a1 a2 a3 (a2 / (64 : Int32)))
abbrev rm_Volume_putByte : Room := { frames := 5, cells := 0, slots := 0, locals := 110 }
set_option maxHeartbeats 4000000 in
set_option maxRecDepth 100000 in
theorem c_Volume_putByte {l : Launch} {dC : Nat → ClassId} {dI : Nat → Nat → Nat} {ga : Nat → Nat} {cB cI : ClassId} {A : Nat → Prop} (hDa : ∀ σ, va_D A (wC ga cB cI σ)) {σ : CS} {a1 : Int32} {a2 : Int32} {a3 : Int32} {res : CS} (hJ : J_Volume_putByte σ a1 a2 a3 = some res) :
    Met l y_Volume_putByte (mw y_Volume_putByte b_Volume_putByte 5 none) rm_Volume_putByte (va_Pc [.ref (ga 3), .int a1, .int a2, .int a3] (kW (dC, dI) (tC cB cI) (wC ga cB cI σ))) (va_Qv (fun (_ : Unit) => True) (fun _ t => kW (dC, dI) (tC cB cI) (wC ga cB cI res) t) A) 0 0 A := by
  refine Met.ofW (cc := b_Volume_putByte) (maxL := 5) (ret := none) (by decide) rfl ?_
  intro p e s m args below meth c s₁ B hml hv
  obtain ⟨rfl, hP, hK⟩ := hv
  have hx := B.exec
  have hb := B.bytes
  have hr := B.returns
  have hts := atoms_spec (ws := (mw y_Volume_putByte b_Volume_putByte 5 none)) B.pre
  have htb : ∀ w ∈ tb, w.before [.ref (ga 3), .int a1, .int a2, .int a3].toArray s = true := fun w h => hts w (mwIn h)
  have hown : s.vm.findClass "LogFs$Volume" = some m.cls := findClass_of_methodNamed B.named
  have hlocks := B.notSynchronized
  have hS : va_S A s.heap s.heap [] := va_S.rf
  have hl := lv_entry ([.ref (ga 3), .int a1, .int a2, .int a3]) (n := 5) (Nat.le_of_ble_eq_true rfl)
  rw [lg_entry_eq]
  generalize (lg_sl ([.ref (ga 3), .int a1, .int a2, .int a3]) ++ List.replicate (5 - (lg_sl ([.ref (ga 3), .int a1, .int a2, .int a3])).length) Slot.unset).toArray = ls at hl ⊢
  have hl : lv_has ls 5 [(0, .ref (ga 3)), (1, .int a1), (2, .int a2), (3, .int a3)] := hl
  have blk23 : ∀ (σ : CS) (v1 : Int32) (v2 : Int32) (v3 : Int32) (v4 : Int32) (ls : Array Slot) (H : Heap) (locs : List Loc), J_Volume_putByte_23 σ v1 v2 v3 v4 = some res → lv_has ls 5 [(0, .ref (ga 3)), (1, .int v1), (2, .int v2), (3, .int v3), (4, .int v4)] → va_P (dC, dI) cls (wC ga cB cI σ) H → va_S A s.heap H locs → W p l e (headSpec (mw y_Volume_putByte b_Volume_putByte 5 none) rm_Volume_putByte).room s m [.ref (ga 3), .int a1, .int a2, .int a3].toArray below meth c H locs 0 0 (MQ below (va_Qv (fun (_ : Unit) => True) (fun _ t => kW (dC, dI) (tC cB cI) (wC ga cB cI res) t) A) [.ref (ga 3), .int a1, .int a2, .int a3].toArray s 0 0 A) (F0 m 23 ls []) := by
    intro σ v1 v2 v3 v4 ls H locs hJ hl hP hS
    unfold J_Volume_putByte_23 at hJ
    refine lv_aload_n hx hb d_Volume_putByte_23 rfl (lv_at hl 0 rfl) ?_
    refine va_get (D := (dC, dI)) (ci := 3) (v := .ref (ga 2)) (C := R_Volume) (T := T_Volume) (N := 2) hx hb htb uin_Volume hown hK hP 3 rfl rfl 0 (by decide) (htb _ tw95) (fun _ h9 => h9) rfl d_Volume_putByte_24 ?_
    refine lv_aload_n hx hb d_Volume_putByte_27 rfl (lv_at hl 0 rfl) ?_
    refine lv_iload_n hx hb d_Volume_putByte_28 rfl (lv_at hl 1 rfl) ?_
    refine lv_iload hx hb d_Volume_putByte_29 (lv_at hl 4 rfl) ?_
    obtain ⟨x3, e3, hJ⟩ := j_bind hJ
    refine va_calli (va_runV (As := [.int v1, .int v4]) (rest := [.ref (ga 2)]) ⟨hx, hb, hml, hown, htb⟩ (c_Volume_contentBlock (l := l) (dC := dC) (dI := dI) hDa e3) (xcV 2 htb tw285 tw5 tw282 tw284 ts_Volume_contentBlock rfl rfl hd_Volume_contentBlock ⟨Nat.le_of_ble_eq_true rfl, Nat.le_of_ble_eq_true rfl⟩) (kW_V hP hK (va_recv (q0 := 3) (ci := 3) hK hP rfl rfl)) rfl rfl hl.1 rfl (lv_room (Nat.le_of_ble_eq_true rfl)) d_Volume_putByte_31 ⟨Nat.le_of_ble_eq_true rfl, Nat.le_of_ble_eq_true rfl⟩) hS (fun q _ h => h) (fun q h => h) (fun r0 u t H locs ht hvm hw hB _ _ hS => ?_)
    subst r0
    have hP := kW_P hB ht
    refine lv_iload_n hx hb d_Volume_putByte_34 rfl (lv_at hl 2 rfl) ?_
    refine lv_bipush (v := (64 : Int32)) hx hb d_Volume_putByte_35 (by decide) ?_
    refine lv_irem hx hb d_Volume_putByte_37 (by decide) ?_
    refine lv_iload_n hx hb d_Volume_putByte_38 rfl (lv_at hl 3 rfl) ?_
    obtain ⟨x4, e4, hJ⟩ := j_bind hJ
    refine va_callv (va_runV (As := [.int x3, .int (v2 - v2 / (64 : Int32) * (64 : Int32)), .int v3]) (rest := []) ⟨hx, hb, hml, hown, htb⟩ (c_Memory_change (l := l) (dC := dC) (dI := dI) hDa e4) (xcV 3 htb tw376 tw4 tw373 tw374 tw375 rfl rfl hd_Memory_change ⟨Nat.le_of_ble_eq_true rfl, Nat.le_of_ble_eq_true rfl⟩) (kW_V hP hK (va_recv (q0 := 2) (ci := 2) hK hP rfl rfl)) rfl rfl hl.1 rfl (lv_room (Nat.le_of_ble_eq_true rfl)) d_Volume_putByte_39 ⟨Nat.le_of_ble_eq_true rfl, Nat.le_of_ble_eq_true rfl⟩) hS (fun q _ h => h) (fun q h => h) (fun u t H locs ht hvm hw hB _ _ hS => ?_)
    have hP := kW_P hB ht
    have hJ := Option.some.inj hJ
    exact W.vret hx hb hr (fun t ht hW => ⟨⟨(), rfl, trivial, kW_end hP hK ht hW (congrArg (fun z => wC ga cB cI z) hJ)⟩, hS.F ht⟩) hS.2.2 d_Volume_putByte_42
  unfold J_Volume_putByte at hJ
  refine lv_iload_n hx hb d_Volume_putByte_0 rfl (lv_at hl 2 rfl) ?_
  refine lv_bipush (v := (64 : Int32)) hx hb d_Volume_putByte_1 (by decide) ?_
  refine lv_idiv hx hb d_Volume_putByte_3 (by decide) ?_
  refine lv_istore hx hb d_Volume_putByte_4 hl (Nat.le_of_ble_eq_true rfl) rfl (fun ls hl => ?_)
  have hl : lv_has ls 5 [(4, .int (a2 / (64 : Int32))), (0, .ref (ga 3)), (1, .int a1), (2, .int a2), (3, .int a3)] := hl
  refine lv_aload_n hx hb d_Volume_putByte_6 rfl (lv_at hl 1 rfl) ?_
  refine lv_iload_n hx hb d_Volume_putByte_7 rfl (lv_at hl 2 rfl) ?_
  refine lv_iload hx hb d_Volume_putByte_8 (lv_at hl 0 rfl) ?_
  obtain ⟨x1, e1, hJ⟩ := j_bind hJ
  refine va_calli (va_runV (As := [.int a1, .int (a2 / (64 : Int32))]) (rest := []) ⟨hx, hb, hml, hown, htb⟩ (c_Volume_contentBlock (l := l) (dC := dC) (dI := dI) hDa e1) (xcV 2 htb tw285 tw5 tw282 tw284 ts_Volume_contentBlock rfl rfl hd_Volume_contentBlock ⟨Nat.le_of_ble_eq_true rfl, Nat.le_of_ble_eq_true rfl⟩) (kW_V hP hK (va_recv (q0 := 3) (ci := 3) hK hP rfl rfl)) rfl rfl hl.1 rfl (lv_room (Nat.le_of_ble_eq_true rfl)) d_Volume_putByte_10 ⟨Nat.le_of_ble_eq_true rfl, Nat.le_of_ble_eq_true rfl⟩) hS (fun q _ h => h) (fun q h => h) (fun r0 u t H locs ht hvm hw hB _ _ hS => ?_)
  subst r0
  have hP := kW_P hB ht
  refine lv_if_ne (tgt := 23) hx hb d_Volume_putByte_13 (by decide) (fun h2 => ?_) (fun h2 => ?_)
  · have hJ := j_f hJ h2
    exact blk23 _ _ _ _ _ _ _ _ hJ (lv_sub hl [1, 2, 3, 4, 0] rfl) hP hS
  · have hJ := j_t hJ h2
    refine lv_aload_n hx hb d_Volume_putByte_16 rfl (lv_at hl 1 rfl) ?_
    refine lv_iload_n hx hb d_Volume_putByte_17 rfl (lv_at hl 2 rfl) ?_
    refine lv_iload hx hb d_Volume_putByte_18 (lv_at hl 0 rfl) ?_
    obtain ⟨x5, e5, hJ⟩ := j_bind hJ
    refine va_callv (va_runV (As := [.int a1, .int (a2 / (64 : Int32))]) (rest := []) ⟨hx, hb, hml, hown, htb⟩ (c_Volume_addContentBlock (l := l) (dC := dC) (dI := dI) hDa e5) (xcV 2 htb tw398 tw5 tw395 tw397 ts_Volume_addContentBlock rfl rfl hd_Volume_addContentBlock ⟨Nat.le_of_ble_eq_true rfl, Nat.le_of_ble_eq_true rfl⟩) (kW_V hP hK (va_recv (q0 := 3) (ci := 3) hK hP rfl rfl)) rfl rfl hl.1 rfl (lv_room (Nat.le_of_ble_eq_true rfl)) d_Volume_putByte_20 ⟨Nat.le_of_ble_eq_true rfl, Nat.le_of_ble_eq_true rfl⟩) hS (fun q _ h => h) (fun q h => h) (fun u t H locs ht hvm hw hB _ _ hS => ?_)
    have hP := kW_P hB ht
    exact blk23 _ _ _ _ _ _ _ _ hJ (lv_sub hl [1, 2, 3, 4, 0] rfl) hP hS
def J_Volume_growTo (σ : CS) (a1 : Int32) (a2 : Int32) : Option (CS) :=
  (J_Volume_size σ a1).bind fun x1 => (if a2 ≤ x1 then some σ else (J_Volume_setInodeByte σ a1 (2 : Int32) (a2 >>> ((8 : Int32) &&& 31))).bind fun x3 => (J_Volume_setInodeByte x3 a1 (3 : Int32) a2).bind fun x4 => some x4)
abbrev rm_Volume_growTo : Room := { frames := 3, cells := 0, slots := 0, locals := 69 }
set_option maxHeartbeats 4000000 in
set_option maxRecDepth 100000 in
theorem c_Volume_growTo {l : Launch} {dC : Nat → ClassId} {dI : Nat → Nat → Nat} {ga : Nat → Nat} {cB cI : ClassId} {A : Nat → Prop} (hDa : ∀ σ, va_D A (wC ga cB cI σ)) {σ : CS} {a1 : Int32} {a2 : Int32} {res : CS} (hJ : J_Volume_growTo σ a1 a2 = some res) :
    Met l y_Volume_growTo (mw y_Volume_growTo b_Volume_growTo 3 none) rm_Volume_growTo (va_Pc [.ref (ga 3), .int a1, .int a2] (kW (dC, dI) (tC cB cI) (wC ga cB cI σ))) (va_Qv (fun (_ : Unit) => True) (fun _ t => kW (dC, dI) (tC cB cI) (wC ga cB cI res) t) A) 0 0 A := by
  refine Met.ofW (cc := b_Volume_growTo) (maxL := 3) (ret := none) (by decide) rfl ?_
  intro p e s m args below meth c s₁ B hml hv
  obtain ⟨rfl, hP, hK⟩ := hv
  have hx := B.exec
  have hb := B.bytes
  have hr := B.returns
  have hts := atoms_spec (ws := (mw y_Volume_growTo b_Volume_growTo 3 none)) B.pre
  have htb : ∀ w ∈ tb, w.before [.ref (ga 3), .int a1, .int a2].toArray s = true := fun w h => hts w (mwIn h)
  have hown : s.vm.findClass "LogFs$Volume" = some m.cls := findClass_of_methodNamed B.named
  have hlocks := B.notSynchronized
  have hS : va_S A s.heap s.heap [] := va_S.rf
  have hl := lv_entry ([.ref (ga 3), .int a1, .int a2]) (n := 3) (Nat.le_of_ble_eq_true rfl)
  rw [lg_entry_eq]
  generalize (lg_sl ([.ref (ga 3), .int a1, .int a2]) ++ List.replicate (3 - (lg_sl ([.ref (ga 3), .int a1, .int a2])).length) Slot.unset).toArray = ls at hl ⊢
  have hl : lv_has ls 3 [(0, .ref (ga 3)), (1, .int a1), (2, .int a2)] := hl
  unfold J_Volume_growTo at hJ
  refine lv_iload_n hx hb d_Volume_growTo_0 rfl (lv_at hl 2 rfl) ?_
  refine lv_aload_n hx hb d_Volume_growTo_1 rfl (lv_at hl 0 rfl) ?_
  refine lv_iload_n hx hb d_Volume_growTo_2 rfl (lv_at hl 1 rfl) ?_
  obtain ⟨x1, e1, hJ⟩ := j_bind hJ
  refine va_calli (va_runV (As := [.int a1]) (rest := [.int a2]) ⟨hx, hb, hml, hown, htb⟩ (c_Volume_size (l := l) (dC := dC) (dI := dI) hDa e1) (xcV 1 htb tw277 tw5 tw274 tw275 tw276 rfl rfl hd_Volume_size ⟨Nat.le_of_ble_eq_true rfl, Nat.le_of_ble_eq_true rfl⟩) (kW_V hP hK (va_recv (q0 := 3) (ci := 3) hK hP rfl rfl)) rfl rfl hl.1 rfl (lv_room (Nat.le_of_ble_eq_true rfl)) d_Volume_growTo_3 ⟨Nat.le_of_ble_eq_true rfl, Nat.le_of_ble_eq_true rfl⟩) hS (fun q _ h => h) (fun q h => h) (fun r0 u t H locs ht hvm hw hB _ _ hS => ?_)
  subst r0
  have hP := kW_P hB ht
  refine lv_icmp_le (tgt := 26) hx hb d_Volume_growTo_6 (by decide) (fun h2 => ?_) (fun h2 => ?_)
  · have hJ := j_t hJ h2
    have hJ := Option.some.inj hJ
    exact W.vret hx hb hr (fun t ht hW => ⟨⟨(), rfl, trivial, kW_end hP hK ht hW (congrArg (fun z => wC ga cB cI z) hJ)⟩, hS.F ht⟩) hS.2.2 d_Volume_growTo_26
  · have hJ := j_f hJ h2
    refine lv_aload_n hx hb d_Volume_growTo_9 rfl (lv_at hl 0 rfl) ?_
    refine lv_iload_n hx hb d_Volume_growTo_10 rfl (lv_at hl 1 rfl) ?_
    refine lv_iconst (v := (2 : Int32)) hx hb d_Volume_growTo_11 (by decide) ?_
    refine lv_iload_n hx hb d_Volume_growTo_12 rfl (lv_at hl 2 rfl) ?_
    refine lv_bipush (v := (8 : Int32)) hx hb d_Volume_growTo_13 (by decide) ?_
    refine lv_ishr hx hb d_Volume_growTo_15 ?_
    obtain ⟨x3, e3, hJ⟩ := j_bind hJ
    refine va_callv (va_runV (As := [.int a1, .int (2 : Int32), .int (a2 >>> ((8 : Int32) &&& 31))]) (rest := []) ⟨hx, hb, hml, hown, htb⟩ (c_Volume_setInodeByte (l := l) (dC := dC) (dI := dI) hDa e3) (xcV 3 htb tw372 tw5 tw369 tw371 ts_Volume_setInodeByte rfl rfl hd_Volume_setInodeByte ⟨Nat.le_of_ble_eq_true rfl, Nat.le_of_ble_eq_true rfl⟩) (kW_V hP hK (va_recv (q0 := 3) (ci := 3) hK hP rfl rfl)) rfl rfl hl.1 rfl (lv_room (Nat.le_of_ble_eq_true rfl)) d_Volume_growTo_16 ⟨Nat.le_of_ble_eq_true rfl, Nat.le_of_ble_eq_true rfl⟩) hS (fun q _ h => h) (fun q h => h) (fun u t H locs ht hvm hw hB _ _ hS => ?_)
    have hP := kW_P hB ht
    refine lv_aload_n hx hb d_Volume_growTo_19 rfl (lv_at hl 0 rfl) ?_
    refine lv_iload_n hx hb d_Volume_growTo_20 rfl (lv_at hl 1 rfl) ?_
    refine lv_iconst (v := (3 : Int32)) hx hb d_Volume_growTo_21 (by decide) ?_
    refine lv_iload_n hx hb d_Volume_growTo_22 rfl (lv_at hl 2 rfl) ?_
    obtain ⟨x4, e4, hJ⟩ := j_bind hJ
    refine va_callv (va_runV (As := [.int a1, .int (3 : Int32), .int a2]) (rest := []) ⟨hx, hb, hml, hown, htb⟩ (c_Volume_setInodeByte (l := l) (dC := dC) (dI := dI) hDa e4) (xcV 3 htb tw372 tw5 tw369 tw371 ts_Volume_setInodeByte rfl rfl hd_Volume_setInodeByte ⟨Nat.le_of_ble_eq_true rfl, Nat.le_of_ble_eq_true rfl⟩) (kW_V hP hK (va_recv (q0 := 3) (ci := 3) hK hP rfl rfl)) rfl rfl hl.1 rfl (lv_room (Nat.le_of_ble_eq_true rfl)) d_Volume_growTo_23 ⟨Nat.le_of_ble_eq_true rfl, Nat.le_of_ble_eq_true rfl⟩) hS (fun q _ h => h) (fun q h => h) (fun u t H locs ht hvm hw hB _ _ hS => ?_)
    have hP := kW_P hB ht
    have hJ := Option.some.inj hJ
    exact W.vret hx hb hr (fun t ht hW => ⟨⟨(), rfl, trivial, kW_end hP hK ht hW (congrArg (fun z => wC ga cB cI z) hJ)⟩, hS.F ht⟩) hS.2.2 d_Volume_growTo_26
def J_Volume_putLong_3_b (k : CS → Int32 → Int32 → Int64 → Int32 → Int32 → Option (CS)) (σ : CS) (v1 : Int32) (v2 : Int32) (v3 : Int64) (v5 : Int32) (v6 : Int32) : Option (CS) :=
  (if v5 ≤ v6 then (J_Volume_growTo σ v1 (v2 + v5)).bind fun x2 => some x2 else (J_LogFs_byteOf v3 v6).bind fun x3 => (J_Volume_putByte σ v1 (v2 + v6) x3).bind fun x4 => k x4 v1 v2 v3 v5 (v6 + (1 : Int32)))
def J_Volume_putLong_3 : Nat → CS → Int32 → Int32 → Int64 → Int32 → Int32 → Option (CS)
  | 0, _, _, _, _, _, _ => none
  | n + 1, σ, v1, v2, v3, v5, v6 => J_Volume_putLong_3_b (J_Volume_putLong_3 n) σ v1 v2 v3 v5 v6
def J_Volume_putLong (σ : CS) (a1 : Int32) (a2 : Int32) (a3 : Int64) (a4 : Int32) : Option (CS) :=
  J_Volume_putLong_3 9000 σ a1 a2 a3 a4 (0 : Int32)
abbrev rm_Volume_putLong : Room := { frames := 6, cells := 0, slots := 0, locals := 134 }
set_option maxHeartbeats 4000000 in
set_option maxRecDepth 100000 in
theorem c_Volume_putLong {l : Launch} {dC : Nat → ClassId} {dI : Nat → Nat → Nat} {ga : Nat → Nat} {cB cI : ClassId} {A : Nat → Prop} (hDa : ∀ σ, va_D A (wC ga cB cI σ)) {σ : CS} {a1 : Int32} {a2 : Int32} {a3 : Int64} {a4 : Int32} {res : CS} (hJ : J_Volume_putLong σ a1 a2 a3 a4 = some res) :
    Met l y_Volume_putLong (mw y_Volume_putLong b_Volume_putLong 7 none) rm_Volume_putLong (va_Pc [.ref (ga 3), .int a1, .int a2, .long a3, .int a4] (kW (dC, dI) (tC cB cI) (wC ga cB cI σ))) (va_Qv (fun (_ : Unit) => True) (fun _ t => kW (dC, dI) (tC cB cI) (wC ga cB cI res) t) A) 0 0 A := by
  refine Met.ofW (cc := b_Volume_putLong) (maxL := 7) (ret := none) (by decide) rfl ?_
  intro p e s m args below meth c s₁ B hml hv
  obtain ⟨rfl, hP, hK⟩ := hv
  have hx := B.exec
  have hb := B.bytes
  have hr := B.returns
  have hts := atoms_spec (ws := (mw y_Volume_putLong b_Volume_putLong 7 none)) B.pre
  have htb : ∀ w ∈ tb, w.before [.ref (ga 3), .int a1, .int a2, .long a3, .int a4].toArray s = true := fun w h => hts w (mwIn h)
  have hown : s.vm.findClass "LogFs$Volume" = some m.cls := findClass_of_methodNamed B.named
  have hlocks := B.notSynchronized
  have hS : va_S A s.heap s.heap [] := va_S.rf
  have hl := lv_entry ([.ref (ga 3), .int a1, .int a2, .long a3, .int a4]) (n := 7) (Nat.le_of_ble_eq_true rfl)
  rw [lg_entry_eq]
  generalize (lg_sl ([.ref (ga 3), .int a1, .int a2, .long a3, .int a4]) ++ List.replicate (7 - (lg_sl ([.ref (ga 3), .int a1, .int a2, .long a3, .int a4])).length) Slot.unset).toArray = ls at hl ⊢
  have hl : lv_has ls 7 [(0, .ref (ga 3)), (1, .int a1), (2, .int a2), (3, .long a3), (5, .int a4)] := hl
  have blk3 : ∀ (n : Nat) (σ : CS) (v1 : Int32) (v2 : Int32) (v3 : Int64) (v5 : Int32) (v6 : Int32) (ls : Array Slot) (H : Heap) (locs : List Loc), J_Volume_putLong_3 n σ v1 v2 v3 v5 v6 = some res → lv_has ls 7 [(0, .ref (ga 3)), (1, .int v1), (2, .int v2), (3, .long v3), (5, .int v5), (6, .int v6)] → va_P (dC, dI) cls (wC ga cB cI σ) H → va_S A s.heap H locs → W p l e (headSpec (mw y_Volume_putLong b_Volume_putLong 7 none) rm_Volume_putLong).room s m [.ref (ga 3), .int a1, .int a2, .long a3, .int a4].toArray below meth c H locs 0 0 (MQ below (va_Qv (fun (_ : Unit) => True) (fun _ t => kW (dC, dI) (tC cB cI) (wC ga cB cI res) t) A) [.ref (ga 3), .int a1, .int a2, .long a3, .int a4].toArray s 0 0 A) (F0 m 3 ls []) := by
    intro n
    induction n with
    | zero => intro σ v1 v2 v3 v5 v6 ls H locs hJ; exact j_none hJ
    | succ n hk =>
      intro σ v1 v2 v3 v5 v6 ls H locs hJ hl hP hS
      have hJ : J_Volume_putLong_3_b (J_Volume_putLong_3 n) σ v1 v2 v3 v5 v6 = some res := hJ
      unfold J_Volume_putLong_3_b at hJ
      refine lv_iload hx hb d_Volume_putLong_3 (lv_at hl 5 rfl) ?_
      refine lv_iload hx hb d_Volume_putLong_5 (lv_at hl 4 rfl) ?_
      refine lv_icmp_ge (tgt := 31) hx hb d_Volume_putLong_7 (by decide) (fun h1 => ?_) (fun h1 => ?_)
      · have hJ := j_t hJ h1
        refine lv_aload_n hx hb d_Volume_putLong_31 rfl (lv_at hl 0 rfl) ?_
        refine lv_iload_n hx hb d_Volume_putLong_32 rfl (lv_at hl 1 rfl) ?_
        refine lv_iload_n hx hb d_Volume_putLong_33 rfl (lv_at hl 2 rfl) ?_
        refine lv_iload hx hb d_Volume_putLong_34 (lv_at hl 4 rfl) ?_
        refine lv_iadd hx hb d_Volume_putLong_36 ?_
        obtain ⟨x2, e2, hJ⟩ := j_bind hJ
        refine va_callv (va_runV (As := [.int v1, .int (v2 + v5)]) (rest := []) ⟨hx, hb, hml, hown, htb⟩ (c_Volume_growTo (l := l) (dC := dC) (dI := dI) hDa e2) (xcV 2 htb tw415 tw5 tw412 tw414 ts_Volume_growTo rfl rfl hd_Volume_growTo ⟨Nat.le_of_ble_eq_true rfl, Nat.le_of_ble_eq_true rfl⟩) (kW_V hP hK (va_recv (q0 := 3) (ci := 3) hK hP rfl rfl)) rfl rfl hl.1 rfl (lv_room (Nat.le_of_ble_eq_true rfl)) d_Volume_putLong_37 ⟨Nat.le_of_ble_eq_true rfl, Nat.le_of_ble_eq_true rfl⟩) hS (fun q _ h => h) (fun q h => h) (fun u t H locs ht hvm hw hB _ _ hS => ?_)
        have hP := kW_P hB ht
        have hJ := Option.some.inj hJ
        exact W.vret hx hb hr (fun t ht hW => ⟨⟨(), rfl, trivial, kW_end hP hK ht hW (congrArg (fun z => wC ga cB cI z) hJ)⟩, hS.F ht⟩) hS.2.2 d_Volume_putLong_40
      · have hJ := j_f hJ h1
        refine lv_aload_n hx hb d_Volume_putLong_10 rfl (lv_at hl 0 rfl) ?_
        refine lv_iload_n hx hb d_Volume_putLong_11 rfl (lv_at hl 1 rfl) ?_
        refine lv_iload_n hx hb d_Volume_putLong_12 rfl (lv_at hl 2 rfl) ?_
        refine lv_iload hx hb d_Volume_putLong_13 (lv_at hl 5 rfl) ?_
        refine lv_iadd hx hb d_Volume_putLong_15 ?_
        refine lv_lload_n hx hb d_Volume_putLong_16 rfl (lv_at hl 3 rfl) ?_
        refine lv_iload hx hb d_Volume_putLong_17 (lv_at hl 5 rfl) ?_
        obtain ⟨x3, e3, hJ⟩ := j_bind hJ
        refine va_calli (va_runSN (As := [.long v3, .int v6]) (rest := [.int (v2 + v6), .int v1, .ref (ga 3)]) ⟨hx, hb, hml, hown, htb⟩ (c_LogFs_byteOf (l := l) (dC := dC) (dI := dI) (σ := σ) hDa e3) (xcSN 2 htb tw269 tw1 tw390 tw268 rfl rfl hd_LogFs_byteOf ⟨Nat.le_of_ble_eq_true rfl, Nat.le_of_ble_eq_true rfl⟩) (kW_S hP hK) rfl rfl hl.1 rfl (lv_room (Nat.le_of_ble_eq_true rfl)) d_Volume_putLong_19 ⟨Nat.le_of_ble_eq_true rfl, Nat.le_of_ble_eq_true rfl⟩) hS (fun q _ h => h) (fun q h => h) (fun r0 u t H locs ht hvm hw hB _ _ hS => ?_)
        subst r0
        have hP := kW_P hB ht
        obtain ⟨x4, e4, hJ⟩ := j_bind hJ
        refine va_callv (va_runV (As := [.int v1, .int (v2 + v6), .int x3]) (rest := []) ⟨hx, hb, hml, hown, htb⟩ (c_Volume_putByte (l := l) (dC := dC) (dI := dI) hDa e4) (xcV 3 htb tw394 tw5 tw391 tw393 ts_Volume_putByte rfl rfl hd_Volume_putByte ⟨Nat.le_of_ble_eq_true rfl, Nat.le_of_ble_eq_true rfl⟩) (kW_V hP hK (va_recv (q0 := 3) (ci := 3) hK hP rfl rfl)) rfl rfl hl.1 rfl (lv_room (Nat.le_of_ble_eq_true rfl)) d_Volume_putLong_22 ⟨Nat.le_of_ble_eq_true rfl, Nat.le_of_ble_eq_true rfl⟩) hS (fun q _ h => h) (fun q h => h) (fun u t H locs ht hvm hw hB _ _ hS => ?_)
        have hP := kW_P hB ht
        refine lv_iinc (k := 5) (v := (v6 + (1 : Int32))) hx hb d_Volume_putLong_25 hl rfl rfl (Nat.le_of_ble_eq_true rfl) rfl (fun ls hl => ?_)
        have hl : lv_has ls 7 [(6, .int (v6 + (1 : Int32))), (0, .ref (ga 3)), (1, .int v1), (2, .int v2), (3, .long v3), (5, .int v5)] := hl
        refine lv_goto (tgt := 3) hx hb d_Volume_putLong_28 (by decide) ?_
        exact hk _ _ _ _ _ _ _ _ _ hJ (lv_sub hl [1, 2, 3, 4, 5, 0] rfl) hP hS
  unfold J_Volume_putLong at hJ
  refine lv_iconst (v := (0 : Int32)) hx hb d_Volume_putLong_0 (by decide) ?_
  refine lv_istore hx hb d_Volume_putLong_1 hl (Nat.le_of_ble_eq_true rfl) rfl (fun ls hl => ?_)
  have hl : lv_has ls 7 [(6, .int (0 : Int32)), (0, .ref (ga 3)), (1, .int a1), (2, .int a2), (3, .long a3), (5, .int a4)] := hl
  exact blk3 9000 _ _ _ _ _ _ _ _ _ hJ (lv_sub hl [1, 2, 3, 4, 5, 0] rfl) hP hS
def J_Volume_putSame_3_b (k : CS → Int32 → Int32 → Int32 → Int32 → Int32 → Option (CS)) (σ : CS) (v1 : Int32) (v2 : Int32) (v3 : Int32) (v4 : Int32) (v5 : Int32) : Option (CS) :=
  (if v4 ≤ v5 then (J_Volume_growTo σ v1 (v2 + v4)).bind fun x2 => some x2 else (J_Volume_putByte σ v1 (v2 + v5) v3).bind fun x3 => k x3 v1 v2 v3 v4 (v5 + (1 : Int32)))
def J_Volume_putSame_3 : Nat → CS → Int32 → Int32 → Int32 → Int32 → Int32 → Option (CS)
  | 0, _, _, _, _, _, _ => none
  | n + 1, σ, v1, v2, v3, v4, v5 => J_Volume_putSame_3_b (J_Volume_putSame_3 n) σ v1 v2 v3 v4 v5
def J_Volume_putSame (σ : CS) (a1 : Int32) (a2 : Int32) (a3 : Int32) (a4 : Int32) : Option (CS) :=
  J_Volume_putSame_3 9000 σ a1 a2 a3 a4 (0 : Int32)
abbrev rm_Volume_putSame : Room := { frames := 6, cells := 0, slots := 0, locals := 134 }
set_option maxHeartbeats 4000000 in
set_option maxRecDepth 100000 in
theorem c_Volume_putSame {l : Launch} {dC : Nat → ClassId} {dI : Nat → Nat → Nat} {ga : Nat → Nat} {cB cI : ClassId} {A : Nat → Prop} (hDa : ∀ σ, va_D A (wC ga cB cI σ)) {σ : CS} {a1 : Int32} {a2 : Int32} {a3 : Int32} {a4 : Int32} {res : CS} (hJ : J_Volume_putSame σ a1 a2 a3 a4 = some res) :
    Met l y_Volume_putSame (mw y_Volume_putSame b_Volume_putSame 6 none) rm_Volume_putSame (va_Pc [.ref (ga 3), .int a1, .int a2, .int a3, .int a4] (kW (dC, dI) (tC cB cI) (wC ga cB cI σ))) (va_Qv (fun (_ : Unit) => True) (fun _ t => kW (dC, dI) (tC cB cI) (wC ga cB cI res) t) A) 0 0 A := by
  refine Met.ofW (cc := b_Volume_putSame) (maxL := 6) (ret := none) (by decide) rfl ?_
  intro p e s m args below meth c s₁ B hml hv
  obtain ⟨rfl, hP, hK⟩ := hv
  have hx := B.exec
  have hb := B.bytes
  have hr := B.returns
  have hts := atoms_spec (ws := (mw y_Volume_putSame b_Volume_putSame 6 none)) B.pre
  have htb : ∀ w ∈ tb, w.before [.ref (ga 3), .int a1, .int a2, .int a3, .int a4].toArray s = true := fun w h => hts w (mwIn h)
  have hown : s.vm.findClass "LogFs$Volume" = some m.cls := findClass_of_methodNamed B.named
  have hlocks := B.notSynchronized
  have hS : va_S A s.heap s.heap [] := va_S.rf
  have hl := lv_entry ([.ref (ga 3), .int a1, .int a2, .int a3, .int a4]) (n := 6) (Nat.le_of_ble_eq_true rfl)
  rw [lg_entry_eq]
  generalize (lg_sl ([.ref (ga 3), .int a1, .int a2, .int a3, .int a4]) ++ List.replicate (6 - (lg_sl ([.ref (ga 3), .int a1, .int a2, .int a3, .int a4])).length) Slot.unset).toArray = ls at hl ⊢
  have hl : lv_has ls 6 [(0, .ref (ga 3)), (1, .int a1), (2, .int a2), (3, .int a3), (4, .int a4)] := hl
  have blk3 : ∀ (n : Nat) (σ : CS) (v1 : Int32) (v2 : Int32) (v3 : Int32) (v4 : Int32) (v5 : Int32) (ls : Array Slot) (H : Heap) (locs : List Loc), J_Volume_putSame_3 n σ v1 v2 v3 v4 v5 = some res → lv_has ls 6 [(0, .ref (ga 3)), (1, .int v1), (2, .int v2), (3, .int v3), (4, .int v4), (5, .int v5)] → va_P (dC, dI) cls (wC ga cB cI σ) H → va_S A s.heap H locs → W p l e (headSpec (mw y_Volume_putSame b_Volume_putSame 6 none) rm_Volume_putSame).room s m [.ref (ga 3), .int a1, .int a2, .int a3, .int a4].toArray below meth c H locs 0 0 (MQ below (va_Qv (fun (_ : Unit) => True) (fun _ t => kW (dC, dI) (tC cB cI) (wC ga cB cI res) t) A) [.ref (ga 3), .int a1, .int a2, .int a3, .int a4].toArray s 0 0 A) (F0 m 3 ls []) := by
    intro n
    induction n with
    | zero => intro σ v1 v2 v3 v4 v5 ls H locs hJ; exact j_none hJ
    | succ n hk =>
      intro σ v1 v2 v3 v4 v5 ls H locs hJ hl hP hS
      have hJ : J_Volume_putSame_3_b (J_Volume_putSame_3 n) σ v1 v2 v3 v4 v5 = some res := hJ
      unfold J_Volume_putSame_3_b at hJ
      refine lv_iload hx hb d_Volume_putSame_3 (lv_at hl 5 rfl) ?_
      refine lv_iload hx hb d_Volume_putSame_5 (lv_at hl 4 rfl) ?_
      refine lv_icmp_ge (tgt := 26) hx hb d_Volume_putSame_7 (by decide) (fun h1 => ?_) (fun h1 => ?_)
      · have hJ := j_t hJ h1
        refine lv_aload_n hx hb d_Volume_putSame_26 rfl (lv_at hl 0 rfl) ?_
        refine lv_iload_n hx hb d_Volume_putSame_27 rfl (lv_at hl 1 rfl) ?_
        refine lv_iload_n hx hb d_Volume_putSame_28 rfl (lv_at hl 2 rfl) ?_
        refine lv_iload hx hb d_Volume_putSame_29 (lv_at hl 4 rfl) ?_
        refine lv_iadd hx hb d_Volume_putSame_31 ?_
        obtain ⟨x2, e2, hJ⟩ := j_bind hJ
        refine va_callv (va_runV (As := [.int v1, .int (v2 + v4)]) (rest := []) ⟨hx, hb, hml, hown, htb⟩ (c_Volume_growTo (l := l) (dC := dC) (dI := dI) hDa e2) (xcV 2 htb tw415 tw5 tw412 tw414 ts_Volume_growTo rfl rfl hd_Volume_growTo ⟨Nat.le_of_ble_eq_true rfl, Nat.le_of_ble_eq_true rfl⟩) (kW_V hP hK (va_recv (q0 := 3) (ci := 3) hK hP rfl rfl)) rfl rfl hl.1 rfl (lv_room (Nat.le_of_ble_eq_true rfl)) d_Volume_putSame_32 ⟨Nat.le_of_ble_eq_true rfl, Nat.le_of_ble_eq_true rfl⟩) hS (fun q _ h => h) (fun q h => h) (fun u t H locs ht hvm hw hB _ _ hS => ?_)
        have hP := kW_P hB ht
        have hJ := Option.some.inj hJ
        exact W.vret hx hb hr (fun t ht hW => ⟨⟨(), rfl, trivial, kW_end hP hK ht hW (congrArg (fun z => wC ga cB cI z) hJ)⟩, hS.F ht⟩) hS.2.2 d_Volume_putSame_35
      · have hJ := j_f hJ h1
        refine lv_aload_n hx hb d_Volume_putSame_10 rfl (lv_at hl 0 rfl) ?_
        refine lv_iload_n hx hb d_Volume_putSame_11 rfl (lv_at hl 1 rfl) ?_
        refine lv_iload_n hx hb d_Volume_putSame_12 rfl (lv_at hl 2 rfl) ?_
        refine lv_iload hx hb d_Volume_putSame_13 (lv_at hl 5 rfl) ?_
        refine lv_iadd hx hb d_Volume_putSame_15 ?_
        refine lv_iload_n hx hb d_Volume_putSame_16 rfl (lv_at hl 3 rfl) ?_
        obtain ⟨x3, e3, hJ⟩ := j_bind hJ
        refine va_callv (va_runV (As := [.int v1, .int (v2 + v5), .int v3]) (rest := []) ⟨hx, hb, hml, hown, htb⟩ (c_Volume_putByte (l := l) (dC := dC) (dI := dI) hDa e3) (xcV 3 htb tw394 tw5 tw391 tw393 ts_Volume_putByte rfl rfl hd_Volume_putByte ⟨Nat.le_of_ble_eq_true rfl, Nat.le_of_ble_eq_true rfl⟩) (kW_V hP hK (va_recv (q0 := 3) (ci := 3) hK hP rfl rfl)) rfl rfl hl.1 rfl (lv_room (Nat.le_of_ble_eq_true rfl)) d_Volume_putSame_17 ⟨Nat.le_of_ble_eq_true rfl, Nat.le_of_ble_eq_true rfl⟩) hS (fun q _ h => h) (fun q h => h) (fun u t H locs ht hvm hw hB _ _ hS => ?_)
        have hP := kW_P hB ht
        refine lv_iinc (k := 5) (v := (v5 + (1 : Int32))) hx hb d_Volume_putSame_20 hl rfl rfl (Nat.le_of_ble_eq_true rfl) rfl (fun ls hl => ?_)
        have hl : lv_has ls 6 [(5, .int (v5 + (1 : Int32))), (0, .ref (ga 3)), (1, .int v1), (2, .int v2), (3, .int v3), (4, .int v4)] := hl
        refine lv_goto (tgt := 3) hx hb d_Volume_putSame_23 (by decide) ?_
        exact hk _ _ _ _ _ _ _ _ _ hJ (lv_sub hl [1, 2, 3, 4, 5, 0] rfl) hP hS
  unfold J_Volume_putSame at hJ
  refine lv_iconst (v := (0 : Int32)) hx hb d_Volume_putSame_0 (by decide) ?_
  refine lv_istore hx hb d_Volume_putSame_1 hl (Nat.le_of_ble_eq_true rfl) rfl (fun ls hl => ?_)
  have hl : lv_has ls 6 [(5, .int (0 : Int32)), (0, .ref (ga 3)), (1, .int a1), (2, .int a2), (3, .int a3), (4, .int a4)] := hl
  exact blk3 9000 _ _ _ _ _ _ _ _ _ hJ (lv_sub hl [1, 2, 3, 4, 5, 0] rfl) hP hS
def J_Volume_empty_52_b (k : CS → Int32 → Int32 → Option (CS)) (σ : CS) (v1 : Int32) (v4 : Int32) : Option (CS) :=
  (if (16 : Int32) ≤ v4 then some σ else (J_Volume_setInodeByte σ v1 v4 (0 : Int32)).bind fun x7 => k x7 v1 (v4 + (1 : Int32)))
def J_Volume_empty_52 : Nat → CS → Int32 → Int32 → Option (CS)
  | 0, _, _, _ => none
  | n + 1, σ, v1, v4 => J_Volume_empty_52_b (J_Volume_empty_52 n) σ v1 v4
def J_Volume_empty_11_b (k : CS → Int32 → Int32 → Int32 → Option (CS)) (σ : CS) (v1 : Int32) (v2 : Int32) (v3 : Int32) : Option (CS) :=
  (if v2 ≤ v3 then (J_Volume_inodeByte σ v1 (14 : Int32)).bind fun x4 => (if x4 = (0 : Int32) then J_Volume_empty_52 9000 σ v1 (2 : Int32) else (J_Volume_giveBack σ x4).bind fun x8 => J_Volume_empty_52 9000 x8 v1 (2 : Int32)) else (J_Volume_contentBlock σ v1 v3).bind fun x9 => (J_Volume_giveBack σ x9).bind fun x10 => k x10 v1 v2 (v3 + (1 : Int32)))
def J_Volume_empty_11 : Nat → CS → Int32 → Int32 → Int32 → Option (CS)
  | 0, _, _, _, _ => none
  | n + 1, σ, v1, v2, v3 => J_Volume_empty_11_b (J_Volume_empty_11 n) σ v1 v2 v3
def J_Volume_empty (σ : CS) (a1 : Int32) : Option (CS) :=
  (J_Volume_size σ a1).bind fun x1 => (J_LogFs_blocksFor x1).bind fun x2 => J_Volume_empty_11 9000 σ a1 x2 (0 : Int32)
abbrev rm_Volume_empty : Room := { frames := 3, cells := 0, slots := 0, locals := 69 }
set_option maxHeartbeats 4000000 in
set_option maxRecDepth 100000 in
theorem c_Volume_empty {l : Launch} {dC : Nat → ClassId} {dI : Nat → Nat → Nat} {ga : Nat → Nat} {cB cI : ClassId} {A : Nat → Prop} (hDa : ∀ σ, va_D A (wC ga cB cI σ)) {σ : CS} {a1 : Int32} {res : CS} (hJ : J_Volume_empty σ a1 = some res) :
    Met l y_Volume_empty (mw y_Volume_empty b_Volume_empty 5 none) rm_Volume_empty (va_Pc [.ref (ga 3), .int a1] (kW (dC, dI) (tC cB cI) (wC ga cB cI σ))) (va_Qv (fun (_ : Unit) => True) (fun _ t => kW (dC, dI) (tC cB cI) (wC ga cB cI res) t) A) 0 0 A := by
  refine Met.ofW (cc := b_Volume_empty) (maxL := 5) (ret := none) (by decide) rfl ?_
  intro p e s m args below meth c s₁ B hml hv
  obtain ⟨rfl, hP, hK⟩ := hv
  have hx := B.exec
  have hb := B.bytes
  have hr := B.returns
  have hts := atoms_spec (ws := (mw y_Volume_empty b_Volume_empty 5 none)) B.pre
  have htb : ∀ w ∈ tb, w.before [.ref (ga 3), .int a1].toArray s = true := fun w h => hts w (mwIn h)
  have hown : s.vm.findClass "LogFs$Volume" = some m.cls := findClass_of_methodNamed B.named
  have hlocks := B.notSynchronized
  have hS : va_S A s.heap s.heap [] := va_S.rf
  have hl := lv_entry ([.ref (ga 3), .int a1]) (n := 5) (Nat.le_of_ble_eq_true rfl)
  rw [lg_entry_eq]
  generalize (lg_sl ([.ref (ga 3), .int a1]) ++ List.replicate (5 - (lg_sl ([.ref (ga 3), .int a1])).length) Slot.unset).toArray = ls at hl ⊢
  have hl : lv_has ls 5 [(0, .ref (ga 3)), (1, .int a1)] := hl
  have blk52 : ∀ (n : Nat) (σ : CS) (v1 : Int32) (v4 : Int32) (ls : Array Slot) (H : Heap) (locs : List Loc), J_Volume_empty_52 n σ v1 v4 = some res → lv_has ls 5 [(0, .ref (ga 3)), (1, .int v1), (4, .int v4)] → va_P (dC, dI) cls (wC ga cB cI σ) H → va_S A s.heap H locs → W p l e (headSpec (mw y_Volume_empty b_Volume_empty 5 none) rm_Volume_empty).room s m [.ref (ga 3), .int a1].toArray below meth c H locs 0 0 (MQ below (va_Qv (fun (_ : Unit) => True) (fun _ t => kW (dC, dI) (tC cB cI) (wC ga cB cI res) t) A) [.ref (ga 3), .int a1].toArray s 0 0 A) (F0 m 52 ls []) := by
    intro n
    induction n with
    | zero => intro σ v1 v4 ls H locs hJ; exact j_none hJ
    | succ n hk =>
      intro σ v1 v4 ls H locs hJ hl hP hS
      have hJ : J_Volume_empty_52_b (J_Volume_empty_52 n) σ v1 v4 = some res := hJ
      unfold J_Volume_empty_52_b at hJ
      refine lv_iload hx hb d_Volume_empty_52 (lv_at hl 2 rfl) ?_
      refine lv_bipush (v := (16 : Int32)) hx hb d_Volume_empty_54 (by decide) ?_
      refine lv_icmp_ge (tgt := 73) hx hb d_Volume_empty_56 (by decide) (fun h6 => ?_) (fun h6 => ?_)
      · have hJ := j_t hJ h6
        have hJ := Option.some.inj hJ
        exact W.vret hx hb hr (fun t ht hW => ⟨⟨(), rfl, trivial, kW_end hP hK ht hW (congrArg (fun z => wC ga cB cI z) hJ)⟩, hS.F ht⟩) hS.2.2 d_Volume_empty_73
      · have hJ := j_f hJ h6
        refine lv_aload_n hx hb d_Volume_empty_59 rfl (lv_at hl 0 rfl) ?_
        refine lv_iload_n hx hb d_Volume_empty_60 rfl (lv_at hl 1 rfl) ?_
        refine lv_iload hx hb d_Volume_empty_61 (lv_at hl 2 rfl) ?_
        refine lv_iconst (v := (0 : Int32)) hx hb d_Volume_empty_63 (by decide) ?_
        obtain ⟨x7, e7, hJ⟩ := j_bind hJ
        refine va_callv (va_runV (As := [.int v1, .int v4, .int (0 : Int32)]) (rest := []) ⟨hx, hb, hml, hown, htb⟩ (c_Volume_setInodeByte (l := l) (dC := dC) (dI := dI) hDa e7) (xcV 3 htb tw372 tw5 tw369 tw371 ts_Volume_setInodeByte rfl rfl hd_Volume_setInodeByte ⟨Nat.le_of_ble_eq_true rfl, Nat.le_of_ble_eq_true rfl⟩) (kW_V hP hK (va_recv (q0 := 3) (ci := 3) hK hP rfl rfl)) rfl rfl hl.1 rfl (lv_room (Nat.le_of_ble_eq_true rfl)) d_Volume_empty_64 ⟨Nat.le_of_ble_eq_true rfl, Nat.le_of_ble_eq_true rfl⟩) hS (fun q _ h => h) (fun q h => h) (fun u t H locs ht hvm hw hB _ _ hS => ?_)
        have hP := kW_P hB ht
        refine lv_iinc (k := 2) (v := (v4 + (1 : Int32))) hx hb d_Volume_empty_67 hl rfl rfl (Nat.le_of_ble_eq_true rfl) rfl (fun ls hl => ?_)
        have hl : lv_has ls 5 [(4, .int (v4 + (1 : Int32))), (0, .ref (ga 3)), (1, .int v1)] := hl
        refine lv_goto (tgt := 52) hx hb d_Volume_empty_70 (by decide) ?_
        exact hk _ _ _ _ _ _ hJ (lv_sub hl [1, 2, 0] rfl) hP hS
  have blk11 : ∀ (n : Nat) (σ : CS) (v1 : Int32) (v2 : Int32) (v3 : Int32) (ls : Array Slot) (H : Heap) (locs : List Loc), J_Volume_empty_11 n σ v1 v2 v3 = some res → lv_has ls 5 [(0, .ref (ga 3)), (1, .int v1), (2, .int v2), (3, .int v3)] → va_P (dC, dI) cls (wC ga cB cI σ) H → va_S A s.heap H locs → W p l e (headSpec (mw y_Volume_empty b_Volume_empty 5 none) rm_Volume_empty).room s m [.ref (ga 3), .int a1].toArray below meth c H locs 0 0 (MQ below (va_Qv (fun (_ : Unit) => True) (fun _ t => kW (dC, dI) (tC cB cI) (wC ga cB cI res) t) A) [.ref (ga 3), .int a1].toArray s 0 0 A) (F0 m 11 ls []) := by
    intro n
    induction n with
    | zero => intro σ v1 v2 v3 ls H locs hJ; exact j_none hJ
    | succ n hk =>
      intro σ v1 v2 v3 ls H locs hJ hl hP hS
      have hJ : J_Volume_empty_11_b (J_Volume_empty_11 n) σ v1 v2 v3 = some res := hJ
      unfold J_Volume_empty_11_b at hJ
      refine lv_iload_n hx hb d_Volume_empty_11 rfl (lv_at hl 3 rfl) ?_
      refine lv_iload_n hx hb d_Volume_empty_12 rfl (lv_at hl 2 rfl) ?_
      refine lv_icmp_ge (tgt := 32) hx hb d_Volume_empty_13 (by decide) (fun h3 => ?_) (fun h3 => ?_)
      · have hJ := j_t hJ h3
        refine lv_aload_n hx hb d_Volume_empty_32 rfl (lv_at hl 0 rfl) ?_
        refine lv_iload_n hx hb d_Volume_empty_33 rfl (lv_at hl 1 rfl) ?_
        refine lv_bipush (v := (14 : Int32)) hx hb d_Volume_empty_34 (by decide) ?_
        obtain ⟨x4, e4, hJ⟩ := j_bind hJ
        refine va_calli (va_runV (As := [.int v1, .int (14 : Int32)]) (rest := []) ⟨hx, hb, hml, hown, htb⟩ (c_Volume_inodeByte (l := l) (dC := dC) (dI := dI) hDa e4) (xcV 2 htb tw164 tw5 tw161 tw163 ts_Volume_inodeByte rfl rfl hd_Volume_inodeByte ⟨Nat.le_of_ble_eq_true rfl, Nat.le_of_ble_eq_true rfl⟩) (kW_V hP hK (va_recv (q0 := 3) (ci := 3) hK hP rfl rfl)) rfl rfl hl.1 rfl (lv_room (Nat.le_of_ble_eq_true rfl)) d_Volume_empty_36 ⟨Nat.le_of_ble_eq_true rfl, Nat.le_of_ble_eq_true rfl⟩) hS (fun q _ h => h) (fun q h => h) (fun r0 u t H locs ht hvm hw hB _ _ hS => ?_)
        subst r0
        have hP := kW_P hB ht
        refine lv_istore_n hx hb d_Volume_empty_39 rfl hl (Nat.le_of_ble_eq_true rfl) rfl (fun ls hl => ?_)
        have hl : lv_has ls 5 [(3, .int x4), (0, .ref (ga 3)), (1, .int v1), (2, .int v2)] := hl
        refine lv_iload_n hx hb d_Volume_empty_40 rfl (lv_at hl 0 rfl) ?_
        refine lv_if_eq (tgt := 49) hx hb d_Volume_empty_41 (by decide) (fun h5 => ?_) (fun h5 => ?_)
        · have hJ := j_t hJ h5
          refine lv_iconst (v := (2 : Int32)) hx hb d_Volume_empty_49 (by decide) ?_
          refine lv_istore hx hb d_Volume_empty_50 hl (Nat.le_of_ble_eq_true rfl) rfl (fun ls hl => ?_)
          have hl : lv_has ls 5 [(4, .int (2 : Int32)), (3, .int x4), (0, .ref (ga 3)), (1, .int v1), (2, .int v2)] := hl
          exact blk52 9000 _ _ _ _ _ _ hJ (lv_sub hl [2, 3, 0] rfl) hP hS
        · have hJ := j_f hJ h5
          refine lv_aload_n hx hb d_Volume_empty_44 rfl (lv_at hl 1 rfl) ?_
          refine lv_iload_n hx hb d_Volume_empty_45 rfl (lv_at hl 0 rfl) ?_
          obtain ⟨x8, e8, hJ⟩ := j_bind hJ
          refine va_callv (va_runV (As := [.int x4]) (rest := []) ⟨hx, hb, hml, hown, htb⟩ (c_Volume_giveBack (l := l) (dC := dC) (dI := dI) hDa e8) (xcV 1 htb tw463 tw5 tw460 tw462 ts_Volume_giveBack rfl rfl hd_Volume_giveBack ⟨Nat.le_of_ble_eq_true rfl, Nat.le_of_ble_eq_true rfl⟩) (kW_V hP hK (va_recv (q0 := 3) (ci := 3) hK hP rfl rfl)) rfl rfl hl.1 rfl (lv_room (Nat.le_of_ble_eq_true rfl)) d_Volume_empty_46 ⟨Nat.le_of_ble_eq_true rfl, Nat.le_of_ble_eq_true rfl⟩) hS (fun q _ h => h) (fun q h => h) (fun u t H locs ht hvm hw hB _ _ hS => ?_)
          have hP := kW_P hB ht
          refine lv_iconst (v := (2 : Int32)) hx hb d_Volume_empty_49 (by decide) ?_
          refine lv_istore hx hb d_Volume_empty_50 hl (Nat.le_of_ble_eq_true rfl) rfl (fun ls hl => ?_)
          have hl : lv_has ls 5 [(4, .int (2 : Int32)), (3, .int x4), (0, .ref (ga 3)), (1, .int v1), (2, .int v2)] := hl
          exact blk52 9000 _ _ _ _ _ _ hJ (lv_sub hl [2, 3, 0] rfl) hP hS
      · have hJ := j_f hJ h3
        refine lv_aload_n hx hb d_Volume_empty_16 rfl (lv_at hl 0 rfl) ?_
        refine lv_aload_n hx hb d_Volume_empty_17 rfl (lv_at hl 0 rfl) ?_
        refine lv_iload_n hx hb d_Volume_empty_18 rfl (lv_at hl 1 rfl) ?_
        refine lv_iload_n hx hb d_Volume_empty_19 rfl (lv_at hl 3 rfl) ?_
        obtain ⟨x9, e9, hJ⟩ := j_bind hJ
        refine va_calli (va_runV (As := [.int v1, .int v3]) (rest := [.ref (ga 3)]) ⟨hx, hb, hml, hown, htb⟩ (c_Volume_contentBlock (l := l) (dC := dC) (dI := dI) hDa e9) (xcV 2 htb tw285 tw5 tw282 tw284 ts_Volume_contentBlock rfl rfl hd_Volume_contentBlock ⟨Nat.le_of_ble_eq_true rfl, Nat.le_of_ble_eq_true rfl⟩) (kW_V hP hK (va_recv (q0 := 3) (ci := 3) hK hP rfl rfl)) rfl rfl hl.1 rfl (lv_room (Nat.le_of_ble_eq_true rfl)) d_Volume_empty_20 ⟨Nat.le_of_ble_eq_true rfl, Nat.le_of_ble_eq_true rfl⟩) hS (fun q _ h => h) (fun q h => h) (fun r0 u t H locs ht hvm hw hB _ _ hS => ?_)
        subst r0
        have hP := kW_P hB ht
        obtain ⟨x10, e10, hJ⟩ := j_bind hJ
        refine va_callv (va_runV (As := [.int x9]) (rest := []) ⟨hx, hb, hml, hown, htb⟩ (c_Volume_giveBack (l := l) (dC := dC) (dI := dI) hDa e10) (xcV 1 htb tw463 tw5 tw460 tw462 ts_Volume_giveBack rfl rfl hd_Volume_giveBack ⟨Nat.le_of_ble_eq_true rfl, Nat.le_of_ble_eq_true rfl⟩) (kW_V hP hK (va_recv (q0 := 3) (ci := 3) hK hP rfl rfl)) rfl rfl hl.1 rfl (lv_room (Nat.le_of_ble_eq_true rfl)) d_Volume_empty_23 ⟨Nat.le_of_ble_eq_true rfl, Nat.le_of_ble_eq_true rfl⟩) hS (fun q _ h => h) (fun q h => h) (fun u t H locs ht hvm hw hB _ _ hS => ?_)
        have hP := kW_P hB ht
        refine lv_iinc (k := 3) (v := (v3 + (1 : Int32))) hx hb d_Volume_empty_26 hl rfl rfl (Nat.le_of_ble_eq_true rfl) rfl (fun ls hl => ?_)
        have hl : lv_has ls 5 [(3, .int (v3 + (1 : Int32))), (0, .ref (ga 3)), (1, .int v1), (2, .int v2)] := hl
        refine lv_goto (tgt := 11) hx hb d_Volume_empty_29 (by decide) ?_
        exact hk _ _ _ _ _ _ _ hJ (lv_sub hl [1, 2, 3, 0] rfl) hP hS
  unfold J_Volume_empty at hJ
  refine lv_aload_n hx hb d_Volume_empty_0 rfl (lv_at hl 0 rfl) ?_
  refine lv_iload_n hx hb d_Volume_empty_1 rfl (lv_at hl 1 rfl) ?_
  obtain ⟨x1, e1, hJ⟩ := j_bind hJ
  refine va_calli (va_runV (As := [.int a1]) (rest := []) ⟨hx, hb, hml, hown, htb⟩ (c_Volume_size (l := l) (dC := dC) (dI := dI) hDa e1) (xcV 1 htb tw277 tw5 tw274 tw275 tw276 rfl rfl hd_Volume_size ⟨Nat.le_of_ble_eq_true rfl, Nat.le_of_ble_eq_true rfl⟩) (kW_V hP hK (va_recv (q0 := 3) (ci := 3) hK hP rfl rfl)) rfl rfl hl.1 rfl (lv_room (Nat.le_of_ble_eq_true rfl)) d_Volume_empty_2 ⟨Nat.le_of_ble_eq_true rfl, Nat.le_of_ble_eq_true rfl⟩) hS (fun q _ h => h) (fun q h => h) (fun r0 u t H locs ht hvm hw hB _ _ hS => ?_)
  subst r0
  have hP := kW_P hB ht
  obtain ⟨x2, e2, hJ⟩ := j_bind hJ
  refine va_calli (va_runSN (As := [.int x1]) (rest := []) ⟨hx, hb, hml, hown, htb⟩ (c_LogFs_blocksFor (l := l) (dC := dC) (dI := dI) (σ := σ) hDa e2) (xcSN 1 htb tw300 tw1 tw298 tw299 rfl rfl hd_LogFs_blocksFor ⟨Nat.le_of_ble_eq_true rfl, Nat.le_of_ble_eq_true rfl⟩) (kW_S hP hK) rfl rfl hl.1 rfl (lv_room (Nat.le_of_ble_eq_true rfl)) d_Volume_empty_5 ⟨Nat.le_of_ble_eq_true rfl, Nat.le_of_ble_eq_true rfl⟩) hS (fun q _ h => h) (fun q h => h) (fun r0 u t H locs ht hvm hw hB _ _ hS => ?_)
  subst r0
  have hP := kW_P hB ht
  refine lv_istore_n hx hb d_Volume_empty_8 rfl hl (Nat.le_of_ble_eq_true rfl) rfl (fun ls hl => ?_)
  have hl : lv_has ls 5 [(2, .int x2), (0, .ref (ga 3)), (1, .int a1)] := hl
  refine lv_iconst (v := (0 : Int32)) hx hb d_Volume_empty_9 (by decide) ?_
  refine lv_istore_n hx hb d_Volume_empty_10 rfl hl (Nat.le_of_ble_eq_true rfl) rfl (fun ls hl => ?_)
  have hl : lv_has ls 5 [(3, .int (0 : Int32)), (2, .int x2), (0, .ref (ga 3)), (1, .int a1)] := hl
  exact blk11 9000 _ _ _ _ _ _ _ hJ (lv_sub hl [2, 3, 1, 0] rfl) hP hS
def J_Volume_dropLink (σ : CS) (a1 : Int32) : Option (CS) :=
  (J_Volume_links σ a1).bind fun x1 => (if x1 ≤ (1 : Int32) then (J_Volume_empty σ a1).bind fun x3 => (J_Volume_setInodeByte x3 a1 (0 : Int32) (0 : Int32)).bind fun x4 => (J_Volume_setInodeByte x4 a1 (1 : Int32) (0 : Int32)).bind fun x5 => some x5 else (J_Volume_links σ a1).bind fun x6 => (J_Volume_setInodeByte σ a1 (1 : Int32) (x6 - (1 : Int32))).bind fun x7 => some x7)
abbrev rm_Volume_dropLink : Room := { frames := 4, cells := 0, slots := 0, locals := 93 }
set_option maxHeartbeats 4000000 in
set_option maxRecDepth 100000 in
theorem c_Volume_dropLink {l : Launch} {dC : Nat → ClassId} {dI : Nat → Nat → Nat} {ga : Nat → Nat} {cB cI : ClassId} {A : Nat → Prop} (hDa : ∀ σ, va_D A (wC ga cB cI σ)) {σ : CS} {a1 : Int32} {res : CS} (hJ : J_Volume_dropLink σ a1 = some res) :
    Met l y_Volume_dropLink (mw y_Volume_dropLink b_Volume_dropLink 2 none) rm_Volume_dropLink (va_Pc [.ref (ga 3), .int a1] (kW (dC, dI) (tC cB cI) (wC ga cB cI σ))) (va_Qv (fun (_ : Unit) => True) (fun _ t => kW (dC, dI) (tC cB cI) (wC ga cB cI res) t) A) 0 0 A := by
  refine Met.ofW (cc := b_Volume_dropLink) (maxL := 2) (ret := none) (by decide) rfl ?_
  intro p e s m args below meth c s₁ B hml hv
  obtain ⟨rfl, hP, hK⟩ := hv
  have hx := B.exec
  have hb := B.bytes
  have hr := B.returns
  have hts := atoms_spec (ws := (mw y_Volume_dropLink b_Volume_dropLink 2 none)) B.pre
  have htb : ∀ w ∈ tb, w.before [.ref (ga 3), .int a1].toArray s = true := fun w h => hts w (mwIn h)
  have hown : s.vm.findClass "LogFs$Volume" = some m.cls := findClass_of_methodNamed B.named
  have hlocks := B.notSynchronized
  have hS : va_S A s.heap s.heap [] := va_S.rf
  have hl := lv_entry ([.ref (ga 3), .int a1]) (n := 2) (Nat.le_of_ble_eq_true rfl)
  rw [lg_entry_eq]
  generalize (lg_sl ([.ref (ga 3), .int a1]) ++ List.replicate (2 - (lg_sl ([.ref (ga 3), .int a1])).length) Slot.unset).toArray = ls at hl ⊢
  have hl : lv_has ls 2 [(0, .ref (ga 3)), (1, .int a1)] := hl
  unfold J_Volume_dropLink at hJ
  refine lv_aload_n hx hb d_Volume_dropLink_0 rfl (lv_at hl 0 rfl) ?_
  refine lv_iload_n hx hb d_Volume_dropLink_1 rfl (lv_at hl 1 rfl) ?_
  obtain ⟨x1, e1, hJ⟩ := j_bind hJ
  refine va_calli (va_runV (As := [.int a1]) (rest := []) ⟨hx, hb, hml, hown, htb⟩ (c_Volume_links (l := l) (dC := dC) (dI := dI) hDa e1) (xcV 1 htb tw430 tw5 tw435 tw428 tw429 rfl rfl hd_Volume_links ⟨Nat.le_of_ble_eq_true rfl, Nat.le_of_ble_eq_true rfl⟩) (kW_V hP hK (va_recv (q0 := 3) (ci := 3) hK hP rfl rfl)) rfl rfl hl.1 rfl (lv_room (Nat.le_of_ble_eq_true rfl)) d_Volume_dropLink_2 ⟨Nat.le_of_ble_eq_true rfl, Nat.le_of_ble_eq_true rfl⟩) hS (fun q _ h => h) (fun q h => h) (fun r0 u t H locs ht hvm hw hB _ _ hS => ?_)
  subst r0
  have hP := kW_P hB ht
  refine lv_iconst (v := (1 : Int32)) hx hb d_Volume_dropLink_5 (by decide) ?_
  refine lv_icmp_le (tgt := 23) hx hb d_Volume_dropLink_6 (by decide) (fun h2 => ?_) (fun h2 => ?_)
  · have hJ := j_t hJ h2
    refine lv_aload_n hx hb d_Volume_dropLink_23 rfl (lv_at hl 0 rfl) ?_
    refine lv_iload_n hx hb d_Volume_dropLink_24 rfl (lv_at hl 1 rfl) ?_
    obtain ⟨x3, e3, hJ⟩ := j_bind hJ
    refine va_callv (va_runV (As := [.int a1]) (rest := []) ⟨hx, hb, hml, hown, htb⟩ (c_Volume_empty (l := l) (dC := dC) (dI := dI) hDa e3) (xcV 1 htb tw459 tw5 tw456 tw457 tw458 rfl rfl hd_Volume_empty ⟨Nat.le_of_ble_eq_true rfl, Nat.le_of_ble_eq_true rfl⟩) (kW_V hP hK (va_recv (q0 := 3) (ci := 3) hK hP rfl rfl)) rfl rfl hl.1 rfl (lv_room (Nat.le_of_ble_eq_true rfl)) d_Volume_dropLink_25 ⟨Nat.le_of_ble_eq_true rfl, Nat.le_of_ble_eq_true rfl⟩) hS (fun q _ h => h) (fun q h => h) (fun u t H locs ht hvm hw hB _ _ hS => ?_)
    have hP := kW_P hB ht
    refine lv_aload_n hx hb d_Volume_dropLink_28 rfl (lv_at hl 0 rfl) ?_
    refine lv_iload_n hx hb d_Volume_dropLink_29 rfl (lv_at hl 1 rfl) ?_
    refine lv_iconst (v := (0 : Int32)) hx hb d_Volume_dropLink_30 (by decide) ?_
    refine lv_iconst (v := (0 : Int32)) hx hb d_Volume_dropLink_31 (by decide) ?_
    obtain ⟨x4, e4, hJ⟩ := j_bind hJ
    refine va_callv (va_runV (As := [.int a1, .int (0 : Int32), .int (0 : Int32)]) (rest := []) ⟨hx, hb, hml, hown, htb⟩ (c_Volume_setInodeByte (l := l) (dC := dC) (dI := dI) hDa e4) (xcV 3 htb tw372 tw5 tw369 tw371 ts_Volume_setInodeByte rfl rfl hd_Volume_setInodeByte ⟨Nat.le_of_ble_eq_true rfl, Nat.le_of_ble_eq_true rfl⟩) (kW_V hP hK (va_recv (q0 := 3) (ci := 3) hK hP rfl rfl)) rfl rfl hl.1 rfl (lv_room (Nat.le_of_ble_eq_true rfl)) d_Volume_dropLink_32 ⟨Nat.le_of_ble_eq_true rfl, Nat.le_of_ble_eq_true rfl⟩) hS (fun q _ h => h) (fun q h => h) (fun u t H locs ht hvm hw hB _ _ hS => ?_)
    have hP := kW_P hB ht
    refine lv_aload_n hx hb d_Volume_dropLink_35 rfl (lv_at hl 0 rfl) ?_
    refine lv_iload_n hx hb d_Volume_dropLink_36 rfl (lv_at hl 1 rfl) ?_
    refine lv_iconst (v := (1 : Int32)) hx hb d_Volume_dropLink_37 (by decide) ?_
    refine lv_iconst (v := (0 : Int32)) hx hb d_Volume_dropLink_38 (by decide) ?_
    obtain ⟨x5, e5, hJ⟩ := j_bind hJ
    refine va_callv (va_runV (As := [.int a1, .int (1 : Int32), .int (0 : Int32)]) (rest := []) ⟨hx, hb, hml, hown, htb⟩ (c_Volume_setInodeByte (l := l) (dC := dC) (dI := dI) hDa e5) (xcV 3 htb tw372 tw5 tw369 tw371 ts_Volume_setInodeByte rfl rfl hd_Volume_setInodeByte ⟨Nat.le_of_ble_eq_true rfl, Nat.le_of_ble_eq_true rfl⟩) (kW_V hP hK (va_recv (q0 := 3) (ci := 3) hK hP rfl rfl)) rfl rfl hl.1 rfl (lv_room (Nat.le_of_ble_eq_true rfl)) d_Volume_dropLink_39 ⟨Nat.le_of_ble_eq_true rfl, Nat.le_of_ble_eq_true rfl⟩) hS (fun q _ h => h) (fun q h => h) (fun u t H locs ht hvm hw hB _ _ hS => ?_)
    have hP := kW_P hB ht
    have hJ := Option.some.inj hJ
    exact W.vret hx hb hr (fun t ht hW => ⟨⟨(), rfl, trivial, kW_end hP hK ht hW (congrArg (fun z => wC ga cB cI z) hJ)⟩, hS.F ht⟩) hS.2.2 d_Volume_dropLink_42
  · have hJ := j_f hJ h2
    refine lv_aload_n hx hb d_Volume_dropLink_9 rfl (lv_at hl 0 rfl) ?_
    refine lv_iload_n hx hb d_Volume_dropLink_10 rfl (lv_at hl 1 rfl) ?_
    refine lv_iconst (v := (1 : Int32)) hx hb d_Volume_dropLink_11 (by decide) ?_
    refine lv_aload_n hx hb d_Volume_dropLink_12 rfl (lv_at hl 0 rfl) ?_
    refine lv_iload_n hx hb d_Volume_dropLink_13 rfl (lv_at hl 1 rfl) ?_
    obtain ⟨x6, e6, hJ⟩ := j_bind hJ
    refine va_calli (va_runV (As := [.int a1]) (rest := [.int (1 : Int32), .int a1, .ref (ga 3)]) ⟨hx, hb, hml, hown, htb⟩ (c_Volume_links (l := l) (dC := dC) (dI := dI) hDa e6) (xcV 1 htb tw430 tw5 tw435 tw428 tw429 rfl rfl hd_Volume_links ⟨Nat.le_of_ble_eq_true rfl, Nat.le_of_ble_eq_true rfl⟩) (kW_V hP hK (va_recv (q0 := 3) (ci := 3) hK hP rfl rfl)) rfl rfl hl.1 rfl (lv_room (Nat.le_of_ble_eq_true rfl)) d_Volume_dropLink_14 ⟨Nat.le_of_ble_eq_true rfl, Nat.le_of_ble_eq_true rfl⟩) hS (fun q _ h => h) (fun q h => h) (fun r0 u t H locs ht hvm hw hB _ _ hS => ?_)
    subst r0
    have hP := kW_P hB ht
    refine lv_iconst (v := (1 : Int32)) hx hb d_Volume_dropLink_17 (by decide) ?_
    refine lv_isub hx hb d_Volume_dropLink_18 ?_
    obtain ⟨x7, e7, hJ⟩ := j_bind hJ
    refine va_callv (va_runV (As := [.int a1, .int (1 : Int32), .int (x6 - (1 : Int32))]) (rest := []) ⟨hx, hb, hml, hown, htb⟩ (c_Volume_setInodeByte (l := l) (dC := dC) (dI := dI) hDa e7) (xcV 3 htb tw372 tw5 tw369 tw371 ts_Volume_setInodeByte rfl rfl hd_Volume_setInodeByte ⟨Nat.le_of_ble_eq_true rfl, Nat.le_of_ble_eq_true rfl⟩) (kW_V hP hK (va_recv (q0 := 3) (ci := 3) hK hP rfl rfl)) rfl rfl hl.1 rfl (lv_room (Nat.le_of_ble_eq_true rfl)) d_Volume_dropLink_19 ⟨Nat.le_of_ble_eq_true rfl, Nat.le_of_ble_eq_true rfl⟩) hS (fun q _ h => h) (fun q h => h) (fun u t H locs ht hvm hw hB _ _ hS => ?_)
    have hP := kW_P hB ht
    have hJ := Option.some.inj hJ
    exact W.vret hx hb hr (fun t ht hW => ⟨⟨(), rfl, trivial, kW_end hP hK ht hW (congrArg (fun z => wC ga cB cI z) hJ)⟩, hS.F ht⟩) hS.2.2 d_Volume_dropLink_22
