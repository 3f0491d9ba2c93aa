/-! LogFs's helpers and what Volume reads. Written by wip/gen/classes.py. -/
def J_LogFs_isInode (a1 : Int32) : Option (Int32) :=
  (if a1 < (0 : Int32) then some (0 : Int32) else (if (32 : Int32) ≤ a1 then some (0 : Int32) else some (1 : Int32)))
abbrev rm_LogFs_isInode : Room := { frames := 0, cells := 0, slots := 0, locals := 0 }
set_option maxHeartbeats 4000000 in
set_option maxRecDepth 100000 in
theorem c_LogFs_isInode {l : Launch} {dC : Nat → ClassId} {dI : Nat → Nat → Nat} {ga : Nat → Nat} {cB cI : ClassId} {A : Nat → Prop} (hDa : ∀ σ, va_D A (wC ga cB cI σ)) {σ : CS} {a1 : Int32} {res : Int32} (hJ : J_LogFs_isInode a1 = some res) :
    Met l y_LogFs_isInode (mw y_LogFs_isInode b_LogFs_isInode 1 (some .boolean)) rm_LogFs_isInode (va_Pc [.int a1] (kW (dC, dI) (tC cB cI) (wC ga cB cI σ))) (va_Qi (fun (x : Int32) (_ : Unit) => x = res) (fun _ t => kW (dC, dI) (tC cB cI) (wC ga cB cI σ) t) A) 0 0 A := by
  refine Met.ofW (cc := b_LogFs_isInode) (maxL := 1) (ret := (some .boolean)) (by decide) rfl ?_
  intro p e s m args below meth c s₁ B hml hv
  obtain ⟨rfl, hP, hK⟩ := hv
  have hx := B.exec
  have hb := B.bytes
  have hr := B.returns
  have hts := atoms_spec (ws := (mw y_LogFs_isInode b_LogFs_isInode 1 (some .boolean))) B.pre
  have htb : ∀ w ∈ tb, w.before [.int a1].toArray s = true := fun w h => hts w (mwIn h)
  have hown : s.vm.findClass "LogFs" = some m.cls := findClass_of_methodNamed B.named
  have hlocks := B.notSynchronized
  have hS : va_S A s.heap s.heap [] := va_S.rf
  have hl := lv_entry ([.int a1]) (n := 1) (Nat.le_of_ble_eq_true rfl)
  rw [lg_entry_eq]
  generalize (lg_sl ([.int a1]) ++ List.replicate (1 - (lg_sl ([.int a1])).length) Slot.unset).toArray = ls at hl ⊢
  have hl : lv_has ls 1 [(0, .int a1)] := hl
  unfold J_LogFs_isInode at hJ
  refine lv_iload_n hx hb d_LogFs_isInode_0 rfl (lv_at hl 0 rfl) ?_
  refine lv_if_lt (tgt := 14) hx hb d_LogFs_isInode_1 (by decide) (fun h1 => ?_) (fun h1 => ?_)
  · have hJ := j_t hJ h1
    refine lv_iconst (v := (0 : Int32)) hx hb d_LogFs_isInode_14 (by decide) ?_
    have hJ := Option.some.inj hJ
    exact W.zret (v := (0 : Int32)) (ty := .boolean) hx hb hr (by decide +kernel) (fun t ht hW => ⟨⟨_, (), rfl, hJ, kW_end hP hK ht hW rfl⟩, hS.F ht⟩) hS.2.2 d_LogFs_isInode_15
  · have hJ := j_f hJ h1
    refine lv_iload_n hx hb d_LogFs_isInode_4 rfl (lv_at hl 0 rfl) ?_
    refine lv_bipush (v := (32 : Int32)) hx hb d_LogFs_isInode_5 (by decide) ?_
    refine lv_icmp_ge (tgt := 14) hx hb d_LogFs_isInode_7 (by decide) (fun h2 => ?_) (fun h2 => ?_)
    · have hJ := j_t hJ h2
      refine lv_iconst (v := (0 : Int32)) hx hb d_LogFs_isInode_14 (by decide) ?_
      have hJ := Option.some.inj hJ
      exact W.zret (v := (0 : Int32)) (ty := .boolean) hx hb hr (by decide +kernel) (fun t ht hW => ⟨⟨_, (), rfl, hJ, kW_end hP hK ht hW rfl⟩, hS.F ht⟩) hS.2.2 d_LogFs_isInode_15
    · have hJ := j_f hJ h2
      refine lv_iconst (v := (1 : Int32)) hx hb d_LogFs_isInode_10 (by decide) ?_
      refine lv_goto (tgt := 15) hx hb d_LogFs_isInode_11 (by decide) ?_
      have hJ := Option.some.inj hJ
      exact W.zret (v := (1 : Int32)) (ty := .boolean) hx hb hr (by decide +kernel) (fun t ht hW => ⟨⟨_, (), rfl, hJ, kW_end hP hK ht hW rfl⟩, hS.F ht⟩) hS.2.2 d_LogFs_isInode_15
def J_LogFs_blocksFor (a1 : Int32) : Option (Int32) :=
  some (((a1 + (64 : Int32)) - (1 : Int32)) / (64 : Int32))
abbrev rm_LogFs_blocksFor : Room := { frames := 0, cells := 0, slots := 0, locals := 0 }
set_option maxHeartbeats 4000000 in
set_option maxRecDepth 100000 in
theorem c_LogFs_blocksFor {l : Launch} {dC : Nat → ClassId} {dI : Nat → Nat → Nat} {ga : Nat → Nat} {cB cI : ClassId} {A : Nat → Prop} (hDa : ∀ σ, va_D A (wC ga cB cI σ)) {σ : CS} {a1 : Int32} {res : Int32} (hJ : J_LogFs_blocksFor a1 = some res) :
    Met l y_LogFs_blocksFor (mw y_LogFs_blocksFor b_LogFs_blocksFor 1 (some .int)) rm_LogFs_blocksFor (va_Pc [.int a1] (kW (dC, dI) (tC cB cI) (wC ga cB cI σ))) (va_Qi (fun (x : Int32) (_ : Unit) => x = res) (fun _ t => kW (dC, dI) (tC cB cI) (wC ga cB cI σ) t) A) 0 0 A := by
  refine Met.ofW (cc := b_LogFs_blocksFor) (maxL := 1) (ret := (some .int)) (by decide) rfl ?_
  intro p e s m args below meth c s₁ B hml hv
  obtain ⟨rfl, hP, hK⟩ := hv
  have hx := B.exec
  have hb := B.bytes
  have hr := B.returns
  have hts := atoms_spec (ws := (mw y_LogFs_blocksFor b_LogFs_blocksFor 1 (some .int))) B.pre
  have htb : ∀ w ∈ tb, w.before [.int a1].toArray s = true := fun w h => hts w (mwIn h)
  have hown : s.vm.findClass "LogFs" = some m.cls := findClass_of_methodNamed B.named
  have hlocks := B.notSynchronized
  have hS : va_S A s.heap s.heap [] := va_S.rf
  have hl := lv_entry ([.int a1]) (n := 1) (Nat.le_of_ble_eq_true rfl)
  rw [lg_entry_eq]
  generalize (lg_sl ([.int a1]) ++ List.replicate (1 - (lg_sl ([.int a1])).length) Slot.unset).toArray = ls at hl ⊢
  have hl : lv_has ls 1 [(0, .int a1)] := hl
  unfold J_LogFs_blocksFor at hJ
  refine lv_iload_n hx hb d_LogFs_blocksFor_0 rfl (lv_at hl 0 rfl) ?_
  refine lv_bipush (v := (64 : Int32)) hx hb d_LogFs_blocksFor_1 (by decide) ?_
  refine lv_iadd hx hb d_LogFs_blocksFor_3 ?_
  refine lv_iconst (v := (1 : Int32)) hx hb d_LogFs_blocksFor_4 (by decide) ?_
  refine lv_isub hx hb d_LogFs_blocksFor_5 ?_
  refine lv_bipush (v := (64 : Int32)) hx hb d_LogFs_blocksFor_6 (by decide) ?_
  refine lv_idiv hx hb d_LogFs_blocksFor_8 (by decide) ?_
  have hJ := Option.some.inj hJ
  exact W.iret (v := (((a1 + (64 : Int32)) - (1 : Int32)) / (64 : Int32))) hx hb hr (fun t ht hW => ⟨⟨_, (), rfl, hJ, kW_end hP hK ht hW rfl⟩, hS.F ht⟩) hS.2.2 d_LogFs_blocksFor_9
def J_LogFs_byteOf (a1 : Int64) (a2 : Int32) : Option (Int32) :=
  some ((a1.toUInt64 >>> (((8 : Int32) * ((7 : Int32) - a2)).toInt64.toUInt64 &&& Int64.toUInt64 63)).toInt64.toInt32 &&& (255 : Int32))
abbrev rm_LogFs_byteOf : Room := { frames := 0, cells := 0, slots := 0, locals := 0 }
set_option maxHeartbeats 4000000 in
set_option maxRecDepth 100000 in
theorem c_LogFs_byteOf {l : Launch} {dC : Nat → ClassId} {dI : Nat → Nat → Nat} {ga : Nat → Nat} {cB cI : ClassId} {A : Nat → Prop} (hDa : ∀ σ, va_D A (wC ga cB cI σ)) {σ : CS} {a1 : Int64} {a2 : Int32} {res : Int32} (hJ : J_LogFs_byteOf a1 a2 = some res) :
    Met l y_LogFs_byteOf (mw y_LogFs_byteOf b_LogFs_byteOf 3 (some .int)) rm_LogFs_byteOf (va_Pc [.long a1, .int a2] (kW (dC, dI) (tC cB cI) (wC ga cB cI σ))) (va_Qi (fun (x : Int32) (_ : Unit) => x = res) (fun _ t => kW (dC, dI) (tC cB cI) (wC ga cB cI σ) t) A) 0 0 A := by
  refine Met.ofW (cc := b_LogFs_byteOf) (maxL := 3) (ret := (some .int)) (by decide) rfl ?_
  intro p e s m args below meth c s₁ B hml hv
  obtain ⟨rfl, hP, hK⟩ := hv
  have hx := B.exec
  have hb := B.bytes
  have hr := B.returns
  have hts := atoms_spec (ws := (mw y_LogFs_byteOf b_LogFs_byteOf 3 (some .int))) B.pre
  have htb : ∀ w ∈ tb, w.before [.long a1, .int a2].toArray s = true := fun w h => hts w (mwIn h)
  have hown : s.vm.findClass "LogFs" = some m.cls := findClass_of_methodNamed B.named
  have hlocks := B.notSynchronized
  have hS : va_S A s.heap s.heap [] := va_S.rf
  have hl := lv_entry ([.long a1, .int a2]) (n := 3) (Nat.le_of_ble_eq_true rfl)
  rw [lg_entry_eq]
  generalize (lg_sl ([.long a1, .int a2]) ++ List.replicate (3 - (lg_sl ([.long a1, .int a2])).length) Slot.unset).toArray = ls at hl ⊢
  have hl : lv_has ls 3 [(0, .long a1), (2, .int a2)] := hl
  unfold J_LogFs_byteOf at hJ
  refine lv_lload_n hx hb d_LogFs_byteOf_0 rfl (lv_at hl 0 rfl) ?_
  refine lv_bipush (v := (8 : Int32)) hx hb d_LogFs_byteOf_1 (by decide) ?_
  refine lv_bipush (v := (7 : Int32)) hx hb d_LogFs_byteOf_3 (by decide) ?_
  refine lv_iload_n hx hb d_LogFs_byteOf_5 rfl (lv_at hl 1 rfl) ?_
  refine lv_isub hx hb d_LogFs_byteOf_6 ?_
  refine lv_imul hx hb d_LogFs_byteOf_7 ?_
  refine lv_lushr hx hb d_LogFs_byteOf_8 rfl ?_
  refine lv_l2i hx hb d_LogFs_byteOf_9 rfl ?_
  refine lv_sipush (v := (255 : Int32)) hx hb d_LogFs_byteOf_10 (by decide) ?_
  refine lv_iand hx hb d_LogFs_byteOf_13 ?_
  have hJ := Option.some.inj hJ
  exact W.iret (v := ((a1.toUInt64 >>> (((8 : Int32) * ((7 : Int32) - a2)).toInt64.toUInt64 &&& Int64.toUInt64 63)).toInt64.toInt32 &&& (255 : Int32))) hx hb hr (fun t ht hW => ⟨⟨_, (), rfl, hJ, kW_end hP hK ht hW rfl⟩, hS.F ht⟩) hS.2.2 d_LogFs_byteOf_14
def J_LogFs_entryOf (a1 : Int32) (a2 : Int64) : Option (Int64) :=
  some (((a1 + (1 : Int32)).toInt64 <<< ((56 : Int32).toInt64 &&& 63)) ||| (a2.toUInt64 >>> ((8 : Int32).toInt64.toUInt64 &&& Int64.toUInt64 63)).toInt64)
abbrev rm_LogFs_entryOf : Room := { frames := 0, cells := 0, slots := 0, locals := 0 }
set_option maxHeartbeats 4000000 in
set_option maxRecDepth 100000 in
theorem c_LogFs_entryOf {l : Launch} {dC : Nat → ClassId} {dI : Nat → Nat → Nat} {ga : Nat → Nat} {cB cI : ClassId} {A : Nat → Prop} (hDa : ∀ σ, va_D A (wC ga cB cI σ)) {σ : CS} {a1 : Int32} {a2 : Int64} {res : Int64} (hJ : J_LogFs_entryOf a1 a2 = some res) :
    Met l y_LogFs_entryOf (mw y_LogFs_entryOf b_LogFs_entryOf 3 (some .long)) rm_LogFs_entryOf (va_Pc [.int a1, .long a2] (kW (dC, dI) (tC cB cI) (wC ga cB cI σ))) (va_Ql (fun (x : Int64) (_ : Unit) => x = res) (fun _ t => kW (dC, dI) (tC cB cI) (wC ga cB cI σ) t) A) 0 0 A := by
  refine Met.ofW (cc := b_LogFs_entryOf) (maxL := 3) (ret := (some .long)) (by decide) rfl ?_
  intro p e s m args below meth c s₁ B hml hv
  obtain ⟨rfl, hP, hK⟩ := hv
  have hx := B.exec
  have hb := B.bytes
  have hr := B.returns
  have hts := atoms_spec (ws := (mw y_LogFs_entryOf b_LogFs_entryOf 3 (some .long))) B.pre
  have htb : ∀ w ∈ tb, w.before [.int a1, .long a2].toArray s = true := fun w h => hts w (mwIn h)
  have hown : s.vm.findClass "LogFs" = some m.cls := findClass_of_methodNamed B.named
  have hlocks := B.notSynchronized
  have hS : va_S A s.heap s.heap [] := va_S.rf
  have hl := lv_entry ([.int a1, .long a2]) (n := 3) (Nat.le_of_ble_eq_true rfl)
  rw [lg_entry_eq]
  generalize (lg_sl ([.int a1, .long a2]) ++ List.replicate (3 - (lg_sl ([.int a1, .long a2])).length) Slot.unset).toArray = ls at hl ⊢
  have hl : lv_has ls 3 [(0, .int a1), (1, .long a2)] := hl
  unfold J_LogFs_entryOf at hJ
  refine lv_iload_n hx hb d_LogFs_entryOf_0 rfl (lv_at hl 0 rfl) ?_
  refine lv_iconst (v := (1 : Int32)) hx hb d_LogFs_entryOf_1 (by decide) ?_
  refine lv_iadd hx hb d_LogFs_entryOf_2 ?_
  refine lv_i2l hx hb d_LogFs_entryOf_3 rfl ?_
  refine lv_bipush (v := (56 : Int32)) hx hb d_LogFs_entryOf_4 (by decide) ?_
  refine lv_lshl hx hb d_LogFs_entryOf_6 rfl ?_
  refine lv_lload_n hx hb d_LogFs_entryOf_7 rfl (lv_at hl 1 rfl) ?_
  refine lv_bipush (v := (8 : Int32)) hx hb d_LogFs_entryOf_8 (by decide) ?_
  refine lv_lushr hx hb d_LogFs_entryOf_10 rfl ?_
  refine lv_lor hx hb d_LogFs_entryOf_11 ?_
  have hJ := Option.some.inj hJ
  exact W.lret (v := (((a1 + (1 : Int32)).toInt64 <<< ((56 : Int32).toInt64 &&& 63)) ||| (a2.toUInt64 >>> ((8 : Int32).toInt64.toUInt64 &&& Int64.toUInt64 63)).toInt64)) hx hb hr (fun t ht hW => ⟨⟨_, (), rfl, hJ, kW_end hP hK ht hW rfl⟩, hS.F ht⟩) hS.2.2 d_LogFs_entryOf_12
def J_LogFs_isName_42 (v0 : Int64) (v2 : Int32) : Option (Int32) :=
  (if v2 ≤ (0 : Int32) then some (0 : Int32) else (if (7 : Int32) < v2 then some (0 : Int32) else (if (lg_cmp (v0 <<< (((8 : Int32) * v2).toInt64 &&& 63)) (0 : Int64)) = (0 : Int32) then some (1 : Int32) else some (0 : Int32))))
def J_LogFs_isName_2_b (k : Int64 → Int32 → Option (Int32)) (v0 : Int64) (v2 : Int32) : Option (Int32) :=
  (if (8 : Int32) ≤ v2 then J_LogFs_isName_42 v0 v2 else (J_LogFs_byteOf v0 v2).bind fun x5 => (if x5 = (0 : Int32) then J_LogFs_isName_42 v0 v2 else (J_LogFs_byteOf v0 v2).bind fun x7 => (if x7 < (33 : Int32) then some (0 : Int32) else (if x7 ≤ (126 : Int32) then k v0 (v2 + (1 : Int32)) else some (0 : Int32)))))
def J_LogFs_isName_2 : Nat → Int64 → Int32 → Option (Int32)
  | 0, _, _ => none
  | n + 1, v0, v2 => J_LogFs_isName_2_b (J_LogFs_isName_2 n) v0 v2
def J_LogFs_isName (a1 : Int64) : Option (Int32) :=
  J_LogFs_isName_2 9000 a1 (0 : Int32)
abbrev rm_LogFs_isName : Room := { frames := 1, cells := 0, slots := 0, locals := 22 }
set_option maxHeartbeats 4000000 in
set_option maxRecDepth 100000 in
theorem c_LogFs_isName {l : Launch} {dC : Nat → ClassId} {dI : Nat → Nat → Nat} {ga : Nat → Nat} {cB cI : ClassId} {A : Nat → Prop} (hDa : ∀ σ, va_D A (wC ga cB cI σ)) {σ : CS} {a1 : Int64} {res : Int32} (hJ : J_LogFs_isName a1 = some res) :
    Met l y_LogFs_isName (mw y_LogFs_isName b_LogFs_isName 4 (some .boolean)) rm_LogFs_isName (va_Pc [.long a1] (kW (dC, dI) (tC cB cI) (wC ga cB cI σ))) (va_Qi (fun (x : Int32) (_ : Unit) => x = res) (fun _ t => kW (dC, dI) (tC cB cI) (wC ga cB cI σ) t) A) 0 0 A := by
  refine Met.ofW (cc := b_LogFs_isName) (maxL := 4) (ret := (some .boolean)) (by decide) rfl ?_
  intro p e s m args below meth c s₁ B hml hv
  obtain ⟨rfl, hP, hK⟩ := hv
  have hx := B.exec
  have hb := B.bytes
  have hr := B.returns
  have hts := atoms_spec (ws := (mw y_LogFs_isName b_LogFs_isName 4 (some .boolean))) B.pre
  have htb : ∀ w ∈ tb, w.before [.long a1].toArray s = true := fun w h => hts w (mwIn h)
  have hown : s.vm.findClass "LogFs" = some m.cls := findClass_of_methodNamed B.named
  have hlocks := B.notSynchronized
  have hS : va_S A s.heap s.heap [] := va_S.rf
  have hl := lv_entry ([.long a1]) (n := 4) (Nat.le_of_ble_eq_true rfl)
  rw [lg_entry_eq]
  generalize (lg_sl ([.long a1]) ++ List.replicate (4 - (lg_sl ([.long a1])).length) Slot.unset).toArray = ls at hl ⊢
  have hl : lv_has ls 4 [(0, .long a1)] := hl
  have blk42 : ∀ (v0 : Int64) (v2 : Int32) (ls : Array Slot) (H : Heap) (locs : List Loc), J_LogFs_isName_42 v0 v2 = some res → lv_has ls 4 [(0, .long v0), (2, .int v2)] → va_P (dC, dI) cls (wC ga cB cI σ) H → va_S A s.heap H locs → W p l e (headSpec (mw y_LogFs_isName b_LogFs_isName 4 (some .boolean)) rm_LogFs_isName).room s m [.long a1].toArray below meth c H locs 0 0 (MQ below (va_Qi (fun (x : Int32) (_ : Unit) => x = res) (fun _ t => kW (dC, dI) (tC cB cI) (wC ga cB cI σ) t) A) [.long a1].toArray s 0 0 A) (F0 m 42 ls []) := by
    intro v0 v2 ls H locs hJ hl hP hS
    unfold J_LogFs_isName_42 at hJ
    refine lv_iload_n hx hb d_LogFs_isName_42 rfl (lv_at hl 1 rfl) ?_
    refine lv_if_le (tgt := 67) hx hb d_LogFs_isName_43 (by decide) (fun h2 => ?_) (fun h2 => ?_)
    · have hJ := j_t hJ h2
      refine lv_iconst (v := (0 : Int32)) hx hb d_LogFs_isName_67 (by decide) ?_
      have hJ := Option.some.inj hJ
      exact W.zret (v := (0 : Int32)) (ty := .boolean) hx hb hr (by decide +kernel) (fun t ht hW => ⟨⟨_, (), rfl, hJ, kW_end hP hK ht hW rfl⟩, hS.F ht⟩) hS.2.2 d_LogFs_isName_68
    · have hJ := j_f hJ h2
      refine lv_iload_n hx hb d_LogFs_isName_46 rfl (lv_at hl 1 rfl) ?_
      refine lv_bipush (v := (7 : Int32)) hx hb d_LogFs_isName_47 (by decide) ?_
      refine lv_icmp_gt (tgt := 67) hx hb d_LogFs_isName_49 (by decide) (fun h3 => ?_) (fun h3 => ?_)
      · have hJ := j_t hJ h3
        refine lv_iconst (v := (0 : Int32)) hx hb d_LogFs_isName_67 (by decide) ?_
        have hJ := Option.some.inj hJ
        exact W.zret (v := (0 : Int32)) (ty := .boolean) hx hb hr (by decide +kernel) (fun t ht hW => ⟨⟨_, (), rfl, hJ, kW_end hP hK ht hW rfl⟩, hS.F ht⟩) hS.2.2 d_LogFs_isName_68
      · have hJ := j_f hJ h3
        refine lv_lload_n hx hb d_LogFs_isName_52 rfl (lv_at hl 0 rfl) ?_
        refine lv_bipush (v := (8 : Int32)) hx hb d_LogFs_isName_53 (by decide) ?_
        refine lv_iload_n hx hb d_LogFs_isName_55 rfl (lv_at hl 1 rfl) ?_
        refine lv_imul hx hb d_LogFs_isName_56 ?_
        refine lv_lshl hx hb d_LogFs_isName_57 rfl ?_
        refine lv_lconst (v := (0 : Int64)) hx hb d_LogFs_isName_58 (by decide) ?_
        refine W.lcmp hx hb d_LogFs_isName_59 ?_
        refine lv_if_ne (tgt := 67) hx hb d_LogFs_isName_60 (by decide) (fun h4 => ?_) (fun h4 => ?_)
        · have hJ := j_f hJ h4
          refine lv_iconst (v := (0 : Int32)) hx hb d_LogFs_isName_67 (by decide) ?_
          have hJ := Option.some.inj hJ
          exact W.zret (v := (0 : Int32)) (ty := .boolean) hx hb hr (by decide +kernel) (fun t ht hW => ⟨⟨_, (), rfl, hJ, kW_end hP hK ht hW rfl⟩, hS.F ht⟩) hS.2.2 d_LogFs_isName_68
        · have hJ := j_t hJ h4
          refine lv_iconst (v := (1 : Int32)) hx hb d_LogFs_isName_63 (by decide) ?_
          refine lv_goto (tgt := 68) hx hb d_LogFs_isName_64 (by decide) ?_
          have hJ := Option.some.inj hJ
          exact W.zret (v := (1 : Int32)) (ty := .boolean) hx hb hr (by decide +kernel) (fun t ht hW => ⟨⟨_, (), rfl, hJ, kW_end hP hK ht hW rfl⟩, hS.F ht⟩) hS.2.2 d_LogFs_isName_68
  have blk2 : ∀ (n : Nat) (v0 : Int64) (v2 : Int32) (ls : Array Slot) (H : Heap) (locs : List Loc), J_LogFs_isName_2 n v0 v2 = some res → lv_has ls 4 [(0, .long v0), (2, .int v2)] → va_P (dC, dI) cls (wC ga cB cI σ) H → va_S A s.heap H locs → W p l e (headSpec (mw y_LogFs_isName b_LogFs_isName 4 (some .boolean)) rm_LogFs_isName).room s m [.long a1].toArray below meth c H locs 0 0 (MQ below (va_Qi (fun (x : Int32) (_ : Unit) => x = res) (fun _ t => kW (dC, dI) (tC cB cI) (wC ga cB cI σ) t) A) [.long a1].toArray s 0 0 A) (F0 m 2 ls []) := by
    intro n
    induction n with
    | zero => intro v0 v2 ls H locs hJ; exact j_none hJ
    | succ n hk =>
      intro v0 v2 ls H locs hJ hl hP hS
      have hJ : J_LogFs_isName_2_b (J_LogFs_isName_2 n) v0 v2 = some res := hJ
      unfold J_LogFs_isName_2_b at hJ
      refine lv_iload_n hx hb d_LogFs_isName_2 rfl (lv_at hl 1 rfl) ?_
      refine lv_bipush (v := (8 : Int32)) hx hb d_LogFs_isName_3 (by decide) ?_
      refine lv_icmp_ge (tgt := 42) hx hb d_LogFs_isName_5 (by decide) (fun h1 => ?_) (fun h1 => ?_)
      · have hJ := j_t hJ h1
        exact blk42 _ _ _ _ _ hJ (lv_sub hl [0, 1] rfl) hP hS
      · have hJ := j_f hJ h1
        refine lv_lload_n hx hb d_LogFs_isName_8 rfl (lv_at hl 0 rfl) ?_
        refine lv_iload_n hx hb d_LogFs_isName_9 rfl (lv_at hl 1 rfl) ?_
        obtain ⟨x5, e5, hJ⟩ := j_bind hJ
        refine va_calli (va_runS (As := [.long v0, .int v2]) (rest := []) ⟨hx, hb, hml, hown, htb⟩ (c_LogFs_byteOf (l := l) (dC := dC) (dI := dI) (σ := σ) hDa e5) (xcS 2 htb tw269 tw1 tw267 tw268 rfl rfl hd_LogFs_byteOf ⟨Nat.le_of_ble_eq_true rfl, Nat.le_of_ble_eq_true rfl⟩) (kW_S hP hK) rfl rfl hl.1 rfl (lv_room (Nat.le_of_ble_eq_true rfl)) d_LogFs_isName_10 ⟨Nat.le_of_ble_eq_true rfl, Nat.le_of_ble_eq_true rfl⟩) hS (fun q _ h => h) (fun q h => h) (fun r0 u t H locs ht hvm hw hB _ _ hS => ?_)
        subst r0
        have hP := kW_P hB ht
        refine lv_if_eq (tgt := 42) hx hb d_LogFs_isName_13 (by decide) (fun h6 => ?_) (fun h6 => ?_)
        · have hJ := j_t hJ h6
          exact blk42 _ _ _ _ _ hJ (lv_sub hl [0, 1] rfl) hP hS
        · have hJ := j_f hJ h6
          refine lv_lload_n hx hb d_LogFs_isName_16 rfl (lv_at hl 0 rfl) ?_
          refine lv_iload_n hx hb d_LogFs_isName_17 rfl (lv_at hl 1 rfl) ?_
          obtain ⟨x7, e7, hJ⟩ := j_bind hJ
          refine va_calli (va_runS (As := [.long v0, .int v2]) (rest := []) ⟨hx, hb, hml, hown, htb⟩ (c_LogFs_byteOf (l := l) (dC := dC) (dI := dI) (σ := σ) hDa e7) (xcS 2 htb tw269 tw1 tw267 tw268 rfl rfl hd_LogFs_byteOf ⟨Nat.le_of_ble_eq_true rfl, Nat.le_of_ble_eq_true rfl⟩) (kW_S hP hK) rfl rfl hl.1 rfl (lv_room (Nat.le_of_ble_eq_true rfl)) d_LogFs_isName_18 ⟨Nat.le_of_ble_eq_true rfl, Nat.le_of_ble_eq_true rfl⟩) hS (fun q _ h => h) (fun q h => h) (fun r0 u t H locs ht hvm hw hB _ _ hS => ?_)
          subst r0
          have hP := kW_P hB ht
          refine lv_istore_n hx hb d_LogFs_isName_21 rfl hl (Nat.le_of_ble_eq_true rfl) rfl (fun ls hl => ?_)
          have hl : lv_has ls 4 [(3, .int x7), (0, .long v0), (2, .int v2)] := hl
          refine lv_iload_n hx hb d_LogFs_isName_22 rfl (lv_at hl 0 rfl) ?_
          refine lv_bipush (v := (33 : Int32)) hx hb d_LogFs_isName_23 (by decide) ?_
          refine lv_icmp_lt (tgt := 34) hx hb d_LogFs_isName_25 (by decide) (fun h8 => ?_) (fun h8 => ?_)
          · have hJ := j_t hJ h8
            refine lv_iconst (v := (0 : Int32)) hx hb d_LogFs_isName_34 (by decide) ?_
            have hJ := Option.some.inj hJ
            exact W.zret (v := (0 : Int32)) (ty := .boolean) hx hb hr (by decide +kernel) (fun t ht hW => ⟨⟨_, (), rfl, hJ, kW_end hP hK ht hW rfl⟩, hS.F ht⟩) hS.2.2 d_LogFs_isName_35
          · have hJ := j_f hJ h8
            refine lv_iload_n hx hb d_LogFs_isName_28 rfl (lv_at hl 0 rfl) ?_
            refine lv_bipush (v := (126 : Int32)) hx hb d_LogFs_isName_29 (by decide) ?_
            refine lv_icmp_le (tgt := 36) hx hb d_LogFs_isName_31 (by decide) (fun h9 => ?_) (fun h9 => ?_)
            · have hJ := j_t hJ h9
              refine lv_iinc (k := 2) (v := (v2 + (1 : Int32))) hx hb d_LogFs_isName_36 hl rfl rfl (Nat.le_of_ble_eq_true rfl) rfl (fun ls hl => ?_)
              have hl : lv_has ls 4 [(2, .int (v2 + (1 : Int32))), (3, .int x7), (0, .long v0)] := hl
              refine lv_goto (tgt := 2) hx hb d_LogFs_isName_39 (by decide) ?_
              exact hk _ _ _ _ _ hJ (lv_sub hl [2, 0] rfl) hP hS
            · have hJ := j_f hJ h9
              refine lv_iconst (v := (0 : Int32)) hx hb d_LogFs_isName_34 (by decide) ?_
              have hJ := Option.some.inj hJ
              exact W.zret (v := (0 : Int32)) (ty := .boolean) hx hb hr (by decide +kernel) (fun t ht hW => ⟨⟨_, (), rfl, hJ, kW_end hP hK ht hW rfl⟩, hS.F ht⟩) hS.2.2 d_LogFs_isName_35
  unfold J_LogFs_isName at hJ
  refine lv_iconst (v := (0 : Int32)) hx hb d_LogFs_isName_0 (by decide) ?_
  refine lv_istore_n hx hb d_LogFs_isName_1 rfl hl (Nat.le_of_ble_eq_true rfl) rfl (fun ls hl => ?_)
  have hl : lv_has ls 4 [(2, .int (0 : Int32)), (0, .long a1)] := hl
  exact blk2 9000 _ _ _ _ _ hJ (lv_sub hl [1, 0] rfl) hP hS
def J_Integer_bitCount (a1 : Int32) : Option (Int32) :=
  some ((((((((a1 - ((a1.toUInt32 >>> ((1 : Int32).toUInt32 &&& Int32.toUInt32 31)).toInt32 &&& (1431655765 : Int32))) &&& (858993459 : Int32)) + (((a1 - ((a1.toUInt32 >>> ((1 : Int32).toUInt32 &&& Int32.toUInt32 31)).toInt32 &&& (1431655765 : Int32))).toUInt32 >>> ((2 : Int32).toUInt32 &&& Int32.toUInt32 31)).toInt32 &&& (858993459 : Int32))) + ((((a1 - ((a1.toUInt32 >>> ((1 : Int32).toUInt32 &&& Int32.toUInt32 31)).toInt32 &&& (1431655765 : Int32))) &&& (858993459 : Int32)) + (((a1 - ((a1.toUInt32 >>> ((1 : Int32).toUInt32 &&& Int32.toUInt32 31)).toInt32 &&& (1431655765 : Int32))).toUInt32 >>> ((2 : Int32).toUInt32 &&& Int32.toUInt32 31)).toInt32 &&& (858993459 : Int32))).toUInt32 >>> ((4 : Int32).toUInt32 &&& Int32.toUInt32 31)).toInt32) &&& (252645135 : Int32)) + ((((((a1 - ((a1.toUInt32 >>> ((1 : Int32).toUInt32 &&& Int32.toUInt32 31)).toInt32 &&& (1431655765 : Int32))) &&& (858993459 : Int32)) + (((a1 - ((a1.toUInt32 >>> ((1 : Int32).toUInt32 &&& Int32.toUInt32 31)).toInt32 &&& (1431655765 : Int32))).toUInt32 >>> ((2 : Int32).toUInt32 &&& Int32.toUInt32 31)).toInt32 &&& (858993459 : Int32))) + ((((a1 - ((a1.toUInt32 >>> ((1 : Int32).toUInt32 &&& Int32.toUInt32 31)).toInt32 &&& (1431655765 : Int32))) &&& (858993459 : Int32)) + (((a1 - ((a1.toUInt32 >>> ((1 : Int32).toUInt32 &&& Int32.toUInt32 31)).toInt32 &&& (1431655765 : Int32))).toUInt32 >>> ((2 : Int32).toUInt32 &&& Int32.toUInt32 31)).toInt32 &&& (858993459 : Int32))).toUInt32 >>> ((4 : Int32).toUInt32 &&& Int32.toUInt32 31)).toInt32) &&& (252645135 : Int32)).toUInt32 >>> ((8 : Int32).toUInt32 &&& Int32.toUInt32 31)).toInt32) + (((((((a1 - ((a1.toUInt32 >>> ((1 : Int32).toUInt32 &&& Int32.toUInt32 31)).toInt32 &&& (1431655765 : Int32))) &&& (858993459 : Int32)) + (((a1 - ((a1.toUInt32 >>> ((1 : Int32).toUInt32 &&& Int32.toUInt32 31)).toInt32 &&& (1431655765 : Int32))).toUInt32 >>> ((2 : Int32).toUInt32 &&& Int32.toUInt32 31)).toInt32 &&& (858993459 : Int32))) + ((((a1 - ((a1.toUInt32 >>> ((1 : Int32).toUInt32 &&& Int32.toUInt32 31)).toInt32 &&& (1431655765 : Int32))) &&& (858993459 : Int32)) + (((a1 - ((a1.toUInt32 >>> ((1 : Int32).toUInt32 &&& Int32.toUInt32 31)).toInt32 &&& (1431655765 : Int32))).toUInt32 >>> ((2 : Int32).toUInt32 &&& Int32.toUInt32 31)).toInt32 &&& (858993459 : Int32))).toUInt32 >>> ((4 : Int32).toUInt32 &&& Int32.toUInt32 31)).toInt32) &&& (252645135 : Int32)) + ((((((a1 - ((a1.toUInt32 >>> ((1 : Int32).toUInt32 &&& Int32.toUInt32 31)).toInt32 &&& (1431655765 : Int32))) &&& (858993459 : Int32)) + (((a1 - ((a1.toUInt32 >>> ((1 : Int32).toUInt32 &&& Int32.toUInt32 31)).toInt32 &&& (1431655765 : Int32))).toUInt32 >>> ((2 : Int32).toUInt32 &&& Int32.toUInt32 31)).toInt32 &&& (858993459 : Int32))) + ((((a1 - ((a1.toUInt32 >>> ((1 : Int32).toUInt32 &&& Int32.toUInt32 31)).toInt32 &&& (1431655765 : Int32))) &&& (858993459 : Int32)) + (((a1 - ((a1.toUInt32 >>> ((1 : Int32).toUInt32 &&& Int32.toUInt32 31)).toInt32 &&& (1431655765 : Int32))).toUInt32 >>> ((2 : Int32).toUInt32 &&& Int32.toUInt32 31)).toInt32 &&& (858993459 : Int32))).toUInt32 >>> ((4 : Int32).toUInt32 &&& Int32.toUInt32 31)).toInt32) &&& (252645135 : Int32)).toUInt32 >>> ((8 : Int32).toUInt32 &&& Int32.toUInt32 31)).toInt32).toUInt32 >>> ((16 : Int32).toUInt32 &&& Int32.toUInt32 31)).toInt32) &&& (63 : Int32))
abbrev rm_Integer_bitCount : Room := { frames := 0, cells := 0, slots := 0, locals := 0 }
set_option maxHeartbeats 4000000 in
set_option maxRecDepth 100000 in
theorem c_Integer_bitCount {l : Launch} {dC : Nat → ClassId} {dI : Nat → Nat → Nat} {ga : Nat → Nat} {cB cI : ClassId} {A : Nat → Prop} (hDa : ∀ σ, va_D A (wC ga cB cI σ)) {σ : CS} {a1 : Int32} {res : Int32} (hJ : J_Integer_bitCount a1 = some res) :
    Met l y_Integer_bitCount (mw y_Integer_bitCount b_Integer_bitCount 1 (some .int)) rm_Integer_bitCount (va_Pc [.int a1] (kW (dC, dI) (tC cB cI) (wC ga cB cI σ))) (va_Qi (fun (x : Int32) (_ : Unit) => x = res) (fun _ t => kW (dC, dI) (tC cB cI) (wC ga cB cI σ) t) A) 0 0 A := by
  refine Met.ofW (cc := b_Integer_bitCount) (maxL := 1) (ret := (some .int)) (by decide) rfl ?_
  intro p e s m args below meth c s₁ B hml hv
  obtain ⟨rfl, hP, hK⟩ := hv
  have hx := B.exec
  have hb := B.bytes
  have hr := B.returns
  have hts := atoms_spec (ws := (mw y_Integer_bitCount b_Integer_bitCount 1 (some .int))) B.pre
  have htb : ∀ w ∈ tb, w.before [.int a1].toArray s = true := fun w h => hts w (mwIn h)
  have hown : s.vm.findClass "java/lang/Integer" = some m.cls := findClass_of_methodNamed B.named
  have hlocks := B.notSynchronized
  have hS : va_S A s.heap s.heap [] := va_S.rf
  have hl := lv_entry ([.int a1]) (n := 1) (Nat.le_of_ble_eq_true rfl)
  rw [lg_entry_eq]
  generalize (lg_sl ([.int a1]) ++ List.replicate (1 - (lg_sl ([.int a1])).length) Slot.unset).toArray = ls at hl ⊢
  have hl : lv_has ls 1 [(0, .int a1)] := hl
  unfold J_Integer_bitCount at hJ
  refine lv_iload_n hx hb d_Integer_bitCount_0 rfl (lv_at hl 0 rfl) ?_
  refine lv_iload_n hx hb d_Integer_bitCount_1 rfl (lv_at hl 0 rfl) ?_
  refine lv_iconst (v := (1 : Int32)) hx hb d_Integer_bitCount_2 (by decide) ?_
  refine lv_iushr hx hb d_Integer_bitCount_3 rfl ?_
  refine lv_ldcw (v := (1431655765 : Int32)) hx hb hown (htb _ tw150) d_Integer_bitCount_4 ?_
  refine lv_iand hx hb d_Integer_bitCount_7 ?_
  refine lv_isub hx hb d_Integer_bitCount_8 ?_
  refine lv_istore_n hx hb d_Integer_bitCount_9 rfl hl (Nat.le_of_ble_eq_true rfl) rfl (fun ls hl => ?_)
  have hl : lv_has ls 1 [(0, .int (a1 - ((a1.toUInt32 >>> ((1 : Int32).toUInt32 &&& Int32.toUInt32 31)).toInt32 &&& (1431655765 : Int32))))] := hl
  refine lv_iload_n hx hb d_Integer_bitCount_10 rfl (lv_at hl 0 rfl) ?_
  refine lv_ldcw (v := (858993459 : Int32)) hx hb hown (htb _ tw151) d_Integer_bitCount_11 ?_
  refine lv_iand hx hb d_Integer_bitCount_14 ?_
  refine lv_iload_n hx hb d_Integer_bitCount_15 rfl (lv_at hl 0 rfl) ?_
  refine lv_iconst (v := (2 : Int32)) hx hb d_Integer_bitCount_16 (by decide) ?_
  refine lv_iushr hx hb d_Integer_bitCount_17 rfl ?_
  refine lv_ldcw (v := (858993459 : Int32)) hx hb hown (htb _ tw151) d_Integer_bitCount_18 ?_
  refine lv_iand hx hb d_Integer_bitCount_21 ?_
  refine lv_iadd hx hb d_Integer_bitCount_22 ?_
  refine lv_istore_n hx hb d_Integer_bitCount_23 rfl hl (Nat.le_of_ble_eq_true rfl) rfl (fun ls hl => ?_)
  have hl : lv_has ls 1 [(0, .int (((a1 - ((a1.toUInt32 >>> ((1 : Int32).toUInt32 &&& Int32.toUInt32 31)).toInt32 &&& (1431655765 : Int32))) &&& (858993459 : Int32)) + (((a1 - ((a1.toUInt32 >>> ((1 : Int32).toUInt32 &&& Int32.toUInt32 31)).toInt32 &&& (1431655765 : Int32))).toUInt32 >>> ((2 : Int32).toUInt32 &&& Int32.toUInt32 31)).toInt32 &&& (858993459 : Int32))))] := hl
  refine lv_iload_n hx hb d_Integer_bitCount_24 rfl (lv_at hl 0 rfl) ?_
  refine lv_iload_n hx hb d_Integer_bitCount_25 rfl (lv_at hl 0 rfl) ?_
  refine lv_iconst (v := (4 : Int32)) hx hb d_Integer_bitCount_26 (by decide) ?_
  refine lv_iushr hx hb d_Integer_bitCount_27 rfl ?_
  refine lv_iadd hx hb d_Integer_bitCount_28 ?_
  refine lv_ldcw (v := (252645135 : Int32)) hx hb hown (htb _ tw152) d_Integer_bitCount_29 ?_
  refine lv_iand hx hb d_Integer_bitCount_32 ?_
  refine lv_istore_n hx hb d_Integer_bitCount_33 rfl hl (Nat.le_of_ble_eq_true rfl) rfl (fun ls hl => ?_)
  have hl : lv_has ls 1 [(0, .int (((((a1 - ((a1.toUInt32 >>> ((1 : Int32).toUInt32 &&& Int32.toUInt32 31)).toInt32 &&& (1431655765 : Int32))) &&& (858993459 : Int32)) + (((a1 - ((a1.toUInt32 >>> ((1 : Int32).toUInt32 &&& Int32.toUInt32 31)).toInt32 &&& (1431655765 : Int32))).toUInt32 >>> ((2 : Int32).toUInt32 &&& Int32.toUInt32 31)).toInt32 &&& (858993459 : Int32))) + ((((a1 - ((a1.toUInt32 >>> ((1 : Int32).toUInt32 &&& Int32.toUInt32 31)).toInt32 &&& (1431655765 : Int32))) &&& (858993459 : Int32)) + (((a1 - ((a1.toUInt32 >>> ((1 : Int32).toUInt32 &&& Int32.toUInt32 31)).toInt32 &&& (1431655765 : Int32))).toUInt32 >>> ((2 : Int32).toUInt32 &&& Int32.toUInt32 31)).toInt32 &&& (858993459 : Int32))).toUInt32 >>> ((4 : Int32).toUInt32 &&& Int32.toUInt32 31)).toInt32) &&& (252645135 : Int32)))] := hl
  refine lv_iload_n hx hb d_Integer_bitCount_34 rfl (lv_at hl 0 rfl) ?_
  refine lv_iload_n hx hb d_Integer_bitCount_35 rfl (lv_at hl 0 rfl) ?_
  refine lv_bipush (v := (8 : Int32)) hx hb d_Integer_bitCount_36 (by decide) ?_
  refine lv_iushr hx hb d_Integer_bitCount_38 rfl ?_
  refine lv_iadd hx hb d_Integer_bitCount_39 ?_
  refine lv_istore_n hx hb d_Integer_bitCount_40 rfl hl (Nat.le_of_ble_eq_true rfl) rfl (fun ls hl => ?_)
  have hl : lv_has ls 1 [(0, .int ((((((a1 - ((a1.toUInt32 >>> ((1 : Int32).toUInt32 &&& Int32.toUInt32 31)).toInt32 &&& (1431655765 : Int32))) &&& (858993459 : Int32)) + (((a1 - ((a1.toUInt32 >>> ((1 : Int32).toUInt32 &&& Int32.toUInt32 31)).toInt32 &&& (1431655765 : Int32))).toUInt32 >>> ((2 : Int32).toUInt32 &&& Int32.toUInt32 31)).toInt32 &&& (858993459 : Int32))) + ((((a1 - ((a1.toUInt32 >>> ((1 : Int32).toUInt32 &&& Int32.toUInt32 31)).toInt32 &&& (1431655765 : Int32))) &&& (858993459 : Int32)) + (((a1 - ((a1.toUInt32 >>> ((1 : Int32).toUInt32 &&& Int32.toUInt32 31)).toInt32 &&& (1431655765 : Int32))).toUInt32 >>> ((2 : Int32).toUInt32 &&& Int32.toUInt32 31)).toInt32 &&& (858993459 : Int32))).toUInt32 >>> ((4 : Int32).toUInt32 &&& Int32.toUInt32 31)).toInt32) &&& (252645135 : Int32)) + ((((((a1 - ((a1.toUInt32 >>> ((1 : Int32).toUInt32 &&& Int32.toUInt32 31)).toInt32 &&& (1431655765 : Int32))) &&& (858993459 : Int32)) + (((a1 - ((a1.toUInt32 >>> ((1 : Int32).toUInt32 &&& Int32.toUInt32 31)).toInt32 &&& (1431655765 : Int32))).toUInt32 >>> ((2 : Int32).toUInt32 &&& Int32.toUInt32 31)).toInt32 &&& (858993459 : Int32))) + ((((a1 - ((a1.toUInt32 >>> ((1 : Int32).toUInt32 &&& Int32.toUInt32 31)).toInt32 &&& (1431655765 : Int32))) &&& (858993459 : Int32)) + (((a1 - ((a1.toUInt32 >>> ((1 : Int32).toUInt32 &&& Int32.toUInt32 31)).toInt32 &&& (1431655765 : Int32))).toUInt32 >>> ((2 : Int32).toUInt32 &&& Int32.toUInt32 31)).toInt32 &&& (858993459 : Int32))).toUInt32 >>> ((4 : Int32).toUInt32 &&& Int32.toUInt32 31)).toInt32) &&& (252645135 : Int32)).toUInt32 >>> ((8 : Int32).toUInt32 &&& Int32.toUInt32 31)).toInt32))] := hl
  refine lv_iload_n hx hb d_Integer_bitCount_41 rfl (lv_at hl 0 rfl) ?_
  refine lv_iload_n hx hb d_Integer_bitCount_42 rfl (lv_at hl 0 rfl) ?_
  refine lv_bipush (v := (16 : Int32)) hx hb d_Integer_bitCount_43 (by decide) ?_
  refine lv_iushr hx hb d_Integer_bitCount_45 rfl ?_
  refine lv_iadd hx hb d_Integer_bitCount_46 ?_
  refine lv_istore_n hx hb d_Integer_bitCount_47 rfl hl (Nat.le_of_ble_eq_true rfl) rfl (fun ls hl => ?_)
  have hl : lv_has ls 1 [(0, .int (((((((a1 - ((a1.toUInt32 >>> ((1 : Int32).toUInt32 &&& Int32.toUInt32 31)).toInt32 &&& (1431655765 : Int32))) &&& (858993459 : Int32)) + (((a1 - ((a1.toUInt32 >>> ((1 : Int32).toUInt32 &&& Int32.toUInt32 31)).toInt32 &&& (1431655765 : Int32))).toUInt32 >>> ((2 : Int32).toUInt32 &&& Int32.toUInt32 31)).toInt32 &&& (858993459 : Int32))) + ((((a1 - ((a1.toUInt32 >>> ((1 : Int32).toUInt32 &&& Int32.toUInt32 31)).toInt32 &&& (1431655765 : Int32))) &&& (858993459 : Int32)) + (((a1 - ((a1.toUInt32 >>> ((1 : Int32).toUInt32 &&& Int32.toUInt32 31)).toInt32 &&& (1431655765 : Int32))).toUInt32 >>> ((2 : Int32).toUInt32 &&& Int32.toUInt32 31)).toInt32 &&& (858993459 : Int32))).toUInt32 >>> ((4 : Int32).toUInt32 &&& Int32.toUInt32 31)).toInt32) &&& (252645135 : Int32)) + ((((((a1 - ((a1.toUInt32 >>> ((1 : Int32).toUInt32 &&& Int32.toUInt32 31)).toInt32 &&& (1431655765 : Int32))) &&& (858993459 : Int32)) + (((a1 - ((a1.toUInt32 >>> ((1 : Int32).toUInt32 &&& Int32.toUInt32 31)).toInt32 &&& (1431655765 : Int32))).toUInt32 >>> ((2 : Int32).toUInt32 &&& Int32.toUInt32 31)).toInt32 &&& (858993459 : Int32))) + ((((a1 - ((a1.toUInt32 >>> ((1 : Int32).toUInt32 &&& Int32.toUInt32 31)).toInt32 &&& (1431655765 : Int32))) &&& (858993459 : Int32)) + (((a1 - ((a1.toUInt32 >>> ((1 : Int32).toUInt32 &&& Int32.toUInt32 31)).toInt32 &&& (1431655765 : Int32))).toUInt32 >>> ((2 : Int32).toUInt32 &&& Int32.toUInt32 31)).toInt32 &&& (858993459 : Int32))).toUInt32 >>> ((4 : Int32).toUInt32 &&& Int32.toUInt32 31)).toInt32) &&& (252645135 : Int32)).toUInt32 >>> ((8 : Int32).toUInt32 &&& Int32.toUInt32 31)).toInt32) + (((((((a1 - ((a1.toUInt32 >>> ((1 : Int32).toUInt32 &&& Int32.toUInt32 31)).toInt32 &&& (1431655765 : Int32))) &&& (858993459 : Int32)) + (((a1 - ((a1.toUInt32 >>> ((1 : Int32).toUInt32 &&& Int32.toUInt32 31)).toInt32 &&& (1431655765 : Int32))).toUInt32 >>> ((2 : Int32).toUInt32 &&& Int32.toUInt32 31)).toInt32 &&& (858993459 : Int32))) + ((((a1 - ((a1.toUInt32 >>> ((1 : Int32).toUInt32 &&& Int32.toUInt32 31)).toInt32 &&& (1431655765 : Int32))) &&& (858993459 : Int32)) + (((a1 - ((a1.toUInt32 >>> ((1 : Int32).toUInt32 &&& Int32.toUInt32 31)).toInt32 &&& (1431655765 : Int32))).toUInt32 >>> ((2 : Int32).toUInt32 &&& Int32.toUInt32 31)).toInt32 &&& (858993459 : Int32))).toUInt32 >>> ((4 : Int32).toUInt32 &&& Int32.toUInt32 31)).toInt32) &&& (252645135 : Int32)) + ((((((a1 - ((a1.toUInt32 >>> ((1 : Int32).toUInt32 &&& Int32.toUInt32 31)).toInt32 &&& (1431655765 : Int32))) &&& (858993459 : Int32)) + (((a1 - ((a1.toUInt32 >>> ((1 : Int32).toUInt32 &&& Int32.toUInt32 31)).toInt32 &&& (1431655765 : Int32))).toUInt32 >>> ((2 : Int32).toUInt32 &&& Int32.toUInt32 31)).toInt32 &&& (858993459 : Int32))) + ((((a1 - ((a1.toUInt32 >>> ((1 : Int32).toUInt32 &&& Int32.toUInt32 31)).toInt32 &&& (1431655765 : Int32))) &&& (858993459 : Int32)) + (((a1 - ((a1.toUInt32 >>> ((1 : Int32).toUInt32 &&& Int32.toUInt32 31)).toInt32 &&& (1431655765 : Int32))).toUInt32 >>> ((2 : Int32).toUInt32 &&& Int32.toUInt32 31)).toInt32 &&& (858993459 : Int32))).toUInt32 >>> ((4 : Int32).toUInt32 &&& Int32.toUInt32 31)).toInt32) &&& (252645135 : Int32)).toUInt32 >>> ((8 : Int32).toUInt32 &&& Int32.toUInt32 31)).toInt32).toUInt32 >>> ((16 : Int32).toUInt32 &&& Int32.toUInt32 31)).toInt32))] := hl
  refine lv_iload_n hx hb d_Integer_bitCount_48 rfl (lv_at hl 0 rfl) ?_
  refine lv_bipush (v := (63 : Int32)) hx hb d_Integer_bitCount_49 (by decide) ?_
  refine lv_iand hx hb d_Integer_bitCount_51 ?_
  have hJ := Option.some.inj hJ
  exact W.iret (v := ((((((((a1 - ((a1.toUInt32 >>> ((1 : Int32).toUInt32 &&& Int32.toUInt32 31)).toInt32 &&& (1431655765 : Int32))) &&& (858993459 : Int32)) + (((a1 - ((a1.toUInt32 >>> ((1 : Int32).toUInt32 &&& Int32.toUInt32 31)).toInt32 &&& (1431655765 : Int32))).toUInt32 >>> ((2 : Int32).toUInt32 &&& Int32.toUInt32 31)).toInt32 &&& (858993459 : Int32))) + ((((a1 - ((a1.toUInt32 >>> ((1 : Int32).toUInt32 &&& Int32.toUInt32 31)).toInt32 &&& (1431655765 : Int32))) &&& (858993459 : Int32)) + (((a1 - ((a1.toUInt32 >>> ((1 : Int32).toUInt32 &&& Int32.toUInt32 31)).toInt32 &&& (1431655765 : Int32))).toUInt32 >>> ((2 : Int32).toUInt32 &&& Int32.toUInt32 31)).toInt32 &&& (858993459 : Int32))).toUInt32 >>> ((4 : Int32).toUInt32 &&& Int32.toUInt32 31)).toInt32) &&& (252645135 : Int32)) + ((((((a1 - ((a1.toUInt32 >>> ((1 : Int32).toUInt32 &&& Int32.toUInt32 31)).toInt32 &&& (1431655765 : Int32))) &&& (858993459 : Int32)) + (((a1 - ((a1.toUInt32 >>> ((1 : Int32).toUInt32 &&& Int32.toUInt32 31)).toInt32 &&& (1431655765 : Int32))).toUInt32 >>> ((2 : Int32).toUInt32 &&& Int32.toUInt32 31)).toInt32 &&& (858993459 : Int32))) + ((((a1 - ((a1.toUInt32 >>> ((1 : Int32).toUInt32 &&& Int32.toUInt32 31)).toInt32 &&& (1431655765 : Int32))) &&& (858993459 : Int32)) + (((a1 - ((a1.toUInt32 >>> ((1 : Int32).toUInt32 &&& Int32.toUInt32 31)).toInt32 &&& (1431655765 : Int32))).toUInt32 >>> ((2 : Int32).toUInt32 &&& Int32.toUInt32 31)).toInt32 &&& (858993459 : Int32))).toUInt32 >>> ((4 : Int32).toUInt32 &&& Int32.toUInt32 31)).toInt32) &&& (252645135 : Int32)).toUInt32 >>> ((8 : Int32).toUInt32 &&& Int32.toUInt32 31)).toInt32) + (((((((a1 - ((a1.toUInt32 >>> ((1 : Int32).toUInt32 &&& Int32.toUInt32 31)).toInt32 &&& (1431655765 : Int32))) &&& (858993459 : Int32)) + (((a1 - ((a1.toUInt32 >>> ((1 : Int32).toUInt32 &&& Int32.toUInt32 31)).toInt32 &&& (1431655765 : Int32))).toUInt32 >>> ((2 : Int32).toUInt32 &&& Int32.toUInt32 31)).toInt32 &&& (858993459 : Int32))) + ((((a1 - ((a1.toUInt32 >>> ((1 : Int32).toUInt32 &&& Int32.toUInt32 31)).toInt32 &&& (1431655765 : Int32))) &&& (858993459 : Int32)) + (((a1 - ((a1.toUInt32 >>> ((1 : Int32).toUInt32 &&& Int32.toUInt32 31)).toInt32 &&& (1431655765 : Int32))).toUInt32 >>> ((2 : Int32).toUInt32 &&& Int32.toUInt32 31)).toInt32 &&& (858993459 : Int32))).toUInt32 >>> ((4 : Int32).toUInt32 &&& Int32.toUInt32 31)).toInt32) &&& (252645135 : Int32)) + ((((((a1 - ((a1.toUInt32 >>> ((1 : Int32).toUInt32 &&& Int32.toUInt32 31)).toInt32 &&& (1431655765 : Int32))) &&& (858993459 : Int32)) + (((a1 - ((a1.toUInt32 >>> ((1 : Int32).toUInt32 &&& Int32.toUInt32 31)).toInt32 &&& (1431655765 : Int32))).toUInt32 >>> ((2 : Int32).toUInt32 &&& Int32.toUInt32 31)).toInt32 &&& (858993459 : Int32))) + ((((a1 - ((a1.toUInt32 >>> ((1 : Int32).toUInt32 &&& Int32.toUInt32 31)).toInt32 &&& (1431655765 : Int32))) &&& (858993459 : Int32)) + (((a1 - ((a1.toUInt32 >>> ((1 : Int32).toUInt32 &&& Int32.toUInt32 31)).toInt32 &&& (1431655765 : Int32))).toUInt32 >>> ((2 : Int32).toUInt32 &&& Int32.toUInt32 31)).toInt32 &&& (858993459 : Int32))).toUInt32 >>> ((4 : Int32).toUInt32 &&& Int32.toUInt32 31)).toInt32) &&& (252645135 : Int32)).toUInt32 >>> ((8 : Int32).toUInt32 &&& Int32.toUInt32 31)).toInt32).toUInt32 >>> ((16 : Int32).toUInt32 &&& Int32.toUInt32 31)).toInt32) &&& (63 : Int32))) hx hb hr (fun t ht hW => ⟨⟨_, (), rfl, hJ, kW_end hP hK ht hW rfl⟩, hS.F ht⟩) hS.2.2 d_Integer_bitCount_52
def J_Volume_inodeByte (σ : CS) (a1 : Int32) (a2 : Int32) : Option (Int32) :=
  (J_LogFs_isInode a1).bind fun x1 => (if x1 = (0 : Int32) then some (0 : Int32) else (J_Blocks_get_m σ ((17 : Int32) + (a1 / (4 : Int32))) (((a1 - a1 / (4 : Int32) * (4 : Int32)) * (16 : Int32)) + a2)).bind fun x3 => some x3)
abbrev rm_Volume_inodeByte : Room := { frames := 1, cells := 0, slots := 0, locals := 22 }
set_option maxHeartbeats 4000000 in
set_option maxRecDepth 100000 in
theorem c_Volume_inodeByte {l : Launch} {dC : Nat → ClassId} {dI : Nat → Nat → Nat} {ga : Nat → Nat} {cB cI : ClassId} {A : Nat → Prop} (hDa : ∀ σ, va_D A (wC ga cB cI σ)) {σ : CS} {a1 : Int32} {a2 : Int32} {res : Int32} (hJ : J_Volume_inodeByte σ a1 a2 = some res) :
    Met l y_Volume_inodeByte (mw y_Volume_inodeByte b_Volume_inodeByte 3 (some .int)) rm_Volume_inodeByte (va_Pc [.ref (ga 3), .int a1, .int a2] (kW (dC, dI) (tC cB cI) (wC ga cB cI σ))) (va_Qi (fun (x : Int32) (_ : Unit) => x = res) (fun _ t => kW (dC, dI) (tC cB cI) (wC ga cB cI σ) t) A) 0 0 A := by
  refine Met.ofW (cc := b_Volume_inodeByte) (maxL := 3) (ret := (some .int)) (by decide) rfl ?_
  intro p e s m args below meth c s₁ B hml hv
  obtain ⟨rfl, hP, hK⟩ := hv
  have hx := B.exec
  have hb := B.bytes
  have hr := B.returns
  have hts := atoms_spec (ws := (mw y_Volume_inodeByte b_Volume_inodeByte 3 (some .int))) B.pre
  have htb : ∀ w ∈ tb, w.before [.ref (ga 3), .int a1, .int a2].toArray s = true := fun w h => hts w (mwIn h)
  have hown : s.vm.findClass "LogFs$Volume" = some m.cls := findClass_of_methodNamed B.named
  have hlocks := B.notSynchronized
  have hS : va_S A s.heap s.heap [] := va_S.rf
  have hl := lv_entry ([.ref (ga 3), .int a1, .int a2]) (n := 3) (Nat.le_of_ble_eq_true rfl)
  rw [lg_entry_eq]
  generalize (lg_sl ([.ref (ga 3), .int a1, .int a2]) ++ List.replicate (3 - (lg_sl ([.ref (ga 3), .int a1, .int a2])).length) Slot.unset).toArray = ls at hl ⊢
  have hl : lv_has ls 3 [(0, .ref (ga 3)), (1, .int a1), (2, .int a2)] := hl
  unfold J_Volume_inodeByte at hJ
  refine lv_iload_n hx hb d_Volume_inodeByte_0 rfl (lv_at hl 1 rfl) ?_
  obtain ⟨x1, e1, hJ⟩ := j_bind hJ
  refine va_calli (va_runSN (As := [.int a1]) (rest := []) ⟨hx, hb, hml, hown, htb⟩ (c_LogFs_isInode (l := l) (dC := dC) (dI := dI) (σ := σ) hDa e1) (xcSN 1 htb tw167 tw1 tw165 tw166 rfl rfl hd_LogFs_isInode ⟨Nat.le_of_ble_eq_true rfl, Nat.le_of_ble_eq_true rfl⟩) (kW_S hP hK) rfl rfl hl.1 rfl (lv_room (Nat.le_of_ble_eq_true rfl)) d_Volume_inodeByte_1 ⟨Nat.le_of_ble_eq_true rfl, Nat.le_of_ble_eq_true rfl⟩) hS (fun q _ h => h) (fun q h => h) (fun r0 u t H locs ht hvm hw hB _ _ hS => ?_)
  subst r0
  have hP := kW_P hB ht
  refine lv_if_ne (tgt := 9) hx hb d_Volume_inodeByte_4 (by decide) (fun h2 => ?_) (fun h2 => ?_)
  · have hJ := j_f hJ h2
    refine lv_aload_n hx hb d_Volume_inodeByte_9 rfl (lv_at hl 0 rfl) ?_
    refine va_get (D := (dC, dI)) (ci := 3) (v := .ref (ga 5)) (C := R_Volume) (T := T_Volume) (N := 2) hx hb htb uin_Volume hown hK hP 3 rfl rfl 1 (by decide) (htb _ tw96) (fun _ h9 => h9) rfl d_Volume_inodeByte_10 ?_
    refine lv_bipush (v := (17 : Int32)) hx hb d_Volume_inodeByte_13 (by decide) ?_
    refine lv_iload_n hx hb d_Volume_inodeByte_15 rfl (lv_at hl 1 rfl) ?_
    refine lv_iconst (v := (4 : Int32)) hx hb d_Volume_inodeByte_16 (by decide) ?_
    refine lv_idiv hx hb d_Volume_inodeByte_17 (by decide) ?_
    refine lv_iadd hx hb d_Volume_inodeByte_18 ?_
    refine lv_iload_n hx hb d_Volume_inodeByte_19 rfl (lv_at hl 1 rfl) ?_
    refine lv_iconst (v := (4 : Int32)) hx hb d_Volume_inodeByte_20 (by decide) ?_
    refine lv_irem hx hb d_Volume_inodeByte_21 (by decide) ?_
    refine lv_bipush (v := (16 : Int32)) hx hb d_Volume_inodeByte_22 (by decide) ?_
    refine lv_imul hx hb d_Volume_inodeByte_24 ?_
    refine lv_iload_n hx hb d_Volume_inodeByte_25 rfl (lv_at hl 2 rfl) ?_
    refine lv_iadd hx hb d_Volume_inodeByte_26 ?_
    obtain ⟨x3, e3, hJ⟩ := j_bind hJ
    refine va_calli (va_runV (As := [.int ((17 : Int32) + (a1 / (4 : Int32))), .int (((a1 - a1 / (4 : Int32) * (4 : Int32)) * (16 : Int32)) + a2)]) (rest := []) ⟨hx, hb, hml, hown, htb⟩ (c_Blocks_get_m (l := l) (dC := dC) (dI := dI) hDa e3) (xcV 2 htb tw47 tw3 tw146 tw45 tw46 rfl rfl hd_Blocks_get ⟨Nat.le_of_ble_eq_true rfl, Nat.le_of_ble_eq_true rfl⟩) (kW_V hP hK (va_recv (q0 := 5) (ci := 0) hK hP rfl rfl)) rfl rfl hl.1 rfl (lv_room (Nat.le_of_ble_eq_true rfl)) d_Volume_inodeByte_27 ⟨Nat.le_of_ble_eq_true rfl, Nat.le_of_ble_eq_true rfl⟩) hS (fun q _ h => h) (fun q h => h) (fun r0 u t H locs ht hvm hw hB _ _ hS => ?_)
    subst r0
    have hP := kW_P hB ht
    have hJ := Option.some.inj hJ
    exact W.iret (v := x3) hx hb hr (fun t ht hW => ⟨⟨_, (), rfl, hJ, kW_end hP hK ht hW rfl⟩, hS.F ht⟩) hS.2.2 d_Volume_inodeByte_30
  · have hJ := j_t hJ h2
    refine lv_iconst (v := (0 : Int32)) hx hb d_Volume_inodeByte_7 (by decide) ?_
    have hJ := Option.some.inj hJ
    exact W.iret (v := (0 : Int32)) hx hb hr (fun t ht hW => ⟨⟨_, (), rfl, hJ, kW_end hP hK ht hW rfl⟩, hS.F ht⟩) hS.2.2 d_Volume_inodeByte_8
def J_Volume_setInodeByte (σ : CS) (a1 : Int32) (a2 : Int32) (a3 : Int32) : Option (CS) :=
  (J_LogFs_isInode a1).bind fun x1 => (if x1 = (0 : Int32) then some σ else (J_Memory_change σ ((17 : Int32) + (a1 / (4 : Int32))) (((a1 - a1 / (4 : Int32) * (4 : Int32)) * (16 : Int32)) + a2) a3).bind fun x3 => some x3)
abbrev rm_Volume_setInodeByte : Room := { frames := 2, cells := 0, slots := 0, locals := 46 }
set_option maxHeartbeats 4000000 in
set_option maxRecDepth 100000 in
theorem c_Volume_setInodeByte {l : Launch} {dC : Nat → ClassId} {dI : Nat → Nat → Nat} {ga : Nat → Nat} {cB cI : ClassId} {A : Nat → Prop} (hDa : ∀ σ, va_D A (wC ga cB cI σ)) {σ : CS} {a1 : Int32} {a2 : Int32} {a3 : Int32} {res : CS} (hJ : J_Volume_setInodeByte σ a1 a2 a3 = some res) :
    Met l y_Volume_setInodeByte (mw y_Volume_setInodeByte b_Volume_setInodeByte 4 none) rm_Volume_setInodeByte (va_Pc [.ref (ga 3), .int a1, .int a2, .int a3] (kW (dC, dI) (tC cB cI) (wC ga cB cI σ))) (va_Qv (fun (_ : Unit) => True) (fun _ t => kW (dC, dI) (tC cB cI) (wC ga cB cI res) t) A) 0 0 A := by
  refine Met.ofW (cc := b_Volume_setInodeByte) (maxL := 4) (ret := none) (by decide) rfl ?_
  intro p e s m args below meth c s₁ B hml hv
  obtain ⟨rfl, hP, hK⟩ := hv
  have hx := B.exec
  have hb := B.bytes
  have hr := B.returns
  have hts := atoms_spec (ws := (mw y_Volume_setInodeByte b_Volume_setInodeByte 4 none)) B.pre
  have htb : ∀ w ∈ tb, w.before [.ref (ga 3), .int a1, .int a2, .int a3].toArray s = true := fun w h => hts w (mwIn h)
  have hown : s.vm.findClass "LogFs$Volume" = some m.cls := findClass_of_methodNamed B.named
  have hlocks := B.notSynchronized
  have hS : va_S A s.heap s.heap [] := va_S.rf
  have hl := lv_entry ([.ref (ga 3), .int a1, .int a2, .int a3]) (n := 4) (Nat.le_of_ble_eq_true rfl)
  rw [lg_entry_eq]
  generalize (lg_sl ([.ref (ga 3), .int a1, .int a2, .int a3]) ++ List.replicate (4 - (lg_sl ([.ref (ga 3), .int a1, .int a2, .int a3])).length) Slot.unset).toArray = ls at hl ⊢
  have hl : lv_has ls 4 [(0, .ref (ga 3)), (1, .int a1), (2, .int a2), (3, .int a3)] := hl
  unfold J_Volume_setInodeByte at hJ
  refine lv_iload_n hx hb d_Volume_setInodeByte_0 rfl (lv_at hl 1 rfl) ?_
  obtain ⟨x1, e1, hJ⟩ := j_bind hJ
  refine va_calli (va_runSN (As := [.int a1]) (rest := []) ⟨hx, hb, hml, hown, htb⟩ (c_LogFs_isInode (l := l) (dC := dC) (dI := dI) (σ := σ) hDa e1) (xcSN 1 htb tw167 tw1 tw165 tw166 rfl rfl hd_LogFs_isInode ⟨Nat.le_of_ble_eq_true rfl, Nat.le_of_ble_eq_true rfl⟩) (kW_S hP hK) rfl rfl hl.1 rfl (lv_room (Nat.le_of_ble_eq_true rfl)) d_Volume_setInodeByte_1 ⟨Nat.le_of_ble_eq_true rfl, Nat.le_of_ble_eq_true rfl⟩) hS (fun q _ h => h) (fun q h => h) (fun r0 u t H locs ht hvm hw hB _ _ hS => ?_)
  subst r0
  have hP := kW_P hB ht
  refine lv_if_eq (tgt := 29) hx hb d_Volume_setInodeByte_4 (by decide) (fun h2 => ?_) (fun h2 => ?_)
  · have hJ := j_t hJ h2
    have hJ := Option.some.inj hJ
    exact W.vret hx hb hr (fun t ht hW => ⟨⟨(), rfl, trivial, kW_end hP hK ht hW (congrArg (fun z => wC ga cB cI z) hJ)⟩, hS.F ht⟩) hS.2.2 d_Volume_setInodeByte_29
  · have hJ := j_f hJ h2
    refine lv_aload_n hx hb d_Volume_setInodeByte_7 rfl (lv_at hl 0 rfl) ?_
    refine va_get (D := (dC, dI)) (ci := 3) (v := .ref (ga 2)) (C := R_Volume) (T := T_Volume) (N := 2) hx hb htb uin_Volume hown hK hP 3 rfl rfl 0 (by decide) (htb _ tw95) (fun _ h9 => h9) rfl d_Volume_setInodeByte_8 ?_
    refine lv_bipush (v := (17 : Int32)) hx hb d_Volume_setInodeByte_11 (by decide) ?_
    refine lv_iload_n hx hb d_Volume_setInodeByte_13 rfl (lv_at hl 1 rfl) ?_
    refine lv_iconst (v := (4 : Int32)) hx hb d_Volume_setInodeByte_14 (by decide) ?_
    refine lv_idiv hx hb d_Volume_setInodeByte_15 (by decide) ?_
    refine lv_iadd hx hb d_Volume_setInodeByte_16 ?_
    refine lv_iload_n hx hb d_Volume_setInodeByte_17 rfl (lv_at hl 1 rfl) ?_
    refine lv_iconst (v := (4 : Int32)) hx hb d_Volume_setInodeByte_18 (by decide) ?_
    refine lv_irem hx hb d_Volume_setInodeByte_19 (by decide) ?_
    refine lv_bipush (v := (16 : Int32)) hx hb d_Volume_setInodeByte_20 (by decide) ?_
    refine lv_imul hx hb d_Volume_setInodeByte_22 ?_
    refine lv_iload_n hx hb d_Volume_setInodeByte_23 rfl (lv_at hl 2 rfl) ?_
    refine lv_iadd hx hb d_Volume_setInodeByte_24 ?_
    refine lv_iload_n hx hb d_Volume_setInodeByte_25 rfl (lv_at hl 3 rfl) ?_
    obtain ⟨x3, e3, hJ⟩ := j_bind hJ
    refine va_callv (va_runV (As := [.int ((17 : Int32) + (a1 / (4 : Int32))), .int (((a1 - a1 / (4 : Int32) * (4 : Int32)) * (16 : Int32)) + a2), .int a3]) (rest := []) ⟨hx, hb, hml, hown, htb⟩ (c_Memory_change (l := l) (dC := dC) (dI := dI) hDa e3) (xcV 3 htb tw376 tw4 tw373 tw374 tw375 rfl rfl hd_Memory_change ⟨Nat.le_of_ble_eq_true rfl, Nat.le_of_ble_eq_true rfl⟩) (kW_V hP hK (va_recv (q0 := 2) (ci := 2) hK hP rfl rfl)) rfl rfl hl.1 rfl (lv_room (Nat.le_of_ble_eq_true rfl)) d_Volume_setInodeByte_26 ⟨Nat.le_of_ble_eq_true rfl, Nat.le_of_ble_eq_true rfl⟩) hS (fun q _ h => h) (fun q h => h) (fun u t H locs ht hvm hw hB _ _ hS => ?_)
    have hP := kW_P hB ht
    have hJ := Option.some.inj hJ
    exact W.vret hx hb hr (fun t ht hW => ⟨⟨(), rfl, trivial, kW_end hP hK ht hW (congrArg (fun z => wC ga cB cI z) hJ)⟩, hS.F ht⟩) hS.2.2 d_Volume_setInodeByte_29
def J_Volume_type (σ : CS) (a1 : Int32) : Option (Int32) :=
  (J_Volume_inodeByte σ a1 (0 : Int32)).bind fun x1 => some x1
abbrev rm_Volume_type : Room := { frames := 2, cells := 0, slots := 0, locals := 44 }
set_option maxHeartbeats 4000000 in
set_option maxRecDepth 100000 in
theorem c_Volume_type {l : Launch} {dC : Nat → ClassId} {dI : Nat → Nat → Nat} {ga : Nat → Nat} {cB cI : ClassId} {A : Nat → Prop} (hDa : ∀ σ, va_D A (wC ga cB cI σ)) {σ : CS} {a1 : Int32} {res : Int32} (hJ : J_Volume_type σ a1 = some res) :
    Met l y_Volume_type (mw y_Volume_type b_Volume_type 2 (some .int)) rm_Volume_type (va_Pc [.ref (ga 3), .int a1] (kW (dC, dI) (tC cB cI) (wC ga cB cI σ))) (va_Qi (fun (x : Int32) (_ : Unit) => x = res) (fun _ t => kW (dC, dI) (tC cB cI) (wC ga cB cI σ) t) A) 0 0 A := by
  refine Met.ofW (cc := b_Volume_type) (maxL := 2) (ret := (some .int)) (by decide) rfl ?_
  intro p e s m args below meth c s₁ B hml hv
  obtain ⟨rfl, hP, hK⟩ := hv
  have hx := B.exec
  have hb := B.bytes
  have hr := B.returns
  have hts := atoms_spec (ws := (mw y_Volume_type b_Volume_type 2 (some .int))) B.pre
  have htb : ∀ w ∈ tb, w.before [.ref (ga 3), .int a1].toArray s = true := fun w h => hts w (mwIn h)
  have hown : s.vm.findClass "LogFs$Volume" = some m.cls := findClass_of_methodNamed B.named
  have hlocks := B.notSynchronized
  have hS : va_S A s.heap s.heap [] := va_S.rf
  have hl := lv_entry ([.ref (ga 3), .int a1]) (n := 2) (Nat.le_of_ble_eq_true rfl)
  rw [lg_entry_eq]
  generalize (lg_sl ([.ref (ga 3), .int a1]) ++ List.replicate (2 - (lg_sl ([.ref (ga 3), .int a1])).length) Slot.unset).toArray = ls at hl ⊢
  have hl : lv_has ls 2 [(0, .ref (ga 3)), (1, .int a1)] := hl
  unfold J_Volume_type at hJ
  refine lv_aload_n hx hb d_Volume_type_0 rfl (lv_at hl 0 rfl) ?_
  refine lv_iload_n hx hb d_Volume_type_1 rfl (lv_at hl 1 rfl) ?_
  refine lv_iconst (v := (0 : Int32)) hx hb d_Volume_type_2 (by decide) ?_
  obtain ⟨x1, e1, hJ⟩ := j_bind hJ
  refine va_calli (va_runV (As := [.int a1, .int (0 : Int32)]) (rest := []) ⟨hx, hb, hml, hown, htb⟩ (c_Volume_inodeByte (l := l) (dC := dC) (dI := dI) hDa e1) (xcV 2 htb tw164 tw5 tw161 tw163 ts_Volume_inodeByte rfl rfl hd_Volume_inodeByte ⟨Nat.le_of_ble_eq_true rfl, Nat.le_of_ble_eq_true rfl⟩) (kW_V hP hK (va_recv (q0 := 3) (ci := 3) hK hP rfl rfl)) rfl rfl hl.1 rfl (lv_room (Nat.le_of_ble_eq_true rfl)) d_Volume_type_3 ⟨Nat.le_of_ble_eq_true rfl, Nat.le_of_ble_eq_true rfl⟩) hS (fun q _ h => h) (fun q h => h) (fun r0 u t H locs ht hvm hw hB _ _ hS => ?_)
  subst r0
  have hP := kW_P hB ht
  have hJ := Option.some.inj hJ
  exact W.iret (v := x1) hx hb hr (fun t ht hW => ⟨⟨_, (), rfl, hJ, kW_end hP hK ht hW rfl⟩, hS.F ht⟩) hS.2.2 d_Volume_type_6
def J_Volume_links (σ : CS) (a1 : Int32) : Option (Int32) :=
  (J_Volume_inodeByte σ a1 (1 : Int32)).bind fun x1 => some x1
abbrev rm_Volume_links : Room := { frames := 2, cells := 0, slots := 0, locals := 44 }
set_option maxHeartbeats 4000000 in
set_option maxRecDepth 100000 in
theorem c_Volume_links {l : Launch} {dC : Nat → ClassId} {dI : Nat → Nat → Nat} {ga : Nat → Nat} {cB cI : ClassId} {A : Nat → Prop} (hDa : ∀ σ, va_D A (wC ga cB cI σ)) {σ : CS} {a1 : Int32} {res : Int32} (hJ : J_Volume_links σ a1 = some res) :
    Met l y_Volume_links (mw y_Volume_links b_Volume_links 2 (some .int)) rm_Volume_links (va_Pc [.ref (ga 3), .int a1] (kW (dC, dI) (tC cB cI) (wC ga cB cI σ))) (va_Qi (fun (x : Int32) (_ : Unit) => x = res) (fun _ t => kW (dC, dI) (tC cB cI) (wC ga cB cI σ) t) A) 0 0 A := by
  refine Met.ofW (cc := b_Volume_links) (maxL := 2) (ret := (some .int)) (by decide) rfl ?_
  intro p e s m args below meth c s₁ B hml hv
  obtain ⟨rfl, hP, hK⟩ := hv
  have hx := B.exec
  have hb := B.bytes
  have hr := B.returns
  have hts := atoms_spec (ws := (mw y_Volume_links b_Volume_links 2 (some .int))) B.pre
  have htb : ∀ w ∈ tb, w.before [.ref (ga 3), .int a1].toArray s = true := fun w h => hts w (mwIn h)
  have hown : s.vm.findClass "LogFs$Volume" = some m.cls := findClass_of_methodNamed B.named
  have hlocks := B.notSynchronized
  have hS : va_S A s.heap s.heap [] := va_S.rf
  have hl := lv_entry ([.ref (ga 3), .int a1]) (n := 2) (Nat.le_of_ble_eq_true rfl)
  rw [lg_entry_eq]
  generalize (lg_sl ([.ref (ga 3), .int a1]) ++ List.replicate (2 - (lg_sl ([.ref (ga 3), .int a1])).length) Slot.unset).toArray = ls at hl ⊢
  have hl : lv_has ls 2 [(0, .ref (ga 3)), (1, .int a1)] := hl
  unfold J_Volume_links at hJ
  refine lv_aload_n hx hb d_Volume_links_0 rfl (lv_at hl 0 rfl) ?_
  refine lv_iload_n hx hb d_Volume_links_1 rfl (lv_at hl 1 rfl) ?_
  refine lv_iconst (v := (1 : Int32)) hx hb d_Volume_links_2 (by decide) ?_
  obtain ⟨x1, e1, hJ⟩ := j_bind hJ
  refine va_calli (va_runV (As := [.int a1, .int (1 : Int32)]) (rest := []) ⟨hx, hb, hml, hown, htb⟩ (c_Volume_inodeByte (l := l) (dC := dC) (dI := dI) hDa e1) (xcV 2 htb tw164 tw5 tw161 tw163 ts_Volume_inodeByte rfl rfl hd_Volume_inodeByte ⟨Nat.le_of_ble_eq_true rfl, Nat.le_of_ble_eq_true rfl⟩) (kW_V hP hK (va_recv (q0 := 3) (ci := 3) hK hP rfl rfl)) rfl rfl hl.1 rfl (lv_room (Nat.le_of_ble_eq_true rfl)) d_Volume_links_3 ⟨Nat.le_of_ble_eq_true rfl, Nat.le_of_ble_eq_true rfl⟩) hS (fun q _ h => h) (fun q h => h) (fun r0 u t H locs ht hvm hw hB _ _ hS => ?_)
  subst r0
  have hP := kW_P hB ht
  have hJ := Option.some.inj hJ
  exact W.iret (v := x1) hx hb hr (fun t ht hW => ⟨⟨_, (), rfl, hJ, kW_end hP hK ht hW rfl⟩, hS.F ht⟩) hS.2.2 d_Volume_links_6
def J_Volume_size (σ : CS) (a1 : Int32) : Option (Int32) :=
  (J_Volume_inodeByte σ a1 (2 : Int32)).bind fun x1 => (J_Volume_inodeByte σ a1 (3 : Int32)).bind fun x2 => some ((x1 <<< ((8 : Int32) &&& 31)) ||| x2)
abbrev rm_Volume_size : Room := { frames := 2, cells := 0, slots := 0, locals := 44 }
set_option maxHeartbeats 4000000 in
set_option maxRecDepth 100000 in
theorem c_Volume_size {l : Launch} {dC : Nat → ClassId} {dI : Nat → Nat → Nat} {ga : Nat → Nat} {cB cI : ClassId} {A : Nat → Prop} (hDa : ∀ σ, va_D A (wC ga cB cI σ)) {σ : CS} {a1 : Int32} {res : Int32} (hJ : J_Volume_size σ a1 = some res) :
    Met l y_Volume_size (mw y_Volume_size b_Volume_size 2 (some .int)) rm_Volume_size (va_Pc [.ref (ga 3), .int a1] (kW (dC, dI) (tC cB cI) (wC ga cB cI σ))) (va_Qi (fun (x : Int32) (_ : Unit) => x = res) (fun _ t => kW (dC, dI) (tC cB cI) (wC ga cB cI σ) t) A) 0 0 A := by
  refine Met.ofW (cc := b_Volume_size) (maxL := 2) (ret := (some .int)) (by decide) rfl ?_
  intro p e s m args below meth c s₁ B hml hv
  obtain ⟨rfl, hP, hK⟩ := hv
  have hx := B.exec
  have hb := B.bytes
  have hr := B.returns
  have hts := atoms_spec (ws := (mw y_Volume_size b_Volume_size 2 (some .int))) B.pre
  have htb : ∀ w ∈ tb, w.before [.ref (ga 3), .int a1].toArray s = true := fun w h => hts w (mwIn h)
  have hown : s.vm.findClass "LogFs$Volume" = some m.cls := findClass_of_methodNamed B.named
  have hlocks := B.notSynchronized
  have hS : va_S A s.heap s.heap [] := va_S.rf
  have hl := lv_entry ([.ref (ga 3), .int a1]) (n := 2) (Nat.le_of_ble_eq_true rfl)
  rw [lg_entry_eq]
  generalize (lg_sl ([.ref (ga 3), .int a1]) ++ List.replicate (2 - (lg_sl ([.ref (ga 3), .int a1])).length) Slot.unset).toArray = ls at hl ⊢
  have hl : lv_has ls 2 [(0, .ref (ga 3)), (1, .int a1)] := hl
  unfold J_Volume_size at hJ
  refine lv_aload_n hx hb d_Volume_size_0 rfl (lv_at hl 0 rfl) ?_
  refine lv_iload_n hx hb d_Volume_size_1 rfl (lv_at hl 1 rfl) ?_
  refine lv_iconst (v := (2 : Int32)) hx hb d_Volume_size_2 (by decide) ?_
  obtain ⟨x1, e1, hJ⟩ := j_bind hJ
  refine va_calli (va_runV (As := [.int a1, .int (2 : Int32)]) (rest := []) ⟨hx, hb, hml, hown, htb⟩ (c_Volume_inodeByte (l := l) (dC := dC) (dI := dI) hDa e1) (xcV 2 htb tw164 tw5 tw161 tw163 ts_Volume_inodeByte rfl rfl hd_Volume_inodeByte ⟨Nat.le_of_ble_eq_true rfl, Nat.le_of_ble_eq_true rfl⟩) (kW_V hP hK (va_recv (q0 := 3) (ci := 3) hK hP rfl rfl)) rfl rfl hl.1 rfl (lv_room (Nat.le_of_ble_eq_true rfl)) d_Volume_size_3 ⟨Nat.le_of_ble_eq_true rfl, Nat.le_of_ble_eq_true rfl⟩) hS (fun q _ h => h) (fun q h => h) (fun r0 u t H locs ht hvm hw hB _ _ hS => ?_)
  subst r0
  have hP := kW_P hB ht
  refine lv_bipush (v := (8 : Int32)) hx hb d_Volume_size_6 (by decide) ?_
  refine lv_ishl hx hb d_Volume_size_8 ?_
  refine lv_aload_n hx hb d_Volume_size_9 rfl (lv_at hl 0 rfl) ?_
  refine lv_iload_n hx hb d_Volume_size_10 rfl (lv_at hl 1 rfl) ?_
  refine lv_iconst (v := (3 : Int32)) hx hb d_Volume_size_11 (by decide) ?_
  obtain ⟨x2, e2, hJ⟩ := j_bind hJ
  refine va_calli (va_runV (As := [.int a1, .int (3 : Int32)]) (rest := [.int (x1 <<< ((8 : Int32) &&& 31))]) ⟨hx, hb, hml, hown, htb⟩ (c_Volume_inodeByte (l := l) (dC := dC) (dI := dI) hDa e2) (xcV 2 htb tw164 tw5 tw161 tw163 ts_Volume_inodeByte rfl rfl hd_Volume_inodeByte ⟨Nat.le_of_ble_eq_true rfl, Nat.le_of_ble_eq_true rfl⟩) (kW_V hP hK (va_recv (q0 := 3) (ci := 3) hK hP rfl rfl)) rfl rfl hl.1 rfl (lv_room (Nat.le_of_ble_eq_true rfl)) d_Volume_size_12 ⟨Nat.le_of_ble_eq_true rfl, Nat.le_of_ble_eq_true rfl⟩) hS (fun q _ h => h) (fun q h => h) (fun r0 u t H locs ht hvm hw hB _ _ hS => ?_)
  subst r0
  have hP := kW_P hB ht
  refine lv_ior hx hb d_Volume_size_15 ?_
  have hJ := Option.some.inj hJ
  exact W.iret (v := ((x1 <<< ((8 : Int32) &&& 31)) ||| x2)) hx hb hr (fun t ht hW => ⟨⟨_, (), rfl, hJ, kW_end hP hK ht hW rfl⟩, hS.F ht⟩) hS.2.2 d_Volume_size_16
def J_Volume_isFile (σ : CS) (a1 : Int32) : Option (Int32) :=
  (J_Volume_type σ a1).bind fun x1 => (if x1 = (1 : Int32) then some (1 : Int32) else some (0 : Int32))
abbrev rm_Volume_isFile : Room := { frames := 3, cells := 0, slots := 0, locals := 65 }
set_option maxHeartbeats 4000000 in
set_option maxRecDepth 100000 in
theorem c_Volume_isFile {l : Launch} {dC : Nat → ClassId} {dI : Nat → Nat → Nat} {ga : Nat → Nat} {cB cI : ClassId} {A : Nat → Prop} (hDa : ∀ σ, va_D A (wC ga cB cI σ)) {σ : CS} {a1 : Int32} {res : Int32} (hJ : J_Volume_isFile σ a1 = some res) :
    Met l y_Volume_isFile (mw y_Volume_isFile b_Volume_isFile 2 (some .boolean)) rm_Volume_isFile (va_Pc [.ref (ga 3), .int a1] (kW (dC, dI) (tC cB cI) (wC ga cB cI σ))) (va_Qi (fun (x : Int32) (_ : Unit) => x = res) (fun _ t => kW (dC, dI) (tC cB cI) (wC ga cB cI σ) t) A) 0 0 A := by
  refine Met.ofW (cc := b_Volume_isFile) (maxL := 2) (ret := (some .boolean)) (by decide) rfl ?_
  intro p e s m args below meth c s₁ B hml hv
  obtain ⟨rfl, hP, hK⟩ := hv
  have hx := B.exec
  have hb := B.bytes
  have hr := B.returns
  have hts := atoms_spec (ws := (mw y_Volume_isFile b_Volume_isFile 2 (some .boolean))) B.pre
  have htb : ∀ w ∈ tb, w.before [.ref (ga 3), .int a1].toArray s = true := fun w h => hts w (mwIn h)
  have hown : s.vm.findClass "LogFs$Volume" = some m.cls := findClass_of_methodNamed B.named
  have hlocks := B.notSynchronized
  have hS : va_S A s.heap s.heap [] := va_S.rf
  have hl := lv_entry ([.ref (ga 3), .int a1]) (n := 2) (Nat.le_of_ble_eq_true rfl)
  rw [lg_entry_eq]
  generalize (lg_sl ([.ref (ga 3), .int a1]) ++ List.replicate (2 - (lg_sl ([.ref (ga 3), .int a1])).length) Slot.unset).toArray = ls at hl ⊢
  have hl : lv_has ls 2 [(0, .ref (ga 3)), (1, .int a1)] := hl
  unfold J_Volume_isFile at hJ
  refine lv_aload_n hx hb d_Volume_isFile_0 rfl (lv_at hl 0 rfl) ?_
  refine lv_iload_n hx hb d_Volume_isFile_1 rfl (lv_at hl 1 rfl) ?_
  obtain ⟨x1, e1, hJ⟩ := j_bind hJ
  refine va_calli (va_runV (As := [.int a1]) (rest := []) ⟨hx, hb, hml, hown, htb⟩ (c_Volume_type (l := l) (dC := dC) (dI := dI) hDa e1) (xcV 1 htb tw160 tw5 tw157 tw158 tw159 rfl rfl hd_Volume_type ⟨Nat.le_of_ble_eq_true rfl, Nat.le_of_ble_eq_true rfl⟩) (kW_V hP hK (va_recv (q0 := 3) (ci := 3) hK hP rfl rfl)) rfl rfl hl.1 rfl (lv_room (Nat.le_of_ble_eq_true rfl)) d_Volume_isFile_2 ⟨Nat.le_of_ble_eq_true rfl, Nat.le_of_ble_eq_true rfl⟩) hS (fun q _ h => h) (fun q h => h) (fun r0 u t H locs ht hvm hw hB _ _ hS => ?_)
  subst r0
  have hP := kW_P hB ht
  refine lv_iconst (v := (1 : Int32)) hx hb d_Volume_isFile_5 (by decide) ?_
  refine lv_icmp_ne (tgt := 13) hx hb d_Volume_isFile_6 (by decide) (fun h2 => ?_) (fun h2 => ?_)
  · have hJ := j_f hJ h2
    refine lv_iconst (v := (0 : Int32)) hx hb d_Volume_isFile_13 (by decide) ?_
    have hJ := Option.some.inj hJ
    exact W.zret (v := (0 : Int32)) (ty := .boolean) hx hb hr (by decide +kernel) (fun t ht hW => ⟨⟨_, (), rfl, hJ, kW_end hP hK ht hW rfl⟩, hS.F ht⟩) hS.2.2 d_Volume_isFile_14
  · have hJ := j_t hJ h2
    refine lv_iconst (v := (1 : Int32)) hx hb d_Volume_isFile_9 (by decide) ?_
    refine lv_goto (tgt := 14) hx hb d_Volume_isFile_10 (by decide) ?_
    have hJ := Option.some.inj hJ
    exact W.zret (v := (1 : Int32)) (ty := .boolean) hx hb hr (by decide +kernel) (fun t ht hW => ⟨⟨_, (), rfl, hJ, kW_end hP hK ht hW rfl⟩, hS.F ht⟩) hS.2.2 d_Volume_isFile_14
def J_Volume_isDirectory (σ : CS) (a1 : Int32) : Option (Int32) :=
  (J_Volume_type σ a1).bind fun x1 => (if x1 = (2 : Int32) then some (1 : Int32) else some (0 : Int32))
abbrev rm_Volume_isDirectory : Room := { frames := 3, cells := 0, slots := 0, locals := 65 }
set_option maxHeartbeats 4000000 in
set_option maxRecDepth 100000 in
theorem c_Volume_isDirectory {l : Launch} {dC : Nat → ClassId} {dI : Nat → Nat → Nat} {ga : Nat → Nat} {cB cI : ClassId} {A : Nat → Prop} (hDa : ∀ σ, va_D A (wC ga cB cI σ)) {σ : CS} {a1 : Int32} {res : Int32} (hJ : J_Volume_isDirectory σ a1 = some res) :
    Met l y_Volume_isDirectory (mw y_Volume_isDirectory b_Volume_isDirectory 2 (some .boolean)) rm_Volume_isDirectory (va_Pc [.ref (ga 3), .int a1] (kW (dC, dI) (tC cB cI) (wC ga cB cI σ))) (va_Qi (fun (x : Int32) (_ : Unit) => x = res) (fun _ t => kW (dC, dI) (tC cB cI) (wC ga cB cI σ) t) A) 0 0 A := by
  refine Met.ofW (cc := b_Volume_isDirectory) (maxL := 2) (ret := (some .boolean)) (by decide) rfl ?_
  intro p e s m args below meth c s₁ B hml hv
  obtain ⟨rfl, hP, hK⟩ := hv
  have hx := B.exec
  have hb := B.bytes
  have hr := B.returns
  have hts := atoms_spec (ws := (mw y_Volume_isDirectory b_Volume_isDirectory 2 (some .boolean))) B.pre
  have htb : ∀ w ∈ tb, w.before [.ref (ga 3), .int a1].toArray s = true := fun w h => hts w (mwIn h)
  have hown : s.vm.findClass "LogFs$Volume" = some m.cls := findClass_of_methodNamed B.named
  have hlocks := B.notSynchronized
  have hS : va_S A s.heap s.heap [] := va_S.rf
  have hl := lv_entry ([.ref (ga 3), .int a1]) (n := 2) (Nat.le_of_ble_eq_true rfl)
  rw [lg_entry_eq]
  generalize (lg_sl ([.ref (ga 3), .int a1]) ++ List.replicate (2 - (lg_sl ([.ref (ga 3), .int a1])).length) Slot.unset).toArray = ls at hl ⊢
  have hl : lv_has ls 2 [(0, .ref (ga 3)), (1, .int a1)] := hl
  unfold J_Volume_isDirectory at hJ
  refine lv_aload_n hx hb d_Volume_isDirectory_0 rfl (lv_at hl 0 rfl) ?_
  refine lv_iload_n hx hb d_Volume_isDirectory_1 rfl (lv_at hl 1 rfl) ?_
  obtain ⟨x1, e1, hJ⟩ := j_bind hJ
  refine va_calli (va_runV (As := [.int a1]) (rest := []) ⟨hx, hb, hml, hown, htb⟩ (c_Volume_type (l := l) (dC := dC) (dI := dI) hDa e1) (xcV 1 htb tw160 tw5 tw157 tw158 tw159 rfl rfl hd_Volume_type ⟨Nat.le_of_ble_eq_true rfl, Nat.le_of_ble_eq_true rfl⟩) (kW_V hP hK (va_recv (q0 := 3) (ci := 3) hK hP rfl rfl)) rfl rfl hl.1 rfl (lv_room (Nat.le_of_ble_eq_true rfl)) d_Volume_isDirectory_2 ⟨Nat.le_of_ble_eq_true rfl, Nat.le_of_ble_eq_true rfl⟩) hS (fun q _ h => h) (fun q h => h) (fun r0 u t H locs ht hvm hw hB _ _ hS => ?_)
  subst r0
  have hP := kW_P hB ht
  refine lv_iconst (v := (2 : Int32)) hx hb d_Volume_isDirectory_5 (by decide) ?_
  refine lv_icmp_ne (tgt := 13) hx hb d_Volume_isDirectory_6 (by decide) (fun h2 => ?_) (fun h2 => ?_)
  · have hJ := j_f hJ h2
    refine lv_iconst (v := (0 : Int32)) hx hb d_Volume_isDirectory_13 (by decide) ?_
    have hJ := Option.some.inj hJ
    exact W.zret (v := (0 : Int32)) (ty := .boolean) hx hb hr (by decide +kernel) (fun t ht hW => ⟨⟨_, (), rfl, hJ, kW_end hP hK ht hW rfl⟩, hS.F ht⟩) hS.2.2 d_Volume_isDirectory_14
  · have hJ := j_t hJ h2
    refine lv_iconst (v := (1 : Int32)) hx hb d_Volume_isDirectory_9 (by decide) ?_
    refine lv_goto (tgt := 14) hx hb d_Volume_isDirectory_10 (by decide) ?_
    have hJ := Option.some.inj hJ
    exact W.zret (v := (1 : Int32)) (ty := .boolean) hx hb hr (by decide +kernel) (fun t ht hW => ⟨⟨_, (), rfl, hJ, kW_end hP hK ht hW rfl⟩, hS.F ht⟩) hS.2.2 d_Volume_isDirectory_14
def J_Volume_leastFreeInode_2_b (k : Int32 → Option (Int32)) (σ : CS) (v1 : Int32) : Option (Int32) :=
  (if (32 : Int32) ≤ v1 then some ((-1) : Int32) else (J_Volume_type σ v1).bind fun x2 => (if x2 = (0 : Int32) then some v1 else k (v1 + (1 : Int32))))
def J_Volume_leastFreeInode_2 : Nat → CS → Int32 → Option (Int32)
  | 0, _, _ => none
  | n + 1, σ, v1 => J_Volume_leastFreeInode_2_b (J_Volume_leastFreeInode_2 n σ) σ v1
def J_Volume_leastFreeInode (σ : CS)  : Option (Int32) :=
  J_Volume_leastFreeInode_2 9000 σ (0 : Int32)
abbrev rm_Volume_leastFreeInode : Room := { frames := 3, cells := 0, slots := 0, locals := 65 }
set_option maxHeartbeats 4000000 in
set_option maxRecDepth 100000 in
theorem c_Volume_leastFreeInode {l : Launch} {dC : Nat → ClassId} {dI : Nat → Nat → Nat} {ga : Nat → Nat} {cB cI : ClassId} {A : Nat → Prop} (hDa : ∀ σ, va_D A (wC ga cB cI σ)) {σ : CS} {res : Int32} (hJ : J_Volume_leastFreeInode σ = some res) :
    Met l y_Volume_leastFreeInode (mw y_Volume_leastFreeInode b_Volume_leastFreeInode 2 (some .int)) rm_Volume_leastFreeInode (va_Pc [.ref (ga 3)] (kW (dC, dI) (tC cB cI) (wC ga cB cI σ))) (va_Qi (fun (x : Int32) (_ : Unit) => x = res) (fun _ t => kW (dC, dI) (tC cB cI) (wC ga cB cI σ) t) A) 0 0 A := by
  refine Met.ofW (cc := b_Volume_leastFreeInode) (maxL := 2) (ret := (some .int)) (by decide) rfl ?_
  intro p e s m args below meth c s₁ B hml hv
  obtain ⟨rfl, hP, hK⟩ := hv
  have hx := B.exec
  have hb := B.bytes
  have hr := B.returns
  have hts := atoms_spec (ws := (mw y_Volume_leastFreeInode b_Volume_leastFreeInode 2 (some .int))) B.pre
  have htb : ∀ w ∈ tb, w.before [.ref (ga 3)].toArray s = true := fun w h => hts w (mwIn h)
  have hown : s.vm.findClass "LogFs$Volume" = some m.cls := findClass_of_methodNamed B.named
  have hlocks := B.notSynchronized
  have hS : va_S A s.heap s.heap [] := va_S.rf
  have hl := lv_entry ([.ref (ga 3)]) (n := 2) (Nat.le_of_ble_eq_true rfl)
  rw [lg_entry_eq]
  generalize (lg_sl ([.ref (ga 3)]) ++ List.replicate (2 - (lg_sl ([.ref (ga 3)])).length) Slot.unset).toArray = ls at hl ⊢
  have hl : lv_has ls 2 [(0, .ref (ga 3))] := hl
  have blk2 : ∀ (n : Nat) (v1 : Int32) (ls : Array Slot) (H : Heap) (locs : List Loc), J_Volume_leastFreeInode_2 n σ v1 = some res → lv_has ls 2 [(0, .ref (ga 3)), (1, .int v1)] → va_P (dC, dI) cls (wC ga cB cI σ) H → va_S A s.heap H locs → W p l e (headSpec (mw y_Volume_leastFreeInode b_Volume_leastFreeInode 2 (some .int)) rm_Volume_leastFreeInode).room s m [.ref (ga 3)].toArray below meth c H locs 0 0 (MQ below (va_Qi (fun (x : Int32) (_ : Unit) => x = res) (fun _ t => kW (dC, dI) (tC cB cI) (wC ga cB cI σ) t) A) [.ref (ga 3)].toArray s 0 0 A) (F0 m 2 ls []) := by
    intro n
    induction n with
    | zero => intro v1 ls H locs hJ; exact j_none hJ
    | succ n hk =>
      intro v1 ls H locs hJ hl hP hS
      have hJ : J_Volume_leastFreeInode_2_b (J_Volume_leastFreeInode_2 n σ) σ v1 = some res := hJ
      unfold J_Volume_leastFreeInode_2_b at hJ
      refine lv_iload_n hx hb d_Volume_leastFreeInode_2 rfl (lv_at hl 1 rfl) ?_
      refine lv_bipush (v := (32 : Int32)) hx hb d_Volume_leastFreeInode_3 (by decide) ?_
      refine lv_icmp_ge (tgt := 24) hx hb d_Volume_leastFreeInode_5 (by decide) (fun h1 => ?_) (fun h1 => ?_)
      · have hJ := j_t hJ h1
        refine lv_iconst (v := ((-1) : Int32)) hx hb d_Volume_leastFreeInode_24 (by decide) ?_
        have hJ := Option.some.inj hJ
        exact W.iret (v := ((-1) : Int32)) hx hb hr (fun t ht hW => ⟨⟨_, (), rfl, hJ, kW_end hP hK ht hW rfl⟩, hS.F ht⟩) hS.2.2 d_Volume_leastFreeInode_25
      · have hJ := j_f hJ h1
        refine lv_aload_n hx hb d_Volume_leastFreeInode_8 rfl (lv_at hl 0 rfl) ?_
        refine lv_iload_n hx hb d_Volume_leastFreeInode_9 rfl (lv_at hl 1 rfl) ?_
        obtain ⟨x2, e2, hJ⟩ := j_bind hJ
        refine va_calli (va_runV (As := [.int v1]) (rest := []) ⟨hx, hb, hml, hown, htb⟩ (c_Volume_type (l := l) (dC := dC) (dI := dI) hDa e2) (xcV 1 htb tw160 tw5 tw157 tw158 tw159 rfl rfl hd_Volume_type ⟨Nat.le_of_ble_eq_true rfl, Nat.le_of_ble_eq_true rfl⟩) (kW_V hP hK (va_recv (q0 := 3) (ci := 3) hK hP rfl rfl)) rfl rfl hl.1 rfl (lv_room (Nat.le_of_ble_eq_true rfl)) d_Volume_leastFreeInode_10 ⟨Nat.le_of_ble_eq_true rfl, Nat.le_of_ble_eq_true rfl⟩) hS (fun q _ h => h) (fun q h => h) (fun r0 u t H locs ht hvm hw hB _ _ hS => ?_)
        subst r0
        have hP := kW_P hB ht
        refine lv_if_ne (tgt := 18) hx hb d_Volume_leastFreeInode_13 (by decide) (fun h3 => ?_) (fun h3 => ?_)
        · have hJ := j_f hJ h3
          refine lv_iinc (k := 1) (v := (v1 + (1 : Int32))) hx hb d_Volume_leastFreeInode_18 hl rfl rfl (Nat.le_of_ble_eq_true rfl) rfl (fun ls hl => ?_)
          have hl : lv_has ls 2 [(1, .int (v1 + (1 : Int32))), (0, .ref (ga 3))] := hl
          refine lv_goto (tgt := 2) hx hb d_Volume_leastFreeInode_21 (by decide) ?_
          exact hk _ _ _ _ hJ (lv_sub hl [1, 0] rfl) hP hS
        · have hJ := j_t hJ h3
          refine lv_iload_n hx hb d_Volume_leastFreeInode_16 rfl (lv_at hl 1 rfl) ?_
          have hJ := Option.some.inj hJ
          exact W.iret (v := v1) hx hb hr (fun t ht hW => ⟨⟨_, (), rfl, hJ, kW_end hP hK ht hW rfl⟩, hS.F ht⟩) hS.2.2 d_Volume_leastFreeInode_17
  unfold J_Volume_leastFreeInode at hJ
  refine lv_iconst (v := (0 : Int32)) hx hb d_Volume_leastFreeInode_0 (by decide) ?_
  refine lv_istore_n hx hb d_Volume_leastFreeInode_1 rfl hl (Nat.le_of_ble_eq_true rfl) rfl (fun ls hl => ?_)
  have hl : lv_has ls 2 [(1, .int (0 : Int32)), (0, .ref (ga 3))] := hl
  exact blk2 9000 _ _ _ _ hJ (lv_sub hl [1, 0] rfl) hP hS
def J_Volume_freeInodes_4_b (k : Int32 → Int32 → Option (Int32)) (σ : CS) (v1 : Int32) (v2 : Int32) : Option (Int32) :=
  (if (32 : Int32) ≤ v2 then some v1 else (J_Volume_type σ v2).bind fun x2 => (if x2 = (0 : Int32) then k (v1 + (1 : Int32)) (v2 + (1 : Int32)) else k v1 (v2 + (1 : Int32))))
def J_Volume_freeInodes_4 : Nat → CS → Int32 → Int32 → Option (Int32)
  | 0, _, _, _ => none
  | n + 1, σ, v1, v2 => J_Volume_freeInodes_4_b (J_Volume_freeInodes_4 n σ) σ v1 v2
def J_Volume_freeInodes (σ : CS)  : Option (Int32) :=
  J_Volume_freeInodes_4 9000 σ (0 : Int32) (0 : Int32)
abbrev rm_Volume_freeInodes : Room := { frames := 3, cells := 0, slots := 0, locals := 65 }
set_option maxHeartbeats 4000000 in
set_option maxRecDepth 100000 in
theorem c_Volume_freeInodes {l : Launch} {dC : Nat → ClassId} {dI : Nat → Nat → Nat} {ga : Nat → Nat} {cB cI : ClassId} {A : Nat → Prop} (hDa : ∀ σ, va_D A (wC ga cB cI σ)) {σ : CS} {res : Int32} (hJ : J_Volume_freeInodes σ = some res) :
    Met l y_Volume_freeInodes (mw y_Volume_freeInodes b_Volume_freeInodes 3 (some .int)) rm_Volume_freeInodes (va_Pc [.ref (ga 3)] (kW (dC, dI) (tC cB cI) (wC ga cB cI σ))) (va_Qi (fun (x : Int32) (_ : Unit) => x = res) (fun _ t => kW (dC, dI) (tC cB cI) (wC ga cB cI σ) t) A) 0 0 A := by
  refine Met.ofW (cc := b_Volume_freeInodes) (maxL := 3) (ret := (some .int)) (by decide) rfl ?_
  intro p e s m args below meth c s₁ B hml hv
  obtain ⟨rfl, hP, hK⟩ := hv
  have hx := B.exec
  have hb := B.bytes
  have hr := B.returns
  have hts := atoms_spec (ws := (mw y_Volume_freeInodes b_Volume_freeInodes 3 (some .int))) B.pre
  have htb : ∀ w ∈ tb, w.before [.ref (ga 3)].toArray s = true := fun w h => hts w (mwIn h)
  have hown : s.vm.findClass "LogFs$Volume" = some m.cls := findClass_of_methodNamed B.named
  have hlocks := B.notSynchronized
  have hS : va_S A s.heap s.heap [] := va_S.rf
  have hl := lv_entry ([.ref (ga 3)]) (n := 3) (Nat.le_of_ble_eq_true rfl)
  rw [lg_entry_eq]
  generalize (lg_sl ([.ref (ga 3)]) ++ List.replicate (3 - (lg_sl ([.ref (ga 3)])).length) Slot.unset).toArray = ls at hl ⊢
  have hl : lv_has ls 3 [(0, .ref (ga 3))] := hl
  have blk4 : ∀ (n : Nat) (v1 : Int32) (v2 : Int32) (ls : Array Slot) (H : Heap) (locs : List Loc), J_Volume_freeInodes_4 n σ v1 v2 = some res → lv_has ls 3 [(0, .ref (ga 3)), (1, .int v1), (2, .int v2)] → va_P (dC, dI) cls (wC ga cB cI σ) H → va_S A s.heap H locs → W p l e (headSpec (mw y_Volume_freeInodes b_Volume_freeInodes 3 (some .int)) rm_Volume_freeInodes).room s m [.ref (ga 3)].toArray below meth c H locs 0 0 (MQ below (va_Qi (fun (x : Int32) (_ : Unit) => x = res) (fun _ t => kW (dC, dI) (tC cB cI) (wC ga cB cI σ) t) A) [.ref (ga 3)].toArray s 0 0 A) (F0 m 4 ls []) := by
    intro n
    induction n with
    | zero => intro v1 v2 ls H locs hJ; exact j_none hJ
    | succ n hk =>
      intro v1 v2 ls H locs hJ hl hP hS
      have hJ : J_Volume_freeInodes_4_b (J_Volume_freeInodes_4 n σ) σ v1 v2 = some res := hJ
      unfold J_Volume_freeInodes_4_b at hJ
      refine lv_iload_n hx hb d_Volume_freeInodes_4 rfl (lv_at hl 2 rfl) ?_
      refine lv_bipush (v := (32 : Int32)) hx hb d_Volume_freeInodes_5 (by decide) ?_
      refine lv_icmp_ge (tgt := 27) hx hb d_Volume_freeInodes_7 (by decide) (fun h1 => ?_) (fun h1 => ?_)
      · have hJ := j_t hJ h1
        refine lv_iload_n hx hb d_Volume_freeInodes_27 rfl (lv_at hl 1 rfl) ?_
        have hJ := Option.some.inj hJ
        exact W.iret (v := v1) hx hb hr (fun t ht hW => ⟨⟨_, (), rfl, hJ, kW_end hP hK ht hW rfl⟩, hS.F ht⟩) hS.2.2 d_Volume_freeInodes_28
      · have hJ := j_f hJ h1
        refine lv_aload_n hx hb d_Volume_freeInodes_10 rfl (lv_at hl 0 rfl) ?_
        refine lv_iload_n hx hb d_Volume_freeInodes_11 rfl (lv_at hl 2 rfl) ?_
        obtain ⟨x2, e2, hJ⟩ := j_bind hJ
        refine va_calli (va_runV (As := [.int v2]) (rest := []) ⟨hx, hb, hml, hown, htb⟩ (c_Volume_type (l := l) (dC := dC) (dI := dI) hDa e2) (xcV 1 htb tw160 tw5 tw157 tw158 tw159 rfl rfl hd_Volume_type ⟨Nat.le_of_ble_eq_true rfl, Nat.le_of_ble_eq_true rfl⟩) (kW_V hP hK (va_recv (q0 := 3) (ci := 3) hK hP rfl rfl)) rfl rfl hl.1 rfl (lv_room (Nat.le_of_ble_eq_true rfl)) d_Volume_freeInodes_12 ⟨Nat.le_of_ble_eq_true rfl, Nat.le_of_ble_eq_true rfl⟩) hS (fun q _ h => h) (fun q h => h) (fun r0 u t H locs ht hvm hw hB _ _ hS => ?_)
        subst r0
        have hP := kW_P hB ht
        refine lv_if_ne (tgt := 21) hx hb d_Volume_freeInodes_15 (by decide) (fun h3 => ?_) (fun h3 => ?_)
        · have hJ := j_f hJ h3
          refine lv_iinc (k := 2) (v := (v2 + (1 : Int32))) hx hb d_Volume_freeInodes_21 hl rfl rfl (Nat.le_of_ble_eq_true rfl) rfl (fun ls hl => ?_)
          have hl : lv_has ls 3 [(2, .int (v2 + (1 : Int32))), (0, .ref (ga 3)), (1, .int v1)] := hl
          refine lv_goto (tgt := 4) hx hb d_Volume_freeInodes_24 (by decide) ?_
          exact hk _ _ _ _ _ hJ (lv_sub hl [1, 2, 0] rfl) hP hS
        · have hJ := j_t hJ h3
          refine lv_iinc (k := 1) (v := (v1 + (1 : Int32))) hx hb d_Volume_freeInodes_18 hl rfl rfl (Nat.le_of_ble_eq_true rfl) rfl (fun ls hl => ?_)
          have hl : lv_has ls 3 [(1, .int (v1 + (1 : Int32))), (0, .ref (ga 3)), (2, .int v2)] := hl
          refine lv_iinc (k := 2) (v := (v2 + (1 : Int32))) hx hb d_Volume_freeInodes_21 hl rfl rfl (Nat.le_of_ble_eq_true rfl) rfl (fun ls hl => ?_)
          have hl : lv_has ls 3 [(2, .int (v2 + (1 : Int32))), (1, .int (v1 + (1 : Int32))), (0, .ref (ga 3))] := hl
          refine lv_goto (tgt := 4) hx hb d_Volume_freeInodes_24 (by decide) ?_
          exact hk _ _ _ _ _ hJ (lv_sub hl [2, 1, 0] rfl) hP hS
  unfold J_Volume_freeInodes at hJ
  refine lv_iconst (v := (0 : Int32)) hx hb d_Volume_freeInodes_0 (by decide) ?_
  refine lv_istore_n hx hb d_Volume_freeInodes_1 rfl hl (Nat.le_of_ble_eq_true rfl) rfl (fun ls hl => ?_)
  have hl : lv_has ls 3 [(1, .int (0 : Int32)), (0, .ref (ga 3))] := hl
  refine lv_iconst (v := (0 : Int32)) hx hb d_Volume_freeInodes_2 (by decide) ?_
  refine lv_istore_n hx hb d_Volume_freeInodes_3 rfl hl (Nat.le_of_ble_eq_true rfl) rfl (fun ls hl => ?_)
  have hl : lv_has ls 3 [(2, .int (0 : Int32)), (1, .int (0 : Int32)), (0, .ref (ga 3))] := hl
  exact blk4 9000 _ _ _ _ _ hJ (lv_sub hl [2, 1, 0] rfl) hP hS
def J_Volume_freeBlocks_6_b (k : Int32 → Int32 → Option (Int32)) (σ : CS) (v1 : Int32) (v2 : Int32) : Option (Int32) :=
  (if (16 : Int32) ≤ v2 then some v1 else (J_Blocks_get_m σ (25 : Int32) v2).bind fun x2 => (J_Integer_bitCount x2).bind fun x3 => k (v1 - x3) (v2 + (1 : Int32)))
def J_Volume_freeBlocks_6 : Nat → CS → Int32 → Int32 → Option (Int32)
  | 0, _, _, _ => none
  | n + 1, σ, v1, v2 => J_Volume_freeBlocks_6_b (J_Volume_freeBlocks_6 n σ) σ v1 v2
def J_Volume_freeBlocks (σ : CS)  : Option (Int32) :=
  J_Volume_freeBlocks_6 9000 σ (128 : Int32) (0 : Int32)
abbrev rm_Volume_freeBlocks : Room := { frames := 1, cells := 0, slots := 0, locals := 22 }
set_option maxHeartbeats 4000000 in
set_option maxRecDepth 100000 in
theorem c_Volume_freeBlocks {l : Launch} {dC : Nat → ClassId} {dI : Nat → Nat → Nat} {ga : Nat → Nat} {cB cI : ClassId} {A : Nat → Prop} (hDa : ∀ σ, va_D A (wC ga cB cI σ)) {σ : CS} {res : Int32} (hJ : J_Volume_freeBlocks σ = some res) :
    Met l y_Volume_freeBlocks (mw y_Volume_freeBlocks b_Volume_freeBlocks 3 (some .int)) rm_Volume_freeBlocks (va_Pc [.ref (ga 3)] (kW (dC, dI) (tC cB cI) (wC ga cB cI σ))) (va_Qi (fun (x : Int32) (_ : Unit) => x = res) (fun _ t => kW (dC, dI) (tC cB cI) (wC ga cB cI σ) t) A) 0 0 A := by
  refine Met.ofW (cc := b_Volume_freeBlocks) (maxL := 3) (ret := (some .int)) (by decide) rfl ?_
  intro p e s m args below meth c s₁ B hml hv
  obtain ⟨rfl, hP, hK⟩ := hv
  have hx := B.exec
  have hb := B.bytes
  have hr := B.returns
  have hts := atoms_spec (ws := (mw y_Volume_freeBlocks b_Volume_freeBlocks 3 (some .int))) B.pre
  have htb : ∀ w ∈ tb, w.before [.ref (ga 3)].toArray s = true := fun w h => hts w (mwIn h)
  have hown : s.vm.findClass "LogFs$Volume" = some m.cls := findClass_of_methodNamed B.named
  have hlocks := B.notSynchronized
  have hS : va_S A s.heap s.heap [] := va_S.rf
  have hl := lv_entry ([.ref (ga 3)]) (n := 3) (Nat.le_of_ble_eq_true rfl)
  rw [lg_entry_eq]
  generalize (lg_sl ([.ref (ga 3)]) ++ List.replicate (3 - (lg_sl ([.ref (ga 3)])).length) Slot.unset).toArray = ls at hl ⊢
  have hl : lv_has ls 3 [(0, .ref (ga 3))] := hl
  have blk6 : ∀ (n : Nat) (v1 : Int32) (v2 : Int32) (ls : Array Slot) (H : Heap) (locs : List Loc), J_Volume_freeBlocks_6 n σ v1 v2 = some res → lv_has ls 3 [(0, .ref (ga 3)), (1, .int v1), (2, .int v2)] → va_P (dC, dI) cls (wC ga cB cI σ) H → va_S A s.heap H locs → W p l e (headSpec (mw y_Volume_freeBlocks b_Volume_freeBlocks 3 (some .int)) rm_Volume_freeBlocks).room s m [.ref (ga 3)].toArray below meth c H locs 0 0 (MQ below (va_Qi (fun (x : Int32) (_ : Unit) => x = res) (fun _ t => kW (dC, dI) (tC cB cI) (wC ga cB cI σ) t) A) [.ref (ga 3)].toArray s 0 0 A) (F0 m 6 ls []) := by
    intro n
    induction n with
    | zero => intro v1 v2 ls H locs hJ; exact j_none hJ
    | succ n hk =>
      intro v1 v2 ls H locs hJ hl hP hS
      have hJ : J_Volume_freeBlocks_6_b (J_Volume_freeBlocks_6 n σ) σ v1 v2 = some res := hJ
      unfold J_Volume_freeBlocks_6_b at hJ
      refine lv_iload_n hx hb d_Volume_freeBlocks_6 rfl (lv_at hl 2 rfl) ?_
      refine lv_bipush (v := (16 : Int32)) hx hb d_Volume_freeBlocks_7 (by decide) ?_
      refine lv_icmp_ge (tgt := 34) hx hb d_Volume_freeBlocks_9 (by decide) (fun h1 => ?_) (fun h1 => ?_)
      · have hJ := j_t hJ h1
        refine lv_iload_n hx hb d_Volume_freeBlocks_34 rfl (lv_at hl 1 rfl) ?_
        have hJ := Option.some.inj hJ
        exact W.iret (v := v1) hx hb hr (fun t ht hW => ⟨⟨_, (), rfl, hJ, kW_end hP hK ht hW rfl⟩, hS.F ht⟩) hS.2.2 d_Volume_freeBlocks_35
      · have hJ := j_f hJ h1
        refine lv_iload_n hx hb d_Volume_freeBlocks_12 rfl (lv_at hl 1 rfl) ?_
        refine lv_aload_n hx hb d_Volume_freeBlocks_13 rfl (lv_at hl 0 rfl) ?_
        refine va_get (D := (dC, dI)) (ci := 3) (v := .ref (ga 5)) (C := R_Volume) (T := T_Volume) (N := 2) hx hb htb uin_Volume hown hK hP 3 rfl rfl 1 (by decide) (htb _ tw96) (fun _ h9 => h9) rfl d_Volume_freeBlocks_14 ?_
        refine lv_bipush (v := (25 : Int32)) hx hb d_Volume_freeBlocks_17 (by decide) ?_
        refine lv_iload_n hx hb d_Volume_freeBlocks_19 rfl (lv_at hl 2 rfl) ?_
        obtain ⟨x2, e2, hJ⟩ := j_bind hJ
        refine va_calli (va_runV (As := [.int (25 : Int32), .int v2]) (rest := [.int v1]) ⟨hx, hb, hml, hown, htb⟩ (c_Blocks_get_m (l := l) (dC := dC) (dI := dI) hDa e2) (xcV 2 htb tw47 tw3 tw146 tw45 tw46 rfl rfl hd_Blocks_get ⟨Nat.le_of_ble_eq_true rfl, Nat.le_of_ble_eq_true rfl⟩) (kW_V hP hK (va_recv (q0 := 5) (ci := 0) hK hP rfl rfl)) rfl rfl hl.1 rfl (lv_room (Nat.le_of_ble_eq_true rfl)) d_Volume_freeBlocks_20 ⟨Nat.le_of_ble_eq_true rfl, Nat.le_of_ble_eq_true rfl⟩) hS (fun q _ h => h) (fun q h => h) (fun r0 u t H locs ht hvm hw hB _ _ hS => ?_)
        subst r0
        have hP := kW_P hB ht
        obtain ⟨x3, e3, hJ⟩ := j_bind hJ
        refine va_calli (va_runS (As := [.int x2]) (rest := [.int v1]) ⟨hx, hb, hml, hown, htb⟩ (c_Integer_bitCount (l := l) (dC := dC) (dI := dI) (σ := σ) hDa e3) (xcS 1 htb tw149 tw12 tw147 tw148 rfl rfl hd_Integer_bitCount ⟨Nat.le_of_ble_eq_true rfl, Nat.le_of_ble_eq_true rfl⟩) (kW_S hP hK) rfl rfl hl.1 rfl (lv_room (Nat.le_of_ble_eq_true rfl)) d_Volume_freeBlocks_23 ⟨Nat.le_of_ble_eq_true rfl, Nat.le_of_ble_eq_true rfl⟩) hS (fun q _ h => h) (fun q h => h) (fun r0 u t H locs ht hvm hw hB _ _ hS => ?_)
        subst r0
        have hP := kW_P hB ht
        refine lv_isub hx hb d_Volume_freeBlocks_26 ?_
        refine lv_istore_n hx hb d_Volume_freeBlocks_27 rfl hl (Nat.le_of_ble_eq_true rfl) rfl (fun ls hl => ?_)
        have hl : lv_has ls 3 [(1, .int (v1 - x3)), (0, .ref (ga 3)), (2, .int v2)] := hl
        refine lv_iinc (k := 2) (v := (v2 + (1 : Int32))) hx hb d_Volume_freeBlocks_28 hl rfl rfl (Nat.le_of_ble_eq_true rfl) rfl (fun ls hl => ?_)
        have hl : lv_has ls 3 [(2, .int (v2 + (1 : Int32))), (1, .int (v1 - x3)), (0, .ref (ga 3))] := hl
        refine lv_goto (tgt := 6) hx hb d_Volume_freeBlocks_31 (by decide) ?_
        exact hk _ _ _ _ _ hJ (lv_sub hl [2, 1, 0] rfl) hP hS
  unfold J_Volume_freeBlocks at hJ
  refine lv_sipush (v := (128 : Int32)) hx hb d_Volume_freeBlocks_0 (by decide) ?_
  refine lv_istore_n hx hb d_Volume_freeBlocks_3 rfl hl (Nat.le_of_ble_eq_true rfl) rfl (fun ls hl => ?_)
  have hl : lv_has ls 3 [(1, .int (128 : Int32)), (0, .ref (ga 3))] := hl
  refine lv_iconst (v := (0 : Int32)) hx hb d_Volume_freeBlocks_4 (by decide) ?_
  refine lv_istore_n hx hb d_Volume_freeBlocks_5 rfl hl (Nat.le_of_ble_eq_true rfl) rfl (fun ls hl => ?_)
  have hl : lv_has ls 3 [(2, .int (0 : Int32)), (1, .int (128 : Int32)), (0, .ref (ga 3))] := hl
  exact blk6 9000 _ _ _ _ _ hJ (lv_sub hl [2, 1, 0] rfl) hP hS
def J_Volume_contentBlock (σ : CS) (a1 : Int32) (a2 : Int32) : Option (Int32) :=
  (if (10 : Int32) ≤ a2 then (J_Volume_inodeByte σ a1 (14 : Int32)).bind fun x2 => (if x2 = (0 : Int32) then some (0 : Int32) else (J_Blocks_get_m σ x2 (a2 - (10 : Int32))).bind fun x4 => some x4) else (J_Volume_inodeByte σ a1 ((4 : Int32) + a2)).bind fun x5 => some x5)
abbrev rm_Volume_contentBlock : Room := { frames := 2, cells := 0, slots := 0, locals := 44 }
set_option maxHeartbeats 4000000 in
set_option maxRecDepth 100000 in
theorem c_Volume_contentBlock {l : Launch} {dC : Nat → ClassId} {dI : Nat → Nat → Nat} {ga : Nat → Nat} {cB cI : ClassId} {A : Nat → Prop} (hDa : ∀ σ, va_D A (wC ga cB cI σ)) {σ : CS} {a1 : Int32} {a2 : Int32} {res : Int32} (hJ : J_Volume_contentBlock σ a1 a2 = some res) :
    Met l y_Volume_contentBlock (mw y_Volume_contentBlock b_Volume_contentBlock 4 (some .int)) rm_Volume_contentBlock (va_Pc [.ref (ga 3), .int a1, .int a2] (kW (dC, dI) (tC cB cI) (wC ga cB cI σ))) (va_Qi (fun (x : Int32) (_ : Unit) => x = res) (fun _ t => kW (dC, dI) (tC cB cI) (wC ga cB cI σ) t) A) 0 0 A := by
  refine Met.ofW (cc := b_Volume_contentBlock) (maxL := 4) (ret := (some .int)) (by decide) rfl ?_
  intro p e s m args below meth c s₁ B hml hv
  obtain ⟨rfl, hP, hK⟩ := hv
  have hx := B.exec
  have hb := B.bytes
  have hr := B.returns
  have hts := atoms_spec (ws := (mw y_Volume_contentBlock b_Volume_contentBlock 4 (some .int))) B.pre
  have htb : ∀ w ∈ tb, w.before [.ref (ga 3), .int a1, .int a2].toArray s = true := fun w h => hts w (mwIn h)
  have hown : s.vm.findClass "LogFs$Volume" = some m.cls := findClass_of_methodNamed B.named
  have hlocks := B.notSynchronized
  have hS : va_S A s.heap s.heap [] := va_S.rf
  have hl := lv_entry ([.ref (ga 3), .int a1, .int a2]) (n := 4) (Nat.le_of_ble_eq_true rfl)
  rw [lg_entry_eq]
  generalize (lg_sl ([.ref (ga 3), .int a1, .int a2]) ++ List.replicate (4 - (lg_sl ([.ref (ga 3), .int a1, .int a2])).length) Slot.unset).toArray = ls at hl ⊢
  have hl : lv_has ls 4 [(0, .ref (ga 3)), (1, .int a1), (2, .int a2)] := hl
  unfold J_Volume_contentBlock at hJ
  refine lv_iload_n hx hb d_Volume_contentBlock_0 rfl (lv_at hl 2 rfl) ?_
  refine lv_bipush (v := (10 : Int32)) hx hb d_Volume_contentBlock_1 (by decide) ?_
  refine lv_icmp_ge (tgt := 15) hx hb d_Volume_contentBlock_3 (by decide) (fun h1 => ?_) (fun h1 => ?_)
  · have hJ := j_t hJ h1
    refine lv_aload_n hx hb d_Volume_contentBlock_15 rfl (lv_at hl 0 rfl) ?_
    refine lv_iload_n hx hb d_Volume_contentBlock_16 rfl (lv_at hl 1 rfl) ?_
    refine lv_bipush (v := (14 : Int32)) hx hb d_Volume_contentBlock_17 (by decide) ?_
    obtain ⟨x2, e2, hJ⟩ := j_bind hJ
    refine va_calli (va_runV (As := [.int a1, .int (14 : Int32)]) (rest := []) ⟨hx, hb, hml, hown, htb⟩ (c_Volume_inodeByte (l := l) (dC := dC) (dI := dI) hDa e2) (xcV 2 htb tw164 tw5 tw161 tw163 ts_Volume_inodeByte rfl rfl hd_Volume_inodeByte ⟨Nat.le_of_ble_eq_true rfl, Nat.le_of_ble_eq_true rfl⟩) (kW_V hP hK (va_recv (q0 := 3) (ci := 3) hK hP rfl rfl)) rfl rfl hl.1 rfl (lv_room (Nat.le_of_ble_eq_true rfl)) d_Volume_contentBlock_19 ⟨Nat.le_of_ble_eq_true rfl, Nat.le_of_ble_eq_true rfl⟩) hS (fun q _ h => h) (fun q h => h) (fun r0 u t H locs ht hvm hw hB _ _ hS => ?_)
    subst r0
    have hP := kW_P hB ht
    refine lv_istore_n hx hb d_Volume_contentBlock_22 rfl hl (Nat.le_of_ble_eq_true rfl) rfl (fun ls hl => ?_)
    have hl : lv_has ls 4 [(3, .int x2), (0, .ref (ga 3)), (1, .int a1), (2, .int a2)] := hl
    refine lv_iload_n hx hb d_Volume_contentBlock_23 rfl (lv_at hl 0 rfl) ?_
    refine lv_if_ne (tgt := 31) hx hb d_Volume_contentBlock_24 (by decide) (fun h3 => ?_) (fun h3 => ?_)
    · have hJ := j_f hJ h3
      refine lv_aload_n hx hb d_Volume_contentBlock_31 rfl (lv_at hl 1 rfl) ?_
      refine va_get (D := (dC, dI)) (ci := 3) (v := .ref (ga 5)) (C := R_Volume) (T := T_Volume) (N := 2) hx hb htb uin_Volume hown hK hP 3 rfl rfl 1 (by decide) (htb _ tw96) (fun _ h9 => h9) rfl d_Volume_contentBlock_32 ?_
      refine lv_iload_n hx hb d_Volume_contentBlock_35 rfl (lv_at hl 0 rfl) ?_
      refine lv_iload_n hx hb d_Volume_contentBlock_36 rfl (lv_at hl 3 rfl) ?_
      refine lv_bipush (v := (10 : Int32)) hx hb d_Volume_contentBlock_37 (by decide) ?_
      refine lv_isub hx hb d_Volume_contentBlock_39 ?_
      obtain ⟨x4, e4, hJ⟩ := j_bind hJ
      refine va_calli (va_runV (As := [.int x2, .int (a2 - (10 : Int32))]) (rest := []) ⟨hx, hb, hml, hown, htb⟩ (c_Blocks_get_m (l := l) (dC := dC) (dI := dI) hDa e4) (xcV 2 htb tw47 tw3 tw146 tw45 tw46 rfl rfl hd_Blocks_get ⟨Nat.le_of_ble_eq_true rfl, Nat.le_of_ble_eq_true rfl⟩) (kW_V hP hK (va_recv (q0 := 5) (ci := 0) hK hP rfl rfl)) rfl rfl hl.1 rfl (lv_room (Nat.le_of_ble_eq_true rfl)) d_Volume_contentBlock_40 ⟨Nat.le_of_ble_eq_true rfl, Nat.le_of_ble_eq_true rfl⟩) hS (fun q _ h => h) (fun q h => h) (fun r0 u t H locs ht hvm hw hB _ _ hS => ?_)
      subst r0
      have hP := kW_P hB ht
      have hJ := Option.some.inj hJ
      exact W.iret (v := x4) hx hb hr (fun t ht hW => ⟨⟨_, (), rfl, hJ, kW_end hP hK ht hW rfl⟩, hS.F ht⟩) hS.2.2 d_Volume_contentBlock_43
    · have hJ := j_t hJ h3
      refine lv_iconst (v := (0 : Int32)) hx hb d_Volume_contentBlock_27 (by decide) ?_
      refine lv_goto (tgt := 43) hx hb d_Volume_contentBlock_28 (by decide) ?_
      have hJ := Option.some.inj hJ
      exact W.iret (v := (0 : Int32)) hx hb hr (fun t ht hW => ⟨⟨_, (), rfl, hJ, kW_end hP hK ht hW rfl⟩, hS.F ht⟩) hS.2.2 d_Volume_contentBlock_43
  · have hJ := j_f hJ h1
    refine lv_aload_n hx hb d_Volume_contentBlock_6 rfl (lv_at hl 0 rfl) ?_
    refine lv_iload_n hx hb d_Volume_contentBlock_7 rfl (lv_at hl 1 rfl) ?_
    refine lv_iconst (v := (4 : Int32)) hx hb d_Volume_contentBlock_8 (by decide) ?_
    refine lv_iload_n hx hb d_Volume_contentBlock_9 rfl (lv_at hl 2 rfl) ?_
    refine lv_iadd hx hb d_Volume_contentBlock_10 ?_
    obtain ⟨x5, e5, hJ⟩ := j_bind hJ
    refine va_calli (va_runV (As := [.int a1, .int ((4 : Int32) + a2)]) (rest := []) ⟨hx, hb, hml, hown, htb⟩ (c_Volume_inodeByte (l := l) (dC := dC) (dI := dI) hDa e5) (xcV 2 htb tw164 tw5 tw161 tw163 ts_Volume_inodeByte rfl rfl hd_Volume_inodeByte ⟨Nat.le_of_ble_eq_true rfl, Nat.le_of_ble_eq_true rfl⟩) (kW_V hP hK (va_recv (q0 := 3) (ci := 3) hK hP rfl rfl)) rfl rfl hl.1 rfl (lv_room (Nat.le_of_ble_eq_true rfl)) d_Volume_contentBlock_11 ⟨Nat.le_of_ble_eq_true rfl, Nat.le_of_ble_eq_true rfl⟩) hS (fun q _ h => h) (fun q h => h) (fun r0 u t H locs ht hvm hw hB _ _ hS => ?_)
    subst r0
    have hP := kW_P hB ht
    have hJ := Option.some.inj hJ
    exact W.iret (v := x5) hx hb hr (fun t ht hW => ⟨⟨_, (), rfl, hJ, kW_end hP hK ht hW rfl⟩, hS.F ht⟩) hS.2.2 d_Volume_contentBlock_14
def J_Volume_contentByte (σ : CS) (a1 : Int32) (a2 : Int32) : Option (Int32) :=
  (J_Volume_contentBlock σ a1 (a2 / (64 : Int32))).bind fun x1 => (J_Blocks_get_m σ x1 (a2 - a2 / (64 : Int32) * (64 : Int32))).bind fun x2 => some x2
abbrev rm_Volume_contentByte : Room := { frames := 3, cells := 0, slots := 0, locals := 67 }
set_option maxHeartbeats 4000000 in
set_option maxRecDepth 100000 in
theorem c_Volume_contentByte {l : Launch} {dC : Nat → ClassId} {dI : Nat → Nat → Nat} {ga : Nat → Nat} {cB cI : ClassId} {A : Nat → Prop} (hDa : ∀ σ, va_D A (wC ga cB cI σ)) {σ : CS} {a1 : Int32} {a2 : Int32} {res : Int32} (hJ : J_Volume_contentByte σ a1 a2 = some res) :
    Met l y_Volume_contentByte (mw y_Volume_contentByte b_Volume_contentByte 3 (some .int)) rm_Volume_contentByte (va_Pc [.ref (ga 3), .int a1, .int a2] (kW (dC, dI) (tC cB cI) (wC ga cB cI σ))) (va_Qi (fun (x : Int32) (_ : Unit) => x = res) (fun _ t => kW (dC, dI) (tC cB cI) (wC ga cB cI σ) t) A) 0 0 A := by
  refine Met.ofW (cc := b_Volume_contentByte) (maxL := 3) (ret := (some .int)) (by decide) rfl ?_
  intro p e s m args below meth c s₁ B hml hv
  obtain ⟨rfl, hP, hK⟩ := hv
  have hx := B.exec
  have hb := B.bytes
  have hr := B.returns
  have hts := atoms_spec (ws := (mw y_Volume_contentByte b_Volume_contentByte 3 (some .int))) B.pre
  have htb : ∀ w ∈ tb, w.before [.ref (ga 3), .int a1, .int a2].toArray s = true := fun w h => hts w (mwIn h)
  have hown : s.vm.findClass "LogFs$Volume" = some m.cls := findClass_of_methodNamed B.named
  have hlocks := B.notSynchronized
  have hS : va_S A s.heap s.heap [] := va_S.rf
  have hl := lv_entry ([.ref (ga 3), .int a1, .int a2]) (n := 3) (Nat.le_of_ble_eq_true rfl)
  rw [lg_entry_eq]
  generalize (lg_sl ([.ref (ga 3), .int a1, .int a2]) ++ List.replicate (3 - (lg_sl ([.ref (ga 3), .int a1, .int a2])).length) Slot.unset).toArray = ls at hl ⊢
  have hl : lv_has ls 3 [(0, .ref (ga 3)), (1, .int a1), (2, .int a2)] := hl
  unfold J_Volume_contentByte at hJ
  refine lv_aload_n hx hb d_Volume_contentByte_0 rfl (lv_at hl 0 rfl) ?_
  refine va_get (D := (dC, dI)) (ci := 3) (v := .ref (ga 5)) (C := R_Volume) (T := T_Volume) (N := 2) hx hb htb uin_Volume hown hK hP 3 rfl rfl 1 (by decide) (htb _ tw96) (fun _ h9 => h9) rfl d_Volume_contentByte_1 ?_
  refine lv_aload_n hx hb d_Volume_contentByte_4 rfl (lv_at hl 0 rfl) ?_
  refine lv_iload_n hx hb d_Volume_contentByte_5 rfl (lv_at hl 1 rfl) ?_
  refine lv_iload_n hx hb d_Volume_contentByte_6 rfl (lv_at hl 2 rfl) ?_
  refine lv_bipush (v := (64 : Int32)) hx hb d_Volume_contentByte_7 (by decide) ?_
  refine lv_idiv hx hb d_Volume_contentByte_9 (by decide) ?_
  obtain ⟨x1, e1, hJ⟩ := j_bind hJ
  refine va_calli (va_runV (As := [.int a1, .int (a2 / (64 : Int32))]) (rest := [.ref (ga 5)]) ⟨hx, hb, hml, hown, htb⟩ (c_Volume_contentBlock (l := l) (dC := dC) (dI := dI) hDa e1) (xcV 2 htb tw285 tw5 tw282 tw284 ts_Volume_contentBlock rfl rfl hd_Volume_contentBlock ⟨Nat.le_of_ble_eq_true rfl, Nat.le_of_ble_eq_true rfl⟩) (kW_V hP hK (va_recv (q0 := 3) (ci := 3) hK hP rfl rfl)) rfl rfl hl.1 rfl (lv_room (Nat.le_of_ble_eq_true rfl)) d_Volume_contentByte_10 ⟨Nat.le_of_ble_eq_true rfl, Nat.le_of_ble_eq_true rfl⟩) hS (fun q _ h => h) (fun q h => h) (fun r0 u t H locs ht hvm hw hB _ _ hS => ?_)
  subst r0
  have hP := kW_P hB ht
  refine lv_iload_n hx hb d_Volume_contentByte_13 rfl (lv_at hl 2 rfl) ?_
  refine lv_bipush (v := (64 : Int32)) hx hb d_Volume_contentByte_14 (by decide) ?_
  refine lv_irem hx hb d_Volume_contentByte_16 (by decide) ?_
  obtain ⟨x2, e2, hJ⟩ := j_bind hJ
  refine va_calli (va_runV (As := [.int x1, .int (a2 - a2 / (64 : Int32) * (64 : Int32))]) (rest := []) ⟨hx, hb, hml, hown, htb⟩ (c_Blocks_get_m (l := l) (dC := dC) (dI := dI) hDa e2) (xcV 2 htb tw47 tw3 tw146 tw45 tw46 rfl rfl hd_Blocks_get ⟨Nat.le_of_ble_eq_true rfl, Nat.le_of_ble_eq_true rfl⟩) (kW_V hP hK (va_recv (q0 := 5) (ci := 0) hK hP rfl rfl)) rfl rfl hl.1 rfl (lv_room (Nat.le_of_ble_eq_true rfl)) d_Volume_contentByte_17 ⟨Nat.le_of_ble_eq_true rfl, Nat.le_of_ble_eq_true rfl⟩) hS (fun q _ h => h) (fun q h => h) (fun r0 u t H locs ht hvm hw hB _ _ hS => ?_)
  subst r0
  have hP := kW_P hB ht
  have hJ := Option.some.inj hJ
  exact W.iret (v := x2) hx hb hr (fun t ht hW => ⟨⟨_, (), rfl, hJ, kW_end hP hK ht hW rfl⟩, hS.F ht⟩) hS.2.2 d_Volume_contentByte_20
def J_Volume_entryAt_16_b (k : Int32 → Int32 → Int64 → Int32 → Option (Int64)) (σ : CS) (v2 : Int32) (v3 : Int32) (v4 : Int64) (v6 : Int32) : Option (Int64) :=
  (if (8 : Int32) ≤ v6 then some v4 else (J_Blocks_get_m σ v3 ((v2 - v2 / (64 : Int32) * (64 : Int32)) + v6)).bind fun x3 => k v2 v3 ((v4 <<< ((8 : Int32).toInt64 &&& 63)) ||| x3.toInt64) (v6 + (1 : Int32)))
def J_Volume_entryAt_16 : Nat → CS → Int32 → Int32 → Int64 → Int32 → Option (Int64)
  | 0, _, _, _, _, _ => none
  | n + 1, σ, v2, v3, v4, v6 => J_Volume_entryAt_16_b (J_Volume_entryAt_16 n σ) σ v2 v3 v4 v6
def J_Volume_entryAt (σ : CS) (a1 : Int32) (a2 : Int32) : Option (Int64) :=
  (J_Volume_contentBlock σ a1 (a2 / (64 : Int32))).bind fun x1 => J_Volume_entryAt_16 9000 σ a2 x1 (0 : Int64) (0 : Int32)
abbrev rm_Volume_entryAt : Room := { frames := 3, cells := 0, slots := 0, locals := 67 }
set_option maxHeartbeats 4000000 in
set_option maxRecDepth 100000 in
theorem c_Volume_entryAt {l : Launch} {dC : Nat → ClassId} {dI : Nat → Nat → Nat} {ga : Nat → Nat} {cB cI : ClassId} {A : Nat → Prop} (hDa : ∀ σ, va_D A (wC ga cB cI σ)) {σ : CS} {a1 : Int32} {a2 : Int32} {res : Int64} (hJ : J_Volume_entryAt σ a1 a2 = some res) :
    Met l y_Volume_entryAt (mw y_Volume_entryAt b_Volume_entryAt 7 (some .long)) rm_Volume_entryAt (va_Pc [.ref (ga 3), .int a1, .int a2] (kW (dC, dI) (tC cB cI) (wC ga cB cI σ))) (va_Ql (fun (x : Int64) (_ : Unit) => x = res) (fun _ t => kW (dC, dI) (tC cB cI) (wC ga cB cI σ) t) A) 0 0 A := by
  refine Met.ofW (cc := b_Volume_entryAt) (maxL := 7) (ret := (some .long)) (by decide) rfl ?_
  intro p e s m args below meth c s₁ B hml hv
  obtain ⟨rfl, hP, hK⟩ := hv
  have hx := B.exec
  have hb := B.bytes
  have hr := B.returns
  have hts := atoms_spec (ws := (mw y_Volume_entryAt b_Volume_entryAt 7 (some .long))) B.pre
  have htb : ∀ w ∈ tb, w.before [.ref (ga 3), .int a1, .int a2].toArray s = true := fun w h => hts w (mwIn h)
  have hown : s.vm.findClass "LogFs$Volume" = some m.cls := findClass_of_methodNamed B.named
  have hlocks := B.notSynchronized
  have hS : va_S A s.heap s.heap [] := va_S.rf
  have hl := lv_entry ([.ref (ga 3), .int a1, .int a2]) (n := 7) (Nat.le_of_ble_eq_true rfl)
  rw [lg_entry_eq]
  generalize (lg_sl ([.ref (ga 3), .int a1, .int a2]) ++ List.replicate (7 - (lg_sl ([.ref (ga 3), .int a1, .int a2])).length) Slot.unset).toArray = ls at hl ⊢
  have hl : lv_has ls 7 [(0, .ref (ga 3)), (1, .int a1), (2, .int a2)] := hl
  have blk16 : ∀ (n : Nat) (v2 : Int32) (v3 : Int32) (v4 : Int64) (v6 : Int32) (ls : Array Slot) (H : Heap) (locs : List Loc), J_Volume_entryAt_16 n σ v2 v3 v4 v6 = some res → lv_has ls 7 [(0, .ref (ga 3)), (2, .int v2), (3, .int v3), (4, .long v4), (6, .int v6)] → va_P (dC, dI) cls (wC ga cB cI σ) H → va_S A s.heap H locs → W p l e (headSpec (mw y_Volume_entryAt b_Volume_entryAt 7 (some .long)) rm_Volume_entryAt).room s m [.ref (ga 3), .int a1, .int a2].toArray below meth c H locs 0 0 (MQ below (va_Ql (fun (x : Int64) (_ : Unit) => x = res) (fun _ t => kW (dC, dI) (tC cB cI) (wC ga cB cI σ) t) A) [.ref (ga 3), .int a1, .int a2].toArray s 0 0 A) (F0 m 16 ls []) := by
    intro n
    induction n with
    | zero => intro v2 v3 v4 v6 ls H locs hJ; exact j_none hJ
    | succ n hk =>
      intro v2 v3 v4 v6 ls H locs hJ hl hP hS
      have hJ : J_Volume_entryAt_16_b (J_Volume_entryAt_16 n σ) σ v2 v3 v4 v6 = some res := hJ
      unfold J_Volume_entryAt_16_b at hJ
      refine lv_iload hx hb d_Volume_entryAt_16 (lv_at hl 4 rfl) ?_
      refine lv_bipush (v := (8 : Int32)) hx hb d_Volume_entryAt_18 (by decide) ?_
      refine lv_icmp_ge (tgt := 53) hx hb d_Volume_entryAt_20 (by decide) (fun h2 => ?_) (fun h2 => ?_)
      · have hJ := j_t hJ h2
        refine lv_lload hx hb d_Volume_entryAt_53 (lv_at hl 3 rfl) ?_
        have hJ := Option.some.inj hJ
        exact W.lret (v := v4) hx hb hr (fun t ht hW => ⟨⟨_, (), rfl, hJ, kW_end hP hK ht hW rfl⟩, hS.F ht⟩) hS.2.2 d_Volume_entryAt_55
      · have hJ := j_f hJ h2
        refine lv_lload hx hb d_Volume_entryAt_23 (lv_at hl 3 rfl) ?_
        refine lv_bipush (v := (8 : Int32)) hx hb d_Volume_entryAt_25 (by decide) ?_
        refine lv_lshl hx hb d_Volume_entryAt_27 rfl ?_
        refine lv_aload_n hx hb d_Volume_entryAt_28 rfl (lv_at hl 0 rfl) ?_
        refine va_get (D := (dC, dI)) (ci := 3) (v := .ref (ga 5)) (C := R_Volume) (T := T_Volume) (N := 2) hx hb htb uin_Volume hown hK hP 3 rfl rfl 1 (by decide) (htb _ tw96) (fun _ h9 => h9) rfl d_Volume_entryAt_29 ?_
        refine lv_iload_n hx hb d_Volume_entryAt_32 rfl (lv_at hl 2 rfl) ?_
        refine lv_iload_n hx hb d_Volume_entryAt_33 rfl (lv_at hl 1 rfl) ?_
        refine lv_bipush (v := (64 : Int32)) hx hb d_Volume_entryAt_34 (by decide) ?_
        refine lv_irem hx hb d_Volume_entryAt_36 (by decide) ?_
        refine lv_iload hx hb d_Volume_entryAt_37 (lv_at hl 4 rfl) ?_
        refine lv_iadd hx hb d_Volume_entryAt_39 ?_
        obtain ⟨x3, e3, hJ⟩ := j_bind hJ
        refine va_calli (va_runV (As := [.int v3, .int ((v2 - v2 / (64 : Int32) * (64 : Int32)) + v6)]) (rest := [.long (v4 <<< ((8 : Int32).toInt64 &&& 63))]) ⟨hx, hb, hml, hown, htb⟩ (c_Blocks_get_m (l := l) (dC := dC) (dI := dI) hDa e3) (xcV 2 htb tw47 tw3 tw146 tw45 tw46 rfl rfl hd_Blocks_get ⟨Nat.le_of_ble_eq_true rfl, Nat.le_of_ble_eq_true rfl⟩) (kW_V hP hK (va_recv (q0 := 5) (ci := 0) hK hP rfl rfl)) rfl rfl hl.1 rfl (lv_room (Nat.le_of_ble_eq_true rfl)) d_Volume_entryAt_40 ⟨Nat.le_of_ble_eq_true rfl, Nat.le_of_ble_eq_true rfl⟩) hS (fun q _ h => h) (fun q h => h) (fun r0 u t H locs ht hvm hw hB _ _ hS => ?_)
        subst r0
        have hP := kW_P hB ht
        refine lv_i2l hx hb d_Volume_entryAt_43 rfl ?_
        refine lv_lor hx hb d_Volume_entryAt_44 ?_
        refine lv_lstore hx hb d_Volume_entryAt_45 hl (Nat.le_of_ble_eq_true rfl) rfl (fun ls hl => ?_)
        have hl : lv_has ls 7 [(4, .long ((v4 <<< ((8 : Int32).toInt64 &&& 63)) ||| x3.toInt64)), (0, .ref (ga 3)), (2, .int v2), (3, .int v3), (6, .int v6)] := hl
        refine lv_iinc (k := 4) (v := (v6 + (1 : Int32))) hx hb d_Volume_entryAt_47 hl rfl rfl (Nat.le_of_ble_eq_true rfl) rfl (fun ls hl => ?_)
        have hl : lv_has ls 7 [(6, .int (v6 + (1 : Int32))), (4, .long ((v4 <<< ((8 : Int32).toInt64 &&& 63)) ||| x3.toInt64)), (0, .ref (ga 3)), (2, .int v2), (3, .int v3)] := hl
        refine lv_goto (tgt := 16) hx hb d_Volume_entryAt_50 (by decide) ?_
        exact hk _ _ _ _ _ _ _ hJ (lv_sub hl [2, 3, 4, 1, 0] rfl) hP hS
  unfold J_Volume_entryAt at hJ
  refine lv_aload_n hx hb d_Volume_entryAt_0 rfl (lv_at hl 0 rfl) ?_
  refine lv_iload_n hx hb d_Volume_entryAt_1 rfl (lv_at hl 1 rfl) ?_
  refine lv_iload_n hx hb d_Volume_entryAt_2 rfl (lv_at hl 2 rfl) ?_
  refine lv_bipush (v := (64 : Int32)) hx hb d_Volume_entryAt_3 (by decide) ?_
  refine lv_idiv hx hb d_Volume_entryAt_5 (by decide) ?_
  obtain ⟨x1, e1, hJ⟩ := j_bind hJ
  refine va_calli (va_runV (As := [.int a1, .int (a2 / (64 : Int32))]) (rest := []) ⟨hx, hb, hml, hown, htb⟩ (c_Volume_contentBlock (l := l) (dC := dC) (dI := dI) hDa e1) (xcV 2 htb tw285 tw5 tw282 tw284 ts_Volume_contentBlock rfl rfl hd_Volume_contentBlock ⟨Nat.le_of_ble_eq_true rfl, Nat.le_of_ble_eq_true rfl⟩) (kW_V hP hK (va_recv (q0 := 3) (ci := 3) hK hP rfl rfl)) rfl rfl hl.1 rfl (lv_room (Nat.le_of_ble_eq_true rfl)) d_Volume_entryAt_6 ⟨Nat.le_of_ble_eq_true rfl, Nat.le_of_ble_eq_true rfl⟩) hS (fun q _ h => h) (fun q h => h) (fun r0 u t H locs ht hvm hw hB _ _ hS => ?_)
  subst r0
  have hP := kW_P hB ht
  refine lv_istore_n hx hb d_Volume_entryAt_9 rfl hl (Nat.le_of_ble_eq_true rfl) rfl (fun ls hl => ?_)
  have hl : lv_has ls 7 [(3, .int x1), (0, .ref (ga 3)), (1, .int a1), (2, .int a2)] := hl
  refine lv_lconst (v := (0 : Int64)) hx hb d_Volume_entryAt_10 (by decide) ?_
  refine lv_lstore hx hb d_Volume_entryAt_11 hl (Nat.le_of_ble_eq_true rfl) rfl (fun ls hl => ?_)
  have hl : lv_has ls 7 [(4, .long (0 : Int64)), (3, .int x1), (0, .ref (ga 3)), (1, .int a1), (2, .int a2)] := hl
  refine lv_iconst (v := (0 : Int32)) hx hb d_Volume_entryAt_13 (by decide) ?_
  refine lv_istore hx hb d_Volume_entryAt_14 hl (Nat.le_of_ble_eq_true rfl) rfl (fun ls hl => ?_)
  have hl : lv_has ls 7 [(6, .int (0 : Int32)), (4, .long (0 : Int64)), (3, .int x1), (0, .ref (ga 3)), (1, .int a1), (2, .int a2)] := hl
  exact blk16 9000 _ _ _ _ _ _ _ hJ (lv_sub hl [3, 5, 2, 1, 0] rfl) hP hS
def J_Volume_placeOf_27_b (k : Int32 → Int64 → Int32 → Int32 → Option (Int32)) (σ : CS) (v1 : Int32) (v2 : Int64) (v4 : Int32) (v5 : Int32) : Option (Int32) :=
  (if v4 ≤ v5 then some ((-1) : Int32) else (J_Volume_entryAt σ v1 v5).bind fun x7 => (if (lg_cmp (x7 <<< ((8 : Int32).toInt64 &&& 63)) v2) = (0 : Int32) then some v5 else k v1 v2 v4 (v5 + (8 : Int32))))
def J_Volume_placeOf_27 : Nat → CS → Int32 → Int64 → Int32 → Int32 → Option (Int32)
  | 0, _, _, _, _, _ => none
  | n + 1, σ, v1, v2, v4, v5 => J_Volume_placeOf_27_b (J_Volume_placeOf_27 n σ) σ v1 v2 v4 v5
def J_Volume_placeOf (σ : CS) (a1 : Int32) (a2 : Int64) : Option (Int32) :=
  (J_Volume_isDirectory σ a1).bind fun x1 => (if x1 = (0 : Int32) then some ((-1) : Int32) else (J_LogFs_isName a2).bind fun x3 => (if x3 = (0 : Int32) then some ((-1) : Int32) else (J_Volume_size σ a1).bind fun x5 => J_Volume_placeOf_27 9000 σ a1 a2 x5 (0 : Int32)))
abbrev rm_Volume_placeOf : Room := { frames := 4, cells := 0, slots := 0, locals := 93 }
set_option maxHeartbeats 4000000 in
set_option maxRecDepth 100000 in
theorem c_Volume_placeOf {l : Launch} {dC : Nat → ClassId} {dI : Nat → Nat → Nat} {ga : Nat → Nat} {cB cI : ClassId} {A : Nat → Prop} (hDa : ∀ σ, va_D A (wC ga cB cI σ)) {σ : CS} {a1 : Int32} {a2 : Int64} {res : Int32} (hJ : J_Volume_placeOf σ a1 a2 = some res) :
    Met l y_Volume_placeOf (mw y_Volume_placeOf b_Volume_placeOf 6 (some .int)) rm_Volume_placeOf (va_Pc [.ref (ga 3), .int a1, .long a2] (kW (dC, dI) (tC cB cI) (wC ga cB cI σ))) (va_Qi (fun (x : Int32) (_ : Unit) => x = res) (fun _ t => kW (dC, dI) (tC cB cI) (wC ga cB cI σ) t) A) 0 0 A := by
  refine Met.ofW (cc := b_Volume_placeOf) (maxL := 6) (ret := (some .int)) (by decide) rfl ?_
  intro p e s m args below meth c s₁ B hml hv
  obtain ⟨rfl, hP, hK⟩ := hv
  have hx := B.exec
  have hb := B.bytes
  have hr := B.returns
  have hts := atoms_spec (ws := (mw y_Volume_placeOf b_Volume_placeOf 6 (some .int))) B.pre
  have htb : ∀ w ∈ tb, w.before [.ref (ga 3), .int a1, .long a2].toArray s = true := fun w h => hts w (mwIn h)
  have hown : s.vm.findClass "LogFs$Volume" = some m.cls := findClass_of_methodNamed B.named
  have hlocks := B.notSynchronized
  have hS : va_S A s.heap s.heap [] := va_S.rf
  have hl := lv_entry ([.ref (ga 3), .int a1, .long a2]) (n := 6) (Nat.le_of_ble_eq_true rfl)
  rw [lg_entry_eq]
  generalize (lg_sl ([.ref (ga 3), .int a1, .long a2]) ++ List.replicate (6 - (lg_sl ([.ref (ga 3), .int a1, .long a2])).length) Slot.unset).toArray = ls at hl ⊢
  have hl : lv_has ls 6 [(0, .ref (ga 3)), (1, .int a1), (2, .long a2)] := hl
  have blk27 : ∀ (n : Nat) (v1 : Int32) (v2 : Int64) (v4 : Int32) (v5 : Int32) (ls : Array Slot) (H : Heap) (locs : List Loc), J_Volume_placeOf_27 n σ v1 v2 v4 v5 = some res → lv_has ls 6 [(0, .ref (ga 3)), (1, .int v1), (2, .long v2), (4, .int v4), (5, .int v5)] → va_P (dC, dI) cls (wC ga cB cI σ) H → va_S A s.heap H locs → W p l e (headSpec (mw y_Volume_placeOf b_Volume_placeOf 6 (some .int)) rm_Volume_placeOf).room s m [.ref (ga 3), .int a1, .long a2].toArray below meth c H locs 0 0 (MQ below (va_Qi (fun (x : Int32) (_ : Unit) => x = res) (fun _ t => kW (dC, dI) (tC cB cI) (wC ga cB cI σ) t) A) [.ref (ga 3), .int a1, .long a2].toArray s 0 0 A) (F0 m 27 ls []) := by
    intro n
    induction n with
    | zero => intro v1 v2 v4 v5 ls H locs hJ; exact j_none hJ
    | succ n hk =>
      intro v1 v2 v4 v5 ls H locs hJ hl hP hS
      have hJ : J_Volume_placeOf_27_b (J_Volume_placeOf_27 n σ) σ v1 v2 v4 v5 = some res := hJ
      unfold J_Volume_placeOf_27_b at hJ
      refine lv_iload hx hb d_Volume_placeOf_27 (lv_at hl 4 rfl) ?_
      refine lv_iload hx hb d_Volume_placeOf_29 (lv_at hl 3 rfl) ?_
      refine lv_icmp_ge (tgt := 58) hx hb d_Volume_placeOf_31 (by decide) (fun h6 => ?_) (fun h6 => ?_)
      · have hJ := j_t hJ h6
        refine lv_iconst (v := ((-1) : Int32)) hx hb d_Volume_placeOf_58 (by decide) ?_
        have hJ := Option.some.inj hJ
        exact W.iret (v := ((-1) : Int32)) hx hb hr (fun t ht hW => ⟨⟨_, (), rfl, hJ, kW_end hP hK ht hW rfl⟩, hS.F ht⟩) hS.2.2 d_Volume_placeOf_59
      · have hJ := j_f hJ h6
        refine lv_aload_n hx hb d_Volume_placeOf_34 rfl (lv_at hl 0 rfl) ?_
        refine lv_iload_n hx hb d_Volume_placeOf_35 rfl (lv_at hl 1 rfl) ?_
        refine lv_iload hx hb d_Volume_placeOf_36 (lv_at hl 4 rfl) ?_
        obtain ⟨x7, e7, hJ⟩ := j_bind hJ
        refine va_calll (va_runV (As := [.int v1, .int v5]) (rest := []) ⟨hx, hb, hml, hown, htb⟩ (c_Volume_entryAt (l := l) (dC := dC) (dI := dI) hDa e7) (xcV 2 htb tw281 tw5 tw278 tw280 ts_Volume_entryAt rfl rfl hd_Volume_entryAt ⟨Nat.le_of_ble_eq_true rfl, Nat.le_of_ble_eq_true rfl⟩) (kW_V hP hK (va_recv (q0 := 3) (ci := 3) hK hP rfl rfl)) rfl rfl hl.1 rfl (lv_room (Nat.le_of_ble_eq_true rfl)) d_Volume_placeOf_38 ⟨Nat.le_of_ble_eq_true rfl, Nat.le_of_ble_eq_true rfl⟩) hS (fun q _ h => h) (fun q h => h) (fun r0 u t H locs ht hvm hw hB _ _ hS => ?_)
        subst r0
        have hP := kW_P hB ht
        refine lv_bipush (v := (8 : Int32)) hx hb d_Volume_placeOf_41 (by decide) ?_
        refine lv_lshl hx hb d_Volume_placeOf_43 rfl ?_
        refine lv_lload_n hx hb d_Volume_placeOf_44 rfl (lv_at hl 2 rfl) ?_
        refine W.lcmp hx hb d_Volume_placeOf_45 ?_
        refine lv_if_ne (tgt := 52) hx hb d_Volume_placeOf_46 (by decide) (fun h8 => ?_) (fun h8 => ?_)
        · have hJ := j_f hJ h8
          refine lv_iinc (k := 4) (v := (v5 + (8 : Int32))) hx hb d_Volume_placeOf_52 hl rfl rfl (Nat.le_of_ble_eq_true rfl) rfl (fun ls hl => ?_)
          have hl : lv_has ls 6 [(5, .int (v5 + (8 : Int32))), (0, .ref (ga 3)), (1, .int v1), (2, .long v2), (4, .int v4)] := hl
          refine lv_goto (tgt := 27) hx hb d_Volume_placeOf_55 (by decide) ?_
          exact hk _ _ _ _ _ _ _ hJ (lv_sub hl [1, 2, 3, 4, 0] rfl) hP hS
        · have hJ := j_t hJ h8
          refine lv_iload hx hb d_Volume_placeOf_49 (lv_at hl 4 rfl) ?_
          have hJ := Option.some.inj hJ
          exact W.iret (v := v5) hx hb hr (fun t ht hW => ⟨⟨_, (), rfl, hJ, kW_end hP hK ht hW rfl⟩, hS.F ht⟩) hS.2.2 d_Volume_placeOf_51
  unfold J_Volume_placeOf at hJ
  refine lv_aload_n hx hb d_Volume_placeOf_0 rfl (lv_at hl 0 rfl) ?_
  refine lv_iload_n hx hb d_Volume_placeOf_1 rfl (lv_at hl 1 rfl) ?_
  obtain ⟨x1, e1, hJ⟩ := j_bind hJ
  refine va_calli (va_runV (As := [.int a1]) (rest := []) ⟨hx, hb, hml, hown, htb⟩ (c_Volume_isDirectory (l := l) (dC := dC) (dI := dI) hDa e1) (xcV 1 htb tw263 tw5 tw260 tw261 tw262 rfl rfl hd_Volume_isDirectory ⟨Nat.le_of_ble_eq_true rfl, Nat.le_of_ble_eq_true rfl⟩) (kW_V hP hK (va_recv (q0 := 3) (ci := 3) hK hP rfl rfl)) rfl rfl hl.1 rfl (lv_room (Nat.le_of_ble_eq_true rfl)) d_Volume_placeOf_2 ⟨Nat.le_of_ble_eq_true rfl, Nat.le_of_ble_eq_true rfl⟩) hS (fun q _ h => h) (fun q h => h) (fun r0 u t H locs ht hvm hw hB _ _ hS => ?_)
  subst r0
  have hP := kW_P hB ht
  refine lv_if_eq (tgt := 15) hx hb d_Volume_placeOf_5 (by decide) (fun h2 => ?_) (fun h2 => ?_)
  · have hJ := j_t hJ h2
    refine lv_iconst (v := ((-1) : Int32)) hx hb d_Volume_placeOf_15 (by decide) ?_
    have hJ := Option.some.inj hJ
    exact W.iret (v := ((-1) : Int32)) hx hb hr (fun t ht hW => ⟨⟨_, (), rfl, hJ, kW_end hP hK ht hW rfl⟩, hS.F ht⟩) hS.2.2 d_Volume_placeOf_16
  · have hJ := j_f hJ h2
    refine lv_lload_n hx hb d_Volume_placeOf_8 rfl (lv_at hl 2 rfl) ?_
    obtain ⟨x3, e3, hJ⟩ := j_bind hJ
    refine va_calli (va_runSN (As := [.long a2]) (rest := []) ⟨hx, hb, hml, hown, htb⟩ (c_LogFs_isName (l := l) (dC := dC) (dI := dI) (σ := σ) hDa e3) (xcSN 1 htb tw266 tw1 tw264 tw265 rfl rfl hd_LogFs_isName ⟨Nat.le_of_ble_eq_true rfl, Nat.le_of_ble_eq_true rfl⟩) (kW_S hP hK) rfl rfl hl.1 rfl (lv_room (Nat.le_of_ble_eq_true rfl)) d_Volume_placeOf_9 ⟨Nat.le_of_ble_eq_true rfl, Nat.le_of_ble_eq_true rfl⟩) hS (fun q _ h => h) (fun q h => h) (fun r0 u t H locs ht hvm hw hB _ _ hS => ?_)
    subst r0
    have hP := kW_P hB ht
    refine lv_if_ne (tgt := 17) hx hb d_Volume_placeOf_12 (by decide) (fun h4 => ?_) (fun h4 => ?_)
    · have hJ := j_f hJ h4
      refine lv_aload_n hx hb d_Volume_placeOf_17 rfl (lv_at hl 0 rfl) ?_
      refine lv_iload_n hx hb d_Volume_placeOf_18 rfl (lv_at hl 1 rfl) ?_
      obtain ⟨x5, e5, hJ⟩ := j_bind hJ
      refine va_calli (va_runV (As := [.int a1]) (rest := []) ⟨hx, hb, hml, hown, htb⟩ (c_Volume_size (l := l) (dC := dC) (dI := dI) hDa e5) (xcV 1 htb tw277 tw5 tw274 tw275 tw276 rfl rfl hd_Volume_size ⟨Nat.le_of_ble_eq_true rfl, Nat.le_of_ble_eq_true rfl⟩) (kW_V hP hK (va_recv (q0 := 3) (ci := 3) hK hP rfl rfl)) rfl rfl hl.1 rfl (lv_room (Nat.le_of_ble_eq_true rfl)) d_Volume_placeOf_19 ⟨Nat.le_of_ble_eq_true rfl, Nat.le_of_ble_eq_true rfl⟩) hS (fun q _ h => h) (fun q h => h) (fun r0 u t H locs ht hvm hw hB _ _ hS => ?_)
      subst r0
      have hP := kW_P hB ht
      refine lv_istore hx hb d_Volume_placeOf_22 hl (Nat.le_of_ble_eq_true rfl) rfl (fun ls hl => ?_)
      have hl : lv_has ls 6 [(4, .int x5), (0, .ref (ga 3)), (1, .int a1), (2, .long a2)] := hl
      refine lv_iconst (v := (0 : Int32)) hx hb d_Volume_placeOf_24 (by decide) ?_
      refine lv_istore hx hb d_Volume_placeOf_25 hl (Nat.le_of_ble_eq_true rfl) rfl (fun ls hl => ?_)
      have hl : lv_has ls 6 [(5, .int (0 : Int32)), (4, .int x5), (0, .ref (ga 3)), (1, .int a1), (2, .long a2)] := hl
      exact blk27 9000 _ _ _ _ _ _ _ hJ (lv_sub hl [2, 3, 4, 1, 0] rfl) hP hS
    · have hJ := j_t hJ h4
      refine lv_iconst (v := ((-1) : Int32)) hx hb d_Volume_placeOf_15 (by decide) ?_
      have hJ := Option.some.inj hJ
      exact W.iret (v := ((-1) : Int32)) hx hb hr (fun t ht hW => ⟨⟨_, (), rfl, hJ, kW_end hP hK ht hW rfl⟩, hS.F ht⟩) hS.2.2 d_Volume_placeOf_16
def J_Volume_placeForEntry_8_b (k : Int32 → Int32 → Int32 → Option (Int32)) (σ : CS) (v1 : Int32) (v2 : Int32) (v3 : Int32) : Option (Int32) :=
  (if v2 ≤ v3 then some v2 else (J_Volume_entryAt σ v1 v3).bind fun x3 => (if (lg_cmp x3 (0 : Int64)) = (0 : Int32) then some v3 else k v1 v2 (v3 + (8 : Int32))))
def J_Volume_placeForEntry_8 : Nat → CS → Int32 → Int32 → Int32 → Option (Int32)
  | 0, _, _, _, _ => none
  | n + 1, σ, v1, v2, v3 => J_Volume_placeForEntry_8_b (J_Volume_placeForEntry_8 n σ) σ v1 v2 v3
def J_Volume_placeForEntry (σ : CS) (a1 : Int32) : Option (Int32) :=
  (J_Volume_size σ a1).bind fun x1 => J_Volume_placeForEntry_8 9000 σ a1 x1 (0 : Int32)
abbrev rm_Volume_placeForEntry : Room := { frames := 4, cells := 0, slots := 0, locals := 93 }
set_option maxHeartbeats 4000000 in
set_option maxRecDepth 100000 in
theorem c_Volume_placeForEntry {l : Launch} {dC : Nat → ClassId} {dI : Nat → Nat → Nat} {ga : Nat → Nat} {cB cI : ClassId} {A : Nat → Prop} (hDa : ∀ σ, va_D A (wC ga cB cI σ)) {σ : CS} {a1 : Int32} {res : Int32} (hJ : J_Volume_placeForEntry σ a1 = some res) :
    Met l y_Volume_placeForEntry (mw y_Volume_placeForEntry b_Volume_placeForEntry 4 (some .int)) rm_Volume_placeForEntry (va_Pc [.ref (ga 3), .int a1] (kW (dC, dI) (tC cB cI) (wC ga cB cI σ))) (va_Qi (fun (x : Int32) (_ : Unit) => x = res) (fun _ t => kW (dC, dI) (tC cB cI) (wC ga cB cI σ) t) A) 0 0 A := by
  refine Met.ofW (cc := b_Volume_placeForEntry) (maxL := 4) (ret := (some .int)) (by decide) rfl ?_
  intro p e s m args below meth c s₁ B hml hv
  obtain ⟨rfl, hP, hK⟩ := hv
  have hx := B.exec
  have hb := B.bytes
  have hr := B.returns
  have hts := atoms_spec (ws := (mw y_Volume_placeForEntry b_Volume_placeForEntry 4 (some .int))) B.pre
  have htb : ∀ w ∈ tb, w.before [.ref (ga 3), .int a1].toArray s = true := fun w h => hts w (mwIn h)
  have hown : s.vm.findClass "LogFs$Volume" = some m.cls := findClass_of_methodNamed B.named
  have hlocks := B.notSynchronized
  have hS : va_S A s.heap s.heap [] := va_S.rf
  have hl := lv_entry ([.ref (ga 3), .int a1]) (n := 4) (Nat.le_of_ble_eq_true rfl)
  rw [lg_entry_eq]
  generalize (lg_sl ([.ref (ga 3), .int a1]) ++ List.replicate (4 - (lg_sl ([.ref (ga 3), .int a1])).length) Slot.unset).toArray = ls at hl ⊢
  have hl : lv_has ls 4 [(0, .ref (ga 3)), (1, .int a1)] := hl
  have blk8 : ∀ (n : Nat) (v1 : Int32) (v2 : Int32) (v3 : Int32) (ls : Array Slot) (H : Heap) (locs : List Loc), J_Volume_placeForEntry_8 n σ v1 v2 v3 = some res → lv_has ls 4 [(0, .ref (ga 3)), (1, .int v1), (2, .int v2), (3, .int v3)] → va_P (dC, dI) cls (wC ga cB cI σ) H → va_S A s.heap H locs → W p l e (headSpec (mw y_Volume_placeForEntry b_Volume_placeForEntry 4 (some .int)) rm_Volume_placeForEntry).room s m [.ref (ga 3), .int a1].toArray below meth c H locs 0 0 (MQ below (va_Qi (fun (x : Int32) (_ : Unit) => x = res) (fun _ t => kW (dC, dI) (tC cB cI) (wC ga cB cI σ) t) A) [.ref (ga 3), .int a1].toArray s 0 0 A) (F0 m 8 ls []) := by
    intro n
    induction n with
    | zero => intro v1 v2 v3 ls H locs hJ; exact j_none hJ
    | succ n hk =>
      intro v1 v2 v3 ls H locs hJ hl hP hS
      have hJ : J_Volume_placeForEntry_8_b (J_Volume_placeForEntry_8 n σ) σ v1 v2 v3 = some res := hJ
      unfold J_Volume_placeForEntry_8_b at hJ
      refine lv_iload_n hx hb d_Volume_placeForEntry_8 rfl (lv_at hl 3 rfl) ?_
      refine lv_iload_n hx hb d_Volume_placeForEntry_9 rfl (lv_at hl 2 rfl) ?_
      refine lv_icmp_ge (tgt := 32) hx hb d_Volume_placeForEntry_10 (by decide) (fun h2 => ?_) (fun h2 => ?_)
      · have hJ := j_t hJ h2
        refine lv_iload_n hx hb d_Volume_placeForEntry_32 rfl (lv_at hl 2 rfl) ?_
        have hJ := Option.some.inj hJ
        exact W.iret (v := v2) hx hb hr (fun t ht hW => ⟨⟨_, (), rfl, hJ, kW_end hP hK ht hW rfl⟩, hS.F ht⟩) hS.2.2 d_Volume_placeForEntry_33
      · have hJ := j_f hJ h2
        refine lv_aload_n hx hb d_Volume_placeForEntry_13 rfl (lv_at hl 0 rfl) ?_
        refine lv_iload_n hx hb d_Volume_placeForEntry_14 rfl (lv_at hl 1 rfl) ?_
        refine lv_iload_n hx hb d_Volume_placeForEntry_15 rfl (lv_at hl 3 rfl) ?_
        obtain ⟨x3, e3, hJ⟩ := j_bind hJ
        refine va_calll (va_runV (As := [.int v1, .int v3]) (rest := []) ⟨hx, hb, hml, hown, htb⟩ (c_Volume_entryAt (l := l) (dC := dC) (dI := dI) hDa e3) (xcV 2 htb tw281 tw5 tw278 tw280 ts_Volume_entryAt rfl rfl hd_Volume_entryAt ⟨Nat.le_of_ble_eq_true rfl, Nat.le_of_ble_eq_true rfl⟩) (kW_V hP hK (va_recv (q0 := 3) (ci := 3) hK hP rfl rfl)) rfl rfl hl.1 rfl (lv_room (Nat.le_of_ble_eq_true rfl)) d_Volume_placeForEntry_16 ⟨Nat.le_of_ble_eq_true rfl, Nat.le_of_ble_eq_true rfl⟩) hS (fun q _ h => h) (fun q h => h) (fun r0 u t H locs ht hvm hw hB _ _ hS => ?_)
        subst r0
        have hP := kW_P hB ht
        refine lv_lconst (v := (0 : Int64)) hx hb d_Volume_placeForEntry_19 (by decide) ?_
        refine W.lcmp hx hb d_Volume_placeForEntry_20 ?_
        refine lv_if_ne (tgt := 26) hx hb d_Volume_placeForEntry_21 (by decide) (fun h4 => ?_) (fun h4 => ?_)
        · have hJ := j_f hJ h4
          refine lv_iinc (k := 3) (v := (v3 + (8 : Int32))) hx hb d_Volume_placeForEntry_26 hl rfl rfl (Nat.le_of_ble_eq_true rfl) rfl (fun ls hl => ?_)
          have hl : lv_has ls 4 [(3, .int (v3 + (8 : Int32))), (0, .ref (ga 3)), (1, .int v1), (2, .int v2)] := hl
          refine lv_goto (tgt := 8) hx hb d_Volume_placeForEntry_29 (by decide) ?_
          exact hk _ _ _ _ _ _ hJ (lv_sub hl [1, 2, 3, 0] rfl) hP hS
        · have hJ := j_t hJ h4
          refine lv_iload_n hx hb d_Volume_placeForEntry_24 rfl (lv_at hl 3 rfl) ?_
          have hJ := Option.some.inj hJ
          exact W.iret (v := v3) hx hb hr (fun t ht hW => ⟨⟨_, (), rfl, hJ, kW_end hP hK ht hW rfl⟩, hS.F ht⟩) hS.2.2 d_Volume_placeForEntry_25
  unfold J_Volume_placeForEntry at hJ
  refine lv_aload_n hx hb d_Volume_placeForEntry_0 rfl (lv_at hl 0 rfl) ?_
  refine lv_iload_n hx hb d_Volume_placeForEntry_1 rfl (lv_at hl 1 rfl) ?_
  obtain ⟨x1, e1, hJ⟩ := j_bind hJ
  refine va_calli (va_runV (As := [.int a1]) (rest := []) ⟨hx, hb, hml, hown, htb⟩ (c_Volume_size (l := l) (dC := dC) (dI := dI) hDa e1) (xcV 1 htb tw277 tw5 tw274 tw275 tw276 rfl rfl hd_Volume_size ⟨Nat.le_of_ble_eq_true rfl, Nat.le_of_ble_eq_true rfl⟩) (kW_V hP hK (va_recv (q0 := 3) (ci := 3) hK hP rfl rfl)) rfl rfl hl.1 rfl (lv_room (Nat.le_of_ble_eq_true rfl)) d_Volume_placeForEntry_2 ⟨Nat.le_of_ble_eq_true rfl, Nat.le_of_ble_eq_true rfl⟩) hS (fun q _ h => h) (fun q h => h) (fun r0 u t H locs ht hvm hw hB _ _ hS => ?_)
  subst r0
  have hP := kW_P hB ht
  refine lv_istore_n hx hb d_Volume_placeForEntry_5 rfl hl (Nat.le_of_ble_eq_true rfl) rfl (fun ls hl => ?_)
  have hl : lv_has ls 4 [(2, .int x1), (0, .ref (ga 3)), (1, .int a1)] := hl
  refine lv_iconst (v := (0 : Int32)) hx hb d_Volume_placeForEntry_6 (by decide) ?_
  refine lv_istore_n hx hb d_Volume_placeForEntry_7 rfl hl (Nat.le_of_ble_eq_true rfl) rfl (fun ls hl => ?_)
  have hl : lv_has ls 4 [(3, .int (0 : Int32)), (2, .int x1), (0, .ref (ga 3)), (1, .int a1)] := hl
  exact blk8 9000 _ _ _ _ _ _ hJ (lv_sub hl [2, 3, 1, 0] rfl) hP hS
def J_Volume_inodeAt (σ : CS) (a1 : Int32) (a2 : Int32) : Option (Int32) :=
  (J_Volume_entryAt σ a1 a2).bind fun x1 => (J_LogFs_byteOf x1 (0 : Int32)).bind fun x2 => some (x2 - (1 : Int32))
abbrev rm_Volume_inodeAt : Room := { frames := 4, cells := 0, slots := 0, locals := 93 }
set_option maxHeartbeats 4000000 in
set_option maxRecDepth 100000 in
theorem c_Volume_inodeAt {l : Launch} {dC : Nat → ClassId} {dI : Nat → Nat → Nat} {ga : Nat → Nat} {cB cI : ClassId} {A : Nat → Prop} (hDa : ∀ σ, va_D A (wC ga cB cI σ)) {σ : CS} {a1 : Int32} {a2 : Int32} {res : Int32} (hJ : J_Volume_inodeAt σ a1 a2 = some res) :
    Met l y_Volume_inodeAt (mw y_Volume_inodeAt b_Volume_inodeAt 3 (some .int)) rm_Volume_inodeAt (va_Pc [.ref (ga 3), .int a1, .int a2] (kW (dC, dI) (tC cB cI) (wC ga cB cI σ))) (va_Qi (fun (x : Int32) (_ : Unit) => x = res) (fun _ t => kW (dC, dI) (tC cB cI) (wC ga cB cI σ) t) A) 0 0 A := by
  refine Met.ofW (cc := b_Volume_inodeAt) (maxL := 3) (ret := (some .int)) (by decide) rfl ?_
  intro p e s m args below meth c s₁ B hml hv
  obtain ⟨rfl, hP, hK⟩ := hv
  have hx := B.exec
  have hb := B.bytes
  have hr := B.returns
  have hts := atoms_spec (ws := (mw y_Volume_inodeAt b_Volume_inodeAt 3 (some .int))) B.pre
  have htb : ∀ w ∈ tb, w.before [.ref (ga 3), .int a1, .int a2].toArray s = true := fun w h => hts w (mwIn h)
  have hown : s.vm.findClass "LogFs$Volume" = some m.cls := findClass_of_methodNamed B.named
  have hlocks := B.notSynchronized
  have hS : va_S A s.heap s.heap [] := va_S.rf
  have hl := lv_entry ([.ref (ga 3), .int a1, .int a2]) (n := 3) (Nat.le_of_ble_eq_true rfl)
  rw [lg_entry_eq]
  generalize (lg_sl ([.ref (ga 3), .int a1, .int a2]) ++ List.replicate (3 - (lg_sl ([.ref (ga 3), .int a1, .int a2])).length) Slot.unset).toArray = ls at hl ⊢
  have hl : lv_has ls 3 [(0, .ref (ga 3)), (1, .int a1), (2, .int a2)] := hl
  unfold J_Volume_inodeAt at hJ
  refine lv_aload_n hx hb d_Volume_inodeAt_0 rfl (lv_at hl 0 rfl) ?_
  refine lv_iload_n hx hb d_Volume_inodeAt_1 rfl (lv_at hl 1 rfl) ?_
  refine lv_iload_n hx hb d_Volume_inodeAt_2 rfl (lv_at hl 2 rfl) ?_
  obtain ⟨x1, e1, hJ⟩ := j_bind hJ
  refine va_calll (va_runV (As := [.int a1, .int a2]) (rest := []) ⟨hx, hb, hml, hown, htb⟩ (c_Volume_entryAt (l := l) (dC := dC) (dI := dI) hDa e1) (xcV 2 htb tw281 tw5 tw278 tw280 ts_Volume_entryAt rfl rfl hd_Volume_entryAt ⟨Nat.le_of_ble_eq_true rfl, Nat.le_of_ble_eq_true rfl⟩) (kW_V hP hK (va_recv (q0 := 3) (ci := 3) hK hP rfl rfl)) rfl rfl hl.1 rfl (lv_room (Nat.le_of_ble_eq_true rfl)) d_Volume_inodeAt_3 ⟨Nat.le_of_ble_eq_true rfl, Nat.le_of_ble_eq_true rfl⟩) hS (fun q _ h => h) (fun q h => h) (fun r0 u t H locs ht hvm hw hB _ _ hS => ?_)
  subst r0
  have hP := kW_P hB ht
  refine lv_iconst (v := (0 : Int32)) hx hb d_Volume_inodeAt_6 (by decide) ?_
  obtain ⟨x2, e2, hJ⟩ := j_bind hJ
  refine va_calli (va_runSN (As := [.long x1, .int (0 : Int32)]) (rest := []) ⟨hx, hb, hml, hown, htb⟩ (c_LogFs_byteOf (l := l) (dC := dC) (dI := dI) (σ := σ) hDa e2) (xcSN 2 htb tw269 tw1 tw390 tw268 rfl rfl hd_LogFs_byteOf ⟨Nat.le_of_ble_eq_true rfl, Nat.le_of_ble_eq_true rfl⟩) (kW_S hP hK) rfl rfl hl.1 rfl (lv_room (Nat.le_of_ble_eq_true rfl)) d_Volume_inodeAt_7 ⟨Nat.le_of_ble_eq_true rfl, Nat.le_of_ble_eq_true rfl⟩) hS (fun q _ h => h) (fun q h => h) (fun r0 u t H locs ht hvm hw hB _ _ hS => ?_)
  subst r0
  have hP := kW_P hB ht
  refine lv_iconst (v := (1 : Int32)) hx hb d_Volume_inodeAt_10 (by decide) ?_
  refine lv_isub hx hb d_Volume_inodeAt_11 ?_
  have hJ := Option.some.inj hJ
  exact W.iret (v := (x2 - (1 : Int32))) hx hb hr (fun t ht hW => ⟨⟨_, (), rfl, hJ, kW_end hP hK ht hW rfl⟩, hS.F ht⟩) hS.2.2 d_Volume_inodeAt_12
def J_Volume_entries_23_b (k : Int32 → Int32 → Int32 → Int32 → Option (Int32)) (σ : CS) (v1 : Int32) (v2 : Int32) (v3 : Int32) (v4 : Int32) : Option (Int32) :=
  (if v3 ≤ v4 then some v2 else (J_Volume_entryAt σ v1 v4).bind fun x4 => (if (lg_cmp x4 (0 : Int64)) = (0 : Int32) then k v1 v2 v3 (v4 + (8 : Int32)) else k v1 (v2 + (1 : Int32)) v3 (v4 + (8 : Int32))))
def J_Volume_entries_23 : Nat → CS → Int32 → Int32 → Int32 → Int32 → Option (Int32)
  | 0, _, _, _, _, _ => none
  | n + 1, σ, v1, v2, v3, v4 => J_Volume_entries_23_b (J_Volume_entries_23 n σ) σ v1 v2 v3 v4
def J_Volume_entries (σ : CS) (a1 : Int32) : Option (Int32) :=
  (J_Volume_isDirectory σ a1).bind fun x1 => (if x1 = (0 : Int32) then J_Volume_entries_23 9000 σ a1 (0 : Int32) (0 : Int32) (0 : Int32) else (J_Volume_size σ a1).bind fun x6 => J_Volume_entries_23 9000 σ a1 (0 : Int32) x6 (0 : Int32))
abbrev rm_Volume_entries : Room := { frames := 4, cells := 0, slots := 0, locals := 93 }
set_option maxHeartbeats 4000000 in
set_option maxRecDepth 100000 in
theorem c_Volume_entries {l : Launch} {dC : Nat → ClassId} {dI : Nat → Nat → Nat} {ga : Nat → Nat} {cB cI : ClassId} {A : Nat → Prop} (hDa : ∀ σ, va_D A (wC ga cB cI σ)) {σ : CS} {a1 : Int32} {res : Int32} (hJ : J_Volume_entries σ a1 = some res) :
    Met l y_Volume_entries (mw y_Volume_entries b_Volume_entries 5 (some .int)) rm_Volume_entries (va_Pc [.ref (ga 3), .int a1] (kW (dC, dI) (tC cB cI) (wC ga cB cI σ))) (va_Qi (fun (x : Int32) (_ : Unit) => x = res) (fun _ t => kW (dC, dI) (tC cB cI) (wC ga cB cI σ) t) A) 0 0 A := by
  refine Met.ofW (cc := b_Volume_entries) (maxL := 5) (ret := (some .int)) (by decide) rfl ?_
  intro p e s m args below meth c s₁ B hml hv
  obtain ⟨rfl, hP, hK⟩ := hv
  have hx := B.exec
  have hb := B.bytes
  have hr := B.returns
  have hts := atoms_spec (ws := (mw y_Volume_entries b_Volume_entries 5 (some .int))) B.pre
  have htb : ∀ w ∈ tb, w.before [.ref (ga 3), .int a1].toArray s = true := fun w h => hts w (mwIn h)
  have hown : s.vm.findClass "LogFs$Volume" = some m.cls := findClass_of_methodNamed B.named
  have hlocks := B.notSynchronized
  have hS : va_S A s.heap s.heap [] := va_S.rf
  have hl := lv_entry ([.ref (ga 3), .int a1]) (n := 5) (Nat.le_of_ble_eq_true rfl)
  rw [lg_entry_eq]
  generalize (lg_sl ([.ref (ga 3), .int a1]) ++ List.replicate (5 - (lg_sl ([.ref (ga 3), .int a1])).length) Slot.unset).toArray = ls at hl ⊢
  have hl : lv_has ls 5 [(0, .ref (ga 3)), (1, .int a1)] := hl
  have blk23 : ∀ (n : Nat) (v1 : Int32) (v2 : Int32) (v3 : Int32) (v4 : Int32) (ls : Array Slot) (H : Heap) (locs : List Loc), J_Volume_entries_23 n σ v1 v2 v3 v4 = some res → lv_has ls 5 [(0, .ref (ga 3)), (1, .int v1), (2, .int v2), (3, .int v3), (4, .int v4)] → va_P (dC, dI) cls (wC ga cB cI σ) H → va_S A s.heap H locs → W p l e (headSpec (mw y_Volume_entries b_Volume_entries 5 (some .int)) rm_Volume_entries).room s m [.ref (ga 3), .int a1].toArray below meth c H locs 0 0 (MQ below (va_Qi (fun (x : Int32) (_ : Unit) => x = res) (fun _ t => kW (dC, dI) (tC cB cI) (wC ga cB cI σ) t) A) [.ref (ga 3), .int a1].toArray s 0 0 A) (F0 m 23 ls []) := by
    intro n
    induction n with
    | zero => intro v1 v2 v3 v4 ls H locs hJ; exact j_none hJ
    | succ n hk =>
      intro v1 v2 v3 v4 ls H locs hJ hl hP hS
      have hJ : J_Volume_entries_23_b (J_Volume_entries_23 n σ) σ v1 v2 v3 v4 = some res := hJ
      unfold J_Volume_entries_23_b at hJ
      refine lv_iload hx hb d_Volume_entries_23 (lv_at hl 4 rfl) ?_
      refine lv_iload_n hx hb d_Volume_entries_25 rfl (lv_at hl 3 rfl) ?_
      refine lv_icmp_ge (tgt := 50) hx hb d_Volume_entries_26 (by decide) (fun h3 => ?_) (fun h3 => ?_)
      · have hJ := j_t hJ h3
        refine lv_iload_n hx hb d_Volume_entries_50 rfl (lv_at hl 2 rfl) ?_
        have hJ := Option.some.inj hJ
        exact W.iret (v := v2) hx hb hr (fun t ht hW => ⟨⟨_, (), rfl, hJ, kW_end hP hK ht hW rfl⟩, hS.F ht⟩) hS.2.2 d_Volume_entries_51
      · have hJ := j_f hJ h3
        refine lv_aload_n hx hb d_Volume_entries_29 rfl (lv_at hl 0 rfl) ?_
        refine lv_iload_n hx hb d_Volume_entries_30 rfl (lv_at hl 1 rfl) ?_
        refine lv_iload hx hb d_Volume_entries_31 (lv_at hl 4 rfl) ?_
        obtain ⟨x4, e4, hJ⟩ := j_bind hJ
        refine va_calll (va_runV (As := [.int v1, .int v4]) (rest := []) ⟨hx, hb, hml, hown, htb⟩ (c_Volume_entryAt (l := l) (dC := dC) (dI := dI) hDa e4) (xcV 2 htb tw281 tw5 tw278 tw280 ts_Volume_entryAt rfl rfl hd_Volume_entryAt ⟨Nat.le_of_ble_eq_true rfl, Nat.le_of_ble_eq_true rfl⟩) (kW_V hP hK (va_recv (q0 := 3) (ci := 3) hK hP rfl rfl)) rfl rfl hl.1 rfl (lv_room (Nat.le_of_ble_eq_true rfl)) d_Volume_entries_33 ⟨Nat.le_of_ble_eq_true rfl, Nat.le_of_ble_eq_true rfl⟩) hS (fun q _ h => h) (fun q h => h) (fun r0 u t H locs ht hvm hw hB _ _ hS => ?_)
        subst r0
        have hP := kW_P hB ht
        refine lv_lconst (v := (0 : Int64)) hx hb d_Volume_entries_36 (by decide) ?_
        refine W.lcmp hx hb d_Volume_entries_37 ?_
        refine lv_if_eq (tgt := 44) hx hb d_Volume_entries_38 (by decide) (fun h5 => ?_) (fun h5 => ?_)
        · have hJ := j_t hJ h5
          refine lv_iinc (k := 4) (v := (v4 + (8 : Int32))) hx hb d_Volume_entries_44 hl rfl rfl (Nat.le_of_ble_eq_true rfl) rfl (fun ls hl => ?_)
          have hl : lv_has ls 5 [(4, .int (v4 + (8 : Int32))), (0, .ref (ga 3)), (1, .int v1), (2, .int v2), (3, .int v3)] := hl
          refine lv_goto (tgt := 23) hx hb d_Volume_entries_47 (by decide) ?_
          exact hk _ _ _ _ _ _ _ hJ (lv_sub hl [1, 2, 3, 4, 0] rfl) hP hS
        · have hJ := j_f hJ h5
          refine lv_iinc (k := 2) (v := (v2 + (1 : Int32))) hx hb d_Volume_entries_41 hl rfl rfl (Nat.le_of_ble_eq_true rfl) rfl (fun ls hl => ?_)
          have hl : lv_has ls 5 [(2, .int (v2 + (1 : Int32))), (0, .ref (ga 3)), (1, .int v1), (3, .int v3), (4, .int v4)] := hl
          refine lv_iinc (k := 4) (v := (v4 + (8 : Int32))) hx hb d_Volume_entries_44 hl rfl rfl (Nat.le_of_ble_eq_true rfl) rfl (fun ls hl => ?_)
          have hl : lv_has ls 5 [(4, .int (v4 + (8 : Int32))), (2, .int (v2 + (1 : Int32))), (0, .ref (ga 3)), (1, .int v1), (3, .int v3)] := hl
          refine lv_goto (tgt := 23) hx hb d_Volume_entries_47 (by decide) ?_
          exact hk _ _ _ _ _ _ _ hJ (lv_sub hl [2, 3, 1, 4, 0] rfl) hP hS
  unfold J_Volume_entries at hJ
  refine lv_iconst (v := (0 : Int32)) hx hb d_Volume_entries_0 (by decide) ?_
  refine lv_istore_n hx hb d_Volume_entries_1 rfl hl (Nat.le_of_ble_eq_true rfl) rfl (fun ls hl => ?_)
  have hl : lv_has ls 5 [(2, .int (0 : Int32)), (0, .ref (ga 3)), (1, .int a1)] := hl
  refine lv_aload_n hx hb d_Volume_entries_2 rfl (lv_at hl 1 rfl) ?_
  refine lv_iload_n hx hb d_Volume_entries_3 rfl (lv_at hl 2 rfl) ?_
  obtain ⟨x1, e1, hJ⟩ := j_bind hJ
  refine va_calli (va_runV (As := [.int a1]) (rest := []) ⟨hx, hb, hml, hown, htb⟩ (c_Volume_isDirectory (l := l) (dC := dC) (dI := dI) hDa e1) (xcV 1 htb tw263 tw5 tw260 tw261 tw262 rfl rfl hd_Volume_isDirectory ⟨Nat.le_of_ble_eq_true rfl, Nat.le_of_ble_eq_true rfl⟩) (kW_V hP hK (va_recv (q0 := 3) (ci := 3) hK hP rfl rfl)) rfl rfl hl.1 rfl (lv_room (Nat.le_of_ble_eq_true rfl)) d_Volume_entries_4 ⟨Nat.le_of_ble_eq_true rfl, Nat.le_of_ble_eq_true rfl⟩) hS (fun q _ h => h) (fun q h => h) (fun r0 u t H locs ht hvm hw hB _ _ hS => ?_)
  subst r0
  have hP := kW_P hB ht
  refine lv_if_eq (tgt := 18) hx hb d_Volume_entries_7 (by decide) (fun h2 => ?_) (fun h2 => ?_)
  · have hJ := j_t hJ h2
    refine lv_iconst (v := (0 : Int32)) hx hb d_Volume_entries_18 (by decide) ?_
    refine lv_istore_n hx hb d_Volume_entries_19 rfl hl (Nat.le_of_ble_eq_true rfl) rfl (fun ls hl => ?_)
    have hl : lv_has ls 5 [(3, .int (0 : Int32)), (2, .int (0 : Int32)), (0, .ref (ga 3)), (1, .int a1)] := hl
    refine lv_iconst (v := (0 : Int32)) hx hb d_Volume_entries_20 (by decide) ?_
    refine lv_istore hx hb d_Volume_entries_21 hl (Nat.le_of_ble_eq_true rfl) rfl (fun ls hl => ?_)
    have hl : lv_has ls 5 [(4, .int (0 : Int32)), (3, .int (0 : Int32)), (2, .int (0 : Int32)), (0, .ref (ga 3)), (1, .int a1)] := hl
    exact blk23 9000 _ _ _ _ _ _ _ hJ (lv_sub hl [3, 4, 2, 1, 0] rfl) hP hS
  · have hJ := j_f hJ h2
    refine lv_aload_n hx hb d_Volume_entries_10 rfl (lv_at hl 1 rfl) ?_
    refine lv_iload_n hx hb d_Volume_entries_11 rfl (lv_at hl 2 rfl) ?_
    obtain ⟨x6, e6, hJ⟩ := j_bind hJ
    refine va_calli (va_runV (As := [.int a1]) (rest := []) ⟨hx, hb, hml, hown, htb⟩ (c_Volume_size (l := l) (dC := dC) (dI := dI) hDa e6) (xcV 1 htb tw277 tw5 tw274 tw275 tw276 rfl rfl hd_Volume_size ⟨Nat.le_of_ble_eq_true rfl, Nat.le_of_ble_eq_true rfl⟩) (kW_V hP hK (va_recv (q0 := 3) (ci := 3) hK hP rfl rfl)) rfl rfl hl.1 rfl (lv_room (Nat.le_of_ble_eq_true rfl)) d_Volume_entries_12 ⟨Nat.le_of_ble_eq_true rfl, Nat.le_of_ble_eq_true rfl⟩) hS (fun q _ h => h) (fun q h => h) (fun r0 u t H locs ht hvm hw hB _ _ hS => ?_)
    subst r0
    have hP := kW_P hB ht
    refine lv_goto (tgt := 19) hx hb d_Volume_entries_15 (by decide) ?_
    refine lv_istore_n hx hb d_Volume_entries_19 rfl hl (Nat.le_of_ble_eq_true rfl) rfl (fun ls hl => ?_)
    have hl : lv_has ls 5 [(3, .int x6), (2, .int (0 : Int32)), (0, .ref (ga 3)), (1, .int a1)] := hl
    refine lv_iconst (v := (0 : Int32)) hx hb d_Volume_entries_20 (by decide) ?_
    refine lv_istore hx hb d_Volume_entries_21 hl (Nat.le_of_ble_eq_true rfl) rfl (fun ls hl => ?_)
    have hl : lv_has ls 5 [(4, .int (0 : Int32)), (3, .int x6), (2, .int (0 : Int32)), (0, .ref (ga 3)), (1, .int a1)] := hl
    exact blk23 9000 _ _ _ _ _ _ _ hJ (lv_sub hl [3, 4, 2, 1, 0] rfl) hP hS
def J_Volume_blocksToTake_41 (σ : CS) (v3 : Int32) (v4 : Int32) (t0 : Int32) : Option (Int32) :=
  (if t0 = (0 : Int32) then some ((v4 - v3) + (0 : Int32)) else some ((v4 - v3) + (1 : Int32)))
def J_Volume_blocksToTake_40 (σ : CS) (v3 : Int32) (v4 : Int32) : Option (Int32) :=
  J_Volume_blocksToTake_41 σ v3 v4 (0 : Int32)
def J_Volume_blocksToTake (σ : CS) (a1 : Int32) (a2 : Int32) : Option (Int32) :=
  (J_Volume_size σ a1).bind fun x1 => (J_LogFs_blocksFor x1).bind fun x2 => (J_LogFs_blocksFor a2).bind fun x3 => (if x2 < x3 then (if x3 ≤ (10 : Int32) then J_Volume_blocksToTake_40 σ x2 x3 else (if (10 : Int32) < x2 then J_Volume_blocksToTake_40 σ x2 x3 else J_Volume_blocksToTake_41 σ x2 x3 (1 : Int32))) else some (0 : Int32))
abbrev rm_Volume_blocksToTake : Room := { frames := 3, cells := 0, slots := 0, locals := 65 }
set_option maxHeartbeats 4000000 in
set_option maxRecDepth 100000 in
theorem c_Volume_blocksToTake {l : Launch} {dC : Nat → ClassId} {dI : Nat → Nat → Nat} {ga : Nat → Nat} {cB cI : ClassId} {A : Nat → Prop} (hDa : ∀ σ, va_D A (wC ga cB cI σ)) {σ : CS} {a1 : Int32} {a2 : Int32} {res : Int32} (hJ : J_Volume_blocksToTake σ a1 a2 = some res) :
    Met l y_Volume_blocksToTake (mw y_Volume_blocksToTake b_Volume_blocksToTake 6 (some .int)) rm_Volume_blocksToTake (va_Pc [.ref (ga 3), .int a1, .int a2] (kW (dC, dI) (tC cB cI) (wC ga cB cI σ))) (va_Qi (fun (x : Int32) (_ : Unit) => x = res) (fun _ t => kW (dC, dI) (tC cB cI) (wC ga cB cI σ) t) A) 0 0 A := by
  refine Met.ofW (cc := b_Volume_blocksToTake) (maxL := 6) (ret := (some .int)) (by decide) rfl ?_
  intro p e s m args below meth c s₁ B hml hv
  obtain ⟨rfl, hP, hK⟩ := hv
  have hx := B.exec
  have hb := B.bytes
  have hr := B.returns
  have hts := atoms_spec (ws := (mw y_Volume_blocksToTake b_Volume_blocksToTake 6 (some .int))) B.pre
  have htb : ∀ w ∈ tb, w.before [.ref (ga 3), .int a1, .int a2].toArray s = true := fun w h => hts w (mwIn h)
  have hown : s.vm.findClass "LogFs$Volume" = some m.cls := findClass_of_methodNamed B.named
  have hlocks := B.notSynchronized
  have hS : va_S A s.heap s.heap [] := va_S.rf
  have hl := lv_entry ([.ref (ga 3), .int a1, .int a2]) (n := 6) (Nat.le_of_ble_eq_true rfl)
  rw [lg_entry_eq]
  generalize (lg_sl ([.ref (ga 3), .int a1, .int a2]) ++ List.replicate (6 - (lg_sl ([.ref (ga 3), .int a1, .int a2])).length) Slot.unset).toArray = ls at hl ⊢
  have hl : lv_has ls 6 [(0, .ref (ga 3)), (1, .int a1), (2, .int a2)] := hl
  have blk41 : ∀ (v3 : Int32) (v4 : Int32) (t0 : Int32) (ls : Array Slot) (H : Heap) (locs : List Loc), J_Volume_blocksToTake_41 σ v3 v4 t0 = some res → lv_has ls 6 [(3, .int v3), (4, .int v4)] → va_P (dC, dI) cls (wC ga cB cI σ) H → va_S A s.heap H locs → W p l e (headSpec (mw y_Volume_blocksToTake b_Volume_blocksToTake 6 (some .int)) rm_Volume_blocksToTake).room s m [.ref (ga 3), .int a1, .int a2].toArray below meth c H locs 0 0 (MQ below (va_Qi (fun (x : Int32) (_ : Unit) => x = res) (fun _ t => kW (dC, dI) (tC cB cI) (wC ga cB cI σ) t) A) [.ref (ga 3), .int a1, .int a2].toArray s 0 0 A) (F0 m 41 ls [.int t0]) := by
    intro v3 v4 t0 ls H locs hJ hl hP hS
    unfold J_Volume_blocksToTake_41 at hJ
    refine lv_istore hx hb d_Volume_blocksToTake_41 hl (Nat.le_of_ble_eq_true rfl) rfl (fun ls hl => ?_)
    have hl : lv_has ls 6 [(5, .int t0), (3, .int v3), (4, .int v4)] := hl
    refine lv_iload hx hb d_Volume_blocksToTake_43 (lv_at hl 2 rfl) ?_
    refine lv_iload_n hx hb d_Volume_blocksToTake_45 rfl (lv_at hl 1 rfl) ?_
    refine lv_isub hx hb d_Volume_blocksToTake_46 ?_
    refine lv_iload hx hb d_Volume_blocksToTake_47 (lv_at hl 0 rfl) ?_
    refine lv_if_eq (tgt := 56) hx hb d_Volume_blocksToTake_49 (by decide) (fun h6 => ?_) (fun h6 => ?_)
    · have hJ := j_t hJ h6
      refine lv_iconst (v := (0 : Int32)) hx hb d_Volume_blocksToTake_56 (by decide) ?_
      refine lv_iadd hx hb d_Volume_blocksToTake_57 ?_
      have hJ := Option.some.inj hJ
      exact W.iret (v := ((v4 - v3) + (0 : Int32))) hx hb hr (fun t ht hW => ⟨⟨_, (), rfl, hJ, kW_end hP hK ht hW rfl⟩, hS.F ht⟩) hS.2.2 d_Volume_blocksToTake_58
    · have hJ := j_f hJ h6
      refine lv_iconst (v := (1 : Int32)) hx hb d_Volume_blocksToTake_52 (by decide) ?_
      refine lv_goto (tgt := 57) hx hb d_Volume_blocksToTake_53 (by decide) ?_
      refine lv_iadd hx hb d_Volume_blocksToTake_57 ?_
      have hJ := Option.some.inj hJ
      exact W.iret (v := ((v4 - v3) + (1 : Int32))) hx hb hr (fun t ht hW => ⟨⟨_, (), rfl, hJ, kW_end hP hK ht hW rfl⟩, hS.F ht⟩) hS.2.2 d_Volume_blocksToTake_58
  have blk40 : ∀ (v3 : Int32) (v4 : Int32) (ls : Array Slot) (H : Heap) (locs : List Loc), J_Volume_blocksToTake_40 σ v3 v4 = some res → lv_has ls 6 [(3, .int v3), (4, .int v4)] → va_P (dC, dI) cls (wC ga cB cI σ) H → va_S A s.heap H locs → W p l e (headSpec (mw y_Volume_blocksToTake b_Volume_blocksToTake 6 (some .int)) rm_Volume_blocksToTake).room s m [.ref (ga 3), .int a1, .int a2].toArray below meth c H locs 0 0 (MQ below (va_Qi (fun (x : Int32) (_ : Unit) => x = res) (fun _ t => kW (dC, dI) (tC cB cI) (wC ga cB cI σ) t) A) [.ref (ga 3), .int a1, .int a2].toArray s 0 0 A) (F0 m 40 ls []) := by
    intro v3 v4 ls H locs hJ hl hP hS
    unfold J_Volume_blocksToTake_40 at hJ
    refine lv_iconst (v := (0 : Int32)) hx hb d_Volume_blocksToTake_40 (by decide) ?_
    exact blk41 _ _ _ _ _ _ hJ (lv_sub hl [0, 1] rfl) hP hS
  unfold J_Volume_blocksToTake at hJ
  refine lv_aload_n hx hb d_Volume_blocksToTake_0 rfl (lv_at hl 0 rfl) ?_
  refine lv_iload_n hx hb d_Volume_blocksToTake_1 rfl (lv_at hl 1 rfl) ?_
  obtain ⟨x1, e1, hJ⟩ := j_bind hJ
  refine va_calli (va_runV (As := [.int a1]) (rest := []) ⟨hx, hb, hml, hown, htb⟩ (c_Volume_size (l := l) (dC := dC) (dI := dI) hDa e1) (xcV 1 htb tw277 tw5 tw274 tw275 tw276 rfl rfl hd_Volume_size ⟨Nat.le_of_ble_eq_true rfl, Nat.le_of_ble_eq_true rfl⟩) (kW_V hP hK (va_recv (q0 := 3) (ci := 3) hK hP rfl rfl)) rfl rfl hl.1 rfl (lv_room (Nat.le_of_ble_eq_true rfl)) d_Volume_blocksToTake_2 ⟨Nat.le_of_ble_eq_true rfl, Nat.le_of_ble_eq_true rfl⟩) hS (fun q _ h => h) (fun q h => h) (fun r0 u t H locs ht hvm hw hB _ _ hS => ?_)
  subst r0
  have hP := kW_P hB ht
  obtain ⟨x2, e2, hJ⟩ := j_bind hJ
  refine va_calli (va_runSN (As := [.int x1]) (rest := []) ⟨hx, hb, hml, hown, htb⟩ (c_LogFs_blocksFor (l := l) (dC := dC) (dI := dI) (σ := σ) hDa e2) (xcSN 1 htb tw300 tw1 tw298 tw299 rfl rfl hd_LogFs_blocksFor ⟨Nat.le_of_ble_eq_true rfl, Nat.le_of_ble_eq_true rfl⟩) (kW_S hP hK) rfl rfl hl.1 rfl (lv_room (Nat.le_of_ble_eq_true rfl)) d_Volume_blocksToTake_5 ⟨Nat.le_of_ble_eq_true rfl, Nat.le_of_ble_eq_true rfl⟩) hS (fun q _ h => h) (fun q h => h) (fun r0 u t H locs ht hvm hw hB _ _ hS => ?_)
  subst r0
  have hP := kW_P hB ht
  refine lv_istore_n hx hb d_Volume_blocksToTake_8 rfl hl (Nat.le_of_ble_eq_true rfl) rfl (fun ls hl => ?_)
  have hl : lv_has ls 6 [(3, .int x2), (0, .ref (ga 3)), (1, .int a1), (2, .int a2)] := hl
  refine lv_iload_n hx hb d_Volume_blocksToTake_9 rfl (lv_at hl 3 rfl) ?_
  obtain ⟨x3, e3, hJ⟩ := j_bind hJ
  refine va_calli (va_runSN (As := [.int a2]) (rest := []) ⟨hx, hb, hml, hown, htb⟩ (c_LogFs_blocksFor (l := l) (dC := dC) (dI := dI) (σ := σ) hDa e3) (xcSN 1 htb tw300 tw1 tw298 tw299 rfl rfl hd_LogFs_blocksFor ⟨Nat.le_of_ble_eq_true rfl, Nat.le_of_ble_eq_true rfl⟩) (kW_S hP hK) rfl rfl hl.1 rfl (lv_room (Nat.le_of_ble_eq_true rfl)) d_Volume_blocksToTake_10 ⟨Nat.le_of_ble_eq_true rfl, Nat.le_of_ble_eq_true rfl⟩) hS (fun q _ h => h) (fun q h => h) (fun r0 u t H locs ht hvm hw hB _ _ hS => ?_)
  subst r0
  have hP := kW_P hB ht
  refine lv_istore hx hb d_Volume_blocksToTake_13 hl (Nat.le_of_ble_eq_true rfl) rfl (fun ls hl => ?_)
  have hl : lv_has ls 6 [(4, .int x3), (3, .int x2), (0, .ref (ga 3)), (1, .int a1), (2, .int a2)] := hl
  refine lv_iload hx hb d_Volume_blocksToTake_15 (lv_at hl 0 rfl) ?_
  refine lv_iload_n hx hb d_Volume_blocksToTake_17 rfl (lv_at hl 1 rfl) ?_
  refine lv_icmp_gt (tgt := 23) hx hb d_Volume_blocksToTake_18 (by decide) (fun h4 => ?_) (fun h4 => ?_)
  · have hJ := j_t hJ h4
    refine lv_iload hx hb d_Volume_blocksToTake_23 (lv_at hl 0 rfl) ?_
    refine lv_bipush (v := (10 : Int32)) hx hb d_Volume_blocksToTake_25 (by decide) ?_
    refine lv_icmp_le (tgt := 40) hx hb d_Volume_blocksToTake_27 (by decide) (fun h5 => ?_) (fun h5 => ?_)
    · have hJ := j_t hJ h5
      exact blk40 _ _ _ _ _ hJ (lv_sub hl [1, 0] rfl) hP hS
    · have hJ := j_f hJ h5
      refine lv_iload_n hx hb d_Volume_blocksToTake_30 rfl (lv_at hl 1 rfl) ?_
      refine lv_bipush (v := (10 : Int32)) hx hb d_Volume_blocksToTake_31 (by decide) ?_
      refine lv_icmp_gt (tgt := 40) hx hb d_Volume_blocksToTake_33 (by decide) (fun h7 => ?_) (fun h7 => ?_)
      · have hJ := j_t hJ h7
        exact blk40 _ _ _ _ _ hJ (lv_sub hl [1, 0] rfl) hP hS
      · have hJ := j_f hJ h7
        refine lv_iconst (v := (1 : Int32)) hx hb d_Volume_blocksToTake_36 (by decide) ?_
        refine lv_goto (tgt := 41) hx hb d_Volume_blocksToTake_37 (by decide) ?_
        exact blk41 _ _ _ _ _ _ hJ (lv_sub hl [1, 0] rfl) hP hS
  · have hJ := j_f hJ h4
    refine lv_iconst (v := (0 : Int32)) hx hb d_Volume_blocksToTake_21 (by decide) ?_
    have hJ := Option.some.inj hJ
    exact W.iret (v := (0 : Int32)) hx hb hr (fun t ht hW => ⟨⟨_, (), rfl, hJ, kW_end hP hK ht hW rfl⟩, hS.F ht⟩) hS.2.2 d_Volume_blocksToTake_22
def J_Volume_fits (σ : CS) (a1 : Int32) (a2 : Int32) : Option (Int32) :=
  (if (1000 : Int32) < a2 then some (0 : Int32) else (J_Volume_blocksToTake σ a1 a2).bind fun x2 => (J_Volume_freeBlocks σ).bind fun x3 => (if x3 < x2 then some (0 : Int32) else some (1 : Int32)))
abbrev rm_Volume_fits : Room := { frames := 4, cells := 0, slots := 0, locals := 90 }
set_option maxHeartbeats 4000000 in
set_option maxRecDepth 100000 in
theorem c_Volume_fits {l : Launch} {dC : Nat → ClassId} {dI : Nat → Nat → Nat} {ga : Nat → Nat} {cB cI : ClassId} {A : Nat → Prop} (hDa : ∀ σ, va_D A (wC ga cB cI σ)) {σ : CS} {a1 : Int32} {a2 : Int32} {res : Int32} (hJ : J_Volume_fits σ a1 a2 = some res) :
    Met l y_Volume_fits (mw y_Volume_fits b_Volume_fits 3 (some .boolean)) rm_Volume_fits (va_Pc [.ref (ga 3), .int a1, .int a2] (kW (dC, dI) (tC cB cI) (wC ga cB cI σ))) (va_Qi (fun (x : Int32) (_ : Unit) => x = res) (fun _ t => kW (dC, dI) (tC cB cI) (wC ga cB cI σ) t) A) 0 0 A := by
  refine Met.ofW (cc := b_Volume_fits) (maxL := 3) (ret := (some .boolean)) (by decide) rfl ?_
  intro p e s m args below meth c s₁ B hml hv
  obtain ⟨rfl, hP, hK⟩ := hv
  have hx := B.exec
  have hb := B.bytes
  have hr := B.returns
  have hts := atoms_spec (ws := (mw y_Volume_fits b_Volume_fits 3 (some .boolean))) B.pre
  have htb : ∀ w ∈ tb, w.before [.ref (ga 3), .int a1, .int a2].toArray s = true := fun w h => hts w (mwIn h)
  have hown : s.vm.findClass "LogFs$Volume" = some m.cls := findClass_of_methodNamed B.named
  have hlocks := B.notSynchronized
  have hS : va_S A s.heap s.heap [] := va_S.rf
  have hl := lv_entry ([.ref (ga 3), .int a1, .int a2]) (n := 3) (Nat.le_of_ble_eq_true rfl)
  rw [lg_entry_eq]
  generalize (lg_sl ([.ref (ga 3), .int a1, .int a2]) ++ List.replicate (3 - (lg_sl ([.ref (ga 3), .int a1, .int a2])).length) Slot.unset).toArray = ls at hl ⊢
  have hl : lv_has ls 3 [(0, .ref (ga 3)), (1, .int a1), (2, .int a2)] := hl
  unfold J_Volume_fits at hJ
  refine lv_iload_n hx hb d_Volume_fits_0 rfl (lv_at hl 2 rfl) ?_
  refine lv_sipush (v := (1000 : Int32)) hx hb d_Volume_fits_1 (by decide) ?_
  refine lv_icmp_gt (tgt := 24) hx hb d_Volume_fits_4 (by decide) (fun h1 => ?_) (fun h1 => ?_)
  · have hJ := j_t hJ h1
    refine lv_iconst (v := (0 : Int32)) hx hb d_Volume_fits_24 (by decide) ?_
    have hJ := Option.some.inj hJ
    exact W.zret (v := (0 : Int32)) (ty := .boolean) hx hb hr (by decide +kernel) (fun t ht hW => ⟨⟨_, (), rfl, hJ, kW_end hP hK ht hW rfl⟩, hS.F ht⟩) hS.2.2 d_Volume_fits_25
  · have hJ := j_f hJ h1
    refine lv_aload_n hx hb d_Volume_fits_7 rfl (lv_at hl 0 rfl) ?_
    refine lv_iload_n hx hb d_Volume_fits_8 rfl (lv_at hl 1 rfl) ?_
    refine lv_iload_n hx hb d_Volume_fits_9 rfl (lv_at hl 2 rfl) ?_
    obtain ⟨x2, e2, hJ⟩ := j_bind hJ
    refine va_calli (va_runV (As := [.int a1, .int a2]) (rest := []) ⟨hx, hb, hml, hown, htb⟩ (c_Volume_blocksToTake (l := l) (dC := dC) (dI := dI) hDa e2) (xcV 2 htb tw297 tw5 tw294 tw296 ts_Volume_blocksToTake rfl rfl hd_Volume_blocksToTake ⟨Nat.le_of_ble_eq_true rfl, Nat.le_of_ble_eq_true rfl⟩) (kW_V hP hK (va_recv (q0 := 3) (ci := 3) hK hP rfl rfl)) rfl rfl hl.1 rfl (lv_room (Nat.le_of_ble_eq_true rfl)) d_Volume_fits_10 ⟨Nat.le_of_ble_eq_true rfl, Nat.le_of_ble_eq_true rfl⟩) hS (fun q _ h => h) (fun q h => h) (fun r0 u t H locs ht hvm hw hB _ _ hS => ?_)
    subst r0
    have hP := kW_P hB ht
    refine lv_aload_n hx hb d_Volume_fits_13 rfl (lv_at hl 0 rfl) ?_
    obtain ⟨x3, e3, hJ⟩ := j_bind hJ
    refine va_calli (va_runV (As := []) (rest := [.int x2]) ⟨hx, hb, hml, hown, htb⟩ (c_Volume_freeBlocks (l := l) (dC := dC) (dI := dI) hDa e3) (xcV 0 htb tw145 tw5 tw301 tw143 tw144 rfl rfl hd_Volume_freeBlocks ⟨Nat.le_of_ble_eq_true rfl, Nat.le_of_ble_eq_true rfl⟩) (kW_V hP hK (va_recv (q0 := 3) (ci := 3) hK hP rfl rfl)) rfl rfl hl.1 rfl (lv_room (Nat.le_of_ble_eq_true rfl)) d_Volume_fits_14 ⟨Nat.le_of_ble_eq_true rfl, Nat.le_of_ble_eq_true rfl⟩) hS (fun q _ h => h) (fun q h => h) (fun r0 u t H locs ht hvm hw hB _ _ hS => ?_)
    subst r0
    have hP := kW_P hB ht
    refine lv_icmp_gt (tgt := 24) hx hb d_Volume_fits_17 (by decide) (fun h4 => ?_) (fun h4 => ?_)
    · have hJ := j_t hJ h4
      refine lv_iconst (v := (0 : Int32)) hx hb d_Volume_fits_24 (by decide) ?_
      have hJ := Option.some.inj hJ
      exact W.zret (v := (0 : Int32)) (ty := .boolean) hx hb hr (by decide +kernel) (fun t ht hW => ⟨⟨_, (), rfl, hJ, kW_end hP hK ht hW rfl⟩, hS.F ht⟩) hS.2.2 d_Volume_fits_25
    · have hJ := j_f hJ h4
      refine lv_iconst (v := (1 : Int32)) hx hb d_Volume_fits_20 (by decide) ?_
      refine lv_goto (tgt := 25) hx hb d_Volume_fits_21 (by decide) ?_
      have hJ := Option.some.inj hJ
      exact W.zret (v := (1 : Int32)) (ty := .boolean) hx hb hr (by decide +kernel) (fun t ht hW => ⟨⟨_, (), rfl, hJ, kW_end hP hK ht hW rfl⟩, hS.F ht⟩) hS.2.2 d_Volume_fits_25
def J_Volume_canEnter (σ : CS) (a1 : Int32) (a2 : Int64) : Option (Int32) :=
  (J_Volume_isDirectory σ a1).bind fun x1 => (if x1 = (0 : Int32) then some (0 : Int32) else (J_LogFs_isName a2).bind fun x3 => (if x3 = (0 : Int32) then some (0 : Int32) else (J_Volume_placeOf σ a1 a2).bind fun x5 => (if x5 = ((-1) : Int32) then (J_Volume_placeForEntry σ a1).bind fun x7 => (J_Volume_fits σ a1 (x7 + (8 : Int32))).bind fun x8 => (if x8 = (0 : Int32) then some (0 : Int32) else some (1 : Int32)) else some (0 : Int32))))
abbrev rm_Volume_canEnter : Room := { frames := 5, cells := 0, slots := 0, locals := 118 }
set_option maxHeartbeats 4000000 in
set_option maxRecDepth 100000 in
theorem c_Volume_canEnter {l : Launch} {dC : Nat → ClassId} {dI : Nat → Nat → Nat} {ga : Nat → Nat} {cB cI : ClassId} {A : Nat → Prop} (hDa : ∀ σ, va_D A (wC ga cB cI σ)) {σ : CS} {a1 : Int32} {a2 : Int64} {res : Int32} (hJ : J_Volume_canEnter σ a1 a2 = some res) :
    Met l y_Volume_canEnter (mw y_Volume_canEnter b_Volume_canEnter 4 (some .boolean)) rm_Volume_canEnter (va_Pc [.ref (ga 3), .int a1, .long a2] (kW (dC, dI) (tC cB cI) (wC ga cB cI σ))) (va_Qi (fun (x : Int32) (_ : Unit) => x = res) (fun _ t => kW (dC, dI) (tC cB cI) (wC ga cB cI σ) t) A) 0 0 A := by
  refine Met.ofW (cc := b_Volume_canEnter) (maxL := 4) (ret := (some .boolean)) (by decide) rfl ?_
  intro p e s m args below meth c s₁ B hml hv
  obtain ⟨rfl, hP, hK⟩ := hv
  have hx := B.exec
  have hb := B.bytes
  have hr := B.returns
  have hts := atoms_spec (ws := (mw y_Volume_canEnter b_Volume_canEnter 4 (some .boolean))) B.pre
  have htb : ∀ w ∈ tb, w.before [.ref (ga 3), .int a1, .long a2].toArray s = true := fun w h => hts w (mwIn h)
  have hown : s.vm.findClass "LogFs$Volume" = some m.cls := findClass_of_methodNamed B.named
  have hlocks := B.notSynchronized
  have hS : va_S A s.heap s.heap [] := va_S.rf
  have hl := lv_entry ([.ref (ga 3), .int a1, .long a2]) (n := 4) (Nat.le_of_ble_eq_true rfl)
  rw [lg_entry_eq]
  generalize (lg_sl ([.ref (ga 3), .int a1, .long a2]) ++ List.replicate (4 - (lg_sl ([.ref (ga 3), .int a1, .long a2])).length) Slot.unset).toArray = ls at hl ⊢
  have hl : lv_has ls 4 [(0, .ref (ga 3)), (1, .int a1), (2, .long a2)] := hl
  unfold J_Volume_canEnter at hJ
  refine lv_aload_n hx hb d_Volume_canEnter_0 rfl (lv_at hl 0 rfl) ?_
  refine lv_iload_n hx hb d_Volume_canEnter_1 rfl (lv_at hl 1 rfl) ?_
  obtain ⟨x1, e1, hJ⟩ := j_bind hJ
  refine va_calli (va_runV (As := [.int a1]) (rest := []) ⟨hx, hb, hml, hown, htb⟩ (c_Volume_isDirectory (l := l) (dC := dC) (dI := dI) hDa e1) (xcV 1 htb tw263 tw5 tw260 tw261 tw262 rfl rfl hd_Volume_isDirectory ⟨Nat.le_of_ble_eq_true rfl, Nat.le_of_ble_eq_true rfl⟩) (kW_V hP hK (va_recv (q0 := 3) (ci := 3) hK hP rfl rfl)) rfl rfl hl.1 rfl (lv_room (Nat.le_of_ble_eq_true rfl)) d_Volume_canEnter_2 ⟨Nat.le_of_ble_eq_true rfl, Nat.le_of_ble_eq_true rfl⟩) hS (fun q _ h => h) (fun q h => h) (fun r0 u t H locs ht hvm hw hB _ _ hS => ?_)
  subst r0
  have hP := kW_P hB ht
  refine lv_if_eq (tgt := 45) hx hb d_Volume_canEnter_5 (by decide) (fun h2 => ?_) (fun h2 => ?_)
  · have hJ := j_t hJ h2
    refine lv_iconst (v := (0 : Int32)) hx hb d_Volume_canEnter_45 (by decide) ?_
    have hJ := Option.some.inj hJ
    exact W.zret (v := (0 : Int32)) (ty := .boolean) hx hb hr (by decide +kernel) (fun t ht hW => ⟨⟨_, (), rfl, hJ, kW_end hP hK ht hW rfl⟩, hS.F ht⟩) hS.2.2 d_Volume_canEnter_46
  · have hJ := j_f hJ h2
    refine lv_lload_n hx hb d_Volume_canEnter_8 rfl (lv_at hl 2 rfl) ?_
    obtain ⟨x3, e3, hJ⟩ := j_bind hJ
    refine va_calli (va_runSN (As := [.long a2]) (rest := []) ⟨hx, hb, hml, hown, htb⟩ (c_LogFs_isName (l := l) (dC := dC) (dI := dI) (σ := σ) hDa e3) (xcSN 1 htb tw266 tw1 tw264 tw265 rfl rfl hd_LogFs_isName ⟨Nat.le_of_ble_eq_true rfl, Nat.le_of_ble_eq_true rfl⟩) (kW_S hP hK) rfl rfl hl.1 rfl (lv_room (Nat.le_of_ble_eq_true rfl)) d_Volume_canEnter_9 ⟨Nat.le_of_ble_eq_true rfl, Nat.le_of_ble_eq_true rfl⟩) hS (fun q _ h => h) (fun q h => h) (fun r0 u t H locs ht hvm hw hB _ _ hS => ?_)
    subst r0
    have hP := kW_P hB ht
    refine lv_if_eq (tgt := 45) hx hb d_Volume_canEnter_12 (by decide) (fun h4 => ?_) (fun h4 => ?_)
    · have hJ := j_t hJ h4
      refine lv_iconst (v := (0 : Int32)) hx hb d_Volume_canEnter_45 (by decide) ?_
      have hJ := Option.some.inj hJ
      exact W.zret (v := (0 : Int32)) (ty := .boolean) hx hb hr (by decide +kernel) (fun t ht hW => ⟨⟨_, (), rfl, hJ, kW_end hP hK ht hW rfl⟩, hS.F ht⟩) hS.2.2 d_Volume_canEnter_46
    · have hJ := j_f hJ h4
      refine lv_aload_n hx hb d_Volume_canEnter_15 rfl (lv_at hl 0 rfl) ?_
      refine lv_iload_n hx hb d_Volume_canEnter_16 rfl (lv_at hl 1 rfl) ?_
      refine lv_lload_n hx hb d_Volume_canEnter_17 rfl (lv_at hl 2 rfl) ?_
      obtain ⟨x5, e5, hJ⟩ := j_bind hJ
      refine va_calli (va_runV (As := [.int a1, .long a2]) (rest := []) ⟨hx, hb, hml, hown, htb⟩ (c_Volume_placeOf (l := l) (dC := dC) (dI := dI) hDa e5) (xcV 2 htb tw273 tw5 tw270 tw271 tw272 rfl rfl hd_Volume_placeOf ⟨Nat.le_of_ble_eq_true rfl, Nat.le_of_ble_eq_true rfl⟩) (kW_V hP hK (va_recv (q0 := 3) (ci := 3) hK hP rfl rfl)) rfl rfl hl.1 rfl (lv_room (Nat.le_of_ble_eq_true rfl)) d_Volume_canEnter_18 ⟨Nat.le_of_ble_eq_true rfl, Nat.le_of_ble_eq_true rfl⟩) hS (fun q _ h => h) (fun q h => h) (fun r0 u t H locs ht hvm hw hB _ _ hS => ?_)
      subst r0
      have hP := kW_P hB ht
      refine lv_iconst (v := ((-1) : Int32)) hx hb d_Volume_canEnter_21 (by decide) ?_
      refine lv_icmp_ne (tgt := 45) hx hb d_Volume_canEnter_22 (by decide) (fun h6 => ?_) (fun h6 => ?_)
      · have hJ := j_f hJ h6
        refine lv_iconst (v := (0 : Int32)) hx hb d_Volume_canEnter_45 (by decide) ?_
        have hJ := Option.some.inj hJ
        exact W.zret (v := (0 : Int32)) (ty := .boolean) hx hb hr (by decide +kernel) (fun t ht hW => ⟨⟨_, (), rfl, hJ, kW_end hP hK ht hW rfl⟩, hS.F ht⟩) hS.2.2 d_Volume_canEnter_46
      · have hJ := j_t hJ h6
        refine lv_aload_n hx hb d_Volume_canEnter_25 rfl (lv_at hl 0 rfl) ?_
        refine lv_iload_n hx hb d_Volume_canEnter_26 rfl (lv_at hl 1 rfl) ?_
        refine lv_aload_n hx hb d_Volume_canEnter_27 rfl (lv_at hl 0 rfl) ?_
        refine lv_iload_n hx hb d_Volume_canEnter_28 rfl (lv_at hl 1 rfl) ?_
        obtain ⟨x7, e7, hJ⟩ := j_bind hJ
        refine va_calli (va_runV (As := [.int a1]) (rest := [.int a1, .ref (ga 3)]) ⟨hx, hb, hml, hown, htb⟩ (c_Volume_placeForEntry (l := l) (dC := dC) (dI := dI) hDa e7) (xcV 1 htb tw289 tw5 tw286 tw287 tw288 rfl rfl hd_Volume_placeForEntry ⟨Nat.le_of_ble_eq_true rfl, Nat.le_of_ble_eq_true rfl⟩) (kW_V hP hK (va_recv (q0 := 3) (ci := 3) hK hP rfl rfl)) rfl rfl hl.1 rfl (lv_room (Nat.le_of_ble_eq_true rfl)) d_Volume_canEnter_29 ⟨Nat.le_of_ble_eq_true rfl, Nat.le_of_ble_eq_true rfl⟩) hS (fun q _ h => h) (fun q h => h) (fun r0 u t H locs ht hvm hw hB _ _ hS => ?_)
        subst r0
        have hP := kW_P hB ht
        refine lv_bipush (v := (8 : Int32)) hx hb d_Volume_canEnter_32 (by decide) ?_
        refine lv_iadd hx hb d_Volume_canEnter_34 ?_
        obtain ⟨x8, e8, hJ⟩ := j_bind hJ
        refine va_calli (va_runV (As := [.int a1, .int (x7 + (8 : Int32))]) (rest := []) ⟨hx, hb, hml, hown, htb⟩ (c_Volume_fits (l := l) (dC := dC) (dI := dI) hDa e8) (xcV 2 htb tw293 tw5 tw290 tw292 ts_Volume_fits rfl rfl hd_Volume_fits ⟨Nat.le_of_ble_eq_true rfl, Nat.le_of_ble_eq_true rfl⟩) (kW_V hP hK (va_recv (q0 := 3) (ci := 3) hK hP rfl rfl)) rfl rfl hl.1 rfl (lv_room (Nat.le_of_ble_eq_true rfl)) d_Volume_canEnter_35 ⟨Nat.le_of_ble_eq_true rfl, Nat.le_of_ble_eq_true rfl⟩) hS (fun q _ h => h) (fun q h => h) (fun r0 u t H locs ht hvm hw hB _ _ hS => ?_)
        subst r0
        have hP := kW_P hB ht
        refine lv_if_eq (tgt := 45) hx hb d_Volume_canEnter_38 (by decide) (fun h9 => ?_) (fun h9 => ?_)
        · have hJ := j_t hJ h9
          refine lv_iconst (v := (0 : Int32)) hx hb d_Volume_canEnter_45 (by decide) ?_
          have hJ := Option.some.inj hJ
          exact W.zret (v := (0 : Int32)) (ty := .boolean) hx hb hr (by decide +kernel) (fun t ht hW => ⟨⟨_, (), rfl, hJ, kW_end hP hK ht hW rfl⟩, hS.F ht⟩) hS.2.2 d_Volume_canEnter_46
        · have hJ := j_f hJ h9
          refine lv_iconst (v := (1 : Int32)) hx hb d_Volume_canEnter_41 (by decide) ?_
          refine lv_goto (tgt := 46) hx hb d_Volume_canEnter_42 (by decide) ?_
          have hJ := Option.some.inj hJ
          exact W.zret (v := (1 : Int32)) (ty := .boolean) hx hb hr (by decide +kernel) (fun t ht hW => ⟨⟨_, (), rfl, hJ, kW_end hP hK ht hW rfl⟩, hS.F ht⟩) hS.2.2 d_Volume_canEnter_46
def J_Volume_canPut (σ : CS) (a1 : Int32) (a2 : Int32) (a3 : Int32) : Option (Int32) :=
  (J_Volume_isFile σ a1).bind fun x1 => (if x1 = (0 : Int32) then some (0 : Int32) else (if a2 < (0 : Int32) then some (0 : Int32) else (J_Volume_size σ a1).bind fun x4 => (if x4 < a2 then some (0 : Int32) else (J_Volume_fits σ a1 (a2 + a3)).bind fun x6 => (if x6 = (0 : Int32) then some (0 : Int32) else some (1 : Int32)))))
abbrev rm_Volume_canPut : Room := { frames := 5, cells := 0, slots := 0, locals := 112 }
set_option maxHeartbeats 4000000 in
set_option maxRecDepth 100000 in
theorem c_Volume_canPut {l : Launch} {dC : Nat → ClassId} {dI : Nat → Nat → Nat} {ga : Nat → Nat} {cB cI : ClassId} {A : Nat → Prop} (hDa : ∀ σ, va_D A (wC ga cB cI σ)) {σ : CS} {a1 : Int32} {a2 : Int32} {a3 : Int32} {res : Int32} (hJ : J_Volume_canPut σ a1 a2 a3 = some res) :
    Met l y_Volume_canPut (mw y_Volume_canPut b_Volume_canPut 4 (some .boolean)) rm_Volume_canPut (va_Pc [.ref (ga 3), .int a1, .int a2, .int a3] (kW (dC, dI) (tC cB cI) (wC ga cB cI σ))) (va_Qi (fun (x : Int32) (_ : Unit) => x = res) (fun _ t => kW (dC, dI) (tC cB cI) (wC ga cB cI σ) t) A) 0 0 A := by
  refine Met.ofW (cc := b_Volume_canPut) (maxL := 4) (ret := (some .boolean)) (by decide) rfl ?_
  intro p e s m args below meth c s₁ B hml hv
  obtain ⟨rfl, hP, hK⟩ := hv
  have hx := B.exec
  have hb := B.bytes
  have hr := B.returns
  have hts := atoms_spec (ws := (mw y_Volume_canPut b_Volume_canPut 4 (some .boolean))) B.pre
  have htb : ∀ w ∈ tb, w.before [.ref (ga 3), .int a1, .int a2, .int a3].toArray s = true := fun w h => hts w (mwIn h)
  have hown : s.vm.findClass "LogFs$Volume" = some m.cls := findClass_of_methodNamed B.named
  have hlocks := B.notSynchronized
  have hS : va_S A s.heap s.heap [] := va_S.rf
  have hl := lv_entry ([.ref (ga 3), .int a1, .int a2, .int a3]) (n := 4) (Nat.le_of_ble_eq_true rfl)
  rw [lg_entry_eq]
  generalize (lg_sl ([.ref (ga 3), .int a1, .int a2, .int a3]) ++ List.replicate (4 - (lg_sl ([.ref (ga 3), .int a1, .int a2, .int a3])).length) Slot.unset).toArray = ls at hl ⊢
  have hl : lv_has ls 4 [(0, .ref (ga 3)), (1, .int a1), (2, .int a2), (3, .int a3)] := hl
  unfold J_Volume_canPut at hJ
  refine lv_aload_n hx hb d_Volume_canPut_0 rfl (lv_at hl 0 rfl) ?_
  refine lv_iload_n hx hb d_Volume_canPut_1 rfl (lv_at hl 1 rfl) ?_
  obtain ⟨x1, e1, hJ⟩ := j_bind hJ
  refine va_calli (va_runV (As := [.int a1]) (rest := []) ⟨hx, hb, hml, hown, htb⟩ (c_Volume_isFile (l := l) (dC := dC) (dI := dI) hDa e1) (xcV 1 htb tw426 tw5 tw475 tw424 tw425 rfl rfl hd_Volume_isFile ⟨Nat.le_of_ble_eq_true rfl, Nat.le_of_ble_eq_true rfl⟩) (kW_V hP hK (va_recv (q0 := 3) (ci := 3) hK hP rfl rfl)) rfl rfl hl.1 rfl (lv_room (Nat.le_of_ble_eq_true rfl)) d_Volume_canPut_2 ⟨Nat.le_of_ble_eq_true rfl, Nat.le_of_ble_eq_true rfl⟩) hS (fun q _ h => h) (fun q h => h) (fun r0 u t H locs ht hvm hw hB _ _ hS => ?_)
  subst r0
  have hP := kW_P hB ht
  refine lv_if_eq (tgt := 36) hx hb d_Volume_canPut_5 (by decide) (fun h2 => ?_) (fun h2 => ?_)
  · have hJ := j_t hJ h2
    refine lv_iconst (v := (0 : Int32)) hx hb d_Volume_canPut_36 (by decide) ?_
    have hJ := Option.some.inj hJ
    exact W.zret (v := (0 : Int32)) (ty := .boolean) hx hb hr (by decide +kernel) (fun t ht hW => ⟨⟨_, (), rfl, hJ, kW_end hP hK ht hW rfl⟩, hS.F ht⟩) hS.2.2 d_Volume_canPut_37
  · have hJ := j_f hJ h2
    refine lv_iload_n hx hb d_Volume_canPut_8 rfl (lv_at hl 2 rfl) ?_
    refine lv_if_lt (tgt := 36) hx hb d_Volume_canPut_9 (by decide) (fun h3 => ?_) (fun h3 => ?_)
    · have hJ := j_t hJ h3
      refine lv_iconst (v := (0 : Int32)) hx hb d_Volume_canPut_36 (by decide) ?_
      have hJ := Option.some.inj hJ
      exact W.zret (v := (0 : Int32)) (ty := .boolean) hx hb hr (by decide +kernel) (fun t ht hW => ⟨⟨_, (), rfl, hJ, kW_end hP hK ht hW rfl⟩, hS.F ht⟩) hS.2.2 d_Volume_canPut_37
    · have hJ := j_f hJ h3
      refine lv_iload_n hx hb d_Volume_canPut_12 rfl (lv_at hl 2 rfl) ?_
      refine lv_aload_n hx hb d_Volume_canPut_13 rfl (lv_at hl 0 rfl) ?_
      refine lv_iload_n hx hb d_Volume_canPut_14 rfl (lv_at hl 1 rfl) ?_
      obtain ⟨x4, e4, hJ⟩ := j_bind hJ
      refine va_calli (va_runV (As := [.int a1]) (rest := [.int a2]) ⟨hx, hb, hml, hown, htb⟩ (c_Volume_size (l := l) (dC := dC) (dI := dI) hDa e4) (xcV 1 htb tw277 tw5 tw274 tw275 tw276 rfl rfl hd_Volume_size ⟨Nat.le_of_ble_eq_true rfl, Nat.le_of_ble_eq_true rfl⟩) (kW_V hP hK (va_recv (q0 := 3) (ci := 3) hK hP rfl rfl)) rfl rfl hl.1 rfl (lv_room (Nat.le_of_ble_eq_true rfl)) d_Volume_canPut_15 ⟨Nat.le_of_ble_eq_true rfl, Nat.le_of_ble_eq_true rfl⟩) hS (fun q _ h => h) (fun q h => h) (fun r0 u t H locs ht hvm hw hB _ _ hS => ?_)
      subst r0
      have hP := kW_P hB ht
      refine lv_icmp_gt (tgt := 36) hx hb d_Volume_canPut_18 (by decide) (fun h5 => ?_) (fun h5 => ?_)
      · have hJ := j_t hJ h5
        refine lv_iconst (v := (0 : Int32)) hx hb d_Volume_canPut_36 (by decide) ?_
        have hJ := Option.some.inj hJ
        exact W.zret (v := (0 : Int32)) (ty := .boolean) hx hb hr (by decide +kernel) (fun t ht hW => ⟨⟨_, (), rfl, hJ, kW_end hP hK ht hW rfl⟩, hS.F ht⟩) hS.2.2 d_Volume_canPut_37
      · have hJ := j_f hJ h5
        refine lv_aload_n hx hb d_Volume_canPut_21 rfl (lv_at hl 0 rfl) ?_
        refine lv_iload_n hx hb d_Volume_canPut_22 rfl (lv_at hl 1 rfl) ?_
        refine lv_iload_n hx hb d_Volume_canPut_23 rfl (lv_at hl 2 rfl) ?_
        refine lv_iload_n hx hb d_Volume_canPut_24 rfl (lv_at hl 3 rfl) ?_
        refine lv_iadd hx hb d_Volume_canPut_25 ?_
        obtain ⟨x6, e6, hJ⟩ := j_bind hJ
        refine va_calli (va_runV (As := [.int a1, .int (a2 + a3)]) (rest := []) ⟨hx, hb, hml, hown, htb⟩ (c_Volume_fits (l := l) (dC := dC) (dI := dI) hDa e6) (xcV 2 htb tw293 tw5 tw290 tw292 ts_Volume_fits rfl rfl hd_Volume_fits ⟨Nat.le_of_ble_eq_true rfl, Nat.le_of_ble_eq_true rfl⟩) (kW_V hP hK (va_recv (q0 := 3) (ci := 3) hK hP rfl rfl)) rfl rfl hl.1 rfl (lv_room (Nat.le_of_ble_eq_true rfl)) d_Volume_canPut_26 ⟨Nat.le_of_ble_eq_true rfl, Nat.le_of_ble_eq_true rfl⟩) hS (fun q _ h => h) (fun q h => h) (fun r0 u t H locs ht hvm hw hB _ _ hS => ?_)
        subst r0
        have hP := kW_P hB ht
        refine lv_if_eq (tgt := 36) hx hb d_Volume_canPut_29 (by decide) (fun h7 => ?_) (fun h7 => ?_)
        · have hJ := j_t hJ h7
          refine lv_iconst (v := (0 : Int32)) hx hb d_Volume_canPut_36 (by decide) ?_
          have hJ := Option.some.inj hJ
          exact W.zret (v := (0 : Int32)) (ty := .boolean) hx hb hr (by decide +kernel) (fun t ht hW => ⟨⟨_, (), rfl, hJ, kW_end hP hK ht hW rfl⟩, hS.F ht⟩) hS.2.2 d_Volume_canPut_37
        · have hJ := j_f hJ h7
          refine lv_iconst (v := (1 : Int32)) hx hb d_Volume_canPut_32 (by decide) ?_
          refine lv_goto (tgt := 37) hx hb d_Volume_canPut_33 (by decide) ?_
          have hJ := Option.some.inj hJ
          exact W.zret (v := (1 : Int32)) (ty := .boolean) hx hb hr (by decide +kernel) (fun t ht hW => ⟨⟨_, (), rfl, hJ, kW_end hP hK ht hW rfl⟩, hS.F ht⟩) hS.2.2 d_Volume_canPut_37
