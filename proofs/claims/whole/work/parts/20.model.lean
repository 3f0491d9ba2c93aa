/-! The reference, first part. Written by wip/gen/classes.py. -/
def J_Model_blockOf (a1 : Int32) : Option (Int32) :=
  some ((17 : Int32) + (a1 / (4 : Int32)))
abbrev rm_Model_blockOf : Room := { frames := 0, cells := 0, slots := 0, locals := 0 }
set_option maxHeartbeats 4000000 in
set_option maxRecDepth 100000 in
theorem c_Model_blockOf {l : Launch} {dC : Nat → ClassId} {dI : Nat → Nat → Nat} {gr : Nat → Nat} {cB cI : ClassId} {A : Nat → Prop} (hDa : ∀ σ, va_D A (wR gr cB cI σ)) {σ : RS} {a1 : Int32} {res : Int32} (hJ : J_Model_blockOf a1 = some res) :
    Met l y_Model_blockOf (mw y_Model_blockOf b_Model_blockOf 1 (some .int)) rm_Model_blockOf (va_Pc [.int a1] (kW (dC, dI) (tC cB cI) (wR gr cB cI σ))) (va_Qi (fun (x : Int32) (_ : Unit) => x = res) (fun _ t => kW (dC, dI) (tC cB cI) (wR gr cB cI σ) t) A) 0 0 A := by
  refine Met.ofW (cc := b_Model_blockOf) (maxL := 1) (ret := (some .int)) (by decide) rfl ?_
  intro p e s m args below meth c s₁ B hml hv
  obtain ⟨rfl, hP, hK⟩ := hv
  have hx := B.exec
  have hb := B.bytes
  have hr := B.returns
  have hts := atoms_spec (ws := (mw y_Model_blockOf b_Model_blockOf 1 (some .int))) B.pre
  have htb : ∀ w ∈ tb, w.before [.int a1].toArray s = true := fun w h => hts w (mwIn h)
  have hown : s.vm.findClass "LogFsModel" = some m.cls := findClass_of_methodNamed B.named
  have hlocks := B.notSynchronized
  have hS : va_S A s.heap s.heap [] := va_S.rf
  have hl := lv_entry ([.int a1]) (n := 1) (Nat.le_of_ble_eq_true rfl)
  rw [lg_entry_eq]
  generalize (lg_sl ([.int a1]) ++ List.replicate (1 - (lg_sl ([.int a1])).length) Slot.unset).toArray = ls at hl ⊢
  have hl : lv_has ls 1 [(0, .int a1)] := hl
  unfold J_Model_blockOf at hJ
  refine lv_bipush (v := (17 : Int32)) hx hb d_Model_blockOf_0 (by decide) ?_
  refine lv_iload_n hx hb d_Model_blockOf_2 rfl (lv_at hl 0 rfl) ?_
  refine lv_iconst (v := (4 : Int32)) hx hb d_Model_blockOf_3 (by decide) ?_
  refine lv_idiv hx hb d_Model_blockOf_4 (by decide) ?_
  refine lv_iadd hx hb d_Model_blockOf_5 ?_
  have hJ := Option.some.inj hJ
  exact W.iret (v := ((17 : Int32) + (a1 / (4 : Int32)))) hx hb hr (fun t ht hW => ⟨⟨_, (), rfl, hJ, kW_end hP hK ht hW rfl⟩, hS.F ht⟩) hS.2.2 d_Model_blockOf_6
def J_Model_placeOf (a1 : Int32) : Option (Int32) :=
  some ((16 : Int32) * (a1 - a1 / (4 : Int32) * (4 : Int32)))
abbrev rm_Model_placeOf : Room := { frames := 0, cells := 0, slots := 0, locals := 0 }
set_option maxHeartbeats 4000000 in
set_option maxRecDepth 100000 in
theorem c_Model_placeOf {l : Launch} {dC : Nat → ClassId} {dI : Nat → Nat → Nat} {gr : Nat → Nat} {cB cI : ClassId} {A : Nat → Prop} (hDa : ∀ σ, va_D A (wR gr cB cI σ)) {σ : RS} {a1 : Int32} {res : Int32} (hJ : J_Model_placeOf a1 = some res) :
    Met l y_Model_placeOf (mw y_Model_placeOf b_Model_placeOf 1 (some .int)) rm_Model_placeOf (va_Pc [.int a1] (kW (dC, dI) (tC cB cI) (wR gr cB cI σ))) (va_Qi (fun (x : Int32) (_ : Unit) => x = res) (fun _ t => kW (dC, dI) (tC cB cI) (wR gr cB cI σ) t) A) 0 0 A := by
  refine Met.ofW (cc := b_Model_placeOf) (maxL := 1) (ret := (some .int)) (by decide) rfl ?_
  intro p e s m args below meth c s₁ B hml hv
  obtain ⟨rfl, hP, hK⟩ := hv
  have hx := B.exec
  have hb := B.bytes
  have hr := B.returns
  have hts := atoms_spec (ws := (mw y_Model_placeOf b_Model_placeOf 1 (some .int))) B.pre
  have htb : ∀ w ∈ tb, w.before [.int a1].toArray s = true := fun w h => hts w (mwIn h)
  have hown : s.vm.findClass "LogFsModel" = some m.cls := findClass_of_methodNamed B.named
  have hlocks := B.notSynchronized
  have hS : va_S A s.heap s.heap [] := va_S.rf
  have hl := lv_entry ([.int a1]) (n := 1) (Nat.le_of_ble_eq_true rfl)
  rw [lg_entry_eq]
  generalize (lg_sl ([.int a1]) ++ List.replicate (1 - (lg_sl ([.int a1])).length) Slot.unset).toArray = ls at hl ⊢
  have hl : lv_has ls 1 [(0, .int a1)] := hl
  unfold J_Model_placeOf at hJ
  refine lv_bipush (v := (16 : Int32)) hx hb d_Model_placeOf_0 (by decide) ?_
  refine lv_iload_n hx hb d_Model_placeOf_2 rfl (lv_at hl 0 rfl) ?_
  refine lv_iconst (v := (4 : Int32)) hx hb d_Model_placeOf_3 (by decide) ?_
  refine lv_irem hx hb d_Model_placeOf_4 (by decide) ?_
  refine lv_imul hx hb d_Model_placeOf_5 ?_
  have hJ := Option.some.inj hJ
  exact W.iret (v := ((16 : Int32) * (a1 - a1 / (4 : Int32) * (4 : Int32)))) hx hb hr (fun t ht hW => ⟨⟨_, (), rfl, hJ, kW_end hP hK ht hW rfl⟩, hS.F ht⟩) hS.2.2 d_Model_placeOf_6
def J_Model_isInode (a1 : Int32) : Option (Int32) :=
  (if a1 < (0 : Int32) then some (0 : Int32) else (if (32 : Int32) ≤ a1 then some (0 : Int32) else some (1 : Int32)))
abbrev rm_Model_isInode : Room := { frames := 0, cells := 0, slots := 0, locals := 0 }
set_option maxHeartbeats 4000000 in
set_option maxRecDepth 100000 in
theorem c_Model_isInode {l : Launch} {dC : Nat → ClassId} {dI : Nat → Nat → Nat} {gr : Nat → Nat} {cB cI : ClassId} {A : Nat → Prop} (hDa : ∀ σ, va_D A (wR gr cB cI σ)) {σ : RS} {a1 : Int32} {res : Int32} (hJ : J_Model_isInode a1 = some res) :
    Met l y_Model_isInode (mw y_Model_isInode b_Model_isInode 1 (some .boolean)) rm_Model_isInode (va_Pc [.int a1] (kW (dC, dI) (tC cB cI) (wR gr cB cI σ))) (va_Qi (fun (x : Int32) (_ : Unit) => x = res) (fun _ t => kW (dC, dI) (tC cB cI) (wR gr cB cI σ) t) A) 0 0 A := by
  refine Met.ofW (cc := b_Model_isInode) (maxL := 1) (ret := (some .boolean)) (by decide) rfl ?_
  intro p e s m args below meth c s₁ B hml hv
  obtain ⟨rfl, hP, hK⟩ := hv
  have hx := B.exec
  have hb := B.bytes
  have hr := B.returns
  have hts := atoms_spec (ws := (mw y_Model_isInode b_Model_isInode 1 (some .boolean))) B.pre
  have htb : ∀ w ∈ tb, w.before [.int a1].toArray s = true := fun w h => hts w (mwIn h)
  have hown : s.vm.findClass "LogFsModel" = some m.cls := findClass_of_methodNamed B.named
  have hlocks := B.notSynchronized
  have hS : va_S A s.heap s.heap [] := va_S.rf
  have hl := lv_entry ([.int a1]) (n := 1) (Nat.le_of_ble_eq_true rfl)
  rw [lg_entry_eq]
  generalize (lg_sl ([.int a1]) ++ List.replicate (1 - (lg_sl ([.int a1])).length) Slot.unset).toArray = ls at hl ⊢
  have hl : lv_has ls 1 [(0, .int a1)] := hl
  unfold J_Model_isInode at hJ
  refine lv_iload_n hx hb d_Model_isInode_0 rfl (lv_at hl 0 rfl) ?_
  refine lv_if_lt (tgt := 14) hx hb d_Model_isInode_1 (by decide) (fun h1 => ?_) (fun h1 => ?_)
  · have hJ := j_t hJ h1
    refine lv_iconst (v := (0 : Int32)) hx hb d_Model_isInode_14 (by decide) ?_
    have hJ := Option.some.inj hJ
    exact W.zret (v := (0 : Int32)) (ty := .boolean) hx hb hr (by decide +kernel) (fun t ht hW => ⟨⟨_, (), rfl, hJ, kW_end hP hK ht hW rfl⟩, hS.F ht⟩) hS.2.2 d_Model_isInode_15
  · have hJ := j_f hJ h1
    refine lv_iload_n hx hb d_Model_isInode_4 rfl (lv_at hl 0 rfl) ?_
    refine lv_bipush (v := (32 : Int32)) hx hb d_Model_isInode_5 (by decide) ?_
    refine lv_icmp_ge (tgt := 14) hx hb d_Model_isInode_7 (by decide) (fun h2 => ?_) (fun h2 => ?_)
    · have hJ := j_t hJ h2
      refine lv_iconst (v := (0 : Int32)) hx hb d_Model_isInode_14 (by decide) ?_
      have hJ := Option.some.inj hJ
      exact W.zret (v := (0 : Int32)) (ty := .boolean) hx hb hr (by decide +kernel) (fun t ht hW => ⟨⟨_, (), rfl, hJ, kW_end hP hK ht hW rfl⟩, hS.F ht⟩) hS.2.2 d_Model_isInode_15
    · have hJ := j_f hJ h2
      refine lv_iconst (v := (1 : Int32)) hx hb d_Model_isInode_10 (by decide) ?_
      refine lv_goto (tgt := 15) hx hb d_Model_isInode_11 (by decide) ?_
      have hJ := Option.some.inj hJ
      exact W.zret (v := (1 : Int32)) (ty := .boolean) hx hb hr (by decide +kernel) (fun t ht hW => ⟨⟨_, (), rfl, hJ, kW_end hP hK ht hW rfl⟩, hS.F ht⟩) hS.2.2 d_Model_isInode_15
def J_Model_blocksFor (a1 : Int32) : Option (Int32) :=
  some (((a1 + (64 : Int32)) - (1 : Int32)) / (64 : Int32))
abbrev rm_Model_blocksFor : Room := { frames := 0, cells := 0, slots := 0, locals := 0 }
set_option maxHeartbeats 4000000 in
set_option maxRecDepth 100000 in
theorem c_Model_blocksFor {l : Launch} {dC : Nat → ClassId} {dI : Nat → Nat → Nat} {gr : Nat → Nat} {cB cI : ClassId} {A : Nat → Prop} (hDa : ∀ σ, va_D A (wR gr cB cI σ)) {σ : RS} {a1 : Int32} {res : Int32} (hJ : J_Model_blocksFor a1 = some res) :
    Met l y_Model_blocksFor (mw y_Model_blocksFor b_Model_blocksFor 1 (some .int)) rm_Model_blocksFor (va_Pc [.int a1] (kW (dC, dI) (tC cB cI) (wR gr cB cI σ))) (va_Qi (fun (x : Int32) (_ : Unit) => x = res) (fun _ t => kW (dC, dI) (tC cB cI) (wR gr cB cI σ) t) A) 0 0 A := by
  refine Met.ofW (cc := b_Model_blocksFor) (maxL := 1) (ret := (some .int)) (by decide) rfl ?_
  intro p e s m args below meth c s₁ B hml hv
  obtain ⟨rfl, hP, hK⟩ := hv
  have hx := B.exec
  have hb := B.bytes
  have hr := B.returns
  have hts := atoms_spec (ws := (mw y_Model_blocksFor b_Model_blocksFor 1 (some .int))) B.pre
  have htb : ∀ w ∈ tb, w.before [.int a1].toArray s = true := fun w h => hts w (mwIn h)
  have hown : s.vm.findClass "LogFsModel" = some m.cls := findClass_of_methodNamed B.named
  have hlocks := B.notSynchronized
  have hS : va_S A s.heap s.heap [] := va_S.rf
  have hl := lv_entry ([.int a1]) (n := 1) (Nat.le_of_ble_eq_true rfl)
  rw [lg_entry_eq]
  generalize (lg_sl ([.int a1]) ++ List.replicate (1 - (lg_sl ([.int a1])).length) Slot.unset).toArray = ls at hl ⊢
  have hl : lv_has ls 1 [(0, .int a1)] := hl
  unfold J_Model_blocksFor at hJ
  refine lv_iload_n hx hb d_Model_blocksFor_0 rfl (lv_at hl 0 rfl) ?_
  refine lv_bipush (v := (64 : Int32)) hx hb d_Model_blocksFor_1 (by decide) ?_
  refine lv_iadd hx hb d_Model_blocksFor_3 ?_
  refine lv_iconst (v := (1 : Int32)) hx hb d_Model_blocksFor_4 (by decide) ?_
  refine lv_isub hx hb d_Model_blocksFor_5 ?_
  refine lv_bipush (v := (64 : Int32)) hx hb d_Model_blocksFor_6 (by decide) ?_
  refine lv_idiv hx hb d_Model_blocksFor_8 (by decide) ?_
  have hJ := Option.some.inj hJ
  exact W.iret (v := (((a1 + (64 : Int32)) - (1 : Int32)) / (64 : Int32))) hx hb hr (fun t ht hW => ⟨⟨_, (), rfl, hJ, kW_end hP hK ht hW rfl⟩, hS.F ht⟩) hS.2.2 d_Model_blocksFor_9
def J_Model_isByte (a1 : Int32) (a2 : Int32) : Option (Int32) :=
  (if a1 < (0 : Int32) then some (0 : Int32) else (if (128 : Int32) ≤ a1 then some (0 : Int32) else (if a2 < (0 : Int32) then some (0 : Int32) else (if (64 : Int32) ≤ a2 then some (0 : Int32) else some (1 : Int32)))))
abbrev rm_Model_isByte : Room := { frames := 0, cells := 0, slots := 0, locals := 0 }
set_option maxHeartbeats 4000000 in
set_option maxRecDepth 100000 in
theorem c_Model_isByte {l : Launch} {dC : Nat → ClassId} {dI : Nat → Nat → Nat} {gr : Nat → Nat} {cB cI : ClassId} {A : Nat → Prop} (hDa : ∀ σ, va_D A (wR gr cB cI σ)) {σ : RS} {a1 : Int32} {a2 : Int32} {res : Int32} (hJ : J_Model_isByte a1 a2 = some res) :
    Met l y_Model_isByte (mw y_Model_isByte b_Model_isByte 2 (some .boolean)) rm_Model_isByte (va_Pc [.int a1, .int a2] (kW (dC, dI) (tC cB cI) (wR gr cB cI σ))) (va_Qi (fun (x : Int32) (_ : Unit) => x = res) (fun _ t => kW (dC, dI) (tC cB cI) (wR gr cB cI σ) t) A) 0 0 A := by
  refine Met.ofW (cc := b_Model_isByte) (maxL := 2) (ret := (some .boolean)) (by decide) rfl ?_
  intro p e s m args below meth c s₁ B hml hv
  obtain ⟨rfl, hP, hK⟩ := hv
  have hx := B.exec
  have hb := B.bytes
  have hr := B.returns
  have hts := atoms_spec (ws := (mw y_Model_isByte b_Model_isByte 2 (some .boolean))) B.pre
  have htb : ∀ w ∈ tb, w.before [.int a1, .int a2].toArray s = true := fun w h => hts w (mwIn h)
  have hown : s.vm.findClass "LogFsModel" = some m.cls := findClass_of_methodNamed B.named
  have hlocks := B.notSynchronized
  have hS : va_S A s.heap s.heap [] := va_S.rf
  have hl := lv_entry ([.int a1, .int a2]) (n := 2) (Nat.le_of_ble_eq_true rfl)
  rw [lg_entry_eq]
  generalize (lg_sl ([.int a1, .int a2]) ++ List.replicate (2 - (lg_sl ([.int a1, .int a2])).length) Slot.unset).toArray = ls at hl ⊢
  have hl : lv_has ls 2 [(0, .int a1), (1, .int a2)] := hl
  unfold J_Model_isByte at hJ
  refine lv_iload_n hx hb d_Model_isByte_0 rfl (lv_at hl 0 rfl) ?_
  refine lv_if_lt (tgt := 25) hx hb d_Model_isByte_1 (by decide) (fun h1 => ?_) (fun h1 => ?_)
  · have hJ := j_t hJ h1
    refine lv_iconst (v := (0 : Int32)) hx hb d_Model_isByte_25 (by decide) ?_
    have hJ := Option.some.inj hJ
    exact W.zret (v := (0 : Int32)) (ty := .boolean) hx hb hr (by decide +kernel) (fun t ht hW => ⟨⟨_, (), rfl, hJ, kW_end hP hK ht hW rfl⟩, hS.F ht⟩) hS.2.2 d_Model_isByte_26
  · have hJ := j_f hJ h1
    refine lv_iload_n hx hb d_Model_isByte_4 rfl (lv_at hl 0 rfl) ?_
    refine lv_sipush (v := (128 : Int32)) hx hb d_Model_isByte_5 (by decide) ?_
    refine lv_icmp_ge (tgt := 25) hx hb d_Model_isByte_8 (by decide) (fun h2 => ?_) (fun h2 => ?_)
    · have hJ := j_t hJ h2
      refine lv_iconst (v := (0 : Int32)) hx hb d_Model_isByte_25 (by decide) ?_
      have hJ := Option.some.inj hJ
      exact W.zret (v := (0 : Int32)) (ty := .boolean) hx hb hr (by decide +kernel) (fun t ht hW => ⟨⟨_, (), rfl, hJ, kW_end hP hK ht hW rfl⟩, hS.F ht⟩) hS.2.2 d_Model_isByte_26
    · have hJ := j_f hJ h2
      refine lv_iload_n hx hb d_Model_isByte_11 rfl (lv_at hl 1 rfl) ?_
      refine lv_if_lt (tgt := 25) hx hb d_Model_isByte_12 (by decide) (fun h3 => ?_) (fun h3 => ?_)
      · have hJ := j_t hJ h3
        refine lv_iconst (v := (0 : Int32)) hx hb d_Model_isByte_25 (by decide) ?_
        have hJ := Option.some.inj hJ
        exact W.zret (v := (0 : Int32)) (ty := .boolean) hx hb hr (by decide +kernel) (fun t ht hW => ⟨⟨_, (), rfl, hJ, kW_end hP hK ht hW rfl⟩, hS.F ht⟩) hS.2.2 d_Model_isByte_26
      · have hJ := j_f hJ h3
        refine lv_iload_n hx hb d_Model_isByte_15 rfl (lv_at hl 1 rfl) ?_
        refine lv_bipush (v := (64 : Int32)) hx hb d_Model_isByte_16 (by decide) ?_
        refine lv_icmp_ge (tgt := 25) hx hb d_Model_isByte_18 (by decide) (fun h4 => ?_) (fun h4 => ?_)
        · have hJ := j_t hJ h4
          refine lv_iconst (v := (0 : Int32)) hx hb d_Model_isByte_25 (by decide) ?_
          have hJ := Option.some.inj hJ
          exact W.zret (v := (0 : Int32)) (ty := .boolean) hx hb hr (by decide +kernel) (fun t ht hW => ⟨⟨_, (), rfl, hJ, kW_end hP hK ht hW rfl⟩, hS.F ht⟩) hS.2.2 d_Model_isByte_26
        · have hJ := j_f hJ h4
          refine lv_iconst (v := (1 : Int32)) hx hb d_Model_isByte_21 (by decide) ?_
          refine lv_goto (tgt := 26) hx hb d_Model_isByte_22 (by decide) ?_
          have hJ := Option.some.inj hJ
          exact W.zret (v := (1 : Int32)) (ty := .boolean) hx hb hr (by decide +kernel) (fun t ht hW => ⟨⟨_, (), rfl, hJ, kW_end hP hK ht hW rfl⟩, hS.F ht⟩) hS.2.2 d_Model_isByte_26
def J_Model_thrown (σ : RS)  : Option (Int32) :=
  some (r_t σ)
abbrev rm_Model_thrown : Room := { frames := 0, cells := 0, slots := 0, locals := 0 }
set_option maxHeartbeats 4000000 in
set_option maxRecDepth 100000 in
theorem c_Model_thrown {l : Launch} {dC : Nat → ClassId} {dI : Nat → Nat → Nat} {gr : Nat → Nat} {cB cI : ClassId} {A : Nat → Prop} (hDa : ∀ σ, va_D A (wR gr cB cI σ)) {σ : RS} {res : Int32} (hJ : J_Model_thrown σ = some res) :
    Met l y_Model_thrown (mw y_Model_thrown b_Model_thrown 1 (some .int)) rm_Model_thrown (va_Pc [.ref (gr 0)] (kW (dC, dI) (tC cB cI) (wR gr cB cI σ))) (va_Qi (fun (x : Int32) (_ : Unit) => x = res) (fun _ t => kW (dC, dI) (tC cB cI) (wR gr cB cI σ) t) A) 0 0 A := by
  refine Met.ofW (cc := b_Model_thrown) (maxL := 1) (ret := (some .int)) (by decide) rfl ?_
  intro p e s m args below meth c s₁ B hml hv
  obtain ⟨rfl, hP, hK⟩ := hv
  have hx := B.exec
  have hb := B.bytes
  have hr := B.returns
  have hts := atoms_spec (ws := (mw y_Model_thrown b_Model_thrown 1 (some .int))) B.pre
  have htb : ∀ w ∈ tb, w.before [.ref (gr 0)].toArray s = true := fun w h => hts w (mwIn h)
  have hown : s.vm.findClass "LogFsModel" = some m.cls := findClass_of_methodNamed B.named
  have hlocks := B.notSynchronized
  have hS : va_S A s.heap s.heap [] := va_S.rf
  have hl := lv_entry ([.ref (gr 0)]) (n := 1) (Nat.le_of_ble_eq_true rfl)
  rw [lg_entry_eq]
  generalize (lg_sl ([.ref (gr 0)]) ++ List.replicate (1 - (lg_sl ([.ref (gr 0)])).length) Slot.unset).toArray = ls at hl ⊢
  have hl : lv_has ls 1 [(0, .ref (gr 0))] := hl
  unfold J_Model_thrown at hJ
  refine lv_aload_n hx hb d_Model_thrown_0 rfl (lv_at hl 0 rfl) ?_
  refine va_get (D := (dC, dI)) (ci := 5) (v := .int (r_t σ)) (C := R_Model) (T := T_Model) (N := 12) hx hb htb uin_Model hown hK hP 0 rfl rfl 0 (by decide) (htb _ tw590) (fun _ h9 => h9) rfl d_Model_thrown_1 ?_
  have hJ := Option.some.inj hJ
  exact W.iret (v := (r_t σ)) hx hb hr (fun t ht hW => ⟨⟨_, (), rfl, hJ, kW_end hP hK ht hW rfl⟩, hS.F ht⟩) hS.2.2 d_Model_thrown_4
def J_Model_load_2_b (k : RS → Int32 → Option (RS)) (σ : RS) (v1 : Int32) : Option (RS) :=
  (if (8192 : Int32) ≤ v1 then some (q_n σ (0 : Int32)) else (if jin v1 8192 = true then (if jin v1 8192 = true then k (q_M σ (va_up (r_M σ) v1.toNatClampNeg ((r_D σ) v1.toNatClampNeg).toInt32.toInt8)) (v1 + (1 : Int32)) else none) else none))
def J_Model_load_2 : Nat → RS → Int32 → Option (RS)
  | 0, _, _ => none
  | n + 1, σ, v1 => J_Model_load_2_b (J_Model_load_2 n) σ v1
def J_Model_load (σ : RS)  : Option (RS) :=
  J_Model_load_2 9000 σ (0 : Int32)
abbrev rm_Model_load : Room := { frames := 0, cells := 0, slots := 0, locals := 0 }
set_option maxHeartbeats 4000000 in
set_option maxRecDepth 100000 in
theorem c_Model_load {l : Launch} {dC : Nat → ClassId} {dI : Nat → Nat → Nat} {gr : Nat → Nat} {cB cI : ClassId} {A : Nat → Prop} (hDa : ∀ σ, va_D A (wR gr cB cI σ)) {σ : RS} {res : RS} (hJ : J_Model_load σ = some res) :
    Met l y_Model_load (mw y_Model_load b_Model_load 2 none) rm_Model_load (va_Pc [.ref (gr 0)] (kW (dC, dI) (tC cB cI) (wR gr cB cI σ))) (va_Qv (fun (_ : Unit) => True) (fun _ t => kW (dC, dI) (tC cB cI) (wR gr cB cI res) t) A) 0 0 A := by
  refine Met.ofW (cc := b_Model_load) (maxL := 2) (ret := none) (by decide) rfl ?_
  intro p e s m args below meth c s₁ B hml hv
  obtain ⟨rfl, hP, hK⟩ := hv
  have hx := B.exec
  have hb := B.bytes
  have hr := B.returns
  have hts := atoms_spec (ws := (mw y_Model_load b_Model_load 2 none)) B.pre
  have htb : ∀ w ∈ tb, w.before [.ref (gr 0)].toArray s = true := fun w h => hts w (mwIn h)
  have hown : s.vm.findClass "LogFsModel" = some m.cls := findClass_of_methodNamed B.named
  have hlocks := B.notSynchronized
  have hS : va_S A s.heap s.heap [] := va_S.rf
  have hl := lv_entry ([.ref (gr 0)]) (n := 2) (Nat.le_of_ble_eq_true rfl)
  rw [lg_entry_eq]
  generalize (lg_sl ([.ref (gr 0)]) ++ List.replicate (2 - (lg_sl ([.ref (gr 0)])).length) Slot.unset).toArray = ls at hl ⊢
  have hl : lv_has ls 2 [(0, .ref (gr 0))] := hl
  have blk2 : ∀ (n : Nat) (σ : RS) (v1 : Int32) (ls : Array Slot) (H : Heap) (locs : List Loc), J_Model_load_2 n σ v1 = some res → lv_has ls 2 [(0, .ref (gr 0)), (1, .int v1)] → va_P (dC, dI) cls (wR gr cB cI σ) H → va_S A s.heap H locs → W p l e (headSpec (mw y_Model_load b_Model_load 2 none) rm_Model_load).room s m [.ref (gr 0)].toArray below meth c H locs 0 0 (MQ below (va_Qv (fun (_ : Unit) => True) (fun _ t => kW (dC, dI) (tC cB cI) (wR gr cB cI res) t) A) [.ref (gr 0)].toArray s 0 0 A) (F0 m 2 ls []) := by
    intro n
    induction n with
    | zero => intro σ v1 ls H locs hJ; exact j_none hJ
    | succ n hk =>
      intro σ v1 ls H locs hJ hl hP hS
      have hJ : J_Model_load_2_b (J_Model_load_2 n) σ v1 = some res := hJ
      unfold J_Model_load_2_b at hJ
      refine lv_iload_n hx hb d_Model_load_2 rfl (lv_at hl 1 rfl) ?_
      refine lv_sipush (v := (8192 : Int32)) hx hb d_Model_load_3 (by decide) ?_
      refine lv_icmp_ge (tgt := 27) hx hb d_Model_load_6 (by decide) (fun h1 => ?_) (fun h1 => ?_)
      · have hJ := j_t hJ h1
        refine lv_aload_n hx hb d_Model_load_27 rfl (lv_at hl 0 rfl) ?_
        refine lv_iconst (v := (0 : Int32)) hx hb d_Model_load_28 (by decide) ?_
        refine va_put (D := (dC, dI)) (ci := 5) (v := .int (0 : Int32)) (ty := .int) (C := R_Model) (T := T_Model) (N := 12) hx hb htb uin_Model t_Model t_Model_ok n_Model hown hK hP (hDa _) hS 0 rfl rfl 4 (by decide) (htb _ tw594) (fun _ h9 => h9) rfl (by decide +kernel) rfl rfl (Nat.le_of_ble_eq_true rfl) d_Model_load_29 (fun H locs hP _ hS => ?_)
        have hP : va_P (dC, dI) cls (wR gr cB cI (q_n σ (0 : Int32))) H := hP
        have hJ := Option.some.inj hJ
        exact W.vret hx hb hr (fun t ht hW => ⟨⟨(), rfl, trivial, kW_end hP hK ht hW (congrArg (fun z => wR gr cB cI z) hJ)⟩, hS.F ht⟩) hS.2.2 d_Model_load_32
      · have hJ := j_f hJ h1
        refine lv_aload_n hx hb d_Model_load_9 rfl (lv_at hl 0 rfl) ?_
        refine va_get (D := (dC, dI)) (ci := 5) (v := .ref (gr 2)) (C := R_Model) (T := T_Model) (N := 12) hx hb htb uin_Model hown hK hP 0 rfl rfl 2 (by decide) (htb _ tw592) (fun _ h9 => h9) rfl d_Model_load_10 ?_
        refine lv_iload_n hx hb d_Model_load_13 rfl (lv_at hl 1 rfl) ?_
        refine lv_aload_n hx hb d_Model_load_14 rfl (lv_at hl 0 rfl) ?_
        refine va_get (D := (dC, dI)) (ci := 5) (v := .ref (gr 1)) (C := R_Model) (T := T_Model) (N := 12) hx hb htb uin_Model hown hK hP 0 rfl rfl 1 (by decide) (htb _ tw591) (fun _ h9 => h9) rfl d_Model_load_15 ?_
        refine lv_iload_n hx hb d_Model_load_18 rfl (lv_at hl 1 rfl) ?_
        obtain ⟨h2, hJ⟩ := j_g hJ
        refine va_bald hx hb hK hP 1 0 rfl rfl (j_in h2) d_Model_load_19 ?_
        obtain ⟨h3, hJ⟩ := j_g hJ
        refine va_bast hx hb hK hP (hDa _) hS 2 0 rfl rfl (j_in h3) d_Model_load_20 (fun H locs hP _ hS => ?_)
        rw [by_upd] at hP
        have hP : va_P (dC, dI) cls (wR gr cB cI (q_M σ (va_up (r_M σ) v1.toNatClampNeg ((r_D σ) v1.toNatClampNeg).toInt32.toInt8))) H := hP
        refine lv_iinc (k := 1) (v := (v1 + (1 : Int32))) hx hb d_Model_load_21 hl rfl rfl (Nat.le_of_ble_eq_true rfl) rfl (fun ls hl => ?_)
        have hl : lv_has ls 2 [(1, .int (v1 + (1 : Int32))), (0, .ref (gr 0))] := hl
        refine lv_goto (tgt := 2) hx hb d_Model_load_24 (by decide) ?_
        exact hk _ _ _ _ _ hJ (lv_sub hl [1, 0] rfl) hP hS
  unfold J_Model_load at hJ
  refine lv_iconst (v := (0 : Int32)) hx hb d_Model_load_0 (by decide) ?_
  refine lv_istore_n hx hb d_Model_load_1 rfl hl (Nat.le_of_ble_eq_true rfl) rfl (fun ls hl => ?_)
  have hl : lv_has ls 2 [(1, .int (0 : Int32)), (0, .ref (gr 0))] := hl
  exact blk2 9000 _ _ _ _ _ hJ (lv_sub hl [1, 0] rfl) hP hS
def J_Model_at (σ : RS) (a1 : Int32) (a2 : Int32) : Option (Int32) :=
  (if jin (((64 : Int32) * a1) + a2) 8192 = true then some (((r_M σ) (((64 : Int32) * a1) + a2).toNatClampNeg).toInt32 &&& (255 : Int32)) else none)
abbrev rm_Model_at : Room := { frames := 0, cells := 0, slots := 0, locals := 0 }
set_option maxHeartbeats 4000000 in
set_option maxRecDepth 100000 in
theorem c_Model_at {l : Launch} {dC : Nat → ClassId} {dI : Nat → Nat → Nat} {gr : Nat → Nat} {cB cI : ClassId} {A : Nat → Prop} (hDa : ∀ σ, va_D A (wR gr cB cI σ)) {σ : RS} {a1 : Int32} {a2 : Int32} {res : Int32} (hJ : J_Model_at σ a1 a2 = some res) :
    Met l y_Model_at (mw y_Model_at b_Model_at 3 (some .int)) rm_Model_at (va_Pc [.ref (gr 0), .int a1, .int a2] (kW (dC, dI) (tC cB cI) (wR gr cB cI σ))) (va_Qi (fun (x : Int32) (_ : Unit) => x = res) (fun _ t => kW (dC, dI) (tC cB cI) (wR gr cB cI σ) t) A) 0 0 A := by
  refine Met.ofW (cc := b_Model_at) (maxL := 3) (ret := (some .int)) (by decide) rfl ?_
  intro p e s m args below meth c s₁ B hml hv
  obtain ⟨rfl, hP, hK⟩ := hv
  have hx := B.exec
  have hb := B.bytes
  have hr := B.returns
  have hts := atoms_spec (ws := (mw y_Model_at b_Model_at 3 (some .int))) B.pre
  have htb : ∀ w ∈ tb, w.before [.ref (gr 0), .int a1, .int a2].toArray s = true := fun w h => hts w (mwIn h)
  have hown : s.vm.findClass "LogFsModel" = some m.cls := findClass_of_methodNamed B.named
  have hlocks := B.notSynchronized
  have hS : va_S A s.heap s.heap [] := va_S.rf
  have hl := lv_entry ([.ref (gr 0), .int a1, .int a2]) (n := 3) (Nat.le_of_ble_eq_true rfl)
  rw [lg_entry_eq]
  generalize (lg_sl ([.ref (gr 0), .int a1, .int a2]) ++ List.replicate (3 - (lg_sl ([.ref (gr 0), .int a1, .int a2])).length) Slot.unset).toArray = ls at hl ⊢
  have hl : lv_has ls 3 [(0, .ref (gr 0)), (1, .int a1), (2, .int a2)] := hl
  unfold J_Model_at at hJ
  refine lv_aload_n hx hb d_Model_at_0 rfl (lv_at hl 0 rfl) ?_
  refine va_get (D := (dC, dI)) (ci := 5) (v := .ref (gr 2)) (C := R_Model) (T := T_Model) (N := 12) hx hb htb uin_Model hown hK hP 0 rfl rfl 2 (by decide) (htb _ tw592) (fun _ h9 => h9) rfl d_Model_at_1 ?_
  refine lv_bipush (v := (64 : Int32)) hx hb d_Model_at_4 (by decide) ?_
  refine lv_iload_n hx hb d_Model_at_6 rfl (lv_at hl 1 rfl) ?_
  refine lv_imul hx hb d_Model_at_7 ?_
  refine lv_iload_n hx hb d_Model_at_8 rfl (lv_at hl 2 rfl) ?_
  refine lv_iadd hx hb d_Model_at_9 ?_
  obtain ⟨h1, hJ⟩ := j_g hJ
  refine va_bald hx hb hK hP 2 0 rfl rfl (j_in h1) d_Model_at_10 ?_
  refine lv_sipush (v := (255 : Int32)) hx hb d_Model_at_11 (by decide) ?_
  refine lv_iand hx hb d_Model_at_14 ?_
  have hJ := Option.some.inj hJ
  exact W.iret (v := (((r_M σ) (((64 : Int32) * a1) + a2).toNatClampNeg).toInt32 &&& (255 : Int32))) hx hb hr (fun t ht hW => ⟨⟨_, (), rfl, hJ, kW_end hP hK ht hW rfl⟩, hS.F ht⟩) hS.2.2 d_Model_at_15
def J_Model_pend_4_b (k : RS → Int32 → Int32 → Int32 → Option (RS)) (σ : RS) (v1 : Int32) (v2 : Int32) (v3 : Int32) : Option (RS) :=
  (if (r_n σ) ≤ v3 then (if v2 = (0 : Int32) then (if jin (r_n σ) 128 = true then some (q_n (q_P σ (upd (r_P σ) (r_n σ).toNatClampNeg v1)) ((r_n (q_P σ (upd (r_P σ) (r_n σ).toNatClampNeg v1))) + (1 : Int32))) else none) else some σ) else (if v2 = (0 : Int32) then (if jin v3 128 = true then (if ((r_P σ) v3.toNatClampNeg) = v1 then k σ v1 (1 : Int32) (v3 + (1 : Int32)) else k σ v1 (0 : Int32) (v3 + (1 : Int32))) else none) else k σ v1 (1 : Int32) (v3 + (1 : Int32))))
def J_Model_pend_4 : Nat → RS → Int32 → Int32 → Int32 → Option (RS)
  | 0, _, _, _, _ => none
  | n + 1, σ, v1, v2, v3 => J_Model_pend_4_b (J_Model_pend_4 n) σ v1 v2 v3
def J_Model_pend (σ : RS) (a1 : Int32) : Option (RS) :=
  J_Model_pend_4 9000 σ a1 (0 : Int32) (0 : Int32)
abbrev rm_Model_pend : Room := { frames := 0, cells := 0, slots := 0, locals := 0 }
set_option maxHeartbeats 4000000 in
set_option maxRecDepth 100000 in
theorem c_Model_pend {l : Launch} {dC : Nat → ClassId} {dI : Nat → Nat → Nat} {gr : Nat → Nat} {cB cI : ClassId} {A : Nat → Prop} (hDa : ∀ σ, va_D A (wR gr cB cI σ)) {σ : RS} {a1 : Int32} {res : RS} (hJ : J_Model_pend σ a1 = some res) :
    Met l y_Model_pend (mw y_Model_pend b_Model_pend 4 none) rm_Model_pend (va_Pc [.ref (gr 0), .int a1] (kW (dC, dI) (tC cB cI) (wR gr cB cI σ))) (va_Qv (fun (_ : Unit) => True) (fun _ t => kW (dC, dI) (tC cB cI) (wR gr cB cI res) t) A) 0 0 A := by
  refine Met.ofW (cc := b_Model_pend) (maxL := 4) (ret := none) (by decide) rfl ?_
  intro p e s m args below meth c s₁ B hml hv
  obtain ⟨rfl, hP, hK⟩ := hv
  have hx := B.exec
  have hb := B.bytes
  have hr := B.returns
  have hts := atoms_spec (ws := (mw y_Model_pend b_Model_pend 4 none)) B.pre
  have htb : ∀ w ∈ tb, w.before [.ref (gr 0), .int a1].toArray s = true := fun w h => hts w (mwIn h)
  have hown : s.vm.findClass "LogFsModel" = some m.cls := findClass_of_methodNamed B.named
  have hlocks := B.notSynchronized
  have hS : va_S A s.heap s.heap [] := va_S.rf
  have hl := lv_entry ([.ref (gr 0), .int a1]) (n := 4) (Nat.le_of_ble_eq_true rfl)
  rw [lg_entry_eq]
  generalize (lg_sl ([.ref (gr 0), .int a1]) ++ List.replicate (4 - (lg_sl ([.ref (gr 0), .int a1])).length) Slot.unset).toArray = ls at hl ⊢
  have hl : lv_has ls 4 [(0, .ref (gr 0)), (1, .int a1)] := hl
  have blk4 : ∀ (n : Nat) (σ : RS) (v1 : Int32) (v2 : Int32) (v3 : Int32) (ls : Array Slot) (H : Heap) (locs : List Loc), J_Model_pend_4 n σ v1 v2 v3 = some res → lv_has ls 4 [(0, .ref (gr 0)), (1, .int v1), (2, .int v2), (3, .int v3)] → va_P (dC, dI) cls (wR gr cB cI σ) H → va_S A s.heap H locs → W p l e (headSpec (mw y_Model_pend b_Model_pend 4 none) rm_Model_pend).room s m [.ref (gr 0), .int a1].toArray below meth c H locs 0 0 (MQ below (va_Qv (fun (_ : Unit) => True) (fun _ t => kW (dC, dI) (tC cB cI) (wR gr cB cI res) t) A) [.ref (gr 0), .int a1].toArray s 0 0 A) (F0 m 4 ls []) := by
    intro n
    induction n with
    | zero => intro σ v1 v2 v3 ls H locs hJ; exact j_none hJ
    | succ n hk =>
      intro σ v1 v2 v3 ls H locs hJ hl hP hS
      have hJ : J_Model_pend_4_b (J_Model_pend_4 n) σ v1 v2 v3 = some res := hJ
      unfold J_Model_pend_4_b at hJ
      refine lv_iload_n hx hb d_Model_pend_4 rfl (lv_at hl 3 rfl) ?_
      refine lv_aload_n hx hb d_Model_pend_5 rfl (lv_at hl 0 rfl) ?_
      refine va_get (D := (dC, dI)) (ci := 5) (v := .int (r_n σ)) (C := R_Model) (T := T_Model) (N := 12) hx hb htb uin_Model hown hK hP 0 rfl rfl 4 (by decide) (htb _ tw594) (fun _ h9 => h9) rfl d_Model_pend_6 ?_
      refine lv_icmp_ge (tgt := 38) hx hb d_Model_pend_9 (by decide) (fun h1 => ?_) (fun h1 => ?_)
      · have hJ := j_t hJ h1
        refine lv_iload_n hx hb d_Model_pend_38 rfl (lv_at hl 2 rfl) ?_
        refine lv_if_ne (tgt := 62) hx hb d_Model_pend_39 (by decide) (fun h2 => ?_) (fun h2 => ?_)
        · have hJ := j_f hJ h2
          have hJ := Option.some.inj hJ
          exact W.vret hx hb hr (fun t ht hW => ⟨⟨(), rfl, trivial, kW_end hP hK ht hW (congrArg (fun z => wR gr cB cI z) hJ)⟩, hS.F ht⟩) hS.2.2 d_Model_pend_62
        · have hJ := j_t hJ h2
          refine lv_aload_n hx hb d_Model_pend_42 rfl (lv_at hl 0 rfl) ?_
          refine va_get (D := (dC, dI)) (ci := 5) (v := .ref (gr 3)) (C := R_Model) (T := T_Model) (N := 12) hx hb htb uin_Model hown hK hP 0 rfl rfl 3 (by decide) (htb _ tw593) (fun _ h9 => h9) rfl d_Model_pend_43 ?_
          refine lv_aload_n hx hb d_Model_pend_46 rfl (lv_at hl 0 rfl) ?_
          refine va_get (D := (dC, dI)) (ci := 5) (v := .int (r_n σ)) (C := R_Model) (T := T_Model) (N := 12) hx hb htb uin_Model hown hK hP 0 rfl rfl 4 (by decide) (htb _ tw594) (fun _ h9 => h9) rfl d_Model_pend_47 ?_
          refine lv_iload_n hx hb d_Model_pend_50 rfl (lv_at hl 1 rfl) ?_
          obtain ⟨h3, hJ⟩ := j_g hJ
          refine va_iast hx hb hK hP (hDa _) hS 3 1 rfl rfl (j_in h3) d_Model_pend_51 (fun H locs hP _ hS => ?_)
          have hP : va_P (dC, dI) cls (wR gr cB cI (q_P σ (upd (r_P σ) (r_n σ).toNatClampNeg v1))) H := hP
          refine lv_aload_n hx hb d_Model_pend_52 rfl (lv_at hl 0 rfl) ?_
          refine lv_dup hx hb d_Model_pend_53 rfl ?_
          refine va_get (D := (dC, dI)) (ci := 5) (v := .int (r_n (q_P σ (upd (r_P σ) (r_n σ).toNatClampNeg v1)))) (C := R_Model) (T := T_Model) (N := 12) hx hb htb uin_Model hown hK hP 0 rfl rfl 4 (by decide) (htb _ tw594) (fun _ h9 => h9) rfl d_Model_pend_54 ?_
          refine lv_iconst (v := (1 : Int32)) hx hb d_Model_pend_57 (by decide) ?_
          refine lv_iadd hx hb d_Model_pend_58 ?_
          refine va_put (D := (dC, dI)) (ci := 5) (v := .int ((r_n (q_P σ (upd (r_P σ) (r_n σ).toNatClampNeg v1))) + (1 : Int32))) (ty := .int) (C := R_Model) (T := T_Model) (N := 12) hx hb htb uin_Model t_Model t_Model_ok n_Model hown hK hP (hDa _) hS 0 rfl rfl 4 (by decide) (htb _ tw594) (fun _ h9 => h9) rfl (by decide +kernel) rfl rfl (Nat.le_of_ble_eq_true rfl) d_Model_pend_59 (fun H locs hP _ hS => ?_)
          have hP : va_P (dC, dI) cls (wR gr cB cI (q_n (q_P σ (upd (r_P σ) (r_n σ).toNatClampNeg v1)) ((r_n (q_P σ (upd (r_P σ) (r_n σ).toNatClampNeg v1))) + (1 : Int32)))) H := hP
          have hJ := Option.some.inj hJ
          exact W.vret hx hb hr (fun t ht hW => ⟨⟨(), rfl, trivial, kW_end hP hK ht hW (congrArg (fun z => wR gr cB cI z) hJ)⟩, hS.F ht⟩) hS.2.2 d_Model_pend_62
      · have hJ := j_f hJ h1
        refine lv_iload_n hx hb d_Model_pend_12 rfl (lv_at hl 2 rfl) ?_
        refine lv_if_ne (tgt := 26) hx hb d_Model_pend_13 (by decide) (fun h4 => ?_) (fun h4 => ?_)
        · have hJ := j_f hJ h4
          refine lv_iconst (v := (1 : Int32)) hx hb d_Model_pend_26 (by decide) ?_
          refine lv_goto (tgt := 31) hx hb d_Model_pend_27 (by decide) ?_
          refine lv_istore_n hx hb d_Model_pend_31 rfl hl (Nat.le_of_ble_eq_true rfl) rfl (fun ls hl => ?_)
          have hl : lv_has ls 4 [(2, .int (1 : Int32)), (0, .ref (gr 0)), (1, .int v1), (3, .int v3)] := hl
          refine lv_iinc (k := 3) (v := (v3 + (1 : Int32))) hx hb d_Model_pend_32 hl rfl rfl (Nat.le_of_ble_eq_true rfl) rfl (fun ls hl => ?_)
          have hl : lv_has ls 4 [(3, .int (v3 + (1 : Int32))), (2, .int (1 : Int32)), (0, .ref (gr 0)), (1, .int v1)] := hl
          refine lv_goto (tgt := 4) hx hb d_Model_pend_35 (by decide) ?_
          exact hk _ _ _ _ _ _ _ hJ (lv_sub hl [2, 3, 1, 0] rfl) hP hS
        · have hJ := j_t hJ h4
          refine lv_aload_n hx hb d_Model_pend_16 rfl (lv_at hl 0 rfl) ?_
          refine va_get (D := (dC, dI)) (ci := 5) (v := .ref (gr 3)) (C := R_Model) (T := T_Model) (N := 12) hx hb htb uin_Model hown hK hP 0 rfl rfl 3 (by decide) (htb _ tw593) (fun _ h9 => h9) rfl d_Model_pend_17 ?_
          refine lv_iload_n hx hb d_Model_pend_20 rfl (lv_at hl 3 rfl) ?_
          obtain ⟨h5, hJ⟩ := j_g hJ
          refine va_iald hx hb hK hP 3 1 rfl rfl (j_in h5) d_Model_pend_21 ?_
          refine lv_iload_n hx hb d_Model_pend_22 rfl (lv_at hl 1 rfl) ?_
          refine lv_icmp_ne (tgt := 30) hx hb d_Model_pend_23 (by decide) (fun h6 => ?_) (fun h6 => ?_)
          · have hJ := j_f hJ h6
            refine lv_iconst (v := (0 : Int32)) hx hb d_Model_pend_30 (by decide) ?_
            refine lv_istore_n hx hb d_Model_pend_31 rfl hl (Nat.le_of_ble_eq_true rfl) rfl (fun ls hl => ?_)
            have hl : lv_has ls 4 [(2, .int (0 : Int32)), (0, .ref (gr 0)), (1, .int v1), (3, .int v3)] := hl
            refine lv_iinc (k := 3) (v := (v3 + (1 : Int32))) hx hb d_Model_pend_32 hl rfl rfl (Nat.le_of_ble_eq_true rfl) rfl (fun ls hl => ?_)
            have hl : lv_has ls 4 [(3, .int (v3 + (1 : Int32))), (2, .int (0 : Int32)), (0, .ref (gr 0)), (1, .int v1)] := hl
            refine lv_goto (tgt := 4) hx hb d_Model_pend_35 (by decide) ?_
            exact hk _ _ _ _ _ _ _ hJ (lv_sub hl [2, 3, 1, 0] rfl) hP hS
          · have hJ := j_t hJ h6
            refine lv_iconst (v := (1 : Int32)) hx hb d_Model_pend_26 (by decide) ?_
            refine lv_goto (tgt := 31) hx hb d_Model_pend_27 (by decide) ?_
            refine lv_istore_n hx hb d_Model_pend_31 rfl hl (Nat.le_of_ble_eq_true rfl) rfl (fun ls hl => ?_)
            have hl : lv_has ls 4 [(2, .int (1 : Int32)), (0, .ref (gr 0)), (1, .int v1), (3, .int v3)] := hl
            refine lv_iinc (k := 3) (v := (v3 + (1 : Int32))) hx hb d_Model_pend_32 hl rfl rfl (Nat.le_of_ble_eq_true rfl) rfl (fun ls hl => ?_)
            have hl : lv_has ls 4 [(3, .int (v3 + (1 : Int32))), (2, .int (1 : Int32)), (0, .ref (gr 0)), (1, .int v1)] := hl
            refine lv_goto (tgt := 4) hx hb d_Model_pend_35 (by decide) ?_
            exact hk _ _ _ _ _ _ _ hJ (lv_sub hl [2, 3, 1, 0] rfl) hP hS
  unfold J_Model_pend at hJ
  refine lv_iconst (v := (0 : Int32)) hx hb d_Model_pend_0 (by decide) ?_
  refine lv_istore_n hx hb d_Model_pend_1 rfl hl (Nat.le_of_ble_eq_true rfl) rfl (fun ls hl => ?_)
  have hl : lv_has ls 4 [(2, .int (0 : Int32)), (0, .ref (gr 0)), (1, .int a1)] := hl
  refine lv_iconst (v := (0 : Int32)) hx hb d_Model_pend_2 (by decide) ?_
  refine lv_istore_n hx hb d_Model_pend_3 rfl hl (Nat.le_of_ble_eq_true rfl) rfl (fun ls hl => ?_)
  have hl : lv_has ls 4 [(3, .int (0 : Int32)), (2, .int (0 : Int32)), (0, .ref (gr 0)), (1, .int a1)] := hl
  exact blk4 9000 _ _ _ _ _ _ _ hJ (lv_sub hl [2, 3, 1, 0] rfl) hP hS
def J_Model_set (σ : RS) (a1 : Int32) (a2 : Int32) (a3 : Int32) : Option (RS) :=
  (if jin (((64 : Int32) * a1) + a2) 8192 = true then (J_Model_pend (q_M σ (va_up (r_M σ) (((64 : Int32) * a1) + a2).toNatClampNeg a3.toInt8.toInt32.toInt8)) a1).bind fun x2 => some x2 else none)
abbrev rm_Model_set : Room := { frames := 1, cells := 0, slots := 0, locals := 23 }
set_option maxHeartbeats 4000000 in
set_option maxRecDepth 100000 in
theorem c_Model_set {l : Launch} {dC : Nat → ClassId} {dI : Nat → Nat → Nat} {gr : Nat → Nat} {cB cI : ClassId} {A : Nat → Prop} (hDa : ∀ σ, va_D A (wR gr cB cI σ)) {σ : RS} {a1 : Int32} {a2 : Int32} {a3 : Int32} {res : RS} (hJ : J_Model_set σ a1 a2 a3 = some res) :
    Met l y_Model_set (mw y_Model_set b_Model_set 4 none) rm_Model_set (va_Pc [.ref (gr 0), .int a1, .int a2, .int a3] (kW (dC, dI) (tC cB cI) (wR gr cB cI σ))) (va_Qv (fun (_ : Unit) => True) (fun _ t => kW (dC, dI) (tC cB cI) (wR gr cB cI res) t) A) 0 0 A := by
  refine Met.ofW (cc := b_Model_set) (maxL := 4) (ret := none) (by decide) rfl ?_
  intro p e s m args below meth c s₁ B hml hv
  obtain ⟨rfl, hP, hK⟩ := hv
  have hx := B.exec
  have hb := B.bytes
  have hr := B.returns
  have hts := atoms_spec (ws := (mw y_Model_set b_Model_set 4 none)) B.pre
  have htb : ∀ w ∈ tb, w.before [.ref (gr 0), .int a1, .int a2, .int a3].toArray s = true := fun w h => hts w (mwIn h)
  have hown : s.vm.findClass "LogFsModel" = some m.cls := findClass_of_methodNamed B.named
  have hlocks := B.notSynchronized
  have hS : va_S A s.heap s.heap [] := va_S.rf
  have hl := lv_entry ([.ref (gr 0), .int a1, .int a2, .int a3]) (n := 4) (Nat.le_of_ble_eq_true rfl)
  rw [lg_entry_eq]
  generalize (lg_sl ([.ref (gr 0), .int a1, .int a2, .int a3]) ++ List.replicate (4 - (lg_sl ([.ref (gr 0), .int a1, .int a2, .int a3])).length) Slot.unset).toArray = ls at hl ⊢
  have hl : lv_has ls 4 [(0, .ref (gr 0)), (1, .int a1), (2, .int a2), (3, .int a3)] := hl
  unfold J_Model_set at hJ
  refine lv_aload_n hx hb d_Model_set_0 rfl (lv_at hl 0 rfl) ?_
  refine va_get (D := (dC, dI)) (ci := 5) (v := .ref (gr 2)) (C := R_Model) (T := T_Model) (N := 12) hx hb htb uin_Model hown hK hP 0 rfl rfl 2 (by decide) (htb _ tw592) (fun _ h9 => h9) rfl d_Model_set_1 ?_
  refine lv_bipush (v := (64 : Int32)) hx hb d_Model_set_4 (by decide) ?_
  refine lv_iload_n hx hb d_Model_set_6 rfl (lv_at hl 1 rfl) ?_
  refine lv_imul hx hb d_Model_set_7 ?_
  refine lv_iload_n hx hb d_Model_set_8 rfl (lv_at hl 2 rfl) ?_
  refine lv_iadd hx hb d_Model_set_9 ?_
  refine lv_iload_n hx hb d_Model_set_10 rfl (lv_at hl 3 rfl) ?_
  refine lv_i2b hx hb d_Model_set_11 rfl ?_
  obtain ⟨h1, hJ⟩ := j_g hJ
  refine va_bast hx hb hK hP (hDa _) hS 2 0 rfl rfl (j_in h1) d_Model_set_12 (fun H locs hP _ hS => ?_)
  rw [by_upd] at hP
  have hP : va_P (dC, dI) cls (wR gr cB cI (q_M σ (va_up (r_M σ) (((64 : Int32) * a1) + a2).toNatClampNeg a3.toInt8.toInt32.toInt8))) H := hP
  refine lv_aload_n hx hb d_Model_set_13 rfl (lv_at hl 0 rfl) ?_
  refine lv_iload_n hx hb d_Model_set_14 rfl (lv_at hl 1 rfl) ?_
  obtain ⟨x2, e2, hJ⟩ := j_bind hJ
  refine va_callv (va_runV (As := [.int a1]) (rest := []) ⟨hx, hb, hml, hown, htb⟩ (c_Model_pend (l := l) (dC := dC) (dI := dI) hDa e2) (xcV 1 htb tw751 tw7 tw748 tw750 ts_Model_pend rfl rfl hd_Model_pend ⟨Nat.le_of_ble_eq_true rfl, Nat.le_of_ble_eq_true rfl⟩) (kW_V hP hK (va_recv (q0 := 0) (ci := 5) hK hP rfl rfl)) rfl rfl hl.1 rfl (lv_room (Nat.le_of_ble_eq_true rfl)) d_Model_set_15 ⟨Nat.le_of_ble_eq_true rfl, Nat.le_of_ble_eq_true rfl⟩) hS (fun q _ h => h) (fun q h => h) (fun u t H locs ht hvm hw hB _ _ hS => ?_)
  have hP := kW_P hB ht
  have hJ := Option.some.inj hJ
  exact W.vret hx hb hr (fun t ht hW => ⟨⟨(), rfl, trivial, kW_end hP hK ht hW (congrArg (fun z => wR gr cB cI z) hJ)⟩, hS.F ht⟩) hS.2.2 d_Model_set_18
def J_Model_inodeAt (σ : RS) (a1 : Int32) (a2 : Int32) : Option (Int32) :=
  (J_Model_blockOf a1).bind fun x1 => (J_Model_placeOf a1).bind fun x2 => (J_Model_at σ x1 (x2 + a2)).bind fun x3 => some x3
abbrev rm_Model_inodeAt : Room := { frames := 1, cells := 0, slots := 0, locals := 22 }
set_option maxHeartbeats 4000000 in
set_option maxRecDepth 100000 in
theorem c_Model_inodeAt {l : Launch} {dC : Nat → ClassId} {dI : Nat → Nat → Nat} {gr : Nat → Nat} {cB cI : ClassId} {A : Nat → Prop} (hDa : ∀ σ, va_D A (wR gr cB cI σ)) {σ : RS} {a1 : Int32} {a2 : Int32} {res : Int32} (hJ : J_Model_inodeAt σ a1 a2 = some res) :
    Met l y_Model_inodeAt (mw y_Model_inodeAt b_Model_inodeAt 3 (some .int)) rm_Model_inodeAt (va_Pc [.ref (gr 0), .int a1, .int a2] (kW (dC, dI) (tC cB cI) (wR gr cB cI σ))) (va_Qi (fun (x : Int32) (_ : Unit) => x = res) (fun _ t => kW (dC, dI) (tC cB cI) (wR gr cB cI σ) t) A) 0 0 A := by
  refine Met.ofW (cc := b_Model_inodeAt) (maxL := 3) (ret := (some .int)) (by decide) rfl ?_
  intro p e s m args below meth c s₁ B hml hv
  obtain ⟨rfl, hP, hK⟩ := hv
  have hx := B.exec
  have hb := B.bytes
  have hr := B.returns
  have hts := atoms_spec (ws := (mw y_Model_inodeAt b_Model_inodeAt 3 (some .int))) B.pre
  have htb : ∀ w ∈ tb, w.before [.ref (gr 0), .int a1, .int a2].toArray s = true := fun w h => hts w (mwIn h)
  have hown : s.vm.findClass "LogFsModel" = some m.cls := findClass_of_methodNamed B.named
  have hlocks := B.notSynchronized
  have hS : va_S A s.heap s.heap [] := va_S.rf
  have hl := lv_entry ([.ref (gr 0), .int a1, .int a2]) (n := 3) (Nat.le_of_ble_eq_true rfl)
  rw [lg_entry_eq]
  generalize (lg_sl ([.ref (gr 0), .int a1, .int a2]) ++ List.replicate (3 - (lg_sl ([.ref (gr 0), .int a1, .int a2])).length) Slot.unset).toArray = ls at hl ⊢
  have hl : lv_has ls 3 [(0, .ref (gr 0)), (1, .int a1), (2, .int a2)] := hl
  unfold J_Model_inodeAt at hJ
  refine lv_aload_n hx hb d_Model_inodeAt_0 rfl (lv_at hl 0 rfl) ?_
  refine lv_iload_n hx hb d_Model_inodeAt_1 rfl (lv_at hl 1 rfl) ?_
  obtain ⟨x1, e1, hJ⟩ := j_bind hJ
  refine va_calli (va_runS (As := [.int a1]) (rest := [.ref (gr 0)]) ⟨hx, hb, hml, hown, htb⟩ (c_Model_blockOf (l := l) (dC := dC) (dI := dI) (σ := σ) hDa e1) (xcS 1 htb tw685 tw7 tw683 tw684 rfl rfl hd_Model_blockOf ⟨Nat.le_of_ble_eq_true rfl, Nat.le_of_ble_eq_true rfl⟩) (kW_S hP hK) rfl rfl hl.1 rfl (lv_room (Nat.le_of_ble_eq_true rfl)) d_Model_inodeAt_2 ⟨Nat.le_of_ble_eq_true rfl, Nat.le_of_ble_eq_true rfl⟩) hS (fun q _ h => h) (fun q h => h) (fun r0 u t H locs ht hvm hw hB _ _ hS => ?_)
  subst r0
  have hP := kW_P hB ht
  refine lv_iload_n hx hb d_Model_inodeAt_5 rfl (lv_at hl 1 rfl) ?_
  obtain ⟨x2, e2, hJ⟩ := j_bind hJ
  refine va_calli (va_runS (As := [.int a1]) (rest := [.int x1, .ref (gr 0)]) ⟨hx, hb, hml, hown, htb⟩ (c_Model_placeOf (l := l) (dC := dC) (dI := dI) (σ := σ) hDa e2) (xcS 1 htb tw688 tw7 tw686 tw687 rfl rfl hd_Model_placeOf ⟨Nat.le_of_ble_eq_true rfl, Nat.le_of_ble_eq_true rfl⟩) (kW_S hP hK) rfl rfl hl.1 rfl (lv_room (Nat.le_of_ble_eq_true rfl)) d_Model_inodeAt_6 ⟨Nat.le_of_ble_eq_true rfl, Nat.le_of_ble_eq_true rfl⟩) hS (fun q _ h => h) (fun q h => h) (fun r0 u t H locs ht hvm hw hB _ _ hS => ?_)
  subst r0
  have hP := kW_P hB ht
  refine lv_iload_n hx hb d_Model_inodeAt_9 rfl (lv_at hl 2 rfl) ?_
  refine lv_iadd hx hb d_Model_inodeAt_10 ?_
  obtain ⟨x3, e3, hJ⟩ := j_bind hJ
  refine va_calli (va_runV (As := [.int x1, .int (x2 + a2)]) (rest := []) ⟨hx, hb, hml, hown, htb⟩ (c_Model_at (l := l) (dC := dC) (dI := dI) hDa e3) (xcV 2 htb tw692 tw7 tw689 tw691 ts_Model_at rfl rfl hd_Model_at ⟨Nat.le_of_ble_eq_true rfl, Nat.le_of_ble_eq_true rfl⟩) (kW_V hP hK (va_recv (q0 := 0) (ci := 5) hK hP rfl rfl)) rfl rfl hl.1 rfl (lv_room (Nat.le_of_ble_eq_true rfl)) d_Model_inodeAt_11 ⟨Nat.le_of_ble_eq_true rfl, Nat.le_of_ble_eq_true rfl⟩) hS (fun q _ h => h) (fun q h => h) (fun r0 u t H locs ht hvm hw hB _ _ hS => ?_)
  subst r0
  have hP := kW_P hB ht
  have hJ := Option.some.inj hJ
  exact W.iret (v := x3) hx hb hr (fun t ht hW => ⟨⟨_, (), rfl, hJ, kW_end hP hK ht hW rfl⟩, hS.F ht⟩) hS.2.2 d_Model_inodeAt_14
def J_Model_setInode (σ : RS) (a1 : Int32) (a2 : Int32) (a3 : Int32) : Option (RS) :=
  (J_Model_blockOf a1).bind fun x1 => (J_Model_placeOf a1).bind fun x2 => (J_Model_set σ x1 (x2 + a2) a3).bind fun x3 => some x3
abbrev rm_Model_setInode : Room := { frames := 2, cells := 0, slots := 0, locals := 46 }
set_option maxHeartbeats 4000000 in
set_option maxRecDepth 100000 in
theorem c_Model_setInode {l : Launch} {dC : Nat → ClassId} {dI : Nat → Nat → Nat} {gr : Nat → Nat} {cB cI : ClassId} {A : Nat → Prop} (hDa : ∀ σ, va_D A (wR gr cB cI σ)) {σ : RS} {a1 : Int32} {a2 : Int32} {a3 : Int32} {res : RS} (hJ : J_Model_setInode σ a1 a2 a3 = some res) :
    Met l y_Model_setInode (mw y_Model_setInode b_Model_setInode 4 none) rm_Model_setInode (va_Pc [.ref (gr 0), .int a1, .int a2, .int a3] (kW (dC, dI) (tC cB cI) (wR gr cB cI σ))) (va_Qv (fun (_ : Unit) => True) (fun _ t => kW (dC, dI) (tC cB cI) (wR gr cB cI res) t) A) 0 0 A := by
  refine Met.ofW (cc := b_Model_setInode) (maxL := 4) (ret := none) (by decide) rfl ?_
  intro p e s m args below meth c s₁ B hml hv
  obtain ⟨rfl, hP, hK⟩ := hv
  have hx := B.exec
  have hb := B.bytes
  have hr := B.returns
  have hts := atoms_spec (ws := (mw y_Model_setInode b_Model_setInode 4 none)) B.pre
  have htb : ∀ w ∈ tb, w.before [.ref (gr 0), .int a1, .int a2, .int a3].toArray s = true := fun w h => hts w (mwIn h)
  have hown : s.vm.findClass "LogFsModel" = some m.cls := findClass_of_methodNamed B.named
  have hlocks := B.notSynchronized
  have hS : va_S A s.heap s.heap [] := va_S.rf
  have hl := lv_entry ([.ref (gr 0), .int a1, .int a2, .int a3]) (n := 4) (Nat.le_of_ble_eq_true rfl)
  rw [lg_entry_eq]
  generalize (lg_sl ([.ref (gr 0), .int a1, .int a2, .int a3]) ++ List.replicate (4 - (lg_sl ([.ref (gr 0), .int a1, .int a2, .int a3])).length) Slot.unset).toArray = ls at hl ⊢
  have hl : lv_has ls 4 [(0, .ref (gr 0)), (1, .int a1), (2, .int a2), (3, .int a3)] := hl
  unfold J_Model_setInode at hJ
  refine lv_aload_n hx hb d_Model_setInode_0 rfl (lv_at hl 0 rfl) ?_
  refine lv_iload_n hx hb d_Model_setInode_1 rfl (lv_at hl 1 rfl) ?_
  obtain ⟨x1, e1, hJ⟩ := j_bind hJ
  refine va_calli (va_runS (As := [.int a1]) (rest := [.ref (gr 0)]) ⟨hx, hb, hml, hown, htb⟩ (c_Model_blockOf (l := l) (dC := dC) (dI := dI) (σ := σ) hDa e1) (xcS 1 htb tw685 tw7 tw683 tw684 rfl rfl hd_Model_blockOf ⟨Nat.le_of_ble_eq_true rfl, Nat.le_of_ble_eq_true rfl⟩) (kW_S hP hK) rfl rfl hl.1 rfl (lv_room (Nat.le_of_ble_eq_true rfl)) d_Model_setInode_2 ⟨Nat.le_of_ble_eq_true rfl, Nat.le_of_ble_eq_true rfl⟩) hS (fun q _ h => h) (fun q h => h) (fun r0 u t H locs ht hvm hw hB _ _ hS => ?_)
  subst r0
  have hP := kW_P hB ht
  refine lv_iload_n hx hb d_Model_setInode_5 rfl (lv_at hl 1 rfl) ?_
  obtain ⟨x2, e2, hJ⟩ := j_bind hJ
  refine va_calli (va_runS (As := [.int a1]) (rest := [.int x1, .ref (gr 0)]) ⟨hx, hb, hml, hown, htb⟩ (c_Model_placeOf (l := l) (dC := dC) (dI := dI) (σ := σ) hDa e2) (xcS 1 htb tw688 tw7 tw686 tw687 rfl rfl hd_Model_placeOf ⟨Nat.le_of_ble_eq_true rfl, Nat.le_of_ble_eq_true rfl⟩) (kW_S hP hK) rfl rfl hl.1 rfl (lv_room (Nat.le_of_ble_eq_true rfl)) d_Model_setInode_6 ⟨Nat.le_of_ble_eq_true rfl, Nat.le_of_ble_eq_true rfl⟩) hS (fun q _ h => h) (fun q h => h) (fun r0 u t H locs ht hvm hw hB _ _ hS => ?_)
  subst r0
  have hP := kW_P hB ht
  refine lv_iload_n hx hb d_Model_setInode_9 rfl (lv_at hl 2 rfl) ?_
  refine lv_iadd hx hb d_Model_setInode_10 ?_
  refine lv_iload_n hx hb d_Model_setInode_11 rfl (lv_at hl 3 rfl) ?_
  obtain ⟨x3, e3, hJ⟩ := j_bind hJ
  refine va_callv (va_runV (As := [.int x1, .int (x2 + a2), .int a3]) (rest := []) ⟨hx, hb, hml, hown, htb⟩ (c_Model_set (l := l) (dC := dC) (dI := dI) hDa e3) (xcV 3 htb tw747 tw7 tw744 tw746 ts_Model_set rfl rfl hd_Model_set ⟨Nat.le_of_ble_eq_true rfl, Nat.le_of_ble_eq_true rfl⟩) (kW_V hP hK (va_recv (q0 := 0) (ci := 5) hK hP rfl rfl)) rfl rfl hl.1 rfl (lv_room (Nat.le_of_ble_eq_true rfl)) d_Model_setInode_12 ⟨Nat.le_of_ble_eq_true rfl, Nat.le_of_ble_eq_true rfl⟩) hS (fun q _ h => h) (fun q h => h) (fun u t H locs ht hvm hw hB _ _ hS => ?_)
  have hP := kW_P hB ht
  have hJ := Option.some.inj hJ
  exact W.vret hx hb hr (fun t ht hW => ⟨⟨(), rfl, trivial, kW_end hP hK ht hW (congrArg (fun z => wR gr cB cI z) hJ)⟩, hS.F ht⟩) hS.2.2 d_Model_setInode_15
def J_Model_is_20 (σ : RS) (v2 : Int32) (t1 : Int32) : Option (Int32) :=
  (J_Model_inodeAt σ t1 (0 : Int32)).bind fun x5 => (if x5 = v2 then some (1 : Int32) else some (0 : Int32))
def J_Model_is (σ : RS) (a1 : Int32) (a2 : Int32) : Option (Int32) :=
  (J_Model_isInode a1).bind fun x1 => (if x1 = (0 : Int32) then some (0 : Int32) else (J_Model_isInode a1).bind fun x3 => (if x3 = (0 : Int32) then J_Model_is_20 σ a2 (0 : Int32) else J_Model_is_20 σ a2 a1))
abbrev rm_Model_is : Room := { frames := 2, cells := 0, slots := 0, locals := 44 }
set_option maxHeartbeats 4000000 in
set_option maxRecDepth 100000 in
theorem c_Model_is {l : Launch} {dC : Nat → ClassId} {dI : Nat → Nat → Nat} {gr : Nat → Nat} {cB cI : ClassId} {A : Nat → Prop} (hDa : ∀ σ, va_D A (wR gr cB cI σ)) {σ : RS} {a1 : Int32} {a2 : Int32} {res : Int32} (hJ : J_Model_is σ a1 a2 = some res) :
    Met l y_Model_is (mw y_Model_is b_Model_is 3 (some .boolean)) rm_Model_is (va_Pc [.ref (gr 0), .int a1, .int a2] (kW (dC, dI) (tC cB cI) (wR gr cB cI σ))) (va_Qi (fun (x : Int32) (_ : Unit) => x = res) (fun _ t => kW (dC, dI) (tC cB cI) (wR gr cB cI σ) t) A) 0 0 A := by
  refine Met.ofW (cc := b_Model_is) (maxL := 3) (ret := (some .boolean)) (by decide) rfl ?_
  intro p e s m args below meth c s₁ B hml hv
  obtain ⟨rfl, hP, hK⟩ := hv
  have hx := B.exec
  have hb := B.bytes
  have hr := B.returns
  have hts := atoms_spec (ws := (mw y_Model_is b_Model_is 3 (some .boolean))) B.pre
  have htb : ∀ w ∈ tb, w.before [.ref (gr 0), .int a1, .int a2].toArray s = true := fun w h => hts w (mwIn h)
  have hown : s.vm.findClass "LogFsModel" = some m.cls := findClass_of_methodNamed B.named
  have hlocks := B.notSynchronized
  have hS : va_S A s.heap s.heap [] := va_S.rf
  have hl := lv_entry ([.ref (gr 0), .int a1, .int a2]) (n := 3) (Nat.le_of_ble_eq_true rfl)
  rw [lg_entry_eq]
  generalize (lg_sl ([.ref (gr 0), .int a1, .int a2]) ++ List.replicate (3 - (lg_sl ([.ref (gr 0), .int a1, .int a2])).length) Slot.unset).toArray = ls at hl ⊢
  have hl : lv_has ls 3 [(0, .ref (gr 0)), (1, .int a1), (2, .int a2)] := hl
  have blk20 : ∀ (v2 : Int32) (t1 : Int32) (ls : Array Slot) (H : Heap) (locs : List Loc), J_Model_is_20 σ v2 t1 = some res → lv_has ls 3 [(2, .int v2)] → va_P (dC, dI) cls (wR gr cB cI σ) H → va_S A s.heap H locs → W p l e (headSpec (mw y_Model_is b_Model_is 3 (some .boolean)) rm_Model_is).room s m [.ref (gr 0), .int a1, .int a2].toArray below meth c H locs 0 0 (MQ below (va_Qi (fun (x : Int32) (_ : Unit) => x = res) (fun _ t => kW (dC, dI) (tC cB cI) (wR gr cB cI σ) t) A) [.ref (gr 0), .int a1, .int a2].toArray s 0 0 A) (F0 m 20 ls [.int t1, .ref (gr 0)]) := by
    intro v2 t1 ls H locs hJ hl hP hS
    unfold J_Model_is_20 at hJ
    refine lv_iconst (v := (0 : Int32)) hx hb d_Model_is_20 (by decide) ?_
    obtain ⟨x5, e5, hJ⟩ := j_bind hJ
    refine va_calli (va_runV (As := [.int t1, .int (0 : Int32)]) (rest := []) ⟨hx, hb, hml, hown, htb⟩ (c_Model_inodeAt (l := l) (dC := dC) (dI := dI) hDa e5) (xcV 2 htb tw682 tw7 tw679 tw681 ts_Model_inodeAt rfl rfl hd_Model_inodeAt ⟨Nat.le_of_ble_eq_true rfl, Nat.le_of_ble_eq_true rfl⟩) (kW_V hP hK (va_recv (q0 := 0) (ci := 5) hK hP rfl rfl)) rfl rfl hl.1 rfl (lv_room (Nat.le_of_ble_eq_true rfl)) d_Model_is_21 ⟨Nat.le_of_ble_eq_true rfl, Nat.le_of_ble_eq_true rfl⟩) hS (fun q _ h => h) (fun q h => h) (fun r0 u t H locs ht hvm hw hB _ _ hS => ?_)
    subst r0
    have hP := kW_P hB ht
    refine lv_iload_n hx hb d_Model_is_24 rfl (lv_at hl 0 rfl) ?_
    refine lv_icmp_ne (tgt := 32) hx hb d_Model_is_25 (by decide) (fun h6 => ?_) (fun h6 => ?_)
    · have hJ := j_f hJ h6
      refine lv_iconst (v := (0 : Int32)) hx hb d_Model_is_32 (by decide) ?_
      have hJ := Option.some.inj hJ
      exact W.zret (v := (0 : Int32)) (ty := .boolean) hx hb hr (by decide +kernel) (fun t ht hW => ⟨⟨_, (), rfl, hJ, kW_end hP hK ht hW rfl⟩, hS.F ht⟩) hS.2.2 d_Model_is_33
    · have hJ := j_t hJ h6
      refine lv_iconst (v := (1 : Int32)) hx hb d_Model_is_28 (by decide) ?_
      refine lv_goto (tgt := 33) hx hb d_Model_is_29 (by decide) ?_
      have hJ := Option.some.inj hJ
      exact W.zret (v := (1 : Int32)) (ty := .boolean) hx hb hr (by decide +kernel) (fun t ht hW => ⟨⟨_, (), rfl, hJ, kW_end hP hK ht hW rfl⟩, hS.F ht⟩) hS.2.2 d_Model_is_33
  unfold J_Model_is at hJ
  refine lv_iload_n hx hb d_Model_is_0 rfl (lv_at hl 1 rfl) ?_
  obtain ⟨x1, e1, hJ⟩ := j_bind hJ
  refine va_calli (va_runS (As := [.int a1]) (rest := []) ⟨hx, hb, hml, hown, htb⟩ (c_Model_isInode (l := l) (dC := dC) (dI := dI) (σ := σ) hDa e1) (xcS 1 htb tw678 tw7 tw676 tw677 rfl rfl hd_Model_isInode ⟨Nat.le_of_ble_eq_true rfl, Nat.le_of_ble_eq_true rfl⟩) (kW_S hP hK) rfl rfl hl.1 rfl (lv_room (Nat.le_of_ble_eq_true rfl)) d_Model_is_1 ⟨Nat.le_of_ble_eq_true rfl, Nat.le_of_ble_eq_true rfl⟩) hS (fun q _ h => h) (fun q h => h) (fun r0 u t H locs ht hvm hw hB _ _ hS => ?_)
  subst r0
  have hP := kW_P hB ht
  refine lv_if_eq (tgt := 32) hx hb d_Model_is_4 (by decide) (fun h2 => ?_) (fun h2 => ?_)
  · have hJ := j_t hJ h2
    refine lv_iconst (v := (0 : Int32)) hx hb d_Model_is_32 (by decide) ?_
    have hJ := Option.some.inj hJ
    exact W.zret (v := (0 : Int32)) (ty := .boolean) hx hb hr (by decide +kernel) (fun t ht hW => ⟨⟨_, (), rfl, hJ, kW_end hP hK ht hW rfl⟩, hS.F ht⟩) hS.2.2 d_Model_is_33
  · have hJ := j_f hJ h2
    refine lv_aload_n hx hb d_Model_is_7 rfl (lv_at hl 0 rfl) ?_
    refine lv_iload_n hx hb d_Model_is_8 rfl (lv_at hl 1 rfl) ?_
    obtain ⟨x3, e3, hJ⟩ := j_bind hJ
    refine va_calli (va_runS (As := [.int a1]) (rest := [.ref (gr 0)]) ⟨hx, hb, hml, hown, htb⟩ (c_Model_isInode (l := l) (dC := dC) (dI := dI) (σ := σ) hDa e3) (xcS 1 htb tw678 tw7 tw676 tw677 rfl rfl hd_Model_isInode ⟨Nat.le_of_ble_eq_true rfl, Nat.le_of_ble_eq_true rfl⟩) (kW_S hP hK) rfl rfl hl.1 rfl (lv_room (Nat.le_of_ble_eq_true rfl)) d_Model_is_9 ⟨Nat.le_of_ble_eq_true rfl, Nat.le_of_ble_eq_true rfl⟩) hS (fun q _ h => h) (fun q h => h) (fun r0 u t H locs ht hvm hw hB _ _ hS => ?_)
    subst r0
    have hP := kW_P hB ht
    refine lv_if_eq (tgt := 19) hx hb d_Model_is_12 (by decide) (fun h4 => ?_) (fun h4 => ?_)
    · have hJ := j_t hJ h4
      refine lv_iconst (v := (0 : Int32)) hx hb d_Model_is_19 (by decide) ?_
      exact blk20 _ _ _ _ _ hJ (lv_sub hl [2] rfl) hP hS
    · have hJ := j_f hJ h4
      refine lv_iload_n hx hb d_Model_is_15 rfl (lv_at hl 1 rfl) ?_
      refine lv_goto (tgt := 20) hx hb d_Model_is_16 (by decide) ?_
      exact blk20 _ _ _ _ _ hJ (lv_sub hl [2] rfl) hP hS
def J_Model_sizeOf (σ : RS) (a1 : Int32) : Option (Int32) :=
  (J_Model_inodeAt σ a1 (2 : Int32)).bind fun x1 => (J_Model_inodeAt σ a1 (3 : Int32)).bind fun x2 => some (((256 : Int32) * x1) + x2)
abbrev rm_Model_sizeOf : Room := { frames := 2, cells := 0, slots := 0, locals := 44 }
set_option maxHeartbeats 4000000 in
set_option maxRecDepth 100000 in
theorem c_Model_sizeOf {l : Launch} {dC : Nat → ClassId} {dI : Nat → Nat → Nat} {gr : Nat → Nat} {cB cI : ClassId} {A : Nat → Prop} (hDa : ∀ σ, va_D A (wR gr cB cI σ)) {σ : RS} {a1 : Int32} {res : Int32} (hJ : J_Model_sizeOf σ a1 = some res) :
    Met l y_Model_sizeOf (mw y_Model_sizeOf b_Model_sizeOf 2 (some .int)) rm_Model_sizeOf (va_Pc [.ref (gr 0), .int a1] (kW (dC, dI) (tC cB cI) (wR gr cB cI σ))) (va_Qi (fun (x : Int32) (_ : Unit) => x = res) (fun _ t => kW (dC, dI) (tC cB cI) (wR gr cB cI σ) t) A) 0 0 A := by
  refine Met.ofW (cc := b_Model_sizeOf) (maxL := 2) (ret := (some .int)) (by decide) rfl ?_
  intro p e s m args below meth c s₁ B hml hv
  obtain ⟨rfl, hP, hK⟩ := hv
  have hx := B.exec
  have hb := B.bytes
  have hr := B.returns
  have hts := atoms_spec (ws := (mw y_Model_sizeOf b_Model_sizeOf 2 (some .int))) B.pre
  have htb : ∀ w ∈ tb, w.before [.ref (gr 0), .int a1].toArray s = true := fun w h => hts w (mwIn h)
  have hown : s.vm.findClass "LogFsModel" = some m.cls := findClass_of_methodNamed B.named
  have hlocks := B.notSynchronized
  have hS : va_S A s.heap s.heap [] := va_S.rf
  have hl := lv_entry ([.ref (gr 0), .int a1]) (n := 2) (Nat.le_of_ble_eq_true rfl)
  rw [lg_entry_eq]
  generalize (lg_sl ([.ref (gr 0), .int a1]) ++ List.replicate (2 - (lg_sl ([.ref (gr 0), .int a1])).length) Slot.unset).toArray = ls at hl ⊢
  have hl : lv_has ls 2 [(0, .ref (gr 0)), (1, .int a1)] := hl
  unfold J_Model_sizeOf at hJ
  refine lv_sipush (v := (256 : Int32)) hx hb d_Model_sizeOf_0 (by decide) ?_
  refine lv_aload_n hx hb d_Model_sizeOf_3 rfl (lv_at hl 0 rfl) ?_
  refine lv_iload_n hx hb d_Model_sizeOf_4 rfl (lv_at hl 1 rfl) ?_
  refine lv_iconst (v := (2 : Int32)) hx hb d_Model_sizeOf_5 (by decide) ?_
  obtain ⟨x1, e1, hJ⟩ := j_bind hJ
  refine va_calli (va_runV (As := [.int a1, .int (2 : Int32)]) (rest := [.int (256 : Int32)]) ⟨hx, hb, hml, hown, htb⟩ (c_Model_inodeAt (l := l) (dC := dC) (dI := dI) hDa e1) (xcV 2 htb tw682 tw7 tw679 tw681 ts_Model_inodeAt rfl rfl hd_Model_inodeAt ⟨Nat.le_of_ble_eq_true rfl, Nat.le_of_ble_eq_true rfl⟩) (kW_V hP hK (va_recv (q0 := 0) (ci := 5) hK hP rfl rfl)) rfl rfl hl.1 rfl (lv_room (Nat.le_of_ble_eq_true rfl)) d_Model_sizeOf_6 ⟨Nat.le_of_ble_eq_true rfl, Nat.le_of_ble_eq_true rfl⟩) hS (fun q _ h => h) (fun q h => h) (fun r0 u t H locs ht hvm hw hB _ _ hS => ?_)
  subst r0
  have hP := kW_P hB ht
  refine lv_imul hx hb d_Model_sizeOf_9 ?_
  refine lv_aload_n hx hb d_Model_sizeOf_10 rfl (lv_at hl 0 rfl) ?_
  refine lv_iload_n hx hb d_Model_sizeOf_11 rfl (lv_at hl 1 rfl) ?_
  refine lv_iconst (v := (3 : Int32)) hx hb d_Model_sizeOf_12 (by decide) ?_
  obtain ⟨x2, e2, hJ⟩ := j_bind hJ
  refine va_calli (va_runV (As := [.int a1, .int (3 : Int32)]) (rest := [.int ((256 : Int32) * x1)]) ⟨hx, hb, hml, hown, htb⟩ (c_Model_inodeAt (l := l) (dC := dC) (dI := dI) hDa e2) (xcV 2 htb tw682 tw7 tw679 tw681 ts_Model_inodeAt rfl rfl hd_Model_inodeAt ⟨Nat.le_of_ble_eq_true rfl, Nat.le_of_ble_eq_true rfl⟩) (kW_V hP hK (va_recv (q0 := 0) (ci := 5) hK hP rfl rfl)) rfl rfl hl.1 rfl (lv_room (Nat.le_of_ble_eq_true rfl)) d_Model_sizeOf_13 ⟨Nat.le_of_ble_eq_true rfl, Nat.le_of_ble_eq_true rfl⟩) hS (fun q _ h => h) (fun q h => h) (fun r0 u t H locs ht hvm hw hB _ _ hS => ?_)
  subst r0
  have hP := kW_P hB ht
  refine lv_iadd hx hb d_Model_sizeOf_16 ?_
  have hJ := Option.some.inj hJ
  exact W.iret (v := (((256 : Int32) * x1) + x2)) hx hb hr (fun t ht hW => ⟨⟨_, (), rfl, hJ, kW_end hP hK ht hW rfl⟩, hS.F ht⟩) hS.2.2 d_Model_sizeOf_17
def J_Model_setSize (σ : RS) (a1 : Int32) (a2 : Int32) : Option (RS) :=
  (J_Model_setInode σ a1 (2 : Int32) (a2 / (256 : Int32))).bind fun x1 => (J_Model_setInode x1 a1 (3 : Int32) (a2 - a2 / (256 : Int32) * (256 : Int32))).bind fun x2 => some x2
abbrev rm_Model_setSize : Room := { frames := 3, cells := 0, slots := 0, locals := 69 }
set_option maxHeartbeats 4000000 in
set_option maxRecDepth 100000 in
theorem c_Model_setSize {l : Launch} {dC : Nat → ClassId} {dI : Nat → Nat → Nat} {gr : Nat → Nat} {cB cI : ClassId} {A : Nat → Prop} (hDa : ∀ σ, va_D A (wR gr cB cI σ)) {σ : RS} {a1 : Int32} {a2 : Int32} {res : RS} (hJ : J_Model_setSize σ a1 a2 = some res) :
    Met l y_Model_setSize (mw y_Model_setSize b_Model_setSize 3 none) rm_Model_setSize (va_Pc [.ref (gr 0), .int a1, .int a2] (kW (dC, dI) (tC cB cI) (wR gr cB cI σ))) (va_Qv (fun (_ : Unit) => True) (fun _ t => kW (dC, dI) (tC cB cI) (wR gr cB cI res) t) A) 0 0 A := by
  refine Met.ofW (cc := b_Model_setSize) (maxL := 3) (ret := none) (by decide) rfl ?_
  intro p e s m args below meth c s₁ B hml hv
  obtain ⟨rfl, hP, hK⟩ := hv
  have hx := B.exec
  have hb := B.bytes
  have hr := B.returns
  have hts := atoms_spec (ws := (mw y_Model_setSize b_Model_setSize 3 none)) B.pre
  have htb : ∀ w ∈ tb, w.before [.ref (gr 0), .int a1, .int a2].toArray s = true := fun w h => hts w (mwIn h)
  have hown : s.vm.findClass "LogFsModel" = some m.cls := findClass_of_methodNamed B.named
  have hlocks := B.notSynchronized
  have hS : va_S A s.heap s.heap [] := va_S.rf
  have hl := lv_entry ([.ref (gr 0), .int a1, .int a2]) (n := 3) (Nat.le_of_ble_eq_true rfl)
  rw [lg_entry_eq]
  generalize (lg_sl ([.ref (gr 0), .int a1, .int a2]) ++ List.replicate (3 - (lg_sl ([.ref (gr 0), .int a1, .int a2])).length) Slot.unset).toArray = ls at hl ⊢
  have hl : lv_has ls 3 [(0, .ref (gr 0)), (1, .int a1), (2, .int a2)] := hl
  unfold J_Model_setSize at hJ
  refine lv_aload_n hx hb d_Model_setSize_0 rfl (lv_at hl 0 rfl) ?_
  refine lv_iload_n hx hb d_Model_setSize_1 rfl (lv_at hl 1 rfl) ?_
  refine lv_iconst (v := (2 : Int32)) hx hb d_Model_setSize_2 (by decide) ?_
  refine lv_iload_n hx hb d_Model_setSize_3 rfl (lv_at hl 2 rfl) ?_
  refine lv_sipush (v := (256 : Int32)) hx hb d_Model_setSize_4 (by decide) ?_
  refine lv_idiv hx hb d_Model_setSize_7 (by decide) ?_
  obtain ⟨x1, e1, hJ⟩ := j_bind hJ
  refine va_callv (va_runV (As := [.int a1, .int (2 : Int32), .int (a2 / (256 : Int32))]) (rest := []) ⟨hx, hb, hml, hown, htb⟩ (c_Model_setInode (l := l) (dC := dC) (dI := dI) hDa e1) (xcV 3 htb tw743 tw7 tw740 tw742 ts_Model_setInode rfl rfl hd_Model_setInode ⟨Nat.le_of_ble_eq_true rfl, Nat.le_of_ble_eq_true rfl⟩) (kW_V hP hK (va_recv (q0 := 0) (ci := 5) hK hP rfl rfl)) rfl rfl hl.1 rfl (lv_room (Nat.le_of_ble_eq_true rfl)) d_Model_setSize_8 ⟨Nat.le_of_ble_eq_true rfl, Nat.le_of_ble_eq_true rfl⟩) hS (fun q _ h => h) (fun q h => h) (fun u t H locs ht hvm hw hB _ _ hS => ?_)
  have hP := kW_P hB ht
  refine lv_aload_n hx hb d_Model_setSize_11 rfl (lv_at hl 0 rfl) ?_
  refine lv_iload_n hx hb d_Model_setSize_12 rfl (lv_at hl 1 rfl) ?_
  refine lv_iconst (v := (3 : Int32)) hx hb d_Model_setSize_13 (by decide) ?_
  refine lv_iload_n hx hb d_Model_setSize_14 rfl (lv_at hl 2 rfl) ?_
  refine lv_sipush (v := (256 : Int32)) hx hb d_Model_setSize_15 (by decide) ?_
  refine lv_irem hx hb d_Model_setSize_18 (by decide) ?_
  obtain ⟨x2, e2, hJ⟩ := j_bind hJ
  refine va_callv (va_runV (As := [.int a1, .int (3 : Int32), .int (a2 - a2 / (256 : Int32) * (256 : Int32))]) (rest := []) ⟨hx, hb, hml, hown, htb⟩ (c_Model_setInode (l := l) (dC := dC) (dI := dI) hDa e2) (xcV 3 htb tw743 tw7 tw740 tw742 ts_Model_setInode rfl rfl hd_Model_setInode ⟨Nat.le_of_ble_eq_true rfl, Nat.le_of_ble_eq_true rfl⟩) (kW_V hP hK (va_recv (q0 := 0) (ci := 5) hK hP rfl rfl)) rfl rfl hl.1 rfl (lv_room (Nat.le_of_ble_eq_true rfl)) d_Model_setSize_19 ⟨Nat.le_of_ble_eq_true rfl, Nat.le_of_ble_eq_true rfl⟩) hS (fun q _ h => h) (fun q h => h) (fun u t H locs ht hvm hw hB _ _ hS => ?_)
  have hP := kW_P hB ht
  have hJ := Option.some.inj hJ
  exact W.vret hx hb hr (fun t ht hW => ⟨⟨(), rfl, trivial, kW_end hP hK ht hW (congrArg (fun z => wR gr cB cI z) hJ)⟩, hS.F ht⟩) hS.2.2 d_Model_setSize_22
def J_Model_contentBlock (σ : RS) (a1 : Int32) (a2 : Int32) : Option (Int32) :=
  (if (10 : Int32) ≤ a2 then (J_Model_inodeAt σ a1 (14 : Int32)).bind fun x2 => (J_Model_at σ x2 (a2 - (10 : Int32))).bind fun x3 => some x3 else (J_Model_inodeAt σ a1 ((4 : Int32) + a2)).bind fun x4 => some x4)
abbrev rm_Model_contentBlock : Room := { frames := 2, cells := 0, slots := 0, locals := 44 }
set_option maxHeartbeats 4000000 in
set_option maxRecDepth 100000 in
theorem c_Model_contentBlock {l : Launch} {dC : Nat → ClassId} {dI : Nat → Nat → Nat} {gr : Nat → Nat} {cB cI : ClassId} {A : Nat → Prop} (hDa : ∀ σ, va_D A (wR gr cB cI σ)) {σ : RS} {a1 : Int32} {a2 : Int32} {res : Int32} (hJ : J_Model_contentBlock σ a1 a2 = some res) :
    Met l y_Model_contentBlock (mw y_Model_contentBlock b_Model_contentBlock 3 (some .int)) rm_Model_contentBlock (va_Pc [.ref (gr 0), .int a1, .int a2] (kW (dC, dI) (tC cB cI) (wR gr cB cI σ))) (va_Qi (fun (x : Int32) (_ : Unit) => x = res) (fun _ t => kW (dC, dI) (tC cB cI) (wR gr cB cI σ) t) A) 0 0 A := by
  refine Met.ofW (cc := b_Model_contentBlock) (maxL := 3) (ret := (some .int)) (by decide) rfl ?_
  intro p e s m args below meth c s₁ B hml hv
  obtain ⟨rfl, hP, hK⟩ := hv
  have hx := B.exec
  have hb := B.bytes
  have hr := B.returns
  have hts := atoms_spec (ws := (mw y_Model_contentBlock b_Model_contentBlock 3 (some .int))) B.pre
  have htb : ∀ w ∈ tb, w.before [.ref (gr 0), .int a1, .int a2].toArray s = true := fun w h => hts w (mwIn h)
  have hown : s.vm.findClass "LogFsModel" = some m.cls := findClass_of_methodNamed B.named
  have hlocks := B.notSynchronized
  have hS : va_S A s.heap s.heap [] := va_S.rf
  have hl := lv_entry ([.ref (gr 0), .int a1, .int a2]) (n := 3) (Nat.le_of_ble_eq_true rfl)
  rw [lg_entry_eq]
  generalize (lg_sl ([.ref (gr 0), .int a1, .int a2]) ++ List.replicate (3 - (lg_sl ([.ref (gr 0), .int a1, .int a2])).length) Slot.unset).toArray = ls at hl ⊢
  have hl : lv_has ls 3 [(0, .ref (gr 0)), (1, .int a1), (2, .int a2)] := hl
  unfold J_Model_contentBlock at hJ
  refine lv_iload_n hx hb d_Model_contentBlock_0 rfl (lv_at hl 2 rfl) ?_
  refine lv_bipush (v := (10 : Int32)) hx hb d_Model_contentBlock_1 (by decide) ?_
  refine lv_icmp_ge (tgt := 17) hx hb d_Model_contentBlock_3 (by decide) (fun h1 => ?_) (fun h1 => ?_)
  · have hJ := j_t hJ h1
    refine lv_aload_n hx hb d_Model_contentBlock_17 rfl (lv_at hl 0 rfl) ?_
    refine lv_aload_n hx hb d_Model_contentBlock_18 rfl (lv_at hl 0 rfl) ?_
    refine lv_iload_n hx hb d_Model_contentBlock_19 rfl (lv_at hl 1 rfl) ?_
    refine lv_bipush (v := (14 : Int32)) hx hb d_Model_contentBlock_20 (by decide) ?_
    obtain ⟨x2, e2, hJ⟩ := j_bind hJ
    refine va_calli (va_runV (As := [.int a1, .int (14 : Int32)]) (rest := [.ref (gr 0)]) ⟨hx, hb, hml, hown, htb⟩ (c_Model_inodeAt (l := l) (dC := dC) (dI := dI) hDa e2) (xcV 2 htb tw682 tw7 tw679 tw681 ts_Model_inodeAt rfl rfl hd_Model_inodeAt ⟨Nat.le_of_ble_eq_true rfl, Nat.le_of_ble_eq_true rfl⟩) (kW_V hP hK (va_recv (q0 := 0) (ci := 5) hK hP rfl rfl)) rfl rfl hl.1 rfl (lv_room (Nat.le_of_ble_eq_true rfl)) d_Model_contentBlock_22 ⟨Nat.le_of_ble_eq_true rfl, Nat.le_of_ble_eq_true rfl⟩) hS (fun q _ h => h) (fun q h => h) (fun r0 u t H locs ht hvm hw hB _ _ hS => ?_)
    subst r0
    have hP := kW_P hB ht
    refine lv_iload_n hx hb d_Model_contentBlock_25 rfl (lv_at hl 2 rfl) ?_
    refine lv_bipush (v := (10 : Int32)) hx hb d_Model_contentBlock_26 (by decide) ?_
    refine lv_isub hx hb d_Model_contentBlock_28 ?_
    obtain ⟨x3, e3, hJ⟩ := j_bind hJ
    refine va_calli (va_runV (As := [.int x2, .int (a2 - (10 : Int32))]) (rest := []) ⟨hx, hb, hml, hown, htb⟩ (c_Model_at (l := l) (dC := dC) (dI := dI) hDa e3) (xcV 2 htb tw692 tw7 tw689 tw691 ts_Model_at rfl rfl hd_Model_at ⟨Nat.le_of_ble_eq_true rfl, Nat.le_of_ble_eq_true rfl⟩) (kW_V hP hK (va_recv (q0 := 0) (ci := 5) hK hP rfl rfl)) rfl rfl hl.1 rfl (lv_room (Nat.le_of_ble_eq_true rfl)) d_Model_contentBlock_29 ⟨Nat.le_of_ble_eq_true rfl, Nat.le_of_ble_eq_true rfl⟩) hS (fun q _ h => h) (fun q h => h) (fun r0 u t H locs ht hvm hw hB _ _ hS => ?_)
    subst r0
    have hP := kW_P hB ht
    have hJ := Option.some.inj hJ
    exact W.iret (v := x3) hx hb hr (fun t ht hW => ⟨⟨_, (), rfl, hJ, kW_end hP hK ht hW rfl⟩, hS.F ht⟩) hS.2.2 d_Model_contentBlock_32
  · have hJ := j_f hJ h1
    refine lv_aload_n hx hb d_Model_contentBlock_6 rfl (lv_at hl 0 rfl) ?_
    refine lv_iload_n hx hb d_Model_contentBlock_7 rfl (lv_at hl 1 rfl) ?_
    refine lv_iconst (v := (4 : Int32)) hx hb d_Model_contentBlock_8 (by decide) ?_
    refine lv_iload_n hx hb d_Model_contentBlock_9 rfl (lv_at hl 2 rfl) ?_
    refine lv_iadd hx hb d_Model_contentBlock_10 ?_
    obtain ⟨x4, e4, hJ⟩ := j_bind hJ
    refine va_calli (va_runV (As := [.int a1, .int ((4 : Int32) + a2)]) (rest := []) ⟨hx, hb, hml, hown, htb⟩ (c_Model_inodeAt (l := l) (dC := dC) (dI := dI) hDa e4) (xcV 2 htb tw682 tw7 tw679 tw681 ts_Model_inodeAt rfl rfl hd_Model_inodeAt ⟨Nat.le_of_ble_eq_true rfl, Nat.le_of_ble_eq_true rfl⟩) (kW_V hP hK (va_recv (q0 := 0) (ci := 5) hK hP rfl rfl)) rfl rfl hl.1 rfl (lv_room (Nat.le_of_ble_eq_true rfl)) d_Model_contentBlock_11 ⟨Nat.le_of_ble_eq_true rfl, Nat.le_of_ble_eq_true rfl⟩) hS (fun q _ h => h) (fun q h => h) (fun r0 u t H locs ht hvm hw hB _ _ hS => ?_)
    subst r0
    have hP := kW_P hB ht
    refine lv_goto (tgt := 32) hx hb d_Model_contentBlock_14 (by decide) ?_
    have hJ := Option.some.inj hJ
    exact W.iret (v := x4) hx hb hr (fun t ht hW => ⟨⟨_, (), rfl, hJ, kW_end hP hK ht hW rfl⟩, hS.F ht⟩) hS.2.2 d_Model_contentBlock_32
def J_Model_contentAt (σ : RS) (a1 : Int32) (a2 : Int32) : Option (Int32) :=
  (J_Model_contentBlock σ a1 (a2 / (64 : Int32))).bind fun x1 => (J_Model_at σ x1 (a2 - a2 / (64 : Int32) * (64 : Int32))).bind fun x2 => some x2
abbrev rm_Model_contentAt : Room := { frames := 3, cells := 0, slots := 0, locals := 66 }
set_option maxHeartbeats 4000000 in
set_option maxRecDepth 100000 in
theorem c_Model_contentAt {l : Launch} {dC : Nat → ClassId} {dI : Nat → Nat → Nat} {gr : Nat → Nat} {cB cI : ClassId} {A : Nat → Prop} (hDa : ∀ σ, va_D A (wR gr cB cI σ)) {σ : RS} {a1 : Int32} {a2 : Int32} {res : Int32} (hJ : J_Model_contentAt σ a1 a2 = some res) :
    Met l y_Model_contentAt (mw y_Model_contentAt b_Model_contentAt 3 (some .int)) rm_Model_contentAt (va_Pc [.ref (gr 0), .int a1, .int a2] (kW (dC, dI) (tC cB cI) (wR gr cB cI σ))) (va_Qi (fun (x : Int32) (_ : Unit) => x = res) (fun _ t => kW (dC, dI) (tC cB cI) (wR gr cB cI σ) t) A) 0 0 A := by
  refine Met.ofW (cc := b_Model_contentAt) (maxL := 3) (ret := (some .int)) (by decide) rfl ?_
  intro p e s m args below meth c s₁ B hml hv
  obtain ⟨rfl, hP, hK⟩ := hv
  have hx := B.exec
  have hb := B.bytes
  have hr := B.returns
  have hts := atoms_spec (ws := (mw y_Model_contentAt b_Model_contentAt 3 (some .int))) B.pre
  have htb : ∀ w ∈ tb, w.before [.ref (gr 0), .int a1, .int a2].toArray s = true := fun w h => hts w (mwIn h)
  have hown : s.vm.findClass "LogFsModel" = some m.cls := findClass_of_methodNamed B.named
  have hlocks := B.notSynchronized
  have hS : va_S A s.heap s.heap [] := va_S.rf
  have hl := lv_entry ([.ref (gr 0), .int a1, .int a2]) (n := 3) (Nat.le_of_ble_eq_true rfl)
  rw [lg_entry_eq]
  generalize (lg_sl ([.ref (gr 0), .int a1, .int a2]) ++ List.replicate (3 - (lg_sl ([.ref (gr 0), .int a1, .int a2])).length) Slot.unset).toArray = ls at hl ⊢
  have hl : lv_has ls 3 [(0, .ref (gr 0)), (1, .int a1), (2, .int a2)] := hl
  unfold J_Model_contentAt at hJ
  refine lv_aload_n hx hb d_Model_contentAt_0 rfl (lv_at hl 0 rfl) ?_
  refine lv_aload_n hx hb d_Model_contentAt_1 rfl (lv_at hl 0 rfl) ?_
  refine lv_iload_n hx hb d_Model_contentAt_2 rfl (lv_at hl 1 rfl) ?_
  refine lv_iload_n hx hb d_Model_contentAt_3 rfl (lv_at hl 2 rfl) ?_
  refine lv_bipush (v := (64 : Int32)) hx hb d_Model_contentAt_4 (by decide) ?_
  refine lv_idiv hx hb d_Model_contentAt_6 (by decide) ?_
  obtain ⟨x1, e1, hJ⟩ := j_bind hJ
  refine va_calli (va_runV (As := [.int a1, .int (a2 / (64 : Int32))]) (rest := [.ref (gr 0)]) ⟨hx, hb, hml, hown, htb⟩ (c_Model_contentBlock (l := l) (dC := dC) (dI := dI) hDa e1) (xcV 2 htb tw712 tw7 tw709 tw711 ts_Model_contentBlock rfl rfl hd_Model_contentBlock ⟨Nat.le_of_ble_eq_true rfl, Nat.le_of_ble_eq_true rfl⟩) (kW_V hP hK (va_recv (q0 := 0) (ci := 5) hK hP rfl rfl)) rfl rfl hl.1 rfl (lv_room (Nat.le_of_ble_eq_true rfl)) d_Model_contentAt_7 ⟨Nat.le_of_ble_eq_true rfl, Nat.le_of_ble_eq_true rfl⟩) hS (fun q _ h => h) (fun q h => h) (fun r0 u t H locs ht hvm hw hB _ _ hS => ?_)
  subst r0
  have hP := kW_P hB ht
  refine lv_iload_n hx hb d_Model_contentAt_10 rfl (lv_at hl 2 rfl) ?_
  refine lv_bipush (v := (64 : Int32)) hx hb d_Model_contentAt_11 (by decide) ?_
  refine lv_irem hx hb d_Model_contentAt_13 (by decide) ?_
  obtain ⟨x2, e2, hJ⟩ := j_bind hJ
  refine va_calli (va_runV (As := [.int x1, .int (a2 - a2 / (64 : Int32) * (64 : Int32))]) (rest := []) ⟨hx, hb, hml, hown, htb⟩ (c_Model_at (l := l) (dC := dC) (dI := dI) hDa e2) (xcV 2 htb tw692 tw7 tw689 tw691 ts_Model_at rfl rfl hd_Model_at ⟨Nat.le_of_ble_eq_true rfl, Nat.le_of_ble_eq_true rfl⟩) (kW_V hP hK (va_recv (q0 := 0) (ci := 5) hK hP rfl rfl)) rfl rfl hl.1 rfl (lv_room (Nat.le_of_ble_eq_true rfl)) d_Model_contentAt_14 ⟨Nat.le_of_ble_eq_true rfl, Nat.le_of_ble_eq_true rfl⟩) hS (fun q _ h => h) (fun q h => h) (fun r0 u t H locs ht hvm hw hB _ _ hS => ?_)
  subst r0
  have hP := kW_P hB ht
  have hJ := Option.some.inj hJ
  exact W.iret (v := x2) hx hb hr (fun t ht hW => ⟨⟨_, (), rfl, hJ, kW_end hP hK ht hW rfl⟩, hS.F ht⟩) hS.2.2 d_Model_contentAt_17
def J_Model_isUsed (σ : RS) (a1 : Int32) : Option (Int32) :=
  (J_Model_at σ (25 : Int32) (a1 / (8 : Int32))).bind fun x1 => (if ((x1 >>> ((a1 - a1 / (8 : Int32) * (8 : Int32)) &&& 31)) &&& (1 : Int32)) = (1 : Int32) then some (1 : Int32) else some (0 : Int32))
abbrev rm_Model_isUsed : Room := { frames := 1, cells := 0, slots := 0, locals := 22 }
set_option maxHeartbeats 4000000 in
set_option maxRecDepth 100000 in
theorem c_Model_isUsed {l : Launch} {dC : Nat → ClassId} {dI : Nat → Nat → Nat} {gr : Nat → Nat} {cB cI : ClassId} {A : Nat → Prop} (hDa : ∀ σ, va_D A (wR gr cB cI σ)) {σ : RS} {a1 : Int32} {res : Int32} (hJ : J_Model_isUsed σ a1 = some res) :
    Met l y_Model_isUsed (mw y_Model_isUsed b_Model_isUsed 2 (some .boolean)) rm_Model_isUsed (va_Pc [.ref (gr 0), .int a1] (kW (dC, dI) (tC cB cI) (wR gr cB cI σ))) (va_Qi (fun (x : Int32) (_ : Unit) => x = res) (fun _ t => kW (dC, dI) (tC cB cI) (wR gr cB cI σ) t) A) 0 0 A := by
  refine Met.ofW (cc := b_Model_isUsed) (maxL := 2) (ret := (some .boolean)) (by decide) rfl ?_
  intro p e s m args below meth c s₁ B hml hv
  obtain ⟨rfl, hP, hK⟩ := hv
  have hx := B.exec
  have hb := B.bytes
  have hr := B.returns
  have hts := atoms_spec (ws := (mw y_Model_isUsed b_Model_isUsed 2 (some .boolean))) B.pre
  have htb : ∀ w ∈ tb, w.before [.ref (gr 0), .int a1].toArray s = true := fun w h => hts w (mwIn h)
  have hown : s.vm.findClass "LogFsModel" = some m.cls := findClass_of_methodNamed B.named
  have hlocks := B.notSynchronized
  have hS : va_S A s.heap s.heap [] := va_S.rf
  have hl := lv_entry ([.ref (gr 0), .int a1]) (n := 2) (Nat.le_of_ble_eq_true rfl)
  rw [lg_entry_eq]
  generalize (lg_sl ([.ref (gr 0), .int a1]) ++ List.replicate (2 - (lg_sl ([.ref (gr 0), .int a1])).length) Slot.unset).toArray = ls at hl ⊢
  have hl : lv_has ls 2 [(0, .ref (gr 0)), (1, .int a1)] := hl
  unfold J_Model_isUsed at hJ
  refine lv_aload_n hx hb d_Model_isUsed_0 rfl (lv_at hl 0 rfl) ?_
  refine lv_bipush (v := (25 : Int32)) hx hb d_Model_isUsed_1 (by decide) ?_
  refine lv_iload_n hx hb d_Model_isUsed_3 rfl (lv_at hl 1 rfl) ?_
  refine lv_bipush (v := (8 : Int32)) hx hb d_Model_isUsed_4 (by decide) ?_
  refine lv_idiv hx hb d_Model_isUsed_6 (by decide) ?_
  obtain ⟨x1, e1, hJ⟩ := j_bind hJ
  refine va_calli (va_runV (As := [.int (25 : Int32), .int (a1 / (8 : Int32))]) (rest := []) ⟨hx, hb, hml, hown, htb⟩ (c_Model_at (l := l) (dC := dC) (dI := dI) hDa e1) (xcV 2 htb tw692 tw7 tw689 tw691 ts_Model_at rfl rfl hd_Model_at ⟨Nat.le_of_ble_eq_true rfl, Nat.le_of_ble_eq_true rfl⟩) (kW_V hP hK (va_recv (q0 := 0) (ci := 5) hK hP rfl rfl)) rfl rfl hl.1 rfl (lv_room (Nat.le_of_ble_eq_true rfl)) d_Model_isUsed_7 ⟨Nat.le_of_ble_eq_true rfl, Nat.le_of_ble_eq_true rfl⟩) hS (fun q _ h => h) (fun q h => h) (fun r0 u t H locs ht hvm hw hB _ _ hS => ?_)
  subst r0
  have hP := kW_P hB ht
  refine lv_iload_n hx hb d_Model_isUsed_10 rfl (lv_at hl 1 rfl) ?_
  refine lv_bipush (v := (8 : Int32)) hx hb d_Model_isUsed_11 (by decide) ?_
  refine lv_irem hx hb d_Model_isUsed_13 (by decide) ?_
  refine lv_ishr hx hb d_Model_isUsed_14 ?_
  refine lv_iconst (v := (1 : Int32)) hx hb d_Model_isUsed_15 (by decide) ?_
  refine lv_iand hx hb d_Model_isUsed_16 ?_
  refine lv_iconst (v := (1 : Int32)) hx hb d_Model_isUsed_17 (by decide) ?_
  refine lv_icmp_ne (tgt := 25) hx hb d_Model_isUsed_18 (by decide) (fun h2 => ?_) (fun h2 => ?_)
  · have hJ := j_f hJ h2
    refine lv_iconst (v := (0 : Int32)) hx hb d_Model_isUsed_25 (by decide) ?_
    have hJ := Option.some.inj hJ
    exact W.zret (v := (0 : Int32)) (ty := .boolean) hx hb hr (by decide +kernel) (fun t ht hW => ⟨⟨_, (), rfl, hJ, kW_end hP hK ht hW rfl⟩, hS.F ht⟩) hS.2.2 d_Model_isUsed_26
  · have hJ := j_t hJ h2
    refine lv_iconst (v := (1 : Int32)) hx hb d_Model_isUsed_21 (by decide) ?_
    refine lv_goto (tgt := 26) hx hb d_Model_isUsed_22 (by decide) ?_
    have hJ := Option.some.inj hJ
    exact W.zret (v := (1 : Int32)) (ty := .boolean) hx hb hr (by decide +kernel) (fun t ht hW => ⟨⟨_, (), rfl, hJ, kW_end hP hK ht hW rfl⟩, hS.F ht⟩) hS.2.2 d_Model_isUsed_26
def J_Model_freeBlocks_4_b (k : Int32 → Int32 → Option (Int32)) (σ : RS) (v1 : Int32) (v2 : Int32) : Option (Int32) :=
  (if (128 : Int32) ≤ v2 then some v1 else (J_Model_isUsed σ v2).bind fun x2 => (if x2 = (0 : Int32) then k (v1 + (1 : Int32)) (v2 + (1 : Int32)) else k (v1 + (0 : Int32)) (v2 + (1 : Int32))))
def J_Model_freeBlocks_4 : Nat → RS → Int32 → Int32 → Option (Int32)
  | 0, _, _, _ => none
  | n + 1, σ, v1, v2 => J_Model_freeBlocks_4_b (J_Model_freeBlocks_4 n σ) σ v1 v2
def J_Model_freeBlocks (σ : RS)  : Option (Int32) :=
  J_Model_freeBlocks_4 9000 σ (0 : Int32) (0 : Int32)
abbrev rm_Model_freeBlocks : Room := { frames := 2, cells := 0, slots := 0, locals := 43 }
set_option maxHeartbeats 4000000 in
set_option maxRecDepth 100000 in
theorem c_Model_freeBlocks {l : Launch} {dC : Nat → ClassId} {dI : Nat → Nat → Nat} {gr : Nat → Nat} {cB cI : ClassId} {A : Nat → Prop} (hDa : ∀ σ, va_D A (wR gr cB cI σ)) {σ : RS} {res : Int32} (hJ : J_Model_freeBlocks σ = some res) :
    Met l y_Model_freeBlocks (mw y_Model_freeBlocks b_Model_freeBlocks 3 (some .int)) rm_Model_freeBlocks (va_Pc [.ref (gr 0)] (kW (dC, dI) (tC cB cI) (wR gr cB cI σ))) (va_Qi (fun (x : Int32) (_ : Unit) => x = res) (fun _ t => kW (dC, dI) (tC cB cI) (wR gr cB cI σ) t) A) 0 0 A := by
  refine Met.ofW (cc := b_Model_freeBlocks) (maxL := 3) (ret := (some .int)) (by decide) rfl ?_
  intro p e s m args below meth c s₁ B hml hv
  obtain ⟨rfl, hP, hK⟩ := hv
  have hx := B.exec
  have hb := B.bytes
  have hr := B.returns
  have hts := atoms_spec (ws := (mw y_Model_freeBlocks b_Model_freeBlocks 3 (some .int))) B.pre
  have htb : ∀ w ∈ tb, w.before [.ref (gr 0)].toArray s = true := fun w h => hts w (mwIn h)
  have hown : s.vm.findClass "LogFsModel" = some m.cls := findClass_of_methodNamed B.named
  have hlocks := B.notSynchronized
  have hS : va_S A s.heap s.heap [] := va_S.rf
  have hl := lv_entry ([.ref (gr 0)]) (n := 3) (Nat.le_of_ble_eq_true rfl)
  rw [lg_entry_eq]
  generalize (lg_sl ([.ref (gr 0)]) ++ List.replicate (3 - (lg_sl ([.ref (gr 0)])).length) Slot.unset).toArray = ls at hl ⊢
  have hl : lv_has ls 3 [(0, .ref (gr 0))] := hl
  have blk4 : ∀ (n : Nat) (v1 : Int32) (v2 : Int32) (ls : Array Slot) (H : Heap) (locs : List Loc), J_Model_freeBlocks_4 n σ v1 v2 = some res → lv_has ls 3 [(0, .ref (gr 0)), (1, .int v1), (2, .int v2)] → va_P (dC, dI) cls (wR gr cB cI σ) H → va_S A s.heap H locs → W p l e (headSpec (mw y_Model_freeBlocks b_Model_freeBlocks 3 (some .int)) rm_Model_freeBlocks).room s m [.ref (gr 0)].toArray below meth c H locs 0 0 (MQ below (va_Qi (fun (x : Int32) (_ : Unit) => x = res) (fun _ t => kW (dC, dI) (tC cB cI) (wR gr cB cI σ) t) A) [.ref (gr 0)].toArray s 0 0 A) (F0 m 4 ls []) := by
    intro n
    induction n with
    | zero => intro v1 v2 ls H locs hJ; exact j_none hJ
    | succ n hk =>
      intro v1 v2 ls H locs hJ hl hP hS
      have hJ : J_Model_freeBlocks_4_b (J_Model_freeBlocks_4 n σ) σ v1 v2 = some res := hJ
      unfold J_Model_freeBlocks_4_b at hJ
      refine lv_iload_n hx hb d_Model_freeBlocks_4 rfl (lv_at hl 2 rfl) ?_
      refine lv_sipush (v := (128 : Int32)) hx hb d_Model_freeBlocks_5 (by decide) ?_
      refine lv_icmp_ge (tgt := 33) hx hb d_Model_freeBlocks_8 (by decide) (fun h1 => ?_) (fun h1 => ?_)
      · have hJ := j_t hJ h1
        refine lv_iload_n hx hb d_Model_freeBlocks_33 rfl (lv_at hl 1 rfl) ?_
        have hJ := Option.some.inj hJ
        exact W.iret (v := v1) hx hb hr (fun t ht hW => ⟨⟨_, (), rfl, hJ, kW_end hP hK ht hW rfl⟩, hS.F ht⟩) hS.2.2 d_Model_freeBlocks_34
      · have hJ := j_f hJ h1
        refine lv_iload_n hx hb d_Model_freeBlocks_11 rfl (lv_at hl 1 rfl) ?_
        refine lv_aload_n hx hb d_Model_freeBlocks_12 rfl (lv_at hl 0 rfl) ?_
        refine lv_iload_n hx hb d_Model_freeBlocks_13 rfl (lv_at hl 2 rfl) ?_
        obtain ⟨x2, e2, hJ⟩ := j_bind hJ
        refine va_calli (va_runV (As := [.int v2]) (rest := [.int v1]) ⟨hx, hb, hml, hown, htb⟩ (c_Model_isUsed (l := l) (dC := dC) (dI := dI) hDa e2) (xcV 1 htb tw731 tw7 tw728 tw730 ts_Model_isUsed rfl rfl hd_Model_isUsed ⟨Nat.le_of_ble_eq_true rfl, Nat.le_of_ble_eq_true rfl⟩) (kW_V hP hK (va_recv (q0 := 0) (ci := 5) hK hP rfl rfl)) rfl rfl hl.1 rfl (lv_room (Nat.le_of_ble_eq_true rfl)) d_Model_freeBlocks_14 ⟨Nat.le_of_ble_eq_true rfl, Nat.le_of_ble_eq_true rfl⟩) hS (fun q _ h => h) (fun q h => h) (fun r0 u t H locs ht hvm hw hB _ _ hS => ?_)
        subst r0
        have hP := kW_P hB ht
        refine lv_if_eq (tgt := 24) hx hb d_Model_freeBlocks_17 (by decide) (fun h3 => ?_) (fun h3 => ?_)
        · have hJ := j_t hJ h3
          refine lv_iconst (v := (1 : Int32)) hx hb d_Model_freeBlocks_24 (by decide) ?_
          refine lv_iadd hx hb d_Model_freeBlocks_25 ?_
          refine lv_istore_n hx hb d_Model_freeBlocks_26 rfl hl (Nat.le_of_ble_eq_true rfl) rfl (fun ls hl => ?_)
          have hl : lv_has ls 3 [(1, .int (v1 + (1 : Int32))), (0, .ref (gr 0)), (2, .int v2)] := hl
          refine lv_iinc (k := 2) (v := (v2 + (1 : Int32))) hx hb d_Model_freeBlocks_27 hl rfl rfl (Nat.le_of_ble_eq_true rfl) rfl (fun ls hl => ?_)
          have hl : lv_has ls 3 [(2, .int (v2 + (1 : Int32))), (1, .int (v1 + (1 : Int32))), (0, .ref (gr 0))] := hl
          refine lv_goto (tgt := 4) hx hb d_Model_freeBlocks_30 (by decide) ?_
          exact hk _ _ _ _ _ hJ (lv_sub hl [2, 1, 0] rfl) hP hS
        · have hJ := j_f hJ h3
          refine lv_iconst (v := (0 : Int32)) hx hb d_Model_freeBlocks_20 (by decide) ?_
          refine lv_goto (tgt := 25) hx hb d_Model_freeBlocks_21 (by decide) ?_
          refine lv_iadd hx hb d_Model_freeBlocks_25 ?_
          refine lv_istore_n hx hb d_Model_freeBlocks_26 rfl hl (Nat.le_of_ble_eq_true rfl) rfl (fun ls hl => ?_)
          have hl : lv_has ls 3 [(1, .int (v1 + (0 : Int32))), (0, .ref (gr 0)), (2, .int v2)] := hl
          refine lv_iinc (k := 2) (v := (v2 + (1 : Int32))) hx hb d_Model_freeBlocks_27 hl rfl rfl (Nat.le_of_ble_eq_true rfl) rfl (fun ls hl => ?_)
          have hl : lv_has ls 3 [(2, .int (v2 + (1 : Int32))), (1, .int (v1 + (0 : Int32))), (0, .ref (gr 0))] := hl
          refine lv_goto (tgt := 4) hx hb d_Model_freeBlocks_30 (by decide) ?_
          exact hk _ _ _ _ _ hJ (lv_sub hl [2, 1, 0] rfl) hP hS
  unfold J_Model_freeBlocks at hJ
  refine lv_iconst (v := (0 : Int32)) hx hb d_Model_freeBlocks_0 (by decide) ?_
  refine lv_istore_n hx hb d_Model_freeBlocks_1 rfl hl (Nat.le_of_ble_eq_true rfl) rfl (fun ls hl => ?_)
  have hl : lv_has ls 3 [(1, .int (0 : Int32)), (0, .ref (gr 0))] := hl
  refine lv_iconst (v := (0 : Int32)) hx hb d_Model_freeBlocks_2 (by decide) ?_
  refine lv_istore_n hx hb d_Model_freeBlocks_3 rfl hl (Nat.le_of_ble_eq_true rfl) rfl (fun ls hl => ?_)
  have hl : lv_has ls 3 [(2, .int (0 : Int32)), (1, .int (0 : Int32)), (0, .ref (gr 0))] := hl
  exact blk4 9000 _ _ _ _ _ hJ (lv_sub hl [2, 1, 0] rfl) hP hS
def J_Model_freeInode_23 (σ : RS) (v1 : Int32) : Option (Int32) :=
  (if (32 : Int32) ≤ v1 then some ((-1) : Int32) else some v1)
def J_Model_freeInode_2_b (k : Int32 → Option (Int32)) (σ : RS) (v1 : Int32) : Option (Int32) :=
  (if (32 : Int32) ≤ v1 then J_Model_freeInode_23 σ v1 else (J_Model_inodeAt σ v1 (0 : Int32)).bind fun x3 => (if x3 = (0 : Int32) then J_Model_freeInode_23 σ v1 else k (v1 + (1 : Int32))))
def J_Model_freeInode_2 : Nat → RS → Int32 → Option (Int32)
  | 0, _, _ => none
  | n + 1, σ, v1 => J_Model_freeInode_2_b (J_Model_freeInode_2 n σ) σ v1
def J_Model_freeInode (σ : RS)  : Option (Int32) :=
  J_Model_freeInode_2 9000 σ (0 : Int32)
abbrev rm_Model_freeInode : Room := { frames := 2, cells := 0, slots := 0, locals := 44 }
set_option maxHeartbeats 4000000 in
set_option maxRecDepth 100000 in
theorem c_Model_freeInode {l : Launch} {dC : Nat → ClassId} {dI : Nat → Nat → Nat} {gr : Nat → Nat} {cB cI : ClassId} {A : Nat → Prop} (hDa : ∀ σ, va_D A (wR gr cB cI σ)) {σ : RS} {res : Int32} (hJ : J_Model_freeInode σ = some res) :
    Met l y_Model_freeInode (mw y_Model_freeInode b_Model_freeInode 2 (some .int)) rm_Model_freeInode (va_Pc [.ref (gr 0)] (kW (dC, dI) (tC cB cI) (wR gr cB cI σ))) (va_Qi (fun (x : Int32) (_ : Unit) => x = res) (fun _ t => kW (dC, dI) (tC cB cI) (wR gr cB cI σ) t) A) 0 0 A := by
  refine Met.ofW (cc := b_Model_freeInode) (maxL := 2) (ret := (some .int)) (by decide) rfl ?_
  intro p e s m args below meth c s₁ B hml hv
  obtain ⟨rfl, hP, hK⟩ := hv
  have hx := B.exec
  have hb := B.bytes
  have hr := B.returns
  have hts := atoms_spec (ws := (mw y_Model_freeInode b_Model_freeInode 2 (some .int))) B.pre
  have htb : ∀ w ∈ tb, w.before [.ref (gr 0)].toArray s = true := fun w h => hts w (mwIn h)
  have hown : s.vm.findClass "LogFsModel" = some m.cls := findClass_of_methodNamed B.named
  have hlocks := B.notSynchronized
  have hS : va_S A s.heap s.heap [] := va_S.rf
  have hl := lv_entry ([.ref (gr 0)]) (n := 2) (Nat.le_of_ble_eq_true rfl)
  rw [lg_entry_eq]
  generalize (lg_sl ([.ref (gr 0)]) ++ List.replicate (2 - (lg_sl ([.ref (gr 0)])).length) Slot.unset).toArray = ls at hl ⊢
  have hl : lv_has ls 2 [(0, .ref (gr 0))] := hl
  have blk23 : ∀ (v1 : Int32) (ls : Array Slot) (H : Heap) (locs : List Loc), J_Model_freeInode_23 σ v1 = some res → lv_has ls 2 [(1, .int v1)] → va_P (dC, dI) cls (wR gr cB cI σ) H → va_S A s.heap H locs → W p l e (headSpec (mw y_Model_freeInode b_Model_freeInode 2 (some .int)) rm_Model_freeInode).room s m [.ref (gr 0)].toArray below meth c H locs 0 0 (MQ below (va_Qi (fun (x : Int32) (_ : Unit) => x = res) (fun _ t => kW (dC, dI) (tC cB cI) (wR gr cB cI σ) t) A) [.ref (gr 0)].toArray s 0 0 A) (F0 m 23 ls []) := by
    intro v1 ls H locs hJ hl hP hS
    unfold J_Model_freeInode_23 at hJ
    refine lv_iload_n hx hb d_Model_freeInode_23 rfl (lv_at hl 0 rfl) ?_
    refine lv_bipush (v := (32 : Int32)) hx hb d_Model_freeInode_24 (by decide) ?_
    refine lv_icmp_ge (tgt := 33) hx hb d_Model_freeInode_26 (by decide) (fun h2 => ?_) (fun h2 => ?_)
    · have hJ := j_t hJ h2
      refine lv_iconst (v := ((-1) : Int32)) hx hb d_Model_freeInode_33 (by decide) ?_
      have hJ := Option.some.inj hJ
      exact W.iret (v := ((-1) : Int32)) hx hb hr (fun t ht hW => ⟨⟨_, (), rfl, hJ, kW_end hP hK ht hW rfl⟩, hS.F ht⟩) hS.2.2 d_Model_freeInode_34
    · have hJ := j_f hJ h2
      refine lv_iload_n hx hb d_Model_freeInode_29 rfl (lv_at hl 0 rfl) ?_
      refine lv_goto (tgt := 34) hx hb d_Model_freeInode_30 (by decide) ?_
      have hJ := Option.some.inj hJ
      exact W.iret (v := v1) hx hb hr (fun t ht hW => ⟨⟨_, (), rfl, hJ, kW_end hP hK ht hW rfl⟩, hS.F ht⟩) hS.2.2 d_Model_freeInode_34
  have blk2 : ∀ (n : Nat) (v1 : Int32) (ls : Array Slot) (H : Heap) (locs : List Loc), J_Model_freeInode_2 n σ v1 = some res → lv_has ls 2 [(0, .ref (gr 0)), (1, .int v1)] → va_P (dC, dI) cls (wR gr cB cI σ) H → va_S A s.heap H locs → W p l e (headSpec (mw y_Model_freeInode b_Model_freeInode 2 (some .int)) rm_Model_freeInode).room s m [.ref (gr 0)].toArray below meth c H locs 0 0 (MQ below (va_Qi (fun (x : Int32) (_ : Unit) => x = res) (fun _ t => kW (dC, dI) (tC cB cI) (wR gr cB cI σ) t) A) [.ref (gr 0)].toArray s 0 0 A) (F0 m 2 ls []) := by
    intro n
    induction n with
    | zero => intro v1 ls H locs hJ; exact j_none hJ
    | succ n hk =>
      intro v1 ls H locs hJ hl hP hS
      have hJ : J_Model_freeInode_2_b (J_Model_freeInode_2 n σ) σ v1 = some res := hJ
      unfold J_Model_freeInode_2_b at hJ
      refine lv_iload_n hx hb d_Model_freeInode_2 rfl (lv_at hl 1 rfl) ?_
      refine lv_bipush (v := (32 : Int32)) hx hb d_Model_freeInode_3 (by decide) ?_
      refine lv_icmp_ge (tgt := 23) hx hb d_Model_freeInode_5 (by decide) (fun h1 => ?_) (fun h1 => ?_)
      · have hJ := j_t hJ h1
        exact blk23 _ _ _ _ hJ (lv_sub hl [1] rfl) hP hS
      · have hJ := j_f hJ h1
        refine lv_aload_n hx hb d_Model_freeInode_8 rfl (lv_at hl 0 rfl) ?_
        refine lv_iload_n hx hb d_Model_freeInode_9 rfl (lv_at hl 1 rfl) ?_
        refine lv_iconst (v := (0 : Int32)) hx hb d_Model_freeInode_10 (by decide) ?_
        obtain ⟨x3, e3, hJ⟩ := j_bind hJ
        refine va_calli (va_runV (As := [.int v1, .int (0 : Int32)]) (rest := []) ⟨hx, hb, hml, hown, htb⟩ (c_Model_inodeAt (l := l) (dC := dC) (dI := dI) hDa e3) (xcV 2 htb tw682 tw7 tw679 tw681 ts_Model_inodeAt rfl rfl hd_Model_inodeAt ⟨Nat.le_of_ble_eq_true rfl, Nat.le_of_ble_eq_true rfl⟩) (kW_V hP hK (va_recv (q0 := 0) (ci := 5) hK hP rfl rfl)) rfl rfl hl.1 rfl (lv_room (Nat.le_of_ble_eq_true rfl)) d_Model_freeInode_11 ⟨Nat.le_of_ble_eq_true rfl, Nat.le_of_ble_eq_true rfl⟩) hS (fun q _ h => h) (fun q h => h) (fun r0 u t H locs ht hvm hw hB _ _ hS => ?_)
        subst r0
        have hP := kW_P hB ht
        refine lv_if_eq (tgt := 23) hx hb d_Model_freeInode_14 (by decide) (fun h4 => ?_) (fun h4 => ?_)
        · have hJ := j_t hJ h4
          exact blk23 _ _ _ _ hJ (lv_sub hl [1] rfl) hP hS
        · have hJ := j_f hJ h4
          refine lv_iinc (k := 1) (v := (v1 + (1 : Int32))) hx hb d_Model_freeInode_17 hl rfl rfl (Nat.le_of_ble_eq_true rfl) rfl (fun ls hl => ?_)
          have hl : lv_has ls 2 [(1, .int (v1 + (1 : Int32))), (0, .ref (gr 0))] := hl
          refine lv_goto (tgt := 2) hx hb d_Model_freeInode_20 (by decide) ?_
          exact hk _ _ _ _ hJ (lv_sub hl [1, 0] rfl) hP hS
  unfold J_Model_freeInode at hJ
  refine lv_iconst (v := (0 : Int32)) hx hb d_Model_freeInode_0 (by decide) ?_
  refine lv_istore_n hx hb d_Model_freeInode_1 rfl hl (Nat.le_of_ble_eq_true rfl) rfl (fun ls hl => ?_)
  have hl : lv_has ls 2 [(1, .int (0 : Int32)), (0, .ref (gr 0))] := hl
  exact blk2 9000 _ _ _ _ hJ (lv_sub hl [1, 0] rfl) hP hS
def J_Model_put_65_b (k : RS → Int32 → Int32 → Option (RS)) (σ : RS) (v1 : Int32) (v2 : Int32) : Option (RS) :=
  (if (64 : Int32) ≤ v2 then some (q_w σ ((r_w σ) + (1 : Int32))) else (if jin v2 64 = true then (if jin (((64 : Int32) * v1) + v2) 8192 = true then k (q_D σ (va_up (r_D σ) (((64 : Int32) * v1) + v2).toNatClampNeg ((r_G σ) v2.toNatClampNeg).toInt32.toInt8)) v1 (v2 + (1 : Int32)) else none) else none))
def J_Model_put_65 : Nat → RS → Int32 → Int32 → Option (RS)
  | 0, _, _, _ => none
  | n + 1, σ, v1, v2 => J_Model_put_65_b (J_Model_put_65 n) σ v1 v2
def J_Model_put_20 (σ : RS) (v1 : Int32) (t1 : Int32) : Option (RS) :=
  (if jbl t1 = true then (if (r_f (q_f σ t1)) = (0 : Int32) then (if (r_l (q_f σ t1)) = ((-1) : Int32) then J_Model_put_65 9000 (q_l (q_f σ t1) ((-1) : Int32)) v1 (0 : Int32) else J_Model_put_65 9000 (q_l (q_f σ t1) ((r_l (q_f σ t1)) - (1 : Int32))) v1 (0 : Int32)) else some (q_l (q_o (q_f σ t1) (1 : Int32)) ((-1) : Int32))) else none)
def J_Model_put_15 (σ : RS) (v1 : Int32) : Option (RS) :=
  J_Model_put_20 σ v1 (1 : Int32)
def J_Model_put (σ : RS) (a1 : Int32) : Option (RS) :=
  (if (r_f σ) = (0 : Int32) then (if (r_l σ) = (0 : Int32) then J_Model_put_15 σ a1 else J_Model_put_20 σ a1 (0 : Int32)) else J_Model_put_15 σ a1)
abbrev rm_Model_put : Room := { frames := 0, cells := 0, slots := 0, locals := 0 }
set_option maxHeartbeats 4000000 in
set_option maxRecDepth 100000 in
theorem c_Model_put {l : Launch} {dC : Nat → ClassId} {dI : Nat → Nat → Nat} {gr : Nat → Nat} {cB cI : ClassId} {A : Nat → Prop} (hDa : ∀ σ, va_D A (wR gr cB cI σ)) {σ : RS} {a1 : Int32} {res : RS} (hJ : J_Model_put σ a1 = some res) :
    Met l y_Model_put (mw y_Model_put b_Model_put 3 none) rm_Model_put (va_Pc [.ref (gr 0), .int a1] (kW (dC, dI) (tC cB cI) (wR gr cB cI σ))) (va_Qv (fun (_ : Unit) => True) (fun _ t => kW (dC, dI) (tC cB cI) (wR gr cB cI res) t) A) 0 0 A := by
  refine Met.ofW (cc := b_Model_put) (maxL := 3) (ret := none) (by decide) rfl ?_
  intro p e s m args below meth c s₁ B hml hv
  obtain ⟨rfl, hP, hK⟩ := hv
  have hx := B.exec
  have hb := B.bytes
  have hr := B.returns
  have hts := atoms_spec (ws := (mw y_Model_put b_Model_put 3 none)) B.pre
  have htb : ∀ w ∈ tb, w.before [.ref (gr 0), .int a1].toArray s = true := fun w h => hts w (mwIn h)
  have hown : s.vm.findClass "LogFsModel" = some m.cls := findClass_of_methodNamed B.named
  have hlocks := B.notSynchronized
  have hS : va_S A s.heap s.heap [] := va_S.rf
  have hl := lv_entry ([.ref (gr 0), .int a1]) (n := 3) (Nat.le_of_ble_eq_true rfl)
  rw [lg_entry_eq]
  generalize (lg_sl ([.ref (gr 0), .int a1]) ++ List.replicate (3 - (lg_sl ([.ref (gr 0), .int a1])).length) Slot.unset).toArray = ls at hl ⊢
  have hl : lv_has ls 3 [(0, .ref (gr 0)), (1, .int a1)] := hl
  have blk65 : ∀ (n : Nat) (σ : RS) (v1 : Int32) (v2 : Int32) (ls : Array Slot) (H : Heap) (locs : List Loc), J_Model_put_65 n σ v1 v2 = some res → lv_has ls 3 [(0, .ref (gr 0)), (1, .int v1), (2, .int v2)] → va_P (dC, dI) cls (wR gr cB cI σ) H → va_S A s.heap H locs → W p l e (headSpec (mw y_Model_put b_Model_put 3 none) rm_Model_put).room s m [.ref (gr 0), .int a1].toArray below meth c H locs 0 0 (MQ below (va_Qv (fun (_ : Unit) => True) (fun _ t => kW (dC, dI) (tC cB cI) (wR gr cB cI res) t) A) [.ref (gr 0), .int a1].toArray s 0 0 A) (F0 m 65 ls []) := by
    intro n
    induction n with
    | zero => intro σ v1 v2 ls H locs hJ; exact j_none hJ
    | succ n hk =>
      intro σ v1 v2 ls H locs hJ hl hP hS
      have hJ : J_Model_put_65_b (J_Model_put_65 n) σ v1 v2 = some res := hJ
      unfold J_Model_put_65_b at hJ
      refine lv_iload_n hx hb d_Model_put_65 rfl (lv_at hl 2 rfl) ?_
      refine lv_bipush (v := (64 : Int32)) hx hb d_Model_put_66 (by decide) ?_
      refine lv_icmp_ge (tgt := 94) hx hb d_Model_put_68 (by decide) (fun h5 => ?_) (fun h5 => ?_)
      · have hJ := j_t hJ h5
        refine lv_aload_n hx hb d_Model_put_94 rfl (lv_at hl 0 rfl) ?_
        refine lv_dup hx hb d_Model_put_95 rfl ?_
        refine va_get (D := (dC, dI)) (ci := 5) (v := .int (r_w σ)) (C := R_Model) (T := T_Model) (N := 12) hx hb htb uin_Model hown hK hP 0 rfl rfl 5 (by decide) (htb _ tw595) (fun _ h9 => h9) rfl d_Model_put_96 ?_
        refine lv_iconst (v := (1 : Int32)) hx hb d_Model_put_99 (by decide) ?_
        refine lv_iadd hx hb d_Model_put_100 ?_
        refine va_put (D := (dC, dI)) (ci := 5) (v := .int ((r_w σ) + (1 : Int32))) (ty := .int) (C := R_Model) (T := T_Model) (N := 12) hx hb htb uin_Model t_Model t_Model_ok n_Model hown hK hP (hDa _) hS 0 rfl rfl 5 (by decide) (htb _ tw595) (fun _ h9 => h9) rfl (by decide +kernel) rfl rfl (Nat.le_of_ble_eq_true rfl) d_Model_put_101 (fun H locs hP _ hS => ?_)
        have hP : va_P (dC, dI) cls (wR gr cB cI (q_w σ ((r_w σ) + (1 : Int32)))) H := hP
        have hJ := Option.some.inj hJ
        exact W.vret hx hb hr (fun t ht hW => ⟨⟨(), rfl, trivial, kW_end hP hK ht hW (congrArg (fun z => wR gr cB cI z) hJ)⟩, hS.F ht⟩) hS.2.2 d_Model_put_104
      · have hJ := j_f hJ h5
        refine lv_aload_n hx hb d_Model_put_71 rfl (lv_at hl 0 rfl) ?_
        refine va_get (D := (dC, dI)) (ci := 5) (v := .ref (gr 1)) (C := R_Model) (T := T_Model) (N := 12) hx hb htb uin_Model hown hK hP 0 rfl rfl 1 (by decide) (htb _ tw591) (fun _ h9 => h9) rfl d_Model_put_72 ?_
        refine lv_bipush (v := (64 : Int32)) hx hb d_Model_put_75 (by decide) ?_
        refine lv_iload_n hx hb d_Model_put_77 rfl (lv_at hl 1 rfl) ?_
        refine lv_imul hx hb d_Model_put_78 ?_
        refine lv_iload_n hx hb d_Model_put_79 rfl (lv_at hl 2 rfl) ?_
        refine lv_iadd hx hb d_Model_put_80 ?_
        refine lv_aload_n hx hb d_Model_put_81 rfl (lv_at hl 0 rfl) ?_
        refine va_get (D := (dC, dI)) (ci := 5) (v := .ref (gr 5)) (C := R_Model) (T := T_Model) (N := 12) hx hb htb uin_Model hown hK hP 0 rfl rfl 11 (by decide) (htb _ tw601) (fun _ h9 => h9) rfl d_Model_put_82 ?_
        refine lv_iload_n hx hb d_Model_put_85 rfl (lv_at hl 2 rfl) ?_
        obtain ⟨h6, hJ⟩ := j_g hJ
        refine va_bald hx hb hK hP 5 0 rfl rfl (j_in h6) d_Model_put_86 ?_
        obtain ⟨h7, hJ⟩ := j_g hJ
        refine va_bast hx hb hK hP (hDa _) hS 1 0 rfl rfl (j_in h7) d_Model_put_87 (fun H locs hP _ hS => ?_)
        rw [by_upd] at hP
        have hP : va_P (dC, dI) cls (wR gr cB cI (q_D σ (va_up (r_D σ) (((64 : Int32) * v1) + v2).toNatClampNeg ((r_G σ) v2.toNatClampNeg).toInt32.toInt8))) H := hP
        refine lv_iinc (k := 2) (v := (v2 + (1 : Int32))) hx hb d_Model_put_88 hl rfl rfl (Nat.le_of_ble_eq_true rfl) rfl (fun ls hl => ?_)
        have hl : lv_has ls 3 [(2, .int (v2 + (1 : Int32))), (0, .ref (gr 0)), (1, .int v1)] := hl
        refine lv_goto (tgt := 65) hx hb d_Model_put_91 (by decide) ?_
        exact hk _ _ _ _ _ _ hJ (lv_sub hl [1, 2, 0] rfl) hP hS
  have blk20 : ∀ (σ : RS) (v1 : Int32) (t1 : Int32) (ls : Array Slot) (H : Heap) (locs : List Loc), J_Model_put_20 σ v1 t1 = some res → lv_has ls 3 [(0, .ref (gr 0)), (1, .int v1)] → va_P (dC, dI) cls (wR gr cB cI σ) H → va_S A s.heap H locs → W p l e (headSpec (mw y_Model_put b_Model_put 3 none) rm_Model_put).room s m [.ref (gr 0), .int a1].toArray below meth c H locs 0 0 (MQ below (va_Qv (fun (_ : Unit) => True) (fun _ t => kW (dC, dI) (tC cB cI) (wR gr cB cI res) t) A) [.ref (gr 0), .int a1].toArray s 0 0 A) (F0 m 20 ls [.int t1, .ref (gr 0)]) := by
    intro σ v1 t1 ls H locs hJ hl hP hS
    unfold J_Model_put_20 at hJ
    obtain ⟨h2, hJ⟩ := j_g hJ
    refine va_put (D := (dC, dI)) (ci := 5) (v := .int t1) (ty := .boolean) (C := R_Model) (T := T_Model) (N := 12) hx hb htb uin_Model t_Model t_Model_ok n_Model hown hK hP (hDa _) hS 0 rfl rfl 9 (by decide) (htb _ tw599) (fun _ h9 => h9) rfl (by decide +kernel) (j_bl h2).1 (j_bl h2).2 (Nat.le_of_ble_eq_true rfl) d_Model_put_20 (fun H locs hP _ hS => ?_)
    have hP : va_P (dC, dI) cls (wR gr cB cI (q_f σ t1)) H := hP
    refine lv_aload_n hx hb d_Model_put_23 rfl (lv_at hl 0 rfl) ?_
    refine va_get (D := (dC, dI)) (ci := 5) (v := .int (r_f (q_f σ t1))) (C := R_Model) (T := T_Model) (N := 12) hx hb htb uin_Model hown hK hP 0 rfl rfl 9 (by decide) (htb _ tw599) (fun _ h9 => h9) rfl d_Model_put_24 ?_
    refine lv_if_eq (tgt := 41) hx hb d_Model_put_27 (by decide) (fun h3 => ?_) (fun h3 => ?_)
    · have hJ := j_t hJ h3
      refine lv_aload_n hx hb d_Model_put_41 rfl (lv_at hl 0 rfl) ?_
      refine lv_aload_n hx hb d_Model_put_42 rfl (lv_at hl 0 rfl) ?_
      refine va_get (D := (dC, dI)) (ci := 5) (v := .int (r_l (q_f σ t1))) (C := R_Model) (T := T_Model) (N := 12) hx hb htb uin_Model hown hK hP 0 rfl rfl 7 (by decide) (htb _ tw597) (fun _ h9 => h9) rfl d_Model_put_43 ?_
      refine lv_iconst (v := ((-1) : Int32)) hx hb d_Model_put_46 (by decide) ?_
      refine lv_icmp_ne (tgt := 54) hx hb d_Model_put_47 (by decide) (fun h4 => ?_) (fun h4 => ?_)
      · have hJ := j_f hJ h4
        refine lv_aload_n hx hb d_Model_put_54 rfl (lv_at hl 0 rfl) ?_
        refine va_get (D := (dC, dI)) (ci := 5) (v := .int (r_l (q_f σ t1))) (C := R_Model) (T := T_Model) (N := 12) hx hb htb uin_Model hown hK hP 0 rfl rfl 7 (by decide) (htb _ tw597) (fun _ h9 => h9) rfl d_Model_put_55 ?_
        refine lv_iconst (v := (1 : Int32)) hx hb d_Model_put_58 (by decide) ?_
        refine lv_isub hx hb d_Model_put_59 ?_
        refine va_put (D := (dC, dI)) (ci := 5) (v := .int ((r_l (q_f σ t1)) - (1 : Int32))) (ty := .int) (C := R_Model) (T := T_Model) (N := 12) hx hb htb uin_Model t_Model t_Model_ok n_Model hown hK hP (hDa _) hS 0 rfl rfl 7 (by decide) (htb _ tw597) (fun _ h9 => h9) rfl (by decide +kernel) rfl rfl (Nat.le_of_ble_eq_true rfl) d_Model_put_60 (fun H locs hP _ hS => ?_)
        have hP : va_P (dC, dI) cls (wR gr cB cI (q_l (q_f σ t1) ((r_l (q_f σ t1)) - (1 : Int32)))) H := hP
        refine lv_iconst (v := (0 : Int32)) hx hb d_Model_put_63 (by decide) ?_
        refine lv_istore_n hx hb d_Model_put_64 rfl hl (Nat.le_of_ble_eq_true rfl) rfl (fun ls hl => ?_)
        have hl : lv_has ls 3 [(2, .int (0 : Int32)), (0, .ref (gr 0)), (1, .int v1)] := hl
        exact blk65 9000 _ _ _ _ _ _ hJ (lv_sub hl [1, 2, 0] rfl) hP hS
      · have hJ := j_t hJ h4
        refine lv_iconst (v := ((-1) : Int32)) hx hb d_Model_put_50 (by decide) ?_
        refine lv_goto (tgt := 60) hx hb d_Model_put_51 (by decide) ?_
        refine va_put (D := (dC, dI)) (ci := 5) (v := .int ((-1) : Int32)) (ty := .int) (C := R_Model) (T := T_Model) (N := 12) hx hb htb uin_Model t_Model t_Model_ok n_Model hown hK hP (hDa _) hS 0 rfl rfl 7 (by decide) (htb _ tw597) (fun _ h9 => h9) rfl (by decide +kernel) rfl rfl (Nat.le_of_ble_eq_true rfl) d_Model_put_60 (fun H locs hP _ hS => ?_)
        have hP : va_P (dC, dI) cls (wR gr cB cI (q_l (q_f σ t1) ((-1) : Int32))) H := hP
        refine lv_iconst (v := (0 : Int32)) hx hb d_Model_put_63 (by decide) ?_
        refine lv_istore_n hx hb d_Model_put_64 rfl hl (Nat.le_of_ble_eq_true rfl) rfl (fun ls hl => ?_)
        have hl : lv_has ls 3 [(2, .int (0 : Int32)), (0, .ref (gr 0)), (1, .int v1)] := hl
        exact blk65 9000 _ _ _ _ _ _ hJ (lv_sub hl [1, 2, 0] rfl) hP hS
    · have hJ := j_f hJ h3
      refine lv_aload_n hx hb d_Model_put_30 rfl (lv_at hl 0 rfl) ?_
      refine lv_iconst (v := (1 : Int32)) hx hb d_Model_put_31 (by decide) ?_
      refine va_put (D := (dC, dI)) (ci := 5) (v := .int (1 : Int32)) (ty := .boolean) (C := R_Model) (T := T_Model) (N := 12) hx hb htb uin_Model t_Model t_Model_ok n_Model hown hK hP (hDa _) hS 0 rfl rfl 8 (by decide) (htb _ tw598) (fun _ h9 => h9) rfl (by decide +kernel) (by decide +kernel) (by decide +kernel) (Nat.le_of_ble_eq_true rfl) d_Model_put_32 (fun H locs hP _ hS => ?_)
      have hP : va_P (dC, dI) cls (wR gr cB cI (q_o (q_f σ t1) (1 : Int32))) H := hP
      refine lv_aload_n hx hb d_Model_put_35 rfl (lv_at hl 0 rfl) ?_
      refine lv_iconst (v := ((-1) : Int32)) hx hb d_Model_put_36 (by decide) ?_
      refine va_put (D := (dC, dI)) (ci := 5) (v := .int ((-1) : Int32)) (ty := .int) (C := R_Model) (T := T_Model) (N := 12) hx hb htb uin_Model t_Model t_Model_ok n_Model hown hK hP (hDa _) hS 0 rfl rfl 7 (by decide) (htb _ tw597) (fun _ h9 => h9) rfl (by decide +kernel) rfl rfl (Nat.le_of_ble_eq_true rfl) d_Model_put_37 (fun H locs hP _ hS => ?_)
      have hP : va_P (dC, dI) cls (wR gr cB cI (q_l (q_o (q_f σ t1) (1 : Int32)) ((-1) : Int32))) H := hP
      have hJ := Option.some.inj hJ
      exact W.vret hx hb hr (fun t ht hW => ⟨⟨(), rfl, trivial, kW_end hP hK ht hW (congrArg (fun z => wR gr cB cI z) hJ)⟩, hS.F ht⟩) hS.2.2 d_Model_put_40
  have blk15 : ∀ (σ : RS) (v1 : Int32) (ls : Array Slot) (H : Heap) (locs : List Loc), J_Model_put_15 σ v1 = some res → lv_has ls 3 [(0, .ref (gr 0)), (1, .int v1)] → va_P (dC, dI) cls (wR gr cB cI σ) H → va_S A s.heap H locs → W p l e (headSpec (mw y_Model_put b_Model_put 3 none) rm_Model_put).room s m [.ref (gr 0), .int a1].toArray below meth c H locs 0 0 (MQ below (va_Qv (fun (_ : Unit) => True) (fun _ t => kW (dC, dI) (tC cB cI) (wR gr cB cI res) t) A) [.ref (gr 0), .int a1].toArray s 0 0 A) (F0 m 15 ls [.ref (gr 0)]) := by
    intro σ v1 ls H locs hJ hl hP hS
    unfold J_Model_put_15 at hJ
    refine lv_iconst (v := (1 : Int32)) hx hb d_Model_put_15 (by decide) ?_
    refine lv_goto (tgt := 20) hx hb d_Model_put_16 (by decide) ?_
    exact blk20 _ _ _ _ _ _ hJ (lv_sub hl [0, 1] rfl) hP hS
  unfold J_Model_put at hJ
  refine lv_aload_n hx hb d_Model_put_0 rfl (lv_at hl 0 rfl) ?_
  refine lv_aload_n hx hb d_Model_put_1 rfl (lv_at hl 0 rfl) ?_
  refine va_get (D := (dC, dI)) (ci := 5) (v := .int (r_f σ)) (C := R_Model) (T := T_Model) (N := 12) hx hb htb uin_Model hown hK hP 0 rfl rfl 9 (by decide) (htb _ tw599) (fun _ h9 => h9) rfl d_Model_put_2 ?_
  refine lv_if_ne (tgt := 15) hx hb d_Model_put_5 (by decide) (fun h1 => ?_) (fun h1 => ?_)
  · have hJ := j_f hJ h1
    exact blk15 _ _ _ _ _ hJ (lv_sub hl [0, 1] rfl) hP hS
  · have hJ := j_t hJ h1
    refine lv_aload_n hx hb d_Model_put_8 rfl (lv_at hl 0 rfl) ?_
    refine va_get (D := (dC, dI)) (ci := 5) (v := .int (r_l σ)) (C := R_Model) (T := T_Model) (N := 12) hx hb htb uin_Model hown hK hP 0 rfl rfl 7 (by decide) (htb _ tw597) (fun _ h9 => h9) rfl d_Model_put_9 ?_
    refine lv_if_ne (tgt := 19) hx hb d_Model_put_12 (by decide) (fun h8 => ?_) (fun h8 => ?_)
    · have hJ := j_f hJ h8
      refine lv_iconst (v := (0 : Int32)) hx hb d_Model_put_19 (by decide) ?_
      exact blk20 _ _ _ _ _ _ hJ (lv_sub hl [0, 1] rfl) hP hS
    · have hJ := j_t hJ h8
      exact blk15 _ _ _ _ _ hJ (lv_sub hl [0, 1] rfl) hP hS
def J_Model_fetch_2_b (k : RS → Int32 → Int32 → Option (RS)) (σ : RS) (v1 : Int32) (v2 : Int32) : Option (RS) :=
  (if (64 : Int32) ≤ v2 then some σ else (if jin (((64 : Int32) * v1) + v2) 8192 = true then (if jin v2 64 = true then k (q_G σ (va_up (r_G σ) v2.toNatClampNeg ((r_M σ) (((64 : Int32) * v1) + v2).toNatClampNeg).toInt32.toInt8)) v1 (v2 + (1 : Int32)) else none) else none))
def J_Model_fetch_2 : Nat → RS → Int32 → Int32 → Option (RS)
  | 0, _, _, _ => none
  | n + 1, σ, v1, v2 => J_Model_fetch_2_b (J_Model_fetch_2 n) σ v1 v2
def J_Model_fetch (σ : RS) (a1 : Int32) : Option (RS) :=
  J_Model_fetch_2 9000 σ a1 (0 : Int32)
abbrev rm_Model_fetch : Room := { frames := 0, cells := 0, slots := 0, locals := 0 }
set_option maxHeartbeats 4000000 in
set_option maxRecDepth 100000 in
theorem c_Model_fetch {l : Launch} {dC : Nat → ClassId} {dI : Nat → Nat → Nat} {gr : Nat → Nat} {cB cI : ClassId} {A : Nat → Prop} (hDa : ∀ σ, va_D A (wR gr cB cI σ)) {σ : RS} {a1 : Int32} {res : RS} (hJ : J_Model_fetch σ a1 = some res) :
    Met l y_Model_fetch (mw y_Model_fetch b_Model_fetch 3 none) rm_Model_fetch (va_Pc [.ref (gr 0), .int a1] (kW (dC, dI) (tC cB cI) (wR gr cB cI σ))) (va_Qv (fun (_ : Unit) => True) (fun _ t => kW (dC, dI) (tC cB cI) (wR gr cB cI res) t) A) 0 0 A := by
  refine Met.ofW (cc := b_Model_fetch) (maxL := 3) (ret := none) (by decide) rfl ?_
  intro p e s m args below meth c s₁ B hml hv
  obtain ⟨rfl, hP, hK⟩ := hv
  have hx := B.exec
  have hb := B.bytes
  have hr := B.returns
  have hts := atoms_spec (ws := (mw y_Model_fetch b_Model_fetch 3 none)) B.pre
  have htb : ∀ w ∈ tb, w.before [.ref (gr 0), .int a1].toArray s = true := fun w h => hts w (mwIn h)
  have hown : s.vm.findClass "LogFsModel" = some m.cls := findClass_of_methodNamed B.named
  have hlocks := B.notSynchronized
  have hS : va_S A s.heap s.heap [] := va_S.rf
  have hl := lv_entry ([.ref (gr 0), .int a1]) (n := 3) (Nat.le_of_ble_eq_true rfl)
  rw [lg_entry_eq]
  generalize (lg_sl ([.ref (gr 0), .int a1]) ++ List.replicate (3 - (lg_sl ([.ref (gr 0), .int a1])).length) Slot.unset).toArray = ls at hl ⊢
  have hl : lv_has ls 3 [(0, .ref (gr 0)), (1, .int a1)] := hl
  have blk2 : ∀ (n : Nat) (σ : RS) (v1 : Int32) (v2 : Int32) (ls : Array Slot) (H : Heap) (locs : List Loc), J_Model_fetch_2 n σ v1 v2 = some res → lv_has ls 3 [(0, .ref (gr 0)), (1, .int v1), (2, .int v2)] → va_P (dC, dI) cls (wR gr cB cI σ) H → va_S A s.heap H locs → W p l e (headSpec (mw y_Model_fetch b_Model_fetch 3 none) rm_Model_fetch).room s m [.ref (gr 0), .int a1].toArray below meth c H locs 0 0 (MQ below (va_Qv (fun (_ : Unit) => True) (fun _ t => kW (dC, dI) (tC cB cI) (wR gr cB cI res) t) A) [.ref (gr 0), .int a1].toArray s 0 0 A) (F0 m 2 ls []) := by
    intro n
    induction n with
    | zero => intro σ v1 v2 ls H locs hJ; exact j_none hJ
    | succ n hk =>
      intro σ v1 v2 ls H locs hJ hl hP hS
      have hJ : J_Model_fetch_2_b (J_Model_fetch_2 n) σ v1 v2 = some res := hJ
      unfold J_Model_fetch_2_b at hJ
      refine lv_iload_n hx hb d_Model_fetch_2 rfl (lv_at hl 2 rfl) ?_
      refine lv_bipush (v := (64 : Int32)) hx hb d_Model_fetch_3 (by decide) ?_
      refine lv_icmp_ge (tgt := 31) hx hb d_Model_fetch_5 (by decide) (fun h1 => ?_) (fun h1 => ?_)
      · have hJ := j_t hJ h1
        have hJ := Option.some.inj hJ
        exact W.vret hx hb hr (fun t ht hW => ⟨⟨(), rfl, trivial, kW_end hP hK ht hW (congrArg (fun z => wR gr cB cI z) hJ)⟩, hS.F ht⟩) hS.2.2 d_Model_fetch_31
      · have hJ := j_f hJ h1
        refine lv_aload_n hx hb d_Model_fetch_8 rfl (lv_at hl 0 rfl) ?_
        refine va_get (D := (dC, dI)) (ci := 5) (v := .ref (gr 5)) (C := R_Model) (T := T_Model) (N := 12) hx hb htb uin_Model hown hK hP 0 rfl rfl 11 (by decide) (htb _ tw601) (fun _ h9 => h9) rfl d_Model_fetch_9 ?_
        refine lv_iload_n hx hb d_Model_fetch_12 rfl (lv_at hl 2 rfl) ?_
        refine lv_aload_n hx hb d_Model_fetch_13 rfl (lv_at hl 0 rfl) ?_
        refine va_get (D := (dC, dI)) (ci := 5) (v := .ref (gr 2)) (C := R_Model) (T := T_Model) (N := 12) hx hb htb uin_Model hown hK hP 0 rfl rfl 2 (by decide) (htb _ tw592) (fun _ h9 => h9) rfl d_Model_fetch_14 ?_
        refine lv_bipush (v := (64 : Int32)) hx hb d_Model_fetch_17 (by decide) ?_
        refine lv_iload_n hx hb d_Model_fetch_19 rfl (lv_at hl 1 rfl) ?_
        refine lv_imul hx hb d_Model_fetch_20 ?_
        refine lv_iload_n hx hb d_Model_fetch_21 rfl (lv_at hl 2 rfl) ?_
        refine lv_iadd hx hb d_Model_fetch_22 ?_
        obtain ⟨h2, hJ⟩ := j_g hJ
        refine va_bald hx hb hK hP 2 0 rfl rfl (j_in h2) d_Model_fetch_23 ?_
        obtain ⟨h3, hJ⟩ := j_g hJ
        refine va_bast hx hb hK hP (hDa _) hS 5 0 rfl rfl (j_in h3) d_Model_fetch_24 (fun H locs hP _ hS => ?_)
        rw [by_upd] at hP
        have hP : va_P (dC, dI) cls (wR gr cB cI (q_G σ (va_up (r_G σ) v2.toNatClampNeg ((r_M σ) (((64 : Int32) * v1) + v2).toNatClampNeg).toInt32.toInt8))) H := hP
        refine lv_iinc (k := 2) (v := (v2 + (1 : Int32))) hx hb d_Model_fetch_25 hl rfl rfl (Nat.le_of_ble_eq_true rfl) rfl (fun ls hl => ?_)
        have hl : lv_has ls 3 [(2, .int (v2 + (1 : Int32))), (0, .ref (gr 0)), (1, .int v1)] := hl
        refine lv_goto (tgt := 2) hx hb d_Model_fetch_28 (by decide) ?_
        exact hk _ _ _ _ _ _ hJ (lv_sub hl [1, 2, 0] rfl) hP hS
  unfold J_Model_fetch at hJ
  refine lv_iconst (v := (0 : Int32)) hx hb d_Model_fetch_0 (by decide) ?_
  refine lv_istore_n hx hb d_Model_fetch_1 rfl hl (Nat.le_of_ble_eq_true rfl) rfl (fun ls hl => ?_)
  have hl : lv_has ls 3 [(2, .int (0 : Int32)), (0, .ref (gr 0)), (1, .int a1)] := hl
  exact blk2 9000 _ _ _ _ _ _ hJ (lv_sub hl [1, 2, 0] rfl) hP hS
def J_Model_head_2_b (k : RS → Int32 → Int32 → Option (RS)) (σ : RS) (v1 : Int32) (v2 : Int32) : Option (RS) :=
  (if (64 : Int32) ≤ v2 then some σ else (if v2 = (0 : Int32) then (if jin v2 64 = true then k (q_G σ (va_up (r_G σ) v2.toNatClampNeg v1.toInt8.toInt32.toInt8)) v1 (v2 + (1 : Int32)) else none) else (if v1 < v2 then (if jin v2 64 = true then k (q_G σ (va_up (r_G σ) v2.toNatClampNeg (0 : Int32).toInt8.toInt32.toInt8)) v1 (v2 + (1 : Int32)) else none) else (if jin (v2 - (1 : Int32)) 128 = true then (if jin v2 64 = true then k (q_G σ (va_up (r_G σ) v2.toNatClampNeg ((r_P σ) (v2 - (1 : Int32)).toNatClampNeg).toInt8.toInt32.toInt8)) v1 (v2 + (1 : Int32)) else none) else none))))
def J_Model_head_2 : Nat → RS → Int32 → Int32 → Option (RS)
  | 0, _, _, _ => none
  | n + 1, σ, v1, v2 => J_Model_head_2_b (J_Model_head_2 n) σ v1 v2
def J_Model_head (σ : RS) (a1 : Int32) : Option (RS) :=
  J_Model_head_2 9000 σ a1 (0 : Int32)
abbrev rm_Model_head : Room := { frames := 0, cells := 0, slots := 0, locals := 0 }
set_option maxHeartbeats 4000000 in
set_option maxRecDepth 100000 in
theorem c_Model_head {l : Launch} {dC : Nat → ClassId} {dI : Nat → Nat → Nat} {gr : Nat → Nat} {cB cI : ClassId} {A : Nat → Prop} (hDa : ∀ σ, va_D A (wR gr cB cI σ)) {σ : RS} {a1 : Int32} {res : RS} (hJ : J_Model_head σ a1 = some res) :
    Met l y_Model_head (mw y_Model_head b_Model_head 3 none) rm_Model_head (va_Pc [.ref (gr 0), .int a1] (kW (dC, dI) (tC cB cI) (wR gr cB cI σ))) (va_Qv (fun (_ : Unit) => True) (fun _ t => kW (dC, dI) (tC cB cI) (wR gr cB cI res) t) A) 0 0 A := by
  refine Met.ofW (cc := b_Model_head) (maxL := 3) (ret := none) (by decide) rfl ?_
  intro p e s m args below meth c s₁ B hml hv
  obtain ⟨rfl, hP, hK⟩ := hv
  have hx := B.exec
  have hb := B.bytes
  have hr := B.returns
  have hts := atoms_spec (ws := (mw y_Model_head b_Model_head 3 none)) B.pre
  have htb : ∀ w ∈ tb, w.before [.ref (gr 0), .int a1].toArray s = true := fun w h => hts w (mwIn h)
  have hown : s.vm.findClass "LogFsModel" = some m.cls := findClass_of_methodNamed B.named
  have hlocks := B.notSynchronized
  have hS : va_S A s.heap s.heap [] := va_S.rf
  have hl := lv_entry ([.ref (gr 0), .int a1]) (n := 3) (Nat.le_of_ble_eq_true rfl)
  rw [lg_entry_eq]
  generalize (lg_sl ([.ref (gr 0), .int a1]) ++ List.replicate (3 - (lg_sl ([.ref (gr 0), .int a1])).length) Slot.unset).toArray = ls at hl ⊢
  have hl : lv_has ls 3 [(0, .ref (gr 0)), (1, .int a1)] := hl
  have blk2 : ∀ (n : Nat) (σ : RS) (v1 : Int32) (v2 : Int32) (ls : Array Slot) (H : Heap) (locs : List Loc), J_Model_head_2 n σ v1 v2 = some res → lv_has ls 3 [(0, .ref (gr 0)), (1, .int v1), (2, .int v2)] → va_P (dC, dI) cls (wR gr cB cI σ) H → va_S A s.heap H locs → W p l e (headSpec (mw y_Model_head b_Model_head 3 none) rm_Model_head).room s m [.ref (gr 0), .int a1].toArray below meth c H locs 0 0 (MQ below (va_Qv (fun (_ : Unit) => True) (fun _ t => kW (dC, dI) (tC cB cI) (wR gr cB cI res) t) A) [.ref (gr 0), .int a1].toArray s 0 0 A) (F0 m 2 ls []) := by
    intro n
    induction n with
    | zero => intro σ v1 v2 ls H locs hJ; exact j_none hJ
    | succ n hk =>
      intro σ v1 v2 ls H locs hJ hl hP hS
      have hJ : J_Model_head_2_b (J_Model_head_2 n) σ v1 v2 = some res := hJ
      unfold J_Model_head_2_b at hJ
      refine lv_iload_n hx hb d_Model_head_2 rfl (lv_at hl 2 rfl) ?_
      refine lv_bipush (v := (64 : Int32)) hx hb d_Model_head_3 (by decide) ?_
      refine lv_icmp_ge (tgt := 46) hx hb d_Model_head_5 (by decide) (fun h1 => ?_) (fun h1 => ?_)
      · have hJ := j_t hJ h1
        have hJ := Option.some.inj hJ
        exact W.vret hx hb hr (fun t ht hW => ⟨⟨(), rfl, trivial, kW_end hP hK ht hW (congrArg (fun z => wR gr cB cI z) hJ)⟩, hS.F ht⟩) hS.2.2 d_Model_head_46
      · have hJ := j_f hJ h1
        refine lv_aload_n hx hb d_Model_head_8 rfl (lv_at hl 0 rfl) ?_
        refine va_get (D := (dC, dI)) (ci := 5) (v := .ref (gr 5)) (C := R_Model) (T := T_Model) (N := 12) hx hb htb uin_Model hown hK hP 0 rfl rfl 11 (by decide) (htb _ tw601) (fun _ h9 => h9) rfl d_Model_head_9 ?_
        refine lv_iload_n hx hb d_Model_head_12 rfl (lv_at hl 2 rfl) ?_
        refine lv_iload_n hx hb d_Model_head_13 rfl (lv_at hl 2 rfl) ?_
        refine lv_if_ne (tgt := 21) hx hb d_Model_head_14 (by decide) (fun h2 => ?_) (fun h2 => ?_)
        · have hJ := j_f hJ h2
          refine lv_iload_n hx hb d_Model_head_21 rfl (lv_at hl 2 rfl) ?_
          refine lv_iload_n hx hb d_Model_head_22 rfl (lv_at hl 1 rfl) ?_
          refine lv_icmp_gt (tgt := 37) hx hb d_Model_head_23 (by decide) (fun h3 => ?_) (fun h3 => ?_)
          · have hJ := j_t hJ h3
            refine lv_iconst (v := (0 : Int32)) hx hb d_Model_head_37 (by decide) ?_
            refine lv_i2b hx hb d_Model_head_38 rfl ?_
            obtain ⟨h4, hJ⟩ := j_g hJ
            refine va_bast hx hb hK hP (hDa _) hS 5 0 rfl rfl (j_in h4) d_Model_head_39 (fun H locs hP _ hS => ?_)
            rw [by_upd] at hP
            have hP : va_P (dC, dI) cls (wR gr cB cI (q_G σ (va_up (r_G σ) v2.toNatClampNeg (0 : Int32).toInt8.toInt32.toInt8))) H := hP
            refine lv_iinc (k := 2) (v := (v2 + (1 : Int32))) hx hb d_Model_head_40 hl rfl rfl (Nat.le_of_ble_eq_true rfl) rfl (fun ls hl => ?_)
            have hl : lv_has ls 3 [(2, .int (v2 + (1 : Int32))), (0, .ref (gr 0)), (1, .int v1)] := hl
            refine lv_goto (tgt := 2) hx hb d_Model_head_43 (by decide) ?_
            exact hk _ _ _ _ _ _ hJ (lv_sub hl [1, 2, 0] rfl) hP hS
          · have hJ := j_f hJ h3
            refine lv_aload_n hx hb d_Model_head_26 rfl (lv_at hl 0 rfl) ?_
            refine va_get (D := (dC, dI)) (ci := 5) (v := .ref (gr 3)) (C := R_Model) (T := T_Model) (N := 12) hx hb htb uin_Model hown hK hP 0 rfl rfl 3 (by decide) (htb _ tw593) (fun _ h9 => h9) rfl d_Model_head_27 ?_
            refine lv_iload_n hx hb d_Model_head_30 rfl (lv_at hl 2 rfl) ?_
            refine lv_iconst (v := (1 : Int32)) hx hb d_Model_head_31 (by decide) ?_
            refine lv_isub hx hb d_Model_head_32 ?_
            obtain ⟨h5, hJ⟩ := j_g hJ
            refine va_iald hx hb hK hP 3 1 rfl rfl (j_in h5) d_Model_head_33 ?_
            refine lv_goto (tgt := 38) hx hb d_Model_head_34 (by decide) ?_
            refine lv_i2b hx hb d_Model_head_38 rfl ?_
            obtain ⟨h6, hJ⟩ := j_g hJ
            refine va_bast hx hb hK hP (hDa _) hS 5 0 rfl rfl (j_in h6) d_Model_head_39 (fun H locs hP _ hS => ?_)
            rw [by_upd] at hP
            have hP : va_P (dC, dI) cls (wR gr cB cI (q_G σ (va_up (r_G σ) v2.toNatClampNeg ((r_P σ) (v2 - (1 : Int32)).toNatClampNeg).toInt8.toInt32.toInt8))) H := hP
            refine lv_iinc (k := 2) (v := (v2 + (1 : Int32))) hx hb d_Model_head_40 hl rfl rfl (Nat.le_of_ble_eq_true rfl) rfl (fun ls hl => ?_)
            have hl : lv_has ls 3 [(2, .int (v2 + (1 : Int32))), (0, .ref (gr 0)), (1, .int v1)] := hl
            refine lv_goto (tgt := 2) hx hb d_Model_head_43 (by decide) ?_
            exact hk _ _ _ _ _ _ hJ (lv_sub hl [1, 2, 0] rfl) hP hS
        · have hJ := j_t hJ h2
          refine lv_iload_n hx hb d_Model_head_17 rfl (lv_at hl 1 rfl) ?_
          refine lv_goto (tgt := 38) hx hb d_Model_head_18 (by decide) ?_
          refine lv_i2b hx hb d_Model_head_38 rfl ?_
          obtain ⟨h7, hJ⟩ := j_g hJ
          refine va_bast hx hb hK hP (hDa _) hS 5 0 rfl rfl (j_in h7) d_Model_head_39 (fun H locs hP _ hS => ?_)
          rw [by_upd] at hP
          have hP : va_P (dC, dI) cls (wR gr cB cI (q_G σ (va_up (r_G σ) v2.toNatClampNeg v1.toInt8.toInt32.toInt8))) H := hP
          refine lv_iinc (k := 2) (v := (v2 + (1 : Int32))) hx hb d_Model_head_40 hl rfl rfl (Nat.le_of_ble_eq_true rfl) rfl (fun ls hl => ?_)
          have hl : lv_has ls 3 [(2, .int (v2 + (1 : Int32))), (0, .ref (gr 0)), (1, .int v1)] := hl
          refine lv_goto (tgt := 2) hx hb d_Model_head_43 (by decide) ?_
          exact hk _ _ _ _ _ _ hJ (lv_sub hl [1, 2, 0] rfl) hP hS
  unfold J_Model_head at hJ
  refine lv_iconst (v := (0 : Int32)) hx hb d_Model_head_0 (by decide) ?_
  refine lv_istore_n hx hb d_Model_head_1 rfl hl (Nat.le_of_ble_eq_true rfl) rfl (fun ls hl => ?_)
  have hl : lv_has ls 3 [(2, .int (0 : Int32)), (0, .ref (gr 0)), (1, .int a1)] := hl
  exact blk2 9000 _ _ _ _ _ _ hJ (lv_sub hl [1, 2, 0] rfl) hP hS
def J_Model_commit_140 (σ : RS)  : Option (Int32 × RS) :=
  (if (r_f (q_n σ (0 : Int32))) = (0 : Int32) then some ((1 : Int32), (q_n σ (0 : Int32))) else some ((0 : Int32), (q_n σ (0 : Int32))))
def J_Model_commit_123 (σ : RS)  : Option (Int32 × RS) :=
  (if (r_f σ) = (0 : Int32) then (J_Model_head σ (0 : Int32)).bind fun x7 => (J_Model_put x7 (1 : Int32)).bind fun x8 => J_Model_commit_140 x8 else J_Model_commit_140 σ)
def J_Model_commit_85_b (k : RS → Int32 → Int32 → Option (Int32 × RS)) (σ : RS) (v1 : Int32) (v2 : Int32) : Option (Int32 × RS) :=
  (if v1 ≤ v2 then J_Model_commit_123 σ else (if (r_f σ) = (0 : Int32) then (if jin v2 128 = true then (J_Model_fetch σ ((r_P σ) v2.toNatClampNeg)).bind fun x11 => (if jin v2 128 = true then (J_Model_put x11 ((r_P x11) v2.toNatClampNeg)).bind fun x13 => k x13 v1 (v2 + (1 : Int32)) else none) else none) else J_Model_commit_123 σ))
def J_Model_commit_85 : Nat → RS → Int32 → Int32 → Option (Int32 × RS)
  | 0, _, _, _ => none
  | n + 1, σ, v1, v2 => J_Model_commit_85_b (J_Model_commit_85 n) σ v1 v2
def J_Model_commit_66 (σ : RS) (v1 : Int32) : Option (Int32 × RS) :=
  (if (r_f σ) = (0 : Int32) then (J_Model_head σ v1).bind fun x14 => (J_Model_put x14 (1 : Int32)).bind fun x15 => J_Model_commit_85 9000 x15 v1 (0 : Int32) else J_Model_commit_85 9000 σ v1 (0 : Int32))
def J_Model_commit_31_b (k : RS → Int32 → Int32 → Option (Int32 × RS)) (σ : RS) (v1 : Int32) (v2 : Int32) : Option (Int32 × RS) :=
  (if v1 ≤ v2 then J_Model_commit_66 σ v1 else (if (r_f σ) = (0 : Int32) then (if jin v2 128 = true then (J_Model_fetch σ ((r_P σ) v2.toNatClampNeg)).bind fun x18 => (J_Model_put x18 ((2 : Int32) + v2)).bind fun x19 => k x19 v1 (v2 + (1 : Int32)) else none) else J_Model_commit_66 σ v1))
def J_Model_commit_31 : Nat → RS → Int32 → Int32 → Option (Int32 × RS)
  | 0, _, _, _ => none
  | n + 1, σ, v1, v2 => J_Model_commit_31_b (J_Model_commit_31 n) σ v1 v2
def J_Model_commit (σ : RS)  : Option (Int32 × RS) :=
  (if (r_n σ) = (0 : Int32) then some ((1 : Int32), σ) else J_Model_commit_31 9000 (q_f (q_c σ ((r_c σ) + (1 : Int32))) (0 : Int32)) (r_n σ) (0 : Int32))
abbrev rm_Model_commit : Room := { frames := 1, cells := 0, slots := 0, locals := 22 }
set_option maxHeartbeats 4000000 in
set_option maxRecDepth 100000 in
theorem c_Model_commit {l : Launch} {dC : Nat → ClassId} {dI : Nat → Nat → Nat} {gr : Nat → Nat} {cB cI : ClassId} {A : Nat → Prop} (hDa : ∀ σ, va_D A (wR gr cB cI σ)) {σ : RS} {res : Int32 × RS} (hJ : J_Model_commit σ = some res) :
    Met l y_Model_commit (mw y_Model_commit b_Model_commit 3 (some .boolean)) rm_Model_commit (va_Pc [.ref (gr 0)] (kW (dC, dI) (tC cB cI) (wR gr cB cI σ))) (va_Qi (fun (x : Int32) (_ : Unit) => x = res.1) (fun _ t => kW (dC, dI) (tC cB cI) (wR gr cB cI res.2) t) A) 0 0 A := by
  refine Met.ofW (cc := b_Model_commit) (maxL := 3) (ret := (some .boolean)) (by decide) rfl ?_
  intro p e s m args below meth c s₁ B hml hv
  obtain ⟨rfl, hP, hK⟩ := hv
  have hx := B.exec
  have hb := B.bytes
  have hr := B.returns
  have hts := atoms_spec (ws := (mw y_Model_commit b_Model_commit 3 (some .boolean))) B.pre
  have htb : ∀ w ∈ tb, w.before [.ref (gr 0)].toArray s = true := fun w h => hts w (mwIn h)
  have hown : s.vm.findClass "LogFsModel" = some m.cls := findClass_of_methodNamed B.named
  have hlocks := B.notSynchronized
  have hS : va_S A s.heap s.heap [] := va_S.rf
  have hl := lv_entry ([.ref (gr 0)]) (n := 3) (Nat.le_of_ble_eq_true rfl)
  rw [lg_entry_eq]
  generalize (lg_sl ([.ref (gr 0)]) ++ List.replicate (3 - (lg_sl ([.ref (gr 0)])).length) Slot.unset).toArray = ls at hl ⊢
  have hl : lv_has ls 3 [(0, .ref (gr 0))] := hl
  have blk140 : ∀ (σ : RS) (ls : Array Slot) (H : Heap) (locs : List Loc), J_Model_commit_140 σ = some res → lv_has ls 3 [(0, .ref (gr 0))] → va_P (dC, dI) cls (wR gr cB cI σ) H → va_S A s.heap H locs → W p l e (headSpec (mw y_Model_commit b_Model_commit 3 (some .boolean)) rm_Model_commit).room s m [.ref (gr 0)].toArray below meth c H locs 0 0 (MQ below (va_Qi (fun (x : Int32) (_ : Unit) => x = res.1) (fun _ t => kW (dC, dI) (tC cB cI) (wR gr cB cI res.2) t) A) [.ref (gr 0)].toArray s 0 0 A) (F0 m 140 ls []) := by
    intro σ ls H locs hJ hl hP hS
    unfold J_Model_commit_140 at hJ
    refine lv_aload_n hx hb d_Model_commit_140 rfl (lv_at hl 0 rfl) ?_
    refine lv_iconst (v := (0 : Int32)) hx hb d_Model_commit_141 (by decide) ?_
    refine va_put (D := (dC, dI)) (ci := 5) (v := .int (0 : Int32)) (ty := .int) (C := R_Model) (T := T_Model) (N := 12) hx hb htb uin_Model t_Model t_Model_ok n_Model hown hK hP (hDa _) hS 0 rfl rfl 4 (by decide) (htb _ tw594) (fun _ h9 => h9) rfl (by decide +kernel) rfl rfl (Nat.le_of_ble_eq_true rfl) d_Model_commit_142 (fun H locs hP _ hS => ?_)
    have hP : va_P (dC, dI) cls (wR gr cB cI (q_n σ (0 : Int32))) H := hP
    refine lv_aload_n hx hb d_Model_commit_145 rfl (lv_at hl 0 rfl) ?_
    refine va_get (D := (dC, dI)) (ci := 5) (v := .int (r_f (q_n σ (0 : Int32)))) (C := R_Model) (T := T_Model) (N := 12) hx hb htb uin_Model hown hK hP 0 rfl rfl 9 (by decide) (htb _ tw599) (fun _ h9 => h9) rfl d_Model_commit_146 ?_
    refine lv_if_ne (tgt := 156) hx hb d_Model_commit_149 (by decide) (fun h6 => ?_) (fun h6 => ?_)
    · have hJ := j_f hJ h6
      refine lv_iconst (v := (0 : Int32)) hx hb d_Model_commit_156 (by decide) ?_
      have hJ := Option.some.inj hJ
      exact W.zret (v := (0 : Int32)) (ty := .boolean) hx hb hr (by decide +kernel) (fun t ht hW => ⟨⟨_, (), rfl, (j_p1 hJ), kW_end hP hK ht hW (congrArg (fun z => wR gr cB cI z) (j_p2 hJ))⟩, hS.F ht⟩) hS.2.2 d_Model_commit_157
    · have hJ := j_t hJ h6
      refine lv_iconst (v := (1 : Int32)) hx hb d_Model_commit_152 (by decide) ?_
      refine lv_goto (tgt := 157) hx hb d_Model_commit_153 (by decide) ?_
      have hJ := Option.some.inj hJ
      exact W.zret (v := (1 : Int32)) (ty := .boolean) hx hb hr (by decide +kernel) (fun t ht hW => ⟨⟨_, (), rfl, (j_p1 hJ), kW_end hP hK ht hW (congrArg (fun z => wR gr cB cI z) (j_p2 hJ))⟩, hS.F ht⟩) hS.2.2 d_Model_commit_157
  have blk123 : ∀ (σ : RS) (ls : Array Slot) (H : Heap) (locs : List Loc), J_Model_commit_123 σ = some res → lv_has ls 3 [(0, .ref (gr 0))] → va_P (dC, dI) cls (wR gr cB cI σ) H → va_S A s.heap H locs → W p l e (headSpec (mw y_Model_commit b_Model_commit 3 (some .boolean)) rm_Model_commit).room s m [.ref (gr 0)].toArray below meth c H locs 0 0 (MQ below (va_Qi (fun (x : Int32) (_ : Unit) => x = res.1) (fun _ t => kW (dC, dI) (tC cB cI) (wR gr cB cI res.2) t) A) [.ref (gr 0)].toArray s 0 0 A) (F0 m 123 ls []) := by
    intro σ ls H locs hJ hl hP hS
    unfold J_Model_commit_123 at hJ
    refine lv_aload_n hx hb d_Model_commit_123 rfl (lv_at hl 0 rfl) ?_
    refine va_get (D := (dC, dI)) (ci := 5) (v := .int (r_f σ)) (C := R_Model) (T := T_Model) (N := 12) hx hb htb uin_Model hown hK hP 0 rfl rfl 9 (by decide) (htb _ tw599) (fun _ h9 => h9) rfl d_Model_commit_124 ?_
    refine lv_if_ne (tgt := 140) hx hb d_Model_commit_127 (by decide) (fun h5 => ?_) (fun h5 => ?_)
    · have hJ := j_f hJ h5
      exact blk140 _ _ _ _ hJ (lv_sub hl [0] rfl) hP hS
    · have hJ := j_t hJ h5
      refine lv_aload_n hx hb d_Model_commit_130 rfl (lv_at hl 0 rfl) ?_
      refine lv_iconst (v := (0 : Int32)) hx hb d_Model_commit_131 (by decide) ?_
      obtain ⟨x7, e7, hJ⟩ := j_bind hJ
      refine va_callv (va_runV (As := [.int (0 : Int32)]) (rest := []) ⟨hx, hb, hml, hown, htb⟩ (c_Model_head (l := l) (dC := dC) (dI := dI) hDa e7) (xcV 1 htb tw654 tw7 tw651 tw653 ts_Model_head rfl rfl hd_Model_head ⟨Nat.le_of_ble_eq_true rfl, Nat.le_of_ble_eq_true rfl⟩) (kW_V hP hK (va_recv (q0 := 0) (ci := 5) hK hP rfl rfl)) rfl rfl hl.1 rfl (lv_room (Nat.le_of_ble_eq_true rfl)) d_Model_commit_132 ⟨Nat.le_of_ble_eq_true rfl, Nat.le_of_ble_eq_true rfl⟩) hS (fun q _ h => h) (fun q h => h) (fun u t H locs ht hvm hw hB _ _ hS => ?_)
      have hP := kW_P hB ht
      refine lv_aload_n hx hb d_Model_commit_135 rfl (lv_at hl 0 rfl) ?_
      refine lv_iconst (v := (1 : Int32)) hx hb d_Model_commit_136 (by decide) ?_
      obtain ⟨x8, e8, hJ⟩ := j_bind hJ
      refine va_callv (va_runV (As := [.int (1 : Int32)]) (rest := []) ⟨hx, hb, hml, hown, htb⟩ (c_Model_put (l := l) (dC := dC) (dI := dI) hDa e8) (xcV 1 htb tw650 tw7 tw647 tw649 ts_Model_put rfl rfl hd_Model_put ⟨Nat.le_of_ble_eq_true rfl, Nat.le_of_ble_eq_true rfl⟩) (kW_V hP hK (va_recv (q0 := 0) (ci := 5) hK hP rfl rfl)) rfl rfl hl.1 rfl (lv_room (Nat.le_of_ble_eq_true rfl)) d_Model_commit_137 ⟨Nat.le_of_ble_eq_true rfl, Nat.le_of_ble_eq_true rfl⟩) hS (fun q _ h => h) (fun q h => h) (fun u t H locs ht hvm hw hB _ _ hS => ?_)
      have hP := kW_P hB ht
      exact blk140 _ _ _ _ hJ (lv_sub hl [0] rfl) hP hS
  have blk85 : ∀ (n : Nat) (σ : RS) (v1 : Int32) (v2 : Int32) (ls : Array Slot) (H : Heap) (locs : List Loc), J_Model_commit_85 n σ v1 v2 = some res → lv_has ls 3 [(0, .ref (gr 0)), (1, .int v1), (2, .int v2)] → va_P (dC, dI) cls (wR gr cB cI σ) H → va_S A s.heap H locs → W p l e (headSpec (mw y_Model_commit b_Model_commit 3 (some .boolean)) rm_Model_commit).room s m [.ref (gr 0)].toArray below meth c H locs 0 0 (MQ below (va_Qi (fun (x : Int32) (_ : Unit) => x = res.1) (fun _ t => kW (dC, dI) (tC cB cI) (wR gr cB cI res.2) t) A) [.ref (gr 0)].toArray s 0 0 A) (F0 m 85 ls []) := by
    intro n
    induction n with
    | zero => intro σ v1 v2 ls H locs hJ; exact j_none hJ
    | succ n hk =>
      intro σ v1 v2 ls H locs hJ hl hP hS
      have hJ : J_Model_commit_85_b (J_Model_commit_85 n) σ v1 v2 = some res := hJ
      unfold J_Model_commit_85_b at hJ
      refine lv_iload_n hx hb d_Model_commit_85 rfl (lv_at hl 2 rfl) ?_
      refine lv_iload_n hx hb d_Model_commit_86 rfl (lv_at hl 1 rfl) ?_
      refine lv_icmp_ge (tgt := 123) hx hb d_Model_commit_87 (by decide) (fun h4 => ?_) (fun h4 => ?_)
      · have hJ := j_t hJ h4
        exact blk123 _ _ _ _ hJ (lv_sub hl [0] rfl) hP hS
      · have hJ := j_f hJ h4
        refine lv_aload_n hx hb d_Model_commit_90 rfl (lv_at hl 0 rfl) ?_
        refine va_get (D := (dC, dI)) (ci := 5) (v := .int (r_f σ)) (C := R_Model) (T := T_Model) (N := 12) hx hb htb uin_Model hown hK hP 0 rfl rfl 9 (by decide) (htb _ tw599) (fun _ h9 => h9) rfl d_Model_commit_91 ?_
        refine lv_if_ne (tgt := 123) hx hb d_Model_commit_94 (by decide) (fun h9 => ?_) (fun h9 => ?_)
        · have hJ := j_f hJ h9
          exact blk123 _ _ _ _ hJ (lv_sub hl [0] rfl) hP hS
        · have hJ := j_t hJ h9
          refine lv_aload_n hx hb d_Model_commit_97 rfl (lv_at hl 0 rfl) ?_
          refine lv_aload_n hx hb d_Model_commit_98 rfl (lv_at hl 0 rfl) ?_
          refine va_get (D := (dC, dI)) (ci := 5) (v := .ref (gr 3)) (C := R_Model) (T := T_Model) (N := 12) hx hb htb uin_Model hown hK hP 0 rfl rfl 3 (by decide) (htb _ tw593) (fun _ h9 => h9) rfl d_Model_commit_99 ?_
          refine lv_iload_n hx hb d_Model_commit_102 rfl (lv_at hl 2 rfl) ?_
          obtain ⟨h10, hJ⟩ := j_g hJ
          refine va_iald hx hb hK hP 3 1 rfl rfl (j_in h10) d_Model_commit_103 ?_
          obtain ⟨x11, e11, hJ⟩ := j_bind hJ
          refine va_callv (va_runV (As := [.int ((r_P σ) v2.toNatClampNeg)]) (rest := []) ⟨hx, hb, hml, hown, htb⟩ (c_Model_fetch (l := l) (dC := dC) (dI := dI) hDa e11) (xcV 1 htb tw646 tw7 tw643 tw645 ts_Model_fetch rfl rfl hd_Model_fetch ⟨Nat.le_of_ble_eq_true rfl, Nat.le_of_ble_eq_true rfl⟩) (kW_V hP hK (va_recv (q0 := 0) (ci := 5) hK hP rfl rfl)) rfl rfl hl.1 rfl (lv_room (Nat.le_of_ble_eq_true rfl)) d_Model_commit_104 ⟨Nat.le_of_ble_eq_true rfl, Nat.le_of_ble_eq_true rfl⟩) hS (fun q _ h => h) (fun q h => h) (fun u t H locs ht hvm hw hB _ _ hS => ?_)
          have hP := kW_P hB ht
          refine lv_aload_n hx hb d_Model_commit_107 rfl (lv_at hl 0 rfl) ?_
          refine lv_aload_n hx hb d_Model_commit_108 rfl (lv_at hl 0 rfl) ?_
          refine va_get (D := (dC, dI)) (ci := 5) (v := .ref (gr 3)) (C := R_Model) (T := T_Model) (N := 12) hx hb htb uin_Model hown hK hP 0 rfl rfl 3 (by decide) (htb _ tw593) (fun _ h9 => h9) rfl d_Model_commit_109 ?_
          refine lv_iload_n hx hb d_Model_commit_112 rfl (lv_at hl 2 rfl) ?_
          obtain ⟨h12, hJ⟩ := j_g hJ
          refine va_iald hx hb hK hP 3 1 rfl rfl (j_in h12) d_Model_commit_113 ?_
          obtain ⟨x13, e13, hJ⟩ := j_bind hJ
          refine va_callv (va_runV (As := [.int ((r_P x11) v2.toNatClampNeg)]) (rest := []) ⟨hx, hb, hml, hown, htb⟩ (c_Model_put (l := l) (dC := dC) (dI := dI) hDa e13) (xcV 1 htb tw650 tw7 tw647 tw649 ts_Model_put rfl rfl hd_Model_put ⟨Nat.le_of_ble_eq_true rfl, Nat.le_of_ble_eq_true rfl⟩) (kW_V hP hK (va_recv (q0 := 0) (ci := 5) hK hP rfl rfl)) rfl rfl hl.1 rfl (lv_room (Nat.le_of_ble_eq_true rfl)) d_Model_commit_114 ⟨Nat.le_of_ble_eq_true rfl, Nat.le_of_ble_eq_true rfl⟩) hS (fun q _ h => h) (fun q h => h) (fun u t H locs ht hvm hw hB _ _ hS => ?_)
          have hP := kW_P hB ht
          refine lv_iinc (k := 2) (v := (v2 + (1 : Int32))) hx hb d_Model_commit_117 hl rfl rfl (Nat.le_of_ble_eq_true rfl) rfl (fun ls hl => ?_)
          have hl : lv_has ls 3 [(2, .int (v2 + (1 : Int32))), (0, .ref (gr 0)), (1, .int v1)] := hl
          refine lv_goto (tgt := 85) hx hb d_Model_commit_120 (by decide) ?_
          exact hk _ _ _ _ _ _ hJ (lv_sub hl [1, 2, 0] rfl) hP hS
  have blk66 : ∀ (σ : RS) (v1 : Int32) (ls : Array Slot) (H : Heap) (locs : List Loc), J_Model_commit_66 σ v1 = some res → lv_has ls 3 [(0, .ref (gr 0)), (1, .int v1)] → va_P (dC, dI) cls (wR gr cB cI σ) H → va_S A s.heap H locs → W p l e (headSpec (mw y_Model_commit b_Model_commit 3 (some .boolean)) rm_Model_commit).room s m [.ref (gr 0)].toArray below meth c H locs 0 0 (MQ below (va_Qi (fun (x : Int32) (_ : Unit) => x = res.1) (fun _ t => kW (dC, dI) (tC cB cI) (wR gr cB cI res.2) t) A) [.ref (gr 0)].toArray s 0 0 A) (F0 m 66 ls []) := by
    intro σ v1 ls H locs hJ hl hP hS
    unfold J_Model_commit_66 at hJ
    refine lv_aload_n hx hb d_Model_commit_66 rfl (lv_at hl 0 rfl) ?_
    refine va_get (D := (dC, dI)) (ci := 5) (v := .int (r_f σ)) (C := R_Model) (T := T_Model) (N := 12) hx hb htb uin_Model hown hK hP 0 rfl rfl 9 (by decide) (htb _ tw599) (fun _ h9 => h9) rfl d_Model_commit_67 ?_
    refine lv_if_ne (tgt := 83) hx hb d_Model_commit_70 (by decide) (fun h3 => ?_) (fun h3 => ?_)
    · have hJ := j_f hJ h3
      refine lv_iconst (v := (0 : Int32)) hx hb d_Model_commit_83 (by decide) ?_
      refine lv_istore_n hx hb d_Model_commit_84 rfl hl (Nat.le_of_ble_eq_true rfl) rfl (fun ls hl => ?_)
      have hl : lv_has ls 3 [(2, .int (0 : Int32)), (0, .ref (gr 0)), (1, .int v1)] := hl
      exact blk85 9000 _ _ _ _ _ _ hJ (lv_sub hl [1, 2, 0] rfl) hP hS
    · have hJ := j_t hJ h3
      refine lv_aload_n hx hb d_Model_commit_73 rfl (lv_at hl 0 rfl) ?_
      refine lv_iload_n hx hb d_Model_commit_74 rfl (lv_at hl 1 rfl) ?_
      obtain ⟨x14, e14, hJ⟩ := j_bind hJ
      refine va_callv (va_runV (As := [.int v1]) (rest := []) ⟨hx, hb, hml, hown, htb⟩ (c_Model_head (l := l) (dC := dC) (dI := dI) hDa e14) (xcV 1 htb tw654 tw7 tw651 tw653 ts_Model_head rfl rfl hd_Model_head ⟨Nat.le_of_ble_eq_true rfl, Nat.le_of_ble_eq_true rfl⟩) (kW_V hP hK (va_recv (q0 := 0) (ci := 5) hK hP rfl rfl)) rfl rfl hl.1 rfl (lv_room (Nat.le_of_ble_eq_true rfl)) d_Model_commit_75 ⟨Nat.le_of_ble_eq_true rfl, Nat.le_of_ble_eq_true rfl⟩) hS (fun q _ h => h) (fun q h => h) (fun u t H locs ht hvm hw hB _ _ hS => ?_)
      have hP := kW_P hB ht
      refine lv_aload_n hx hb d_Model_commit_78 rfl (lv_at hl 0 rfl) ?_
      refine lv_iconst (v := (1 : Int32)) hx hb d_Model_commit_79 (by decide) ?_
      obtain ⟨x15, e15, hJ⟩ := j_bind hJ
      refine va_callv (va_runV (As := [.int (1 : Int32)]) (rest := []) ⟨hx, hb, hml, hown, htb⟩ (c_Model_put (l := l) (dC := dC) (dI := dI) hDa e15) (xcV 1 htb tw650 tw7 tw647 tw649 ts_Model_put rfl rfl hd_Model_put ⟨Nat.le_of_ble_eq_true rfl, Nat.le_of_ble_eq_true rfl⟩) (kW_V hP hK (va_recv (q0 := 0) (ci := 5) hK hP rfl rfl)) rfl rfl hl.1 rfl (lv_room (Nat.le_of_ble_eq_true rfl)) d_Model_commit_80 ⟨Nat.le_of_ble_eq_true rfl, Nat.le_of_ble_eq_true rfl⟩) hS (fun q _ h => h) (fun q h => h) (fun u t H locs ht hvm hw hB _ _ hS => ?_)
      have hP := kW_P hB ht
      refine lv_iconst (v := (0 : Int32)) hx hb d_Model_commit_83 (by decide) ?_
      refine lv_istore_n hx hb d_Model_commit_84 rfl hl (Nat.le_of_ble_eq_true rfl) rfl (fun ls hl => ?_)
      have hl : lv_has ls 3 [(2, .int (0 : Int32)), (0, .ref (gr 0)), (1, .int v1)] := hl
      exact blk85 9000 _ _ _ _ _ _ hJ (lv_sub hl [1, 2, 0] rfl) hP hS
  have blk31 : ∀ (n : Nat) (σ : RS) (v1 : Int32) (v2 : Int32) (ls : Array Slot) (H : Heap) (locs : List Loc), J_Model_commit_31 n σ v1 v2 = some res → lv_has ls 3 [(0, .ref (gr 0)), (1, .int v1), (2, .int v2)] → va_P (dC, dI) cls (wR gr cB cI σ) H → va_S A s.heap H locs → W p l e (headSpec (mw y_Model_commit b_Model_commit 3 (some .boolean)) rm_Model_commit).room s m [.ref (gr 0)].toArray below meth c H locs 0 0 (MQ below (va_Qi (fun (x : Int32) (_ : Unit) => x = res.1) (fun _ t => kW (dC, dI) (tC cB cI) (wR gr cB cI res.2) t) A) [.ref (gr 0)].toArray s 0 0 A) (F0 m 31 ls []) := by
    intro n
    induction n with
    | zero => intro σ v1 v2 ls H locs hJ; exact j_none hJ
    | succ n hk =>
      intro σ v1 v2 ls H locs hJ hl hP hS
      have hJ : J_Model_commit_31_b (J_Model_commit_31 n) σ v1 v2 = some res := hJ
      unfold J_Model_commit_31_b at hJ
      refine lv_iload_n hx hb d_Model_commit_31 rfl (lv_at hl 2 rfl) ?_
      refine lv_iload_n hx hb d_Model_commit_32 rfl (lv_at hl 1 rfl) ?_
      refine lv_icmp_ge (tgt := 66) hx hb d_Model_commit_33 (by decide) (fun h2 => ?_) (fun h2 => ?_)
      · have hJ := j_t hJ h2
        exact blk66 _ _ _ _ _ hJ (lv_sub hl [0, 1] rfl) hP hS
      · have hJ := j_f hJ h2
        refine lv_aload_n hx hb d_Model_commit_36 rfl (lv_at hl 0 rfl) ?_
        refine va_get (D := (dC, dI)) (ci := 5) (v := .int (r_f σ)) (C := R_Model) (T := T_Model) (N := 12) hx hb htb uin_Model hown hK hP 0 rfl rfl 9 (by decide) (htb _ tw599) (fun _ h9 => h9) rfl d_Model_commit_37 ?_
        refine lv_if_ne (tgt := 66) hx hb d_Model_commit_40 (by decide) (fun h16 => ?_) (fun h16 => ?_)
        · have hJ := j_f hJ h16
          exact blk66 _ _ _ _ _ hJ (lv_sub hl [0, 1] rfl) hP hS
        · have hJ := j_t hJ h16
          refine lv_aload_n hx hb d_Model_commit_43 rfl (lv_at hl 0 rfl) ?_
          refine lv_aload_n hx hb d_Model_commit_44 rfl (lv_at hl 0 rfl) ?_
          refine va_get (D := (dC, dI)) (ci := 5) (v := .ref (gr 3)) (C := R_Model) (T := T_Model) (N := 12) hx hb htb uin_Model hown hK hP 0 rfl rfl 3 (by decide) (htb _ tw593) (fun _ h9 => h9) rfl d_Model_commit_45 ?_
          refine lv_iload_n hx hb d_Model_commit_48 rfl (lv_at hl 2 rfl) ?_
          obtain ⟨h17, hJ⟩ := j_g hJ
          refine va_iald hx hb hK hP 3 1 rfl rfl (j_in h17) d_Model_commit_49 ?_
          obtain ⟨x18, e18, hJ⟩ := j_bind hJ
          refine va_callv (va_runV (As := [.int ((r_P σ) v2.toNatClampNeg)]) (rest := []) ⟨hx, hb, hml, hown, htb⟩ (c_Model_fetch (l := l) (dC := dC) (dI := dI) hDa e18) (xcV 1 htb tw646 tw7 tw643 tw645 ts_Model_fetch rfl rfl hd_Model_fetch ⟨Nat.le_of_ble_eq_true rfl, Nat.le_of_ble_eq_true rfl⟩) (kW_V hP hK (va_recv (q0 := 0) (ci := 5) hK hP rfl rfl)) rfl rfl hl.1 rfl (lv_room (Nat.le_of_ble_eq_true rfl)) d_Model_commit_50 ⟨Nat.le_of_ble_eq_true rfl, Nat.le_of_ble_eq_true rfl⟩) hS (fun q _ h => h) (fun q h => h) (fun u t H locs ht hvm hw hB _ _ hS => ?_)
          have hP := kW_P hB ht
          refine lv_aload_n hx hb d_Model_commit_53 rfl (lv_at hl 0 rfl) ?_
          refine lv_iconst (v := (2 : Int32)) hx hb d_Model_commit_54 (by decide) ?_
          refine lv_iload_n hx hb d_Model_commit_55 rfl (lv_at hl 2 rfl) ?_
          refine lv_iadd hx hb d_Model_commit_56 ?_
          obtain ⟨x19, e19, hJ⟩ := j_bind hJ
          refine va_callv (va_runV (As := [.int ((2 : Int32) + v2)]) (rest := []) ⟨hx, hb, hml, hown, htb⟩ (c_Model_put (l := l) (dC := dC) (dI := dI) hDa e19) (xcV 1 htb tw650 tw7 tw647 tw649 ts_Model_put rfl rfl hd_Model_put ⟨Nat.le_of_ble_eq_true rfl, Nat.le_of_ble_eq_true rfl⟩) (kW_V hP hK (va_recv (q0 := 0) (ci := 5) hK hP rfl rfl)) rfl rfl hl.1 rfl (lv_room (Nat.le_of_ble_eq_true rfl)) d_Model_commit_57 ⟨Nat.le_of_ble_eq_true rfl, Nat.le_of_ble_eq_true rfl⟩) hS (fun q _ h => h) (fun q h => h) (fun u t H locs ht hvm hw hB _ _ hS => ?_)
          have hP := kW_P hB ht
          refine lv_iinc (k := 2) (v := (v2 + (1 : Int32))) hx hb d_Model_commit_60 hl rfl rfl (Nat.le_of_ble_eq_true rfl) rfl (fun ls hl => ?_)
          have hl : lv_has ls 3 [(2, .int (v2 + (1 : Int32))), (0, .ref (gr 0)), (1, .int v1)] := hl
          refine lv_goto (tgt := 31) hx hb d_Model_commit_63 (by decide) ?_
          exact hk _ _ _ _ _ _ hJ (lv_sub hl [1, 2, 0] rfl) hP hS
  unfold J_Model_commit at hJ
  refine lv_aload_n hx hb d_Model_commit_0 rfl (lv_at hl 0 rfl) ?_
  refine va_get (D := (dC, dI)) (ci := 5) (v := .int (r_n σ)) (C := R_Model) (T := T_Model) (N := 12) hx hb htb uin_Model hown hK hP 0 rfl rfl 4 (by decide) (htb _ tw594) (fun _ h9 => h9) rfl d_Model_commit_1 ?_
  refine lv_if_ne (tgt := 9) hx hb d_Model_commit_4 (by decide) (fun h1 => ?_) (fun h1 => ?_)
  · have hJ := j_f hJ h1
    refine lv_aload_n hx hb d_Model_commit_9 rfl (lv_at hl 0 rfl) ?_
    refine va_get (D := (dC, dI)) (ci := 5) (v := .int (r_n σ)) (C := R_Model) (T := T_Model) (N := 12) hx hb htb uin_Model hown hK hP 0 rfl rfl 4 (by decide) (htb _ tw594) (fun _ h9 => h9) rfl d_Model_commit_10 ?_
    refine lv_istore_n hx hb d_Model_commit_13 rfl hl (Nat.le_of_ble_eq_true rfl) rfl (fun ls hl => ?_)
    have hl : lv_has ls 3 [(1, .int (r_n σ)), (0, .ref (gr 0))] := hl
    refine lv_aload_n hx hb d_Model_commit_14 rfl (lv_at hl 1 rfl) ?_
    refine lv_dup hx hb d_Model_commit_15 rfl ?_
    refine va_get (D := (dC, dI)) (ci := 5) (v := .int (r_c σ)) (C := R_Model) (T := T_Model) (N := 12) hx hb htb uin_Model hown hK hP 0 rfl rfl 6 (by decide) (htb _ tw596) (fun _ h9 => h9) rfl d_Model_commit_16 ?_
    refine lv_iconst (v := (1 : Int32)) hx hb d_Model_commit_19 (by decide) ?_
    refine lv_iadd hx hb d_Model_commit_20 ?_
    refine va_put (D := (dC, dI)) (ci := 5) (v := .int ((r_c σ) + (1 : Int32))) (ty := .int) (C := R_Model) (T := T_Model) (N := 12) hx hb htb uin_Model t_Model t_Model_ok n_Model hown hK hP (hDa _) hS 0 rfl rfl 6 (by decide) (htb _ tw596) (fun _ h9 => h9) rfl (by decide +kernel) rfl rfl (Nat.le_of_ble_eq_true rfl) d_Model_commit_21 (fun H locs hP _ hS => ?_)
    have hP : va_P (dC, dI) cls (wR gr cB cI (q_c σ ((r_c σ) + (1 : Int32)))) H := hP
    refine lv_aload_n hx hb d_Model_commit_24 rfl (lv_at hl 1 rfl) ?_
    refine lv_iconst (v := (0 : Int32)) hx hb d_Model_commit_25 (by decide) ?_
    refine va_put (D := (dC, dI)) (ci := 5) (v := .int (0 : Int32)) (ty := .boolean) (C := R_Model) (T := T_Model) (N := 12) hx hb htb uin_Model t_Model t_Model_ok n_Model hown hK hP (hDa _) hS 0 rfl rfl 9 (by decide) (htb _ tw599) (fun _ h9 => h9) rfl (by decide +kernel) (by decide +kernel) (by decide +kernel) (Nat.le_of_ble_eq_true rfl) d_Model_commit_26 (fun H locs hP _ hS => ?_)
    have hP : va_P (dC, dI) cls (wR gr cB cI (q_f (q_c σ ((r_c σ) + (1 : Int32))) (0 : Int32))) H := hP
    refine lv_iconst (v := (0 : Int32)) hx hb d_Model_commit_29 (by decide) ?_
    refine lv_istore_n hx hb d_Model_commit_30 rfl hl (Nat.le_of_ble_eq_true rfl) rfl (fun ls hl => ?_)
    have hl : lv_has ls 3 [(2, .int (0 : Int32)), (1, .int (r_n σ)), (0, .ref (gr 0))] := hl
    exact blk31 9000 _ _ _ _ _ _ hJ (lv_sub hl [2, 1, 0] rfl) hP hS
  · have hJ := j_t hJ h1
    refine lv_iconst (v := (1 : Int32)) hx hb d_Model_commit_7 (by decide) ?_
    have hJ := Option.some.inj hJ
    exact W.zret (v := (1 : Int32)) (ty := .boolean) hx hb hr (by decide +kernel) (fun t ht hW => ⟨⟨_, (), rfl, (j_p1 hJ), kW_end hP hK ht hW (congrArg (fun z => wR gr cB cI z) (j_p2 hJ))⟩, hS.F ht⟩) hS.2.2 d_Model_commit_8
def J_Model_ready (σ : RS)  : Option (Int32 × RS) :=
  (if (10 : Int32) < (r_n σ) then (J_Model_commit σ).bind fun x2 => (if x2.1 = (0 : Int32) then (if jbl x2.1 = true then some (x2.1, (q_t x2.2 (2 : Int32))) else none) else (if jbl x2.1 = true then some (x2.1, (q_t x2.2 (0 : Int32))) else none)) else some ((1 : Int32), σ))
abbrev rm_Model_ready : Room := { frames := 2, cells := 0, slots := 0, locals := 44 }
set_option maxHeartbeats 4000000 in
set_option maxRecDepth 100000 in
theorem c_Model_ready {l : Launch} {dC : Nat → ClassId} {dI : Nat → Nat → Nat} {gr : Nat → Nat} {cB cI : ClassId} {A : Nat → Prop} (hDa : ∀ σ, va_D A (wR gr cB cI σ)) {σ : RS} {res : Int32 × RS} (hJ : J_Model_ready σ = some res) :
    Met l y_Model_ready (mw y_Model_ready b_Model_ready 2 (some .boolean)) rm_Model_ready (va_Pc [.ref (gr 0)] (kW (dC, dI) (tC cB cI) (wR gr cB cI σ))) (va_Qi (fun (x : Int32) (_ : Unit) => x = res.1) (fun _ t => kW (dC, dI) (tC cB cI) (wR gr cB cI res.2) t) A) 0 0 A := by
  refine Met.ofW (cc := b_Model_ready) (maxL := 2) (ret := (some .boolean)) (by decide) rfl ?_
  intro p e s m args below meth c s₁ B hml hv
  obtain ⟨rfl, hP, hK⟩ := hv
  have hx := B.exec
  have hb := B.bytes
  have hr := B.returns
  have hts := atoms_spec (ws := (mw y_Model_ready b_Model_ready 2 (some .boolean))) B.pre
  have htb : ∀ w ∈ tb, w.before [.ref (gr 0)].toArray s = true := fun w h => hts w (mwIn h)
  have hown : s.vm.findClass "LogFsModel" = some m.cls := findClass_of_methodNamed B.named
  have hlocks := B.notSynchronized
  have hS : va_S A s.heap s.heap [] := va_S.rf
  have hl := lv_entry ([.ref (gr 0)]) (n := 2) (Nat.le_of_ble_eq_true rfl)
  rw [lg_entry_eq]
  generalize (lg_sl ([.ref (gr 0)]) ++ List.replicate (2 - (lg_sl ([.ref (gr 0)])).length) Slot.unset).toArray = ls at hl ⊢
  have hl : lv_has ls 2 [(0, .ref (gr 0))] := hl
  unfold J_Model_ready at hJ
  refine lv_aload_n hx hb d_Model_ready_0 rfl (lv_at hl 0 rfl) ?_
  refine va_get (D := (dC, dI)) (ci := 5) (v := .int (r_n σ)) (C := R_Model) (T := T_Model) (N := 12) hx hb htb uin_Model hown hK hP 0 rfl rfl 4 (by decide) (htb _ tw594) (fun _ h9 => h9) rfl d_Model_ready_1 ?_
  refine lv_bipush (v := (10 : Int32)) hx hb d_Model_ready_4 (by decide) ?_
  refine lv_icmp_gt (tgt := 11) hx hb d_Model_ready_6 (by decide) (fun h1 => ?_) (fun h1 => ?_)
  · have hJ := j_t hJ h1
    refine lv_aload_n hx hb d_Model_ready_11 rfl (lv_at hl 0 rfl) ?_
    obtain ⟨x2, e2, hJ⟩ := j_bind hJ
    refine va_calli (va_runV (As := []) (rest := []) ⟨hx, hb, hml, hown, htb⟩ (c_Model_commit (l := l) (dC := dC) (dI := dI) hDa e2) (xcV 0 htb tw642 tw7 tw639 tw641 ts_Model_commit rfl rfl hd_Model_commit ⟨Nat.le_of_ble_eq_true rfl, Nat.le_of_ble_eq_true rfl⟩) (kW_V hP hK (va_recv (q0 := 0) (ci := 5) hK hP rfl rfl)) rfl rfl hl.1 rfl (lv_room (Nat.le_of_ble_eq_true rfl)) d_Model_ready_12 ⟨Nat.le_of_ble_eq_true rfl, Nat.le_of_ble_eq_true rfl⟩) hS (fun q _ h => h) (fun q h => h) (fun r0 u t H locs ht hvm hw hB _ _ hS => ?_)
    subst r0
    have hP := kW_P hB ht
    refine lv_istore_n hx hb d_Model_ready_15 rfl hl (Nat.le_of_ble_eq_true rfl) rfl (fun ls hl => ?_)
    have hl : lv_has ls 2 [(1, .int x2.1), (0, .ref (gr 0))] := hl
    refine lv_aload_n hx hb d_Model_ready_16 rfl (lv_at hl 1 rfl) ?_
    refine lv_iload_n hx hb d_Model_ready_17 rfl (lv_at hl 0 rfl) ?_
    refine lv_if_eq (tgt := 25) hx hb d_Model_ready_18 (by decide) (fun h3 => ?_) (fun h3 => ?_)
    · have hJ := j_t hJ h3
      refine lv_iconst (v := (2 : Int32)) hx hb d_Model_ready_25 (by decide) ?_
      refine va_put (D := (dC, dI)) (ci := 5) (v := .int (2 : Int32)) (ty := .int) (C := R_Model) (T := T_Model) (N := 12) hx hb htb uin_Model t_Model t_Model_ok n_Model hown hK hP (hDa _) hS 0 rfl rfl 0 (by decide) (htb _ tw590) (fun _ h9 => h9) rfl (by decide +kernel) rfl rfl (Nat.le_of_ble_eq_true rfl) d_Model_ready_26 (fun H locs hP _ hS => ?_)
      have hP : va_P (dC, dI) cls (wR gr cB cI (q_t x2.2 (2 : Int32))) H := hP
      refine lv_iload_n hx hb d_Model_ready_29 rfl (lv_at hl 0 rfl) ?_
      obtain ⟨h4, hJ⟩ := j_g hJ
      have hJ := Option.some.inj hJ
      exact W.zret (v := x2.1) (ty := .boolean) hx hb hr (j_bl h4).1 (fun t ht hW => ⟨⟨_, (), rfl, (j_p1 hJ), kW_end hP hK ht hW (congrArg (fun z => wR gr cB cI z) (j_p2 hJ))⟩, hS.F ht⟩) hS.2.2 d_Model_ready_30
    · have hJ := j_f hJ h3
      refine lv_iconst (v := (0 : Int32)) hx hb d_Model_ready_21 (by decide) ?_
      refine lv_goto (tgt := 26) hx hb d_Model_ready_22 (by decide) ?_
      refine va_put (D := (dC, dI)) (ci := 5) (v := .int (0 : Int32)) (ty := .int) (C := R_Model) (T := T_Model) (N := 12) hx hb htb uin_Model t_Model t_Model_ok n_Model hown hK hP (hDa _) hS 0 rfl rfl 0 (by decide) (htb _ tw590) (fun _ h9 => h9) rfl (by decide +kernel) rfl rfl (Nat.le_of_ble_eq_true rfl) d_Model_ready_26 (fun H locs hP _ hS => ?_)
      have hP : va_P (dC, dI) cls (wR gr cB cI (q_t x2.2 (0 : Int32))) H := hP
      refine lv_iload_n hx hb d_Model_ready_29 rfl (lv_at hl 0 rfl) ?_
      obtain ⟨h5, hJ⟩ := j_g hJ
      have hJ := Option.some.inj hJ
      exact W.zret (v := x2.1) (ty := .boolean) hx hb hr (j_bl h5).1 (fun t ht hW => ⟨⟨_, (), rfl, (j_p1 hJ), kW_end hP hK ht hW (congrArg (fun z => wR gr cB cI z) (j_p2 hJ))⟩, hS.F ht⟩) hS.2.2 d_Model_ready_30
  · have hJ := j_f hJ h1
    refine lv_iconst (v := (1 : Int32)) hx hb d_Model_ready_9 (by decide) ?_
    have hJ := Option.some.inj hJ
    exact W.zret (v := (1 : Int32)) (ty := .boolean) hx hb hr (by decide +kernel) (fun t ht hW => ⟨⟨_, (), rfl, (j_p1 hJ), kW_end hP hK ht hW (congrArg (fun z => wR gr cB cI z) (j_p2 hJ))⟩, hS.F ht⟩) hS.2.2 d_Model_ready_10
def J_Model_dead (σ : RS)  : Option (Int32 × RS) :=
  (if (r_o σ) = (0 : Int32) then (if jbl (r_o (q_t σ (0 : Int32))) = true then some ((r_o (q_t σ (0 : Int32))), (q_t σ (0 : Int32))) else none) else (if jbl (r_o (q_t σ (1 : Int32))) = true then some ((r_o (q_t σ (1 : Int32))), (q_t σ (1 : Int32))) else none))
abbrev rm_Model_dead : Room := { frames := 0, cells := 0, slots := 0, locals := 0 }
set_option maxHeartbeats 4000000 in
set_option maxRecDepth 100000 in
theorem c_Model_dead {l : Launch} {dC : Nat → ClassId} {dI : Nat → Nat → Nat} {gr : Nat → Nat} {cB cI : ClassId} {A : Nat → Prop} (hDa : ∀ σ, va_D A (wR gr cB cI σ)) {σ : RS} {res : Int32 × RS} (hJ : J_Model_dead σ = some res) :
    Met l y_Model_dead (mw y_Model_dead b_Model_dead 1 (some .boolean)) rm_Model_dead (va_Pc [.ref (gr 0)] (kW (dC, dI) (tC cB cI) (wR gr cB cI σ))) (va_Qi (fun (x : Int32) (_ : Unit) => x = res.1) (fun _ t => kW (dC, dI) (tC cB cI) (wR gr cB cI res.2) t) A) 0 0 A := by
  refine Met.ofW (cc := b_Model_dead) (maxL := 1) (ret := (some .boolean)) (by decide) rfl ?_
  intro p e s m args below meth c s₁ B hml hv
  obtain ⟨rfl, hP, hK⟩ := hv
  have hx := B.exec
  have hb := B.bytes
  have hr := B.returns
  have hts := atoms_spec (ws := (mw y_Model_dead b_Model_dead 1 (some .boolean))) B.pre
  have htb : ∀ w ∈ tb, w.before [.ref (gr 0)].toArray s = true := fun w h => hts w (mwIn h)
  have hown : s.vm.findClass "LogFsModel" = some m.cls := findClass_of_methodNamed B.named
  have hlocks := B.notSynchronized
  have hS : va_S A s.heap s.heap [] := va_S.rf
  have hl := lv_entry ([.ref (gr 0)]) (n := 1) (Nat.le_of_ble_eq_true rfl)
  rw [lg_entry_eq]
  generalize (lg_sl ([.ref (gr 0)]) ++ List.replicate (1 - (lg_sl ([.ref (gr 0)])).length) Slot.unset).toArray = ls at hl ⊢
  have hl : lv_has ls 1 [(0, .ref (gr 0))] := hl
  unfold J_Model_dead at hJ
  refine lv_aload_n hx hb d_Model_dead_0 rfl (lv_at hl 0 rfl) ?_
  refine lv_aload_n hx hb d_Model_dead_1 rfl (lv_at hl 0 rfl) ?_
  refine va_get (D := (dC, dI)) (ci := 5) (v := .int (r_o σ)) (C := R_Model) (T := T_Model) (N := 12) hx hb htb uin_Model hown hK hP 0 rfl rfl 8 (by decide) (htb _ tw598) (fun _ h9 => h9) rfl d_Model_dead_2 ?_
  refine lv_if_eq (tgt := 12) hx hb d_Model_dead_5 (by decide) (fun h1 => ?_) (fun h1 => ?_)
  · have hJ := j_t hJ h1
    refine lv_iconst (v := (0 : Int32)) hx hb d_Model_dead_12 (by decide) ?_
    refine va_put (D := (dC, dI)) (ci := 5) (v := .int (0 : Int32)) (ty := .int) (C := R_Model) (T := T_Model) (N := 12) hx hb htb uin_Model t_Model t_Model_ok n_Model hown hK hP (hDa _) hS 0 rfl rfl 0 (by decide) (htb _ tw590) (fun _ h9 => h9) rfl (by decide +kernel) rfl rfl (Nat.le_of_ble_eq_true rfl) d_Model_dead_13 (fun H locs hP _ hS => ?_)
    have hP : va_P (dC, dI) cls (wR gr cB cI (q_t σ (0 : Int32))) H := hP
    refine lv_aload_n hx hb d_Model_dead_16 rfl (lv_at hl 0 rfl) ?_
    refine va_get (D := (dC, dI)) (ci := 5) (v := .int (r_o (q_t σ (0 : Int32)))) (C := R_Model) (T := T_Model) (N := 12) hx hb htb uin_Model hown hK hP 0 rfl rfl 8 (by decide) (htb _ tw598) (fun _ h9 => h9) rfl d_Model_dead_17 ?_
    obtain ⟨h2, hJ⟩ := j_g hJ
    have hJ := Option.some.inj hJ
    exact W.zret (v := (r_o (q_t σ (0 : Int32)))) (ty := .boolean) hx hb hr (j_bl h2).1 (fun t ht hW => ⟨⟨_, (), rfl, (j_p1 hJ), kW_end hP hK ht hW (congrArg (fun z => wR gr cB cI z) (j_p2 hJ))⟩, hS.F ht⟩) hS.2.2 d_Model_dead_20
  · have hJ := j_f hJ h1
    refine lv_iconst (v := (1 : Int32)) hx hb d_Model_dead_8 (by decide) ?_
    refine lv_goto (tgt := 13) hx hb d_Model_dead_9 (by decide) ?_
    refine va_put (D := (dC, dI)) (ci := 5) (v := .int (1 : Int32)) (ty := .int) (C := R_Model) (T := T_Model) (N := 12) hx hb htb uin_Model t_Model t_Model_ok n_Model hown hK hP (hDa _) hS 0 rfl rfl 0 (by decide) (htb _ tw590) (fun _ h9 => h9) rfl (by decide +kernel) rfl rfl (Nat.le_of_ble_eq_true rfl) d_Model_dead_13 (fun H locs hP _ hS => ?_)
    have hP : va_P (dC, dI) cls (wR gr cB cI (q_t σ (1 : Int32))) H := hP
    refine lv_aload_n hx hb d_Model_dead_16 rfl (lv_at hl 0 rfl) ?_
    refine va_get (D := (dC, dI)) (ci := 5) (v := .int (r_o (q_t σ (1 : Int32)))) (C := R_Model) (T := T_Model) (N := 12) hx hb htb uin_Model hown hK hP 0 rfl rfl 8 (by decide) (htb _ tw598) (fun _ h9 => h9) rfl d_Model_dead_17 ?_
    obtain ⟨h3, hJ⟩ := j_g hJ
    have hJ := Option.some.inj hJ
    exact W.zret (v := (r_o (q_t σ (1 : Int32)))) (ty := .boolean) hx hb hr (j_bl h3).1 (fun t ht hW => ⟨⟨_, (), rfl, (j_p1 hJ), kW_end hP hK ht hW (congrArg (fun z => wR gr cB cI z) (j_p2 hJ))⟩, hS.F ht⟩) hS.2.2 d_Model_dead_20
def J_Model_sync_27 (σ : RS) (v1 : Int32) (t1 : Int32) : Option (Int32 × RS) :=
  (if (r_t (q_t σ t1)) ≤ (0 : Int32) then some (((r_w (q_t σ t1)) - v1), (q_t σ t1)) else some ((0 : Int32), (q_t σ t1)))
def J_Model_sync (σ : RS)  : Option (Int32 × RS) :=
  (J_Model_dead σ).bind fun x1 => (if x1.1 = (0 : Int32) then (J_Model_commit x1.2).bind fun x3 => (if x3.1 = (0 : Int32) then J_Model_sync_27 x3.2 (r_w x1.2) (2 : Int32) else J_Model_sync_27 x3.2 (r_w x1.2) (0 : Int32)) else some ((0 : Int32), x1.2))
abbrev rm_Model_sync : Room := { frames := 2, cells := 0, slots := 0, locals := 44 }
set_option maxHeartbeats 4000000 in
set_option maxRecDepth 100000 in
theorem c_Model_sync {l : Launch} {dC : Nat → ClassId} {dI : Nat → Nat → Nat} {gr : Nat → Nat} {cB cI : ClassId} {A : Nat → Prop} (hDa : ∀ σ, va_D A (wR gr cB cI σ)) {σ : RS} {res : Int32 × RS} (hJ : J_Model_sync σ = some res) :
    Met l y_Model_sync (mw y_Model_sync b_Model_sync 2 (some .int)) rm_Model_sync (va_Pc [.ref (gr 0)] (kW (dC, dI) (tC cB cI) (wR gr cB cI σ))) (va_Qi (fun (x : Int32) (_ : Unit) => x = res.1) (fun _ t => kW (dC, dI) (tC cB cI) (wR gr cB cI res.2) t) A) 0 0 A := by
  refine Met.ofW (cc := b_Model_sync) (maxL := 2) (ret := (some .int)) (by decide) rfl ?_
  intro p e s m args below meth c s₁ B hml hv
  obtain ⟨rfl, hP, hK⟩ := hv
  have hx := B.exec
  have hb := B.bytes
  have hr := B.returns
  have hts := atoms_spec (ws := (mw y_Model_sync b_Model_sync 2 (some .int))) B.pre
  have htb : ∀ w ∈ tb, w.before [.ref (gr 0)].toArray s = true := fun w h => hts w (mwIn h)
  have hown : s.vm.findClass "LogFsModel" = some m.cls := findClass_of_methodNamed B.named
  have hlocks := B.notSynchronized
  have hS : va_S A s.heap s.heap [] := va_S.rf
  have hl := lv_entry ([.ref (gr 0)]) (n := 2) (Nat.le_of_ble_eq_true rfl)
  rw [lg_entry_eq]
  generalize (lg_sl ([.ref (gr 0)]) ++ List.replicate (2 - (lg_sl ([.ref (gr 0)])).length) Slot.unset).toArray = ls at hl ⊢
  have hl : lv_has ls 2 [(0, .ref (gr 0))] := hl
  have blk27 : ∀ (σ : RS) (v1 : Int32) (t1 : Int32) (ls : Array Slot) (H : Heap) (locs : List Loc), J_Model_sync_27 σ v1 t1 = some res → lv_has ls 2 [(0, .ref (gr 0)), (1, .int v1)] → va_P (dC, dI) cls (wR gr cB cI σ) H → va_S A s.heap H locs → W p l e (headSpec (mw y_Model_sync b_Model_sync 2 (some .int)) rm_Model_sync).room s m [.ref (gr 0)].toArray below meth c H locs 0 0 (MQ below (va_Qi (fun (x : Int32) (_ : Unit) => x = res.1) (fun _ t => kW (dC, dI) (tC cB cI) (wR gr cB cI res.2) t) A) [.ref (gr 0)].toArray s 0 0 A) (F0 m 27 ls [.int t1, .ref (gr 0)]) := by
    intro σ v1 t1 ls H locs hJ hl hP hS
    unfold J_Model_sync_27 at hJ
    refine va_put (D := (dC, dI)) (ci := 5) (v := .int t1) (ty := .int) (C := R_Model) (T := T_Model) (N := 12) hx hb htb uin_Model t_Model t_Model_ok n_Model hown hK hP (hDa _) hS 0 rfl rfl 0 (by decide) (htb _ tw590) (fun _ h9 => h9) rfl (by decide +kernel) rfl rfl (Nat.le_of_ble_eq_true rfl) d_Model_sync_27 (fun H locs hP _ hS => ?_)
    have hP : va_P (dC, dI) cls (wR gr cB cI (q_t σ t1)) H := hP
    refine lv_aload_n hx hb d_Model_sync_30 rfl (lv_at hl 0 rfl) ?_
    refine va_get (D := (dC, dI)) (ci := 5) (v := .int (r_t (q_t σ t1))) (C := R_Model) (T := T_Model) (N := 12) hx hb htb uin_Model hown hK hP 0 rfl rfl 0 (by decide) (htb _ tw590) (fun _ h9 => h9) rfl d_Model_sync_31 ?_
    refine lv_if_le (tgt := 41) hx hb d_Model_sync_34 (by decide) (fun h5 => ?_) (fun h5 => ?_)
    · have hJ := j_t hJ h5
      refine lv_aload_n hx hb d_Model_sync_41 rfl (lv_at hl 0 rfl) ?_
      refine va_get (D := (dC, dI)) (ci := 5) (v := .int (r_w (q_t σ t1))) (C := R_Model) (T := T_Model) (N := 12) hx hb htb uin_Model hown hK hP 0 rfl rfl 5 (by decide) (htb _ tw595) (fun _ h9 => h9) rfl d_Model_sync_42 ?_
      refine lv_iload_n hx hb d_Model_sync_45 rfl (lv_at hl 1 rfl) ?_
      refine lv_isub hx hb d_Model_sync_46 ?_
      have hJ := Option.some.inj hJ
      exact W.iret (v := ((r_w (q_t σ t1)) - v1)) hx hb hr (fun t ht hW => ⟨⟨_, (), rfl, (j_p1 hJ), kW_end hP hK ht hW (congrArg (fun z => wR gr cB cI z) (j_p2 hJ))⟩, hS.F ht⟩) hS.2.2 d_Model_sync_47
    · have hJ := j_f hJ h5
      refine lv_iconst (v := (0 : Int32)) hx hb d_Model_sync_37 (by decide) ?_
      refine lv_goto (tgt := 47) hx hb d_Model_sync_38 (by decide) ?_
      have hJ := Option.some.inj hJ
      exact W.iret (v := (0 : Int32)) hx hb hr (fun t ht hW => ⟨⟨_, (), rfl, (j_p1 hJ), kW_end hP hK ht hW (congrArg (fun z => wR gr cB cI z) (j_p2 hJ))⟩, hS.F ht⟩) hS.2.2 d_Model_sync_47
  unfold J_Model_sync at hJ
  refine lv_aload_n hx hb d_Model_sync_0 rfl (lv_at hl 0 rfl) ?_
  obtain ⟨x1, e1, hJ⟩ := j_bind hJ
  refine va_calli (va_runV (As := []) (rest := []) ⟨hx, hb, hml, hown, htb⟩ (c_Model_dead (l := l) (dC := dC) (dI := dI) hDa e1) (xcV 0 htb tw638 tw7 tw635 tw637 ts_Model_dead rfl rfl hd_Model_dead ⟨Nat.le_of_ble_eq_true rfl, Nat.le_of_ble_eq_true rfl⟩) (kW_V hP hK (va_recv (q0 := 0) (ci := 5) hK hP rfl rfl)) rfl rfl hl.1 rfl (lv_room (Nat.le_of_ble_eq_true rfl)) d_Model_sync_1 ⟨Nat.le_of_ble_eq_true rfl, Nat.le_of_ble_eq_true rfl⟩) hS (fun q _ h => h) (fun q h => h) (fun r0 u t H locs ht hvm hw hB _ _ hS => ?_)
  subst r0
  have hP := kW_P hB ht
  refine lv_if_eq (tgt := 9) hx hb d_Model_sync_4 (by decide) (fun h2 => ?_) (fun h2 => ?_)
  · have hJ := j_t hJ h2
    refine lv_aload_n hx hb d_Model_sync_9 rfl (lv_at hl 0 rfl) ?_
    refine va_get (D := (dC, dI)) (ci := 5) (v := .int (r_w x1.2)) (C := R_Model) (T := T_Model) (N := 12) hx hb htb uin_Model hown hK hP 0 rfl rfl 5 (by decide) (htb _ tw595) (fun _ h9 => h9) rfl d_Model_sync_10 ?_
    refine lv_istore_n hx hb d_Model_sync_13 rfl hl (Nat.le_of_ble_eq_true rfl) rfl (fun ls hl => ?_)
    have hl : lv_has ls 2 [(1, .int (r_w x1.2)), (0, .ref (gr 0))] := hl
    refine lv_aload_n hx hb d_Model_sync_14 rfl (lv_at hl 1 rfl) ?_
    refine lv_aload_n hx hb d_Model_sync_15 rfl (lv_at hl 1 rfl) ?_
    obtain ⟨x3, e3, hJ⟩ := j_bind hJ
    refine va_calli (va_runV (As := []) (rest := [.ref (gr 0)]) ⟨hx, hb, hml, hown, htb⟩ (c_Model_commit (l := l) (dC := dC) (dI := dI) hDa e3) (xcV 0 htb tw642 tw7 tw639 tw641 ts_Model_commit rfl rfl hd_Model_commit ⟨Nat.le_of_ble_eq_true rfl, Nat.le_of_ble_eq_true rfl⟩) (kW_V hP hK (va_recv (q0 := 0) (ci := 5) hK hP rfl rfl)) rfl rfl hl.1 rfl (lv_room (Nat.le_of_ble_eq_true rfl)) d_Model_sync_16 ⟨Nat.le_of_ble_eq_true rfl, Nat.le_of_ble_eq_true rfl⟩) hS (fun q _ h => h) (fun q h => h) (fun r0 u t H locs ht hvm hw hB _ _ hS => ?_)
    subst r0
    have hP := kW_P hB ht
    refine lv_if_eq (tgt := 26) hx hb d_Model_sync_19 (by decide) (fun h4 => ?_) (fun h4 => ?_)
    · have hJ := j_t hJ h4
      refine lv_iconst (v := (2 : Int32)) hx hb d_Model_sync_26 (by decide) ?_
      exact blk27 _ _ _ _ _ _ hJ (lv_sub hl [1, 0] rfl) hP hS
    · have hJ := j_f hJ h4
      refine lv_iconst (v := (0 : Int32)) hx hb d_Model_sync_22 (by decide) ?_
      refine lv_goto (tgt := 27) hx hb d_Model_sync_23 (by decide) ?_
      exact blk27 _ _ _ _ _ _ hJ (lv_sub hl [1, 0] rfl) hP hS
  · have hJ := j_f hJ h2
    refine lv_iconst (v := (0 : Int32)) hx hb d_Model_sync_7 (by decide) ?_
    have hJ := Option.some.inj hJ
    exact W.iret (v := (0 : Int32)) hx hb hr (fun t ht hW => ⟨⟨_, (), rfl, (j_p1 hJ), kW_end hP hK ht hW (congrArg (fun z => wR gr cB cI z) (j_p2 hJ))⟩, hS.F ht⟩) hS.2.2 d_Model_sync_8
def J_Model_failAfter (σ : RS) (a1 : Int32) : Option (Int32 × RS) :=
  (if (0 : Int32) ≤ a1 then some ((1 : Int32), (q_l (q_t σ (0 : Int32)) a1)) else some ((0 : Int32), (q_t σ (0 : Int32))))
abbrev rm_Model_failAfter : Room := { frames := 0, cells := 0, slots := 0, locals := 0 }
set_option maxHeartbeats 4000000 in
set_option maxRecDepth 100000 in
theorem c_Model_failAfter {l : Launch} {dC : Nat → ClassId} {dI : Nat → Nat → Nat} {gr : Nat → Nat} {cB cI : ClassId} {A : Nat → Prop} (hDa : ∀ σ, va_D A (wR gr cB cI σ)) {σ : RS} {a1 : Int32} {res : Int32 × RS} (hJ : J_Model_failAfter σ a1 = some res) :
    Met l y_Model_failAfter (mw y_Model_failAfter b_Model_failAfter 2 (some .boolean)) rm_Model_failAfter (va_Pc [.ref (gr 0), .int a1] (kW (dC, dI) (tC cB cI) (wR gr cB cI σ))) (va_Qi (fun (x : Int32) (_ : Unit) => x = res.1) (fun _ t => kW (dC, dI) (tC cB cI) (wR gr cB cI res.2) t) A) 0 0 A := by
  refine Met.ofW (cc := b_Model_failAfter) (maxL := 2) (ret := (some .boolean)) (by decide) rfl ?_
  intro p e s m args below meth c s₁ B hml hv
  obtain ⟨rfl, hP, hK⟩ := hv
  have hx := B.exec
  have hb := B.bytes
  have hr := B.returns
  have hts := atoms_spec (ws := (mw y_Model_failAfter b_Model_failAfter 2 (some .boolean))) B.pre
  have htb : ∀ w ∈ tb, w.before [.ref (gr 0), .int a1].toArray s = true := fun w h => hts w (mwIn h)
  have hown : s.vm.findClass "LogFsModel" = some m.cls := findClass_of_methodNamed B.named
  have hlocks := B.notSynchronized
  have hS : va_S A s.heap s.heap [] := va_S.rf
  have hl := lv_entry ([.ref (gr 0), .int a1]) (n := 2) (Nat.le_of_ble_eq_true rfl)
  rw [lg_entry_eq]
  generalize (lg_sl ([.ref (gr 0), .int a1]) ++ List.replicate (2 - (lg_sl ([.ref (gr 0), .int a1])).length) Slot.unset).toArray = ls at hl ⊢
  have hl : lv_has ls 2 [(0, .ref (gr 0)), (1, .int a1)] := hl
  unfold J_Model_failAfter at hJ
  refine lv_aload_n hx hb d_Model_failAfter_0 rfl (lv_at hl 0 rfl) ?_
  refine lv_iconst (v := (0 : Int32)) hx hb d_Model_failAfter_1 (by decide) ?_
  refine va_put (D := (dC, dI)) (ci := 5) (v := .int (0 : Int32)) (ty := .int) (C := R_Model) (T := T_Model) (N := 12) hx hb htb uin_Model t_Model t_Model_ok n_Model hown hK hP (hDa _) hS 0 rfl rfl 0 (by decide) (htb _ tw590) (fun _ h9 => h9) rfl (by decide +kernel) rfl rfl (Nat.le_of_ble_eq_true rfl) d_Model_failAfter_2 (fun H locs hP _ hS => ?_)
  have hP : va_P (dC, dI) cls (wR gr cB cI (q_t σ (0 : Int32))) H := hP
  refine lv_iload_n hx hb d_Model_failAfter_5 rfl (lv_at hl 1 rfl) ?_
  refine lv_if_ge (tgt := 11) hx hb d_Model_failAfter_6 (by decide) (fun h1 => ?_) (fun h1 => ?_)
  · have hJ := j_t hJ h1
    refine lv_aload_n hx hb d_Model_failAfter_11 rfl (lv_at hl 0 rfl) ?_
    refine lv_iload_n hx hb d_Model_failAfter_12 rfl (lv_at hl 1 rfl) ?_
    refine va_put (D := (dC, dI)) (ci := 5) (v := .int a1) (ty := .int) (C := R_Model) (T := T_Model) (N := 12) hx hb htb uin_Model t_Model t_Model_ok n_Model hown hK hP (hDa _) hS 0 rfl rfl 7 (by decide) (htb _ tw597) (fun _ h9 => h9) rfl (by decide +kernel) rfl rfl (Nat.le_of_ble_eq_true rfl) d_Model_failAfter_13 (fun H locs hP _ hS => ?_)
    have hP : va_P (dC, dI) cls (wR gr cB cI (q_l (q_t σ (0 : Int32)) a1)) H := hP
    refine lv_iconst (v := (1 : Int32)) hx hb d_Model_failAfter_16 (by decide) ?_
    have hJ := Option.some.inj hJ
    exact W.zret (v := (1 : Int32)) (ty := .boolean) hx hb hr (by decide +kernel) (fun t ht hW => ⟨⟨_, (), rfl, (j_p1 hJ), kW_end hP hK ht hW (congrArg (fun z => wR gr cB cI z) (j_p2 hJ))⟩, hS.F ht⟩) hS.2.2 d_Model_failAfter_17
  · have hJ := j_f hJ h1
    refine lv_iconst (v := (0 : Int32)) hx hb d_Model_failAfter_9 (by decide) ?_
    have hJ := Option.some.inj hJ
    exact W.zret (v := (0 : Int32)) (ty := .boolean) hx hb hr (by decide +kernel) (fun t ht hW => ⟨⟨_, (), rfl, (j_p1 hJ), kW_end hP hK ht hW (congrArg (fun z => wR gr cB cI z) (j_p2 hJ))⟩, hS.F ht⟩) hS.2.2 d_Model_failAfter_10
