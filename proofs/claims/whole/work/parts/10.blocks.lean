/-! Blocks: its methods as pure functions J_.., and the machine follows them. Written by wip/gen/classes.py. -/
def J_Blocks_get_z (σ : ZS) (a1 : Int32) (a2 : Int32) : Option (Int32) :=
  (if a1 < (0 : Int32) then some (0 : Int32) else (if (128 : Int32) ≤ a1 then some (0 : Int32) else (if a2 < (0 : Int32) then some (0 : Int32) else (if a2 < (64 : Int32) then (if jin ((a1 * (64 : Int32)) + a2) 8192 = true then some (((z_D σ) ((a1 * (64 : Int32)) + a2).toNatClampNeg).toInt32 &&& (255 : Int32)) else none) else some (0 : Int32)))))
abbrev rm_Blocks_get_z : Room := { frames := 0, cells := 0, slots := 0, locals := 0 }
set_option maxHeartbeats 4000000 in
set_option maxRecDepth 100000 in
theorem c_Blocks_get_z {l : Launch} {dC : Nat → ClassId} {dI : Nat → Nat → Nat} {ga : Nat → Nat} {cB cI : ClassId} {A : Nat → Prop} (hDa : ∀ σ, va_D A (wZ ga cB cI σ)) {σ : ZS} {a1 : Int32} {a2 : Int32} {res : Int32} (hJ : J_Blocks_get_z σ a1 a2 = some res) :
    Met l y_Blocks_get (mw y_Blocks_get b_Blocks_get 3 (some .int)) rm_Blocks_get_z (va_Pc [.ref (ga 4), .int a1, .int a2] (kW (dC, dI) (tC cB cI) (wZ ga cB cI σ))) (va_Qi (fun (x : Int32) (_ : Unit) => x = res) (fun _ t => kW (dC, dI) (tC cB cI) (wZ ga cB cI σ) t) A) 0 0 A := by
  refine Met.ofW (cc := b_Blocks_get) (maxL := 3) (ret := (some .int)) (by decide) rfl ?_
  intro p e s m args below meth c s₁ B hml hv
  obtain ⟨rfl, hP, hK⟩ := hv
  have hx := B.exec
  have hb := B.bytes
  have hr := B.returns
  have hts := atoms_spec (ws := (mw y_Blocks_get b_Blocks_get 3 (some .int))) B.pre
  have htb : ∀ w ∈ tb, w.before [.ref (ga 4), .int a1, .int a2].toArray s = true := fun w h => hts w (mwIn h)
  have hown : s.vm.findClass "LogFs$Blocks" = some m.cls := findClass_of_methodNamed B.named
  have hlocks := B.notSynchronized
  have hS : va_S A s.heap s.heap [] := va_S.rf
  have hl := lv_entry ([.ref (ga 4), .int a1, .int a2]) (n := 3) (Nat.le_of_ble_eq_true rfl)
  rw [lg_entry_eq]
  generalize (lg_sl ([.ref (ga 4), .int a1, .int a2]) ++ List.replicate (3 - (lg_sl ([.ref (ga 4), .int a1, .int a2])).length) Slot.unset).toArray = ls at hl ⊢
  have hl : lv_has ls 3 [(0, .ref (ga 4)), (1, .int a1), (2, .int a2)] := hl
  unfold J_Blocks_get_z at hJ
  refine lv_iload_n hx hb d_Blocks_get_0 rfl (lv_at hl 1 rfl) ?_
  refine lv_if_lt (tgt := 21) hx hb d_Blocks_get_1 (by decide) (fun h1 => ?_) (fun h1 => ?_)
  · have hJ := j_t hJ h1
    refine lv_iconst (v := (0 : Int32)) hx hb d_Blocks_get_21 (by decide) ?_
    have hJ := Option.some.inj hJ
    exact W.iret (v := (0 : Int32)) hx hb hr (fun t ht hW => ⟨⟨_, (), rfl, hJ, kW_end hP hK ht hW rfl⟩, hS.F ht⟩) hS.2.2 d_Blocks_get_22
  · have hJ := j_f hJ h1
    refine lv_iload_n hx hb d_Blocks_get_4 rfl (lv_at hl 1 rfl) ?_
    refine lv_sipush (v := (128 : Int32)) hx hb d_Blocks_get_5 (by decide) ?_
    refine lv_icmp_ge (tgt := 21) hx hb d_Blocks_get_8 (by decide) (fun h2 => ?_) (fun h2 => ?_)
    · have hJ := j_t hJ h2
      refine lv_iconst (v := (0 : Int32)) hx hb d_Blocks_get_21 (by decide) ?_
      have hJ := Option.some.inj hJ
      exact W.iret (v := (0 : Int32)) hx hb hr (fun t ht hW => ⟨⟨_, (), rfl, hJ, kW_end hP hK ht hW rfl⟩, hS.F ht⟩) hS.2.2 d_Blocks_get_22
    · have hJ := j_f hJ h2
      refine lv_iload_n hx hb d_Blocks_get_11 rfl (lv_at hl 2 rfl) ?_
      refine lv_if_lt (tgt := 21) hx hb d_Blocks_get_12 (by decide) (fun h3 => ?_) (fun h3 => ?_)
      · have hJ := j_t hJ h3
        refine lv_iconst (v := (0 : Int32)) hx hb d_Blocks_get_21 (by decide) ?_
        have hJ := Option.some.inj hJ
        exact W.iret (v := (0 : Int32)) hx hb hr (fun t ht hW => ⟨⟨_, (), rfl, hJ, kW_end hP hK ht hW rfl⟩, hS.F ht⟩) hS.2.2 d_Blocks_get_22
      · have hJ := j_f hJ h3
        refine lv_iload_n hx hb d_Blocks_get_15 rfl (lv_at hl 2 rfl) ?_
        refine lv_bipush (v := (64 : Int32)) hx hb d_Blocks_get_16 (by decide) ?_
        refine lv_icmp_lt (tgt := 23) hx hb d_Blocks_get_18 (by decide) (fun h4 => ?_) (fun h4 => ?_)
        · have hJ := j_t hJ h4
          refine lv_aload_n hx hb d_Blocks_get_23 rfl (lv_at hl 0 rfl) ?_
          refine va_get (D := (dC, dI)) (ci := 0) (v := .ref (ga 6)) (C := R_Blocks) (T := T_Blocks) (N := 1) hx hb htb uin_Blocks hown hK hP 1 rfl rfl 0 (by decide) (htb _ tw35) (fun _ h9 => h9) rfl d_Blocks_get_24 ?_
          refine lv_iload_n hx hb d_Blocks_get_27 rfl (lv_at hl 1 rfl) ?_
          refine lv_bipush (v := (64 : Int32)) hx hb d_Blocks_get_28 (by decide) ?_
          refine lv_imul hx hb d_Blocks_get_30 ?_
          refine lv_iload_n hx hb d_Blocks_get_31 rfl (lv_at hl 2 rfl) ?_
          refine lv_iadd hx hb d_Blocks_get_32 ?_
          obtain ⟨h5, hJ⟩ := j_g hJ
          refine va_bald hx hb hK hP 2 0 rfl rfl (j_in h5) d_Blocks_get_33 ?_
          refine lv_sipush (v := (255 : Int32)) hx hb d_Blocks_get_34 (by decide) ?_
          refine lv_iand hx hb d_Blocks_get_37 ?_
          have hJ := Option.some.inj hJ
          exact W.iret (v := (((z_D σ) ((a1 * (64 : Int32)) + a2).toNatClampNeg).toInt32 &&& (255 : Int32))) hx hb hr (fun t ht hW => ⟨⟨_, (), rfl, hJ, kW_end hP hK ht hW rfl⟩, hS.F ht⟩) hS.2.2 d_Blocks_get_38
        · have hJ := j_f hJ h4
          refine lv_iconst (v := (0 : Int32)) hx hb d_Blocks_get_21 (by decide) ?_
          have hJ := Option.some.inj hJ
          exact W.iret (v := (0 : Int32)) hx hb hr (fun t ht hW => ⟨⟨_, (), rfl, hJ, kW_end hP hK ht hW rfl⟩, hS.F ht⟩) hS.2.2 d_Blocks_get_22
def J_Blocks_set_z (σ : ZS) (a1 : Int32) (a2 : Int32) (a3 : Int32) : Option (ZS) :=
  (if a1 < (0 : Int32) then some σ else (if (128 : Int32) ≤ a1 then some σ else (if a2 < (0 : Int32) then some σ else (if (64 : Int32) ≤ a2 then some σ else (if jin ((a1 * (64 : Int32)) + a2) 8192 = true then some (sz_D σ (va_up (z_D σ) ((a1 * (64 : Int32)) + a2).toNatClampNeg a3.toInt8.toInt32.toInt8)) else none)))))
abbrev rm_Blocks_set_z : Room := { frames := 0, cells := 0, slots := 0, locals := 0 }
set_option maxHeartbeats 4000000 in
set_option maxRecDepth 100000 in
theorem c_Blocks_set_z {l : Launch} {dC : Nat → ClassId} {dI : Nat → Nat → Nat} {ga : Nat → Nat} {cB cI : ClassId} {A : Nat → Prop} (hDa : ∀ σ, va_D A (wZ ga cB cI σ)) {σ : ZS} {a1 : Int32} {a2 : Int32} {a3 : Int32} {res : ZS} (hJ : J_Blocks_set_z σ a1 a2 a3 = some res) :
    Met l y_Blocks_set (mw y_Blocks_set b_Blocks_set 4 none) rm_Blocks_set_z (va_Pc [.ref (ga 4), .int a1, .int a2, .int a3] (kW (dC, dI) (tC cB cI) (wZ ga cB cI σ))) (va_Qv (fun (_ : Unit) => True) (fun _ t => kW (dC, dI) (tC cB cI) (wZ ga cB cI res) t) A) 0 0 A := by
  refine Met.ofW (cc := b_Blocks_set) (maxL := 4) (ret := none) (by decide) rfl ?_
  intro p e s m args below meth c s₁ B hml hv
  obtain ⟨rfl, hP, hK⟩ := hv
  have hx := B.exec
  have hb := B.bytes
  have hr := B.returns
  have hts := atoms_spec (ws := (mw y_Blocks_set b_Blocks_set 4 none)) B.pre
  have htb : ∀ w ∈ tb, w.before [.ref (ga 4), .int a1, .int a2, .int a3].toArray s = true := fun w h => hts w (mwIn h)
  have hown : s.vm.findClass "LogFs$Blocks" = some m.cls := findClass_of_methodNamed B.named
  have hlocks := B.notSynchronized
  have hS : va_S A s.heap s.heap [] := va_S.rf
  have hl := lv_entry ([.ref (ga 4), .int a1, .int a2, .int a3]) (n := 4) (Nat.le_of_ble_eq_true rfl)
  rw [lg_entry_eq]
  generalize (lg_sl ([.ref (ga 4), .int a1, .int a2, .int a3]) ++ List.replicate (4 - (lg_sl ([.ref (ga 4), .int a1, .int a2, .int a3])).length) Slot.unset).toArray = ls at hl ⊢
  have hl : lv_has ls 4 [(0, .ref (ga 4)), (1, .int a1), (2, .int a2), (3, .int a3)] := hl
  unfold J_Blocks_set_z at hJ
  refine lv_iload_n hx hb d_Blocks_set_0 rfl (lv_at hl 1 rfl) ?_
  refine lv_if_lt (tgt := 34) hx hb d_Blocks_set_1 (by decide) (fun h1 => ?_) (fun h1 => ?_)
  · have hJ := j_t hJ h1
    have hJ := Option.some.inj hJ
    exact W.vret hx hb hr (fun t ht hW => ⟨⟨(), rfl, trivial, kW_end hP hK ht hW (congrArg (fun z => wZ ga cB cI z) hJ)⟩, hS.F ht⟩) hS.2.2 d_Blocks_set_34
  · have hJ := j_f hJ h1
    refine lv_iload_n hx hb d_Blocks_set_4 rfl (lv_at hl 1 rfl) ?_
    refine lv_sipush (v := (128 : Int32)) hx hb d_Blocks_set_5 (by decide) ?_
    refine lv_icmp_ge (tgt := 34) hx hb d_Blocks_set_8 (by decide) (fun h2 => ?_) (fun h2 => ?_)
    · have hJ := j_t hJ h2
      have hJ := Option.some.inj hJ
      exact W.vret hx hb hr (fun t ht hW => ⟨⟨(), rfl, trivial, kW_end hP hK ht hW (congrArg (fun z => wZ ga cB cI z) hJ)⟩, hS.F ht⟩) hS.2.2 d_Blocks_set_34
    · have hJ := j_f hJ h2
      refine lv_iload_n hx hb d_Blocks_set_11 rfl (lv_at hl 2 rfl) ?_
      refine lv_if_lt (tgt := 34) hx hb d_Blocks_set_12 (by decide) (fun h3 => ?_) (fun h3 => ?_)
      · have hJ := j_t hJ h3
        have hJ := Option.some.inj hJ
        exact W.vret hx hb hr (fun t ht hW => ⟨⟨(), rfl, trivial, kW_end hP hK ht hW (congrArg (fun z => wZ ga cB cI z) hJ)⟩, hS.F ht⟩) hS.2.2 d_Blocks_set_34
      · have hJ := j_f hJ h3
        refine lv_iload_n hx hb d_Blocks_set_15 rfl (lv_at hl 2 rfl) ?_
        refine lv_bipush (v := (64 : Int32)) hx hb d_Blocks_set_16 (by decide) ?_
        refine lv_icmp_ge (tgt := 34) hx hb d_Blocks_set_18 (by decide) (fun h4 => ?_) (fun h4 => ?_)
        · have hJ := j_t hJ h4
          have hJ := Option.some.inj hJ
          exact W.vret hx hb hr (fun t ht hW => ⟨⟨(), rfl, trivial, kW_end hP hK ht hW (congrArg (fun z => wZ ga cB cI z) hJ)⟩, hS.F ht⟩) hS.2.2 d_Blocks_set_34
        · have hJ := j_f hJ h4
          refine lv_aload_n hx hb d_Blocks_set_21 rfl (lv_at hl 0 rfl) ?_
          refine va_get (D := (dC, dI)) (ci := 0) (v := .ref (ga 6)) (C := R_Blocks) (T := T_Blocks) (N := 1) hx hb htb uin_Blocks hown hK hP 1 rfl rfl 0 (by decide) (htb _ tw35) (fun _ h9 => h9) rfl d_Blocks_set_22 ?_
          refine lv_iload_n hx hb d_Blocks_set_25 rfl (lv_at hl 1 rfl) ?_
          refine lv_bipush (v := (64 : Int32)) hx hb d_Blocks_set_26 (by decide) ?_
          refine lv_imul hx hb d_Blocks_set_28 ?_
          refine lv_iload_n hx hb d_Blocks_set_29 rfl (lv_at hl 2 rfl) ?_
          refine lv_iadd hx hb d_Blocks_set_30 ?_
          refine lv_iload_n hx hb d_Blocks_set_31 rfl (lv_at hl 3 rfl) ?_
          refine lv_i2b hx hb d_Blocks_set_32 rfl ?_
          obtain ⟨h5, hJ⟩ := j_g hJ
          refine va_bast hx hb hK hP (hDa _) hS 2 0 rfl rfl (j_in h5) d_Blocks_set_33 (fun H locs hP _ hS => ?_)
          rw [by_upd] at hP
          have hP : va_P (dC, dI) cls (wZ ga cB cI (sz_D σ (va_up (z_D σ) ((a1 * (64 : Int32)) + a2).toNatClampNeg a3.toInt8.toInt32.toInt8))) H := hP
          have hJ := Option.some.inj hJ
          exact W.vret hx hb hr (fun t ht hW => ⟨⟨(), rfl, trivial, kW_end hP hK ht hW (congrArg (fun z => wZ ga cB cI z) hJ)⟩, hS.F ht⟩) hS.2.2 d_Blocks_set_34
def J_Blocks_get_d (σ : CS) (a1 : Int32) (a2 : Int32) : Option (Int32) :=
  (if a1 < (0 : Int32) then some (0 : Int32) else (if (128 : Int32) ≤ a1 then some (0 : Int32) else (if a2 < (0 : Int32) then some (0 : Int32) else (if a2 < (64 : Int32) then (if jin ((a1 * (64 : Int32)) + a2) 8192 = true then some (((c_D σ) ((a1 * (64 : Int32)) + a2).toNatClampNeg).toInt32 &&& (255 : Int32)) else none) else some (0 : Int32)))))
abbrev rm_Blocks_get_d : Room := { frames := 0, cells := 0, slots := 0, locals := 0 }
set_option maxHeartbeats 4000000 in
set_option maxRecDepth 100000 in
theorem c_Blocks_get_d {l : Launch} {dC : Nat → ClassId} {dI : Nat → Nat → Nat} {ga : Nat → Nat} {cB cI : ClassId} {A : Nat → Prop} (hDa : ∀ σ, va_D A (wC ga cB cI σ)) {σ : CS} {a1 : Int32} {a2 : Int32} {res : Int32} (hJ : J_Blocks_get_d σ a1 a2 = some res) :
    Met l y_Blocks_get (mw y_Blocks_get b_Blocks_get 3 (some .int)) rm_Blocks_get_d (va_Pc [.ref (ga 4), .int a1, .int a2] (kW (dC, dI) (tC cB cI) (wC ga cB cI σ))) (va_Qi (fun (x : Int32) (_ : Unit) => x = res) (fun _ t => kW (dC, dI) (tC cB cI) (wC ga cB cI σ) t) A) 0 0 A := by
  refine Met.ofW (cc := b_Blocks_get) (maxL := 3) (ret := (some .int)) (by decide) rfl ?_
  intro p e s m args below meth c s₁ B hml hv
  obtain ⟨rfl, hP, hK⟩ := hv
  have hx := B.exec
  have hb := B.bytes
  have hr := B.returns
  have hts := atoms_spec (ws := (mw y_Blocks_get b_Blocks_get 3 (some .int))) B.pre
  have htb : ∀ w ∈ tb, w.before [.ref (ga 4), .int a1, .int a2].toArray s = true := fun w h => hts w (mwIn h)
  have hown : s.vm.findClass "LogFs$Blocks" = some m.cls := findClass_of_methodNamed B.named
  have hlocks := B.notSynchronized
  have hS : va_S A s.heap s.heap [] := va_S.rf
  have hl := lv_entry ([.ref (ga 4), .int a1, .int a2]) (n := 3) (Nat.le_of_ble_eq_true rfl)
  rw [lg_entry_eq]
  generalize (lg_sl ([.ref (ga 4), .int a1, .int a2]) ++ List.replicate (3 - (lg_sl ([.ref (ga 4), .int a1, .int a2])).length) Slot.unset).toArray = ls at hl ⊢
  have hl : lv_has ls 3 [(0, .ref (ga 4)), (1, .int a1), (2, .int a2)] := hl
  unfold J_Blocks_get_d at hJ
  refine lv_iload_n hx hb d_Blocks_get_0 rfl (lv_at hl 1 rfl) ?_
  refine lv_if_lt (tgt := 21) hx hb d_Blocks_get_1 (by decide) (fun h1 => ?_) (fun h1 => ?_)
  · have hJ := j_t hJ h1
    refine lv_iconst (v := (0 : Int32)) hx hb d_Blocks_get_21 (by decide) ?_
    have hJ := Option.some.inj hJ
    exact W.iret (v := (0 : Int32)) hx hb hr (fun t ht hW => ⟨⟨_, (), rfl, hJ, kW_end hP hK ht hW rfl⟩, hS.F ht⟩) hS.2.2 d_Blocks_get_22
  · have hJ := j_f hJ h1
    refine lv_iload_n hx hb d_Blocks_get_4 rfl (lv_at hl 1 rfl) ?_
    refine lv_sipush (v := (128 : Int32)) hx hb d_Blocks_get_5 (by decide) ?_
    refine lv_icmp_ge (tgt := 21) hx hb d_Blocks_get_8 (by decide) (fun h2 => ?_) (fun h2 => ?_)
    · have hJ := j_t hJ h2
      refine lv_iconst (v := (0 : Int32)) hx hb d_Blocks_get_21 (by decide) ?_
      have hJ := Option.some.inj hJ
      exact W.iret (v := (0 : Int32)) hx hb hr (fun t ht hW => ⟨⟨_, (), rfl, hJ, kW_end hP hK ht hW rfl⟩, hS.F ht⟩) hS.2.2 d_Blocks_get_22
    · have hJ := j_f hJ h2
      refine lv_iload_n hx hb d_Blocks_get_11 rfl (lv_at hl 2 rfl) ?_
      refine lv_if_lt (tgt := 21) hx hb d_Blocks_get_12 (by decide) (fun h3 => ?_) (fun h3 => ?_)
      · have hJ := j_t hJ h3
        refine lv_iconst (v := (0 : Int32)) hx hb d_Blocks_get_21 (by decide) ?_
        have hJ := Option.some.inj hJ
        exact W.iret (v := (0 : Int32)) hx hb hr (fun t ht hW => ⟨⟨_, (), rfl, hJ, kW_end hP hK ht hW rfl⟩, hS.F ht⟩) hS.2.2 d_Blocks_get_22
      · have hJ := j_f hJ h3
        refine lv_iload_n hx hb d_Blocks_get_15 rfl (lv_at hl 2 rfl) ?_
        refine lv_bipush (v := (64 : Int32)) hx hb d_Blocks_get_16 (by decide) ?_
        refine lv_icmp_lt (tgt := 23) hx hb d_Blocks_get_18 (by decide) (fun h4 => ?_) (fun h4 => ?_)
        · have hJ := j_t hJ h4
          refine lv_aload_n hx hb d_Blocks_get_23 rfl (lv_at hl 0 rfl) ?_
          refine va_get (D := (dC, dI)) (ci := 0) (v := .ref (ga 6)) (C := R_Blocks) (T := T_Blocks) (N := 1) hx hb htb uin_Blocks hown hK hP 4 rfl rfl 0 (by decide) (htb _ tw35) (fun _ h9 => h9) rfl d_Blocks_get_24 ?_
          refine lv_iload_n hx hb d_Blocks_get_27 rfl (lv_at hl 1 rfl) ?_
          refine lv_bipush (v := (64 : Int32)) hx hb d_Blocks_get_28 (by decide) ?_
          refine lv_imul hx hb d_Blocks_get_30 ?_
          refine lv_iload_n hx hb d_Blocks_get_31 rfl (lv_at hl 2 rfl) ?_
          refine lv_iadd hx hb d_Blocks_get_32 ?_
          obtain ⟨h5, hJ⟩ := j_g hJ
          refine va_bald hx hb hK hP 6 0 rfl rfl (j_in h5) d_Blocks_get_33 ?_
          refine lv_sipush (v := (255 : Int32)) hx hb d_Blocks_get_34 (by decide) ?_
          refine lv_iand hx hb d_Blocks_get_37 ?_
          have hJ := Option.some.inj hJ
          exact W.iret (v := (((c_D σ) ((a1 * (64 : Int32)) + a2).toNatClampNeg).toInt32 &&& (255 : Int32))) hx hb hr (fun t ht hW => ⟨⟨_, (), rfl, hJ, kW_end hP hK ht hW rfl⟩, hS.F ht⟩) hS.2.2 d_Blocks_get_38
        · have hJ := j_f hJ h4
          refine lv_iconst (v := (0 : Int32)) hx hb d_Blocks_get_21 (by decide) ?_
          have hJ := Option.some.inj hJ
          exact W.iret (v := (0 : Int32)) hx hb hr (fun t ht hW => ⟨⟨_, (), rfl, hJ, kW_end hP hK ht hW rfl⟩, hS.F ht⟩) hS.2.2 d_Blocks_get_22
def J_Blocks_set_d (σ : CS) (a1 : Int32) (a2 : Int32) (a3 : Int32) : Option (CS) :=
  (if a1 < (0 : Int32) then some σ else (if (128 : Int32) ≤ a1 then some σ else (if a2 < (0 : Int32) then some σ else (if (64 : Int32) ≤ a2 then some σ else (if jin ((a1 * (64 : Int32)) + a2) 8192 = true then some (s_D σ (va_up (c_D σ) ((a1 * (64 : Int32)) + a2).toNatClampNeg a3.toInt8.toInt32.toInt8)) else none)))))
abbrev rm_Blocks_set_d : Room := { frames := 0, cells := 0, slots := 0, locals := 0 }
set_option maxHeartbeats 4000000 in
set_option maxRecDepth 100000 in
theorem c_Blocks_set_d {l : Launch} {dC : Nat → ClassId} {dI : Nat → Nat → Nat} {ga : Nat → Nat} {cB cI : ClassId} {A : Nat → Prop} (hDa : ∀ σ, va_D A (wC ga cB cI σ)) {σ : CS} {a1 : Int32} {a2 : Int32} {a3 : Int32} {res : CS} (hJ : J_Blocks_set_d σ a1 a2 a3 = some res) :
    Met l y_Blocks_set (mw y_Blocks_set b_Blocks_set 4 none) rm_Blocks_set_d (va_Pc [.ref (ga 4), .int a1, .int a2, .int a3] (kW (dC, dI) (tC cB cI) (wC ga cB cI σ))) (va_Qv (fun (_ : Unit) => True) (fun _ t => kW (dC, dI) (tC cB cI) (wC ga cB cI res) t) A) 0 0 A := by
  refine Met.ofW (cc := b_Blocks_set) (maxL := 4) (ret := none) (by decide) rfl ?_
  intro p e s m args below meth c s₁ B hml hv
  obtain ⟨rfl, hP, hK⟩ := hv
  have hx := B.exec
  have hb := B.bytes
  have hr := B.returns
  have hts := atoms_spec (ws := (mw y_Blocks_set b_Blocks_set 4 none)) B.pre
  have htb : ∀ w ∈ tb, w.before [.ref (ga 4), .int a1, .int a2, .int a3].toArray s = true := fun w h => hts w (mwIn h)
  have hown : s.vm.findClass "LogFs$Blocks" = some m.cls := findClass_of_methodNamed B.named
  have hlocks := B.notSynchronized
  have hS : va_S A s.heap s.heap [] := va_S.rf
  have hl := lv_entry ([.ref (ga 4), .int a1, .int a2, .int a3]) (n := 4) (Nat.le_of_ble_eq_true rfl)
  rw [lg_entry_eq]
  generalize (lg_sl ([.ref (ga 4), .int a1, .int a2, .int a3]) ++ List.replicate (4 - (lg_sl ([.ref (ga 4), .int a1, .int a2, .int a3])).length) Slot.unset).toArray = ls at hl ⊢
  have hl : lv_has ls 4 [(0, .ref (ga 4)), (1, .int a1), (2, .int a2), (3, .int a3)] := hl
  unfold J_Blocks_set_d at hJ
  refine lv_iload_n hx hb d_Blocks_set_0 rfl (lv_at hl 1 rfl) ?_
  refine lv_if_lt (tgt := 34) hx hb d_Blocks_set_1 (by decide) (fun h1 => ?_) (fun h1 => ?_)
  · have hJ := j_t hJ h1
    have hJ := Option.some.inj hJ
    exact W.vret hx hb hr (fun t ht hW => ⟨⟨(), rfl, trivial, kW_end hP hK ht hW (congrArg (fun z => wC ga cB cI z) hJ)⟩, hS.F ht⟩) hS.2.2 d_Blocks_set_34
  · have hJ := j_f hJ h1
    refine lv_iload_n hx hb d_Blocks_set_4 rfl (lv_at hl 1 rfl) ?_
    refine lv_sipush (v := (128 : Int32)) hx hb d_Blocks_set_5 (by decide) ?_
    refine lv_icmp_ge (tgt := 34) hx hb d_Blocks_set_8 (by decide) (fun h2 => ?_) (fun h2 => ?_)
    · have hJ := j_t hJ h2
      have hJ := Option.some.inj hJ
      exact W.vret hx hb hr (fun t ht hW => ⟨⟨(), rfl, trivial, kW_end hP hK ht hW (congrArg (fun z => wC ga cB cI z) hJ)⟩, hS.F ht⟩) hS.2.2 d_Blocks_set_34
    · have hJ := j_f hJ h2
      refine lv_iload_n hx hb d_Blocks_set_11 rfl (lv_at hl 2 rfl) ?_
      refine lv_if_lt (tgt := 34) hx hb d_Blocks_set_12 (by decide) (fun h3 => ?_) (fun h3 => ?_)
      · have hJ := j_t hJ h3
        have hJ := Option.some.inj hJ
        exact W.vret hx hb hr (fun t ht hW => ⟨⟨(), rfl, trivial, kW_end hP hK ht hW (congrArg (fun z => wC ga cB cI z) hJ)⟩, hS.F ht⟩) hS.2.2 d_Blocks_set_34
      · have hJ := j_f hJ h3
        refine lv_iload_n hx hb d_Blocks_set_15 rfl (lv_at hl 2 rfl) ?_
        refine lv_bipush (v := (64 : Int32)) hx hb d_Blocks_set_16 (by decide) ?_
        refine lv_icmp_ge (tgt := 34) hx hb d_Blocks_set_18 (by decide) (fun h4 => ?_) (fun h4 => ?_)
        · have hJ := j_t hJ h4
          have hJ := Option.some.inj hJ
          exact W.vret hx hb hr (fun t ht hW => ⟨⟨(), rfl, trivial, kW_end hP hK ht hW (congrArg (fun z => wC ga cB cI z) hJ)⟩, hS.F ht⟩) hS.2.2 d_Blocks_set_34
        · have hJ := j_f hJ h4
          refine lv_aload_n hx hb d_Blocks_set_21 rfl (lv_at hl 0 rfl) ?_
          refine va_get (D := (dC, dI)) (ci := 0) (v := .ref (ga 6)) (C := R_Blocks) (T := T_Blocks) (N := 1) hx hb htb uin_Blocks hown hK hP 4 rfl rfl 0 (by decide) (htb _ tw35) (fun _ h9 => h9) rfl d_Blocks_set_22 ?_
          refine lv_iload_n hx hb d_Blocks_set_25 rfl (lv_at hl 1 rfl) ?_
          refine lv_bipush (v := (64 : Int32)) hx hb d_Blocks_set_26 (by decide) ?_
          refine lv_imul hx hb d_Blocks_set_28 ?_
          refine lv_iload_n hx hb d_Blocks_set_29 rfl (lv_at hl 2 rfl) ?_
          refine lv_iadd hx hb d_Blocks_set_30 ?_
          refine lv_iload_n hx hb d_Blocks_set_31 rfl (lv_at hl 3 rfl) ?_
          refine lv_i2b hx hb d_Blocks_set_32 rfl ?_
          obtain ⟨h5, hJ⟩ := j_g hJ
          refine va_bast hx hb hK hP (hDa _) hS 6 0 rfl rfl (j_in h5) d_Blocks_set_33 (fun H locs hP _ hS => ?_)
          rw [by_upd] at hP
          have hP : va_P (dC, dI) cls (wC ga cB cI (s_D σ (va_up (c_D σ) ((a1 * (64 : Int32)) + a2).toNatClampNeg a3.toInt8.toInt32.toInt8))) H := hP
          have hJ := Option.some.inj hJ
          exact W.vret hx hb hr (fun t ht hW => ⟨⟨(), rfl, trivial, kW_end hP hK ht hW (congrArg (fun z => wC ga cB cI z) hJ)⟩, hS.F ht⟩) hS.2.2 d_Blocks_set_34
def J_Blocks_get_m (σ : CS) (a1 : Int32) (a2 : Int32) : Option (Int32) :=
  (if a1 < (0 : Int32) then some (0 : Int32) else (if (128 : Int32) ≤ a1 then some (0 : Int32) else (if a2 < (0 : Int32) then some (0 : Int32) else (if a2 < (64 : Int32) then (if jin ((a1 * (64 : Int32)) + a2) 8192 = true then some (((c_M σ) ((a1 * (64 : Int32)) + a2).toNatClampNeg).toInt32 &&& (255 : Int32)) else none) else some (0 : Int32)))))
abbrev rm_Blocks_get_m : Room := { frames := 0, cells := 0, slots := 0, locals := 0 }
set_option maxHeartbeats 4000000 in
set_option maxRecDepth 100000 in
theorem c_Blocks_get_m {l : Launch} {dC : Nat → ClassId} {dI : Nat → Nat → Nat} {ga : Nat → Nat} {cB cI : ClassId} {A : Nat → Prop} (hDa : ∀ σ, va_D A (wC ga cB cI σ)) {σ : CS} {a1 : Int32} {a2 : Int32} {res : Int32} (hJ : J_Blocks_get_m σ a1 a2 = some res) :
    Met l y_Blocks_get (mw y_Blocks_get b_Blocks_get 3 (some .int)) rm_Blocks_get_m (va_Pc [.ref (ga 5), .int a1, .int a2] (kW (dC, dI) (tC cB cI) (wC ga cB cI σ))) (va_Qi (fun (x : Int32) (_ : Unit) => x = res) (fun _ t => kW (dC, dI) (tC cB cI) (wC ga cB cI σ) t) A) 0 0 A := by
  refine Met.ofW (cc := b_Blocks_get) (maxL := 3) (ret := (some .int)) (by decide) rfl ?_
  intro p e s m args below meth c s₁ B hml hv
  obtain ⟨rfl, hP, hK⟩ := hv
  have hx := B.exec
  have hb := B.bytes
  have hr := B.returns
  have hts := atoms_spec (ws := (mw y_Blocks_get b_Blocks_get 3 (some .int))) B.pre
  have htb : ∀ w ∈ tb, w.before [.ref (ga 5), .int a1, .int a2].toArray s = true := fun w h => hts w (mwIn h)
  have hown : s.vm.findClass "LogFs$Blocks" = some m.cls := findClass_of_methodNamed B.named
  have hlocks := B.notSynchronized
  have hS : va_S A s.heap s.heap [] := va_S.rf
  have hl := lv_entry ([.ref (ga 5), .int a1, .int a2]) (n := 3) (Nat.le_of_ble_eq_true rfl)
  rw [lg_entry_eq]
  generalize (lg_sl ([.ref (ga 5), .int a1, .int a2]) ++ List.replicate (3 - (lg_sl ([.ref (ga 5), .int a1, .int a2])).length) Slot.unset).toArray = ls at hl ⊢
  have hl : lv_has ls 3 [(0, .ref (ga 5)), (1, .int a1), (2, .int a2)] := hl
  unfold J_Blocks_get_m at hJ
  refine lv_iload_n hx hb d_Blocks_get_0 rfl (lv_at hl 1 rfl) ?_
  refine lv_if_lt (tgt := 21) hx hb d_Blocks_get_1 (by decide) (fun h1 => ?_) (fun h1 => ?_)
  · have hJ := j_t hJ h1
    refine lv_iconst (v := (0 : Int32)) hx hb d_Blocks_get_21 (by decide) ?_
    have hJ := Option.some.inj hJ
    exact W.iret (v := (0 : Int32)) hx hb hr (fun t ht hW => ⟨⟨_, (), rfl, hJ, kW_end hP hK ht hW rfl⟩, hS.F ht⟩) hS.2.2 d_Blocks_get_22
  · have hJ := j_f hJ h1
    refine lv_iload_n hx hb d_Blocks_get_4 rfl (lv_at hl 1 rfl) ?_
    refine lv_sipush (v := (128 : Int32)) hx hb d_Blocks_get_5 (by decide) ?_
    refine lv_icmp_ge (tgt := 21) hx hb d_Blocks_get_8 (by decide) (fun h2 => ?_) (fun h2 => ?_)
    · have hJ := j_t hJ h2
      refine lv_iconst (v := (0 : Int32)) hx hb d_Blocks_get_21 (by decide) ?_
      have hJ := Option.some.inj hJ
      exact W.iret (v := (0 : Int32)) hx hb hr (fun t ht hW => ⟨⟨_, (), rfl, hJ, kW_end hP hK ht hW rfl⟩, hS.F ht⟩) hS.2.2 d_Blocks_get_22
    · have hJ := j_f hJ h2
      refine lv_iload_n hx hb d_Blocks_get_11 rfl (lv_at hl 2 rfl) ?_
      refine lv_if_lt (tgt := 21) hx hb d_Blocks_get_12 (by decide) (fun h3 => ?_) (fun h3 => ?_)
      · have hJ := j_t hJ h3
        refine lv_iconst (v := (0 : Int32)) hx hb d_Blocks_get_21 (by decide) ?_
        have hJ := Option.some.inj hJ
        exact W.iret (v := (0 : Int32)) hx hb hr (fun t ht hW => ⟨⟨_, (), rfl, hJ, kW_end hP hK ht hW rfl⟩, hS.F ht⟩) hS.2.2 d_Blocks_get_22
      · have hJ := j_f hJ h3
        refine lv_iload_n hx hb d_Blocks_get_15 rfl (lv_at hl 2 rfl) ?_
        refine lv_bipush (v := (64 : Int32)) hx hb d_Blocks_get_16 (by decide) ?_
        refine lv_icmp_lt (tgt := 23) hx hb d_Blocks_get_18 (by decide) (fun h4 => ?_) (fun h4 => ?_)
        · have hJ := j_t hJ h4
          refine lv_aload_n hx hb d_Blocks_get_23 rfl (lv_at hl 0 rfl) ?_
          refine va_get (D := (dC, dI)) (ci := 0) (v := .ref (ga 7)) (C := R_Blocks) (T := T_Blocks) (N := 1) hx hb htb uin_Blocks hown hK hP 5 rfl rfl 0 (by decide) (htb _ tw35) (fun _ h9 => h9) rfl d_Blocks_get_24 ?_
          refine lv_iload_n hx hb d_Blocks_get_27 rfl (lv_at hl 1 rfl) ?_
          refine lv_bipush (v := (64 : Int32)) hx hb d_Blocks_get_28 (by decide) ?_
          refine lv_imul hx hb d_Blocks_get_30 ?_
          refine lv_iload_n hx hb d_Blocks_get_31 rfl (lv_at hl 2 rfl) ?_
          refine lv_iadd hx hb d_Blocks_get_32 ?_
          obtain ⟨h5, hJ⟩ := j_g hJ
          refine va_bald hx hb hK hP 7 0 rfl rfl (j_in h5) d_Blocks_get_33 ?_
          refine lv_sipush (v := (255 : Int32)) hx hb d_Blocks_get_34 (by decide) ?_
          refine lv_iand hx hb d_Blocks_get_37 ?_
          have hJ := Option.some.inj hJ
          exact W.iret (v := (((c_M σ) ((a1 * (64 : Int32)) + a2).toNatClampNeg).toInt32 &&& (255 : Int32))) hx hb hr (fun t ht hW => ⟨⟨_, (), rfl, hJ, kW_end hP hK ht hW rfl⟩, hS.F ht⟩) hS.2.2 d_Blocks_get_38
        · have hJ := j_f hJ h4
          refine lv_iconst (v := (0 : Int32)) hx hb d_Blocks_get_21 (by decide) ?_
          have hJ := Option.some.inj hJ
          exact W.iret (v := (0 : Int32)) hx hb hr (fun t ht hW => ⟨⟨_, (), rfl, hJ, kW_end hP hK ht hW rfl⟩, hS.F ht⟩) hS.2.2 d_Blocks_get_22
def J_Blocks_set_m (σ : CS) (a1 : Int32) (a2 : Int32) (a3 : Int32) : Option (CS) :=
  (if a1 < (0 : Int32) then some σ else (if (128 : Int32) ≤ a1 then some σ else (if a2 < (0 : Int32) then some σ else (if (64 : Int32) ≤ a2 then some σ else (if jin ((a1 * (64 : Int32)) + a2) 8192 = true then some (s_M σ (va_up (c_M σ) ((a1 * (64 : Int32)) + a2).toNatClampNeg a3.toInt8.toInt32.toInt8)) else none)))))
abbrev rm_Blocks_set_m : Room := { frames := 0, cells := 0, slots := 0, locals := 0 }
set_option maxHeartbeats 4000000 in
set_option maxRecDepth 100000 in
theorem c_Blocks_set_m {l : Launch} {dC : Nat → ClassId} {dI : Nat → Nat → Nat} {ga : Nat → Nat} {cB cI : ClassId} {A : Nat → Prop} (hDa : ∀ σ, va_D A (wC ga cB cI σ)) {σ : CS} {a1 : Int32} {a2 : Int32} {a3 : Int32} {res : CS} (hJ : J_Blocks_set_m σ a1 a2 a3 = some res) :
    Met l y_Blocks_set (mw y_Blocks_set b_Blocks_set 4 none) rm_Blocks_set_m (va_Pc [.ref (ga 5), .int a1, .int a2, .int a3] (kW (dC, dI) (tC cB cI) (wC ga cB cI σ))) (va_Qv (fun (_ : Unit) => True) (fun _ t => kW (dC, dI) (tC cB cI) (wC ga cB cI res) t) A) 0 0 A := by
  refine Met.ofW (cc := b_Blocks_set) (maxL := 4) (ret := none) (by decide) rfl ?_
  intro p e s m args below meth c s₁ B hml hv
  obtain ⟨rfl, hP, hK⟩ := hv
  have hx := B.exec
  have hb := B.bytes
  have hr := B.returns
  have hts := atoms_spec (ws := (mw y_Blocks_set b_Blocks_set 4 none)) B.pre
  have htb : ∀ w ∈ tb, w.before [.ref (ga 5), .int a1, .int a2, .int a3].toArray s = true := fun w h => hts w (mwIn h)
  have hown : s.vm.findClass "LogFs$Blocks" = some m.cls := findClass_of_methodNamed B.named
  have hlocks := B.notSynchronized
  have hS : va_S A s.heap s.heap [] := va_S.rf
  have hl := lv_entry ([.ref (ga 5), .int a1, .int a2, .int a3]) (n := 4) (Nat.le_of_ble_eq_true rfl)
  rw [lg_entry_eq]
  generalize (lg_sl ([.ref (ga 5), .int a1, .int a2, .int a3]) ++ List.replicate (4 - (lg_sl ([.ref (ga 5), .int a1, .int a2, .int a3])).length) Slot.unset).toArray = ls at hl ⊢
  have hl : lv_has ls 4 [(0, .ref (ga 5)), (1, .int a1), (2, .int a2), (3, .int a3)] := hl
  unfold J_Blocks_set_m at hJ
  refine lv_iload_n hx hb d_Blocks_set_0 rfl (lv_at hl 1 rfl) ?_
  refine lv_if_lt (tgt := 34) hx hb d_Blocks_set_1 (by decide) (fun h1 => ?_) (fun h1 => ?_)
  · have hJ := j_t hJ h1
    have hJ := Option.some.inj hJ
    exact W.vret hx hb hr (fun t ht hW => ⟨⟨(), rfl, trivial, kW_end hP hK ht hW (congrArg (fun z => wC ga cB cI z) hJ)⟩, hS.F ht⟩) hS.2.2 d_Blocks_set_34
  · have hJ := j_f hJ h1
    refine lv_iload_n hx hb d_Blocks_set_4 rfl (lv_at hl 1 rfl) ?_
    refine lv_sipush (v := (128 : Int32)) hx hb d_Blocks_set_5 (by decide) ?_
    refine lv_icmp_ge (tgt := 34) hx hb d_Blocks_set_8 (by decide) (fun h2 => ?_) (fun h2 => ?_)
    · have hJ := j_t hJ h2
      have hJ := Option.some.inj hJ
      exact W.vret hx hb hr (fun t ht hW => ⟨⟨(), rfl, trivial, kW_end hP hK ht hW (congrArg (fun z => wC ga cB cI z) hJ)⟩, hS.F ht⟩) hS.2.2 d_Blocks_set_34
    · have hJ := j_f hJ h2
      refine lv_iload_n hx hb d_Blocks_set_11 rfl (lv_at hl 2 rfl) ?_
      refine lv_if_lt (tgt := 34) hx hb d_Blocks_set_12 (by decide) (fun h3 => ?_) (fun h3 => ?_)
      · have hJ := j_t hJ h3
        have hJ := Option.some.inj hJ
        exact W.vret hx hb hr (fun t ht hW => ⟨⟨(), rfl, trivial, kW_end hP hK ht hW (congrArg (fun z => wC ga cB cI z) hJ)⟩, hS.F ht⟩) hS.2.2 d_Blocks_set_34
      · have hJ := j_f hJ h3
        refine lv_iload_n hx hb d_Blocks_set_15 rfl (lv_at hl 2 rfl) ?_
        refine lv_bipush (v := (64 : Int32)) hx hb d_Blocks_set_16 (by decide) ?_
        refine lv_icmp_ge (tgt := 34) hx hb d_Blocks_set_18 (by decide) (fun h4 => ?_) (fun h4 => ?_)
        · have hJ := j_t hJ h4
          have hJ := Option.some.inj hJ
          exact W.vret hx hb hr (fun t ht hW => ⟨⟨(), rfl, trivial, kW_end hP hK ht hW (congrArg (fun z => wC ga cB cI z) hJ)⟩, hS.F ht⟩) hS.2.2 d_Blocks_set_34
        · have hJ := j_f hJ h4
          refine lv_aload_n hx hb d_Blocks_set_21 rfl (lv_at hl 0 rfl) ?_
          refine va_get (D := (dC, dI)) (ci := 0) (v := .ref (ga 7)) (C := R_Blocks) (T := T_Blocks) (N := 1) hx hb htb uin_Blocks hown hK hP 5 rfl rfl 0 (by decide) (htb _ tw35) (fun _ h9 => h9) rfl d_Blocks_set_22 ?_
          refine lv_iload_n hx hb d_Blocks_set_25 rfl (lv_at hl 1 rfl) ?_
          refine lv_bipush (v := (64 : Int32)) hx hb d_Blocks_set_26 (by decide) ?_
          refine lv_imul hx hb d_Blocks_set_28 ?_
          refine lv_iload_n hx hb d_Blocks_set_29 rfl (lv_at hl 2 rfl) ?_
          refine lv_iadd hx hb d_Blocks_set_30 ?_
          refine lv_iload_n hx hb d_Blocks_set_31 rfl (lv_at hl 3 rfl) ?_
          refine lv_i2b hx hb d_Blocks_set_32 rfl ?_
          obtain ⟨h5, hJ⟩ := j_g hJ
          refine va_bast hx hb hK hP (hDa _) hS 7 0 rfl rfl (j_in h5) d_Blocks_set_33 (fun H locs hP _ hS => ?_)
          rw [by_upd] at hP
          have hP : va_P (dC, dI) cls (wC ga cB cI (s_M σ (va_up (c_M σ) ((a1 * (64 : Int32)) + a2).toNatClampNeg a3.toInt8.toInt32.toInt8))) H := hP
          have hJ := Option.some.inj hJ
          exact W.vret hx hb hr (fun t ht hW => ⟨⟨(), rfl, trivial, kW_end hP hK ht hW (congrArg (fun z => wC ga cB cI z) hJ)⟩, hS.F ht⟩) hS.2.2 d_Blocks_set_34
def J_Blocks_clear_d_2_b (k : CS → Int32 → Int32 → Option (CS)) (σ : CS) (v1 : Int32) (v2 : Int32) : Option (CS) :=
  (if (64 : Int32) ≤ v2 then some σ else (J_Blocks_set_d σ v1 v2 (0 : Int32)).bind fun x2 => k x2 v1 (v2 + (1 : Int32)))
def J_Blocks_clear_d_2 : Nat → CS → Int32 → Int32 → Option (CS)
  | 0, _, _, _ => none
  | n + 1, σ, v1, v2 => J_Blocks_clear_d_2_b (J_Blocks_clear_d_2 n) σ v1 v2
def J_Blocks_clear_d (σ : CS) (a1 : Int32) : Option (CS) :=
  J_Blocks_clear_d_2 9000 σ a1 (0 : Int32)
abbrev rm_Blocks_clear_d : Room := { frames := 1, cells := 0, slots := 0, locals := 23 }
set_option maxHeartbeats 4000000 in
set_option maxRecDepth 100000 in
theorem c_Blocks_clear_d {l : Launch} {dC : Nat → ClassId} {dI : Nat → Nat → Nat} {ga : Nat → Nat} {cB cI : ClassId} {A : Nat → Prop} (hDa : ∀ σ, va_D A (wC ga cB cI σ)) {σ : CS} {a1 : Int32} {res : CS} (hJ : J_Blocks_clear_d σ a1 = some res) :
    Met l y_Blocks_clear (mw y_Blocks_clear b_Blocks_clear 3 none) rm_Blocks_clear_d (va_Pc [.ref (ga 4), .int a1] (kW (dC, dI) (tC cB cI) (wC ga cB cI σ))) (va_Qv (fun (_ : Unit) => True) (fun _ t => kW (dC, dI) (tC cB cI) (wC ga cB cI res) t) A) 0 0 A := by
  refine Met.ofW (cc := b_Blocks_clear) (maxL := 3) (ret := none) (by decide) rfl ?_
  intro p e s m args below meth c s₁ B hml hv
  obtain ⟨rfl, hP, hK⟩ := hv
  have hx := B.exec
  have hb := B.bytes
  have hr := B.returns
  have hts := atoms_spec (ws := (mw y_Blocks_clear b_Blocks_clear 3 none)) B.pre
  have htb : ∀ w ∈ tb, w.before [.ref (ga 4), .int a1].toArray s = true := fun w h => hts w (mwIn h)
  have hown : s.vm.findClass "LogFs$Blocks" = some m.cls := findClass_of_methodNamed B.named
  have hlocks := B.notSynchronized
  have hS : va_S A s.heap s.heap [] := va_S.rf
  have hl := lv_entry ([.ref (ga 4), .int a1]) (n := 3) (Nat.le_of_ble_eq_true rfl)
  rw [lg_entry_eq]
  generalize (lg_sl ([.ref (ga 4), .int a1]) ++ List.replicate (3 - (lg_sl ([.ref (ga 4), .int a1])).length) Slot.unset).toArray = ls at hl ⊢
  have hl : lv_has ls 3 [(0, .ref (ga 4)), (1, .int a1)] := hl
  have blk2 : ∀ (n : Nat) (σ : CS) (v1 : Int32) (v2 : Int32) (ls : Array Slot) (H : Heap) (locs : List Loc), J_Blocks_clear_d_2 n σ v1 v2 = some res → lv_has ls 3 [(0, .ref (ga 4)), (1, .int v1), (2, .int v2)] → va_P (dC, dI) cls (wC ga cB cI σ) H → va_S A s.heap H locs → W p l e (headSpec (mw y_Blocks_clear b_Blocks_clear 3 none) rm_Blocks_clear_d).room s m [.ref (ga 4), .int a1].toArray below meth c H locs 0 0 (MQ below (va_Qv (fun (_ : Unit) => True) (fun _ t => kW (dC, dI) (tC cB cI) (wC ga cB cI res) t) A) [.ref (ga 4), .int a1].toArray s 0 0 A) (F0 m 2 ls []) := by
    intro n
    induction n with
    | zero => intro σ v1 v2 ls H locs hJ; exact j_none hJ
    | succ n hk =>
      intro σ v1 v2 ls H locs hJ hl hP hS
      have hJ : J_Blocks_clear_d_2_b (J_Blocks_clear_d_2 n) σ v1 v2 = some res := hJ
      unfold J_Blocks_clear_d_2_b at hJ
      refine lv_iload_n hx hb d_Blocks_clear_2 rfl (lv_at hl 2 rfl) ?_
      refine lv_bipush (v := (64 : Int32)) hx hb d_Blocks_clear_3 (by decide) ?_
      refine lv_icmp_ge (tgt := 21) hx hb d_Blocks_clear_5 (by decide) (fun h1 => ?_) (fun h1 => ?_)
      · have hJ := j_t hJ h1
        have hJ := Option.some.inj hJ
        exact W.vret hx hb hr (fun t ht hW => ⟨⟨(), rfl, trivial, kW_end hP hK ht hW (congrArg (fun z => wC ga cB cI z) hJ)⟩, hS.F ht⟩) hS.2.2 d_Blocks_clear_21
      · have hJ := j_f hJ h1
        refine lv_aload_n hx hb d_Blocks_clear_8 rfl (lv_at hl 0 rfl) ?_
        refine lv_iload_n hx hb d_Blocks_clear_9 rfl (lv_at hl 1 rfl) ?_
        refine lv_iload_n hx hb d_Blocks_clear_10 rfl (lv_at hl 2 rfl) ?_
        refine lv_iconst (v := (0 : Int32)) hx hb d_Blocks_clear_11 (by decide) ?_
        obtain ⟨x2, e2, hJ⟩ := j_bind hJ
        refine va_callv (va_runV (As := [.int v1, .int v2, .int (0 : Int32)]) (rest := []) ⟨hx, hb, hml, hown, htb⟩ (c_Blocks_set_d (l := l) (dC := dC) (dI := dI) hDa e2) (xcV 3 htb tw43 tw3 tw339 tw41 tw42 rfl rfl hd_Blocks_set ⟨Nat.le_of_ble_eq_true rfl, Nat.le_of_ble_eq_true rfl⟩) (kW_V hP hK (va_recv (q0 := 4) (ci := 0) hK hP rfl rfl)) rfl rfl hl.1 rfl (lv_room (Nat.le_of_ble_eq_true rfl)) d_Blocks_clear_12 ⟨Nat.le_of_ble_eq_true rfl, Nat.le_of_ble_eq_true rfl⟩) hS (fun q _ h => h) (fun q h => h) (fun u t H locs ht hvm hw hB _ _ hS => ?_)
        have hP := kW_P hB ht
        refine lv_iinc (k := 2) (v := (v2 + (1 : Int32))) hx hb d_Blocks_clear_15 hl rfl rfl (Nat.le_of_ble_eq_true rfl) rfl (fun ls hl => ?_)
        have hl : lv_has ls 3 [(2, .int (v2 + (1 : Int32))), (0, .ref (ga 4)), (1, .int v1)] := hl
        refine lv_goto (tgt := 2) hx hb d_Blocks_clear_18 (by decide) ?_
        exact hk _ _ _ _ _ _ hJ (lv_sub hl [1, 2, 0] rfl) hP hS
  unfold J_Blocks_clear_d at hJ
  refine lv_iconst (v := (0 : Int32)) hx hb d_Blocks_clear_0 (by decide) ?_
  refine lv_istore_n hx hb d_Blocks_clear_1 rfl hl (Nat.le_of_ble_eq_true rfl) rfl (fun ls hl => ?_)
  have hl : lv_has ls 3 [(2, .int (0 : Int32)), (0, .ref (ga 4)), (1, .int a1)] := hl
  exact blk2 9000 _ _ _ _ _ _ hJ (lv_sub hl [1, 2, 0] rfl) hP hS
def J_Blocks_clear_m_2_b (k : CS → Int32 → Int32 → Option (CS)) (σ : CS) (v1 : Int32) (v2 : Int32) : Option (CS) :=
  (if (64 : Int32) ≤ v2 then some σ else (J_Blocks_set_m σ v1 v2 (0 : Int32)).bind fun x2 => k x2 v1 (v2 + (1 : Int32)))
def J_Blocks_clear_m_2 : Nat → CS → Int32 → Int32 → Option (CS)
  | 0, _, _, _ => none
  | n + 1, σ, v1, v2 => J_Blocks_clear_m_2_b (J_Blocks_clear_m_2 n) σ v1 v2
def J_Blocks_clear_m (σ : CS) (a1 : Int32) : Option (CS) :=
  J_Blocks_clear_m_2 9000 σ a1 (0 : Int32)
abbrev rm_Blocks_clear_m : Room := { frames := 1, cells := 0, slots := 0, locals := 23 }
set_option maxHeartbeats 4000000 in
set_option maxRecDepth 100000 in
theorem c_Blocks_clear_m {l : Launch} {dC : Nat → ClassId} {dI : Nat → Nat → Nat} {ga : Nat → Nat} {cB cI : ClassId} {A : Nat → Prop} (hDa : ∀ σ, va_D A (wC ga cB cI σ)) {σ : CS} {a1 : Int32} {res : CS} (hJ : J_Blocks_clear_m σ a1 = some res) :
    Met l y_Blocks_clear (mw y_Blocks_clear b_Blocks_clear 3 none) rm_Blocks_clear_m (va_Pc [.ref (ga 5), .int a1] (kW (dC, dI) (tC cB cI) (wC ga cB cI σ))) (va_Qv (fun (_ : Unit) => True) (fun _ t => kW (dC, dI) (tC cB cI) (wC ga cB cI res) t) A) 0 0 A := by
  refine Met.ofW (cc := b_Blocks_clear) (maxL := 3) (ret := none) (by decide) rfl ?_
  intro p e s m args below meth c s₁ B hml hv
  obtain ⟨rfl, hP, hK⟩ := hv
  have hx := B.exec
  have hb := B.bytes
  have hr := B.returns
  have hts := atoms_spec (ws := (mw y_Blocks_clear b_Blocks_clear 3 none)) B.pre
  have htb : ∀ w ∈ tb, w.before [.ref (ga 5), .int a1].toArray s = true := fun w h => hts w (mwIn h)
  have hown : s.vm.findClass "LogFs$Blocks" = some m.cls := findClass_of_methodNamed B.named
  have hlocks := B.notSynchronized
  have hS : va_S A s.heap s.heap [] := va_S.rf
  have hl := lv_entry ([.ref (ga 5), .int a1]) (n := 3) (Nat.le_of_ble_eq_true rfl)
  rw [lg_entry_eq]
  generalize (lg_sl ([.ref (ga 5), .int a1]) ++ List.replicate (3 - (lg_sl ([.ref (ga 5), .int a1])).length) Slot.unset).toArray = ls at hl ⊢
  have hl : lv_has ls 3 [(0, .ref (ga 5)), (1, .int a1)] := hl
  have blk2 : ∀ (n : Nat) (σ : CS) (v1 : Int32) (v2 : Int32) (ls : Array Slot) (H : Heap) (locs : List Loc), J_Blocks_clear_m_2 n σ v1 v2 = some res → lv_has ls 3 [(0, .ref (ga 5)), (1, .int v1), (2, .int v2)] → va_P (dC, dI) cls (wC ga cB cI σ) H → va_S A s.heap H locs → W p l e (headSpec (mw y_Blocks_clear b_Blocks_clear 3 none) rm_Blocks_clear_m).room s m [.ref (ga 5), .int a1].toArray below meth c H locs 0 0 (MQ below (va_Qv (fun (_ : Unit) => True) (fun _ t => kW (dC, dI) (tC cB cI) (wC ga cB cI res) t) A) [.ref (ga 5), .int a1].toArray s 0 0 A) (F0 m 2 ls []) := by
    intro n
    induction n with
    | zero => intro σ v1 v2 ls H locs hJ; exact j_none hJ
    | succ n hk =>
      intro σ v1 v2 ls H locs hJ hl hP hS
      have hJ : J_Blocks_clear_m_2_b (J_Blocks_clear_m_2 n) σ v1 v2 = some res := hJ
      unfold J_Blocks_clear_m_2_b at hJ
      refine lv_iload_n hx hb d_Blocks_clear_2 rfl (lv_at hl 2 rfl) ?_
      refine lv_bipush (v := (64 : Int32)) hx hb d_Blocks_clear_3 (by decide) ?_
      refine lv_icmp_ge (tgt := 21) hx hb d_Blocks_clear_5 (by decide) (fun h1 => ?_) (fun h1 => ?_)
      · have hJ := j_t hJ h1
        have hJ := Option.some.inj hJ
        exact W.vret hx hb hr (fun t ht hW => ⟨⟨(), rfl, trivial, kW_end hP hK ht hW (congrArg (fun z => wC ga cB cI z) hJ)⟩, hS.F ht⟩) hS.2.2 d_Blocks_clear_21
      · have hJ := j_f hJ h1
        refine lv_aload_n hx hb d_Blocks_clear_8 rfl (lv_at hl 0 rfl) ?_
        refine lv_iload_n hx hb d_Blocks_clear_9 rfl (lv_at hl 1 rfl) ?_
        refine lv_iload_n hx hb d_Blocks_clear_10 rfl (lv_at hl 2 rfl) ?_
        refine lv_iconst (v := (0 : Int32)) hx hb d_Blocks_clear_11 (by decide) ?_
        obtain ⟨x2, e2, hJ⟩ := j_bind hJ
        refine va_callv (va_runV (As := [.int v1, .int v2, .int (0 : Int32)]) (rest := []) ⟨hx, hb, hml, hown, htb⟩ (c_Blocks_set_m (l := l) (dC := dC) (dI := dI) hDa e2) (xcV 3 htb tw43 tw3 tw339 tw41 tw42 rfl rfl hd_Blocks_set ⟨Nat.le_of_ble_eq_true rfl, Nat.le_of_ble_eq_true rfl⟩) (kW_V hP hK (va_recv (q0 := 5) (ci := 0) hK hP rfl rfl)) rfl rfl hl.1 rfl (lv_room (Nat.le_of_ble_eq_true rfl)) d_Blocks_clear_12 ⟨Nat.le_of_ble_eq_true rfl, Nat.le_of_ble_eq_true rfl⟩) hS (fun q _ h => h) (fun q h => h) (fun u t H locs ht hvm hw hB _ _ hS => ?_)
        have hP := kW_P hB ht
        refine lv_iinc (k := 2) (v := (v2 + (1 : Int32))) hx hb d_Blocks_clear_15 hl rfl rfl (Nat.le_of_ble_eq_true rfl) rfl (fun ls hl => ?_)
        have hl : lv_has ls 3 [(2, .int (v2 + (1 : Int32))), (0, .ref (ga 5)), (1, .int v1)] := hl
        refine lv_goto (tgt := 2) hx hb d_Blocks_clear_18 (by decide) ?_
        exact hk _ _ _ _ _ _ hJ (lv_sub hl [1, 2, 0] rfl) hP hS
  unfold J_Blocks_clear_m at hJ
  refine lv_iconst (v := (0 : Int32)) hx hb d_Blocks_clear_0 (by decide) ?_
  refine lv_istore_n hx hb d_Blocks_clear_1 rfl hl (Nat.le_of_ble_eq_true rfl) rfl (fun ls hl => ?_)
  have hl : lv_has ls 3 [(2, .int (0 : Int32)), (0, .ref (ga 5)), (1, .int a1)] := hl
  exact blk2 9000 _ _ _ _ _ _ hJ (lv_sub hl [1, 2, 0] rfl) hP hS
def J_Blocks_copyBlock_md (σ : CS) (a1 : Int32) (a2 : Int32) : Option (CS) :=
  (if a1 < (0 : Int32) then some σ else (if (128 : Int32) ≤ a1 then some σ else (if a2 < (0 : Int32) then some σ else (if (128 : Int32) ≤ a2 then some σ else (if jcp (a1 * (64 : Int32)) (a2 * (64 : Int32)) (64 : Int32) 8192 8192 = true then some (s_D σ (va_cpy (c_M σ) (c_D σ) (a1 * (64 : Int32)).toNatClampNeg (a2 * (64 : Int32)).toNatClampNeg (64 : Int32).toNatClampNeg)) else none)))))
abbrev rm_Blocks_copyBlock_md : Room := { frames := 1, cells := 0, slots := 0, locals := 26 }
set_option maxHeartbeats 4000000 in
set_option maxRecDepth 100000 in
theorem c_Blocks_copyBlock_md {l : Launch} {dC : Nat → ClassId} {dI : Nat → Nat → Nat} {ga : Nat → Nat} {cB cI : ClassId} {A : Nat → Prop} (hDa : ∀ σ, va_D A (wC ga cB cI σ)) {σ : CS} {a1 : Int32} {a2 : Int32} {res : CS} (hJ : J_Blocks_copyBlock_md σ a1 a2 = some res) :
    Met l y_Blocks_copyBlock (mw y_Blocks_copyBlock b_Blocks_copyBlock 4 none) rm_Blocks_copyBlock_md (va_Pc [.ref (ga 4), .ref (ga 5), .int a1, .int a2] (kW (dC, dI) (tC cB cI) (wC ga cB cI σ))) (va_Qv (fun (_ : Unit) => True) (fun _ t => kW (dC, dI) (tC cB cI) (wC ga cB cI res) t) A) 0 0 A := by
  refine Met.ofW (cc := b_Blocks_copyBlock) (maxL := 4) (ret := none) (by decide) rfl ?_
  intro p e s m args below meth c s₁ B hml hv
  obtain ⟨rfl, hP, hK⟩ := hv
  have hx := B.exec
  have hb := B.bytes
  have hr := B.returns
  have hts := atoms_spec (ws := (mw y_Blocks_copyBlock b_Blocks_copyBlock 4 none)) B.pre
  have htb : ∀ w ∈ tb, w.before [.ref (ga 4), .ref (ga 5), .int a1, .int a2].toArray s = true := fun w h => hts w (mwIn h)
  have hown : s.vm.findClass "LogFs$Blocks" = some m.cls := findClass_of_methodNamed B.named
  have hlocks := B.notSynchronized
  have hS : va_S A s.heap s.heap [] := va_S.rf
  have hl := lv_entry ([.ref (ga 4), .ref (ga 5), .int a1, .int a2]) (n := 4) (Nat.le_of_ble_eq_true rfl)
  rw [lg_entry_eq]
  generalize (lg_sl ([.ref (ga 4), .ref (ga 5), .int a1, .int a2]) ++ List.replicate (4 - (lg_sl ([.ref (ga 4), .ref (ga 5), .int a1, .int a2])).length) Slot.unset).toArray = ls at hl ⊢
  have hl : lv_has ls 4 [(0, .ref (ga 4)), (1, .ref (ga 5)), (2, .int a1), (3, .int a2)] := hl
  unfold J_Blocks_copyBlock_md at hJ
  refine lv_iload_n hx hb d_Blocks_copyBlock_0 rfl (lv_at hl 2 rfl) ?_
  refine lv_if_lt (tgt := 43) hx hb d_Blocks_copyBlock_1 (by decide) (fun h1 => ?_) (fun h1 => ?_)
  · have hJ := j_t hJ h1
    have hJ := Option.some.inj hJ
    exact W.vret hx hb hr (fun t ht hW => ⟨⟨(), rfl, trivial, kW_end hP hK ht hW (congrArg (fun z => wC ga cB cI z) hJ)⟩, hS.F ht⟩) hS.2.2 d_Blocks_copyBlock_43
  · have hJ := j_f hJ h1
    refine lv_iload_n hx hb d_Blocks_copyBlock_4 rfl (lv_at hl 2 rfl) ?_
    refine lv_sipush (v := (128 : Int32)) hx hb d_Blocks_copyBlock_5 (by decide) ?_
    refine lv_icmp_ge (tgt := 43) hx hb d_Blocks_copyBlock_8 (by decide) (fun h2 => ?_) (fun h2 => ?_)
    · have hJ := j_t hJ h2
      have hJ := Option.some.inj hJ
      exact W.vret hx hb hr (fun t ht hW => ⟨⟨(), rfl, trivial, kW_end hP hK ht hW (congrArg (fun z => wC ga cB cI z) hJ)⟩, hS.F ht⟩) hS.2.2 d_Blocks_copyBlock_43
    · have hJ := j_f hJ h2
      refine lv_iload_n hx hb d_Blocks_copyBlock_11 rfl (lv_at hl 3 rfl) ?_
      refine lv_if_lt (tgt := 43) hx hb d_Blocks_copyBlock_12 (by decide) (fun h3 => ?_) (fun h3 => ?_)
      · have hJ := j_t hJ h3
        have hJ := Option.some.inj hJ
        exact W.vret hx hb hr (fun t ht hW => ⟨⟨(), rfl, trivial, kW_end hP hK ht hW (congrArg (fun z => wC ga cB cI z) hJ)⟩, hS.F ht⟩) hS.2.2 d_Blocks_copyBlock_43
      · have hJ := j_f hJ h3
        refine lv_iload_n hx hb d_Blocks_copyBlock_15 rfl (lv_at hl 3 rfl) ?_
        refine lv_sipush (v := (128 : Int32)) hx hb d_Blocks_copyBlock_16 (by decide) ?_
        refine lv_icmp_ge (tgt := 43) hx hb d_Blocks_copyBlock_19 (by decide) (fun h4 => ?_) (fun h4 => ?_)
        · have hJ := j_t hJ h4
          have hJ := Option.some.inj hJ
          exact W.vret hx hb hr (fun t ht hW => ⟨⟨(), rfl, trivial, kW_end hP hK ht hW (congrArg (fun z => wC ga cB cI z) hJ)⟩, hS.F ht⟩) hS.2.2 d_Blocks_copyBlock_43
        · have hJ := j_f hJ h4
          refine lv_aload_n hx hb d_Blocks_copyBlock_22 rfl (lv_at hl 1 rfl) ?_
          refine va_get (D := (dC, dI)) (ci := 0) (v := .ref (ga 7)) (C := R_Blocks) (T := T_Blocks) (N := 1) hx hb htb uin_Blocks hown hK hP 5 rfl rfl 0 (by decide) (htb _ tw35) (fun _ h9 => h9) rfl d_Blocks_copyBlock_23 ?_
          refine lv_iload_n hx hb d_Blocks_copyBlock_26 rfl (lv_at hl 2 rfl) ?_
          refine lv_bipush (v := (64 : Int32)) hx hb d_Blocks_copyBlock_27 (by decide) ?_
          refine lv_imul hx hb d_Blocks_copyBlock_29 ?_
          refine lv_aload_n hx hb d_Blocks_copyBlock_30 rfl (lv_at hl 0 rfl) ?_
          refine va_get (D := (dC, dI)) (ci := 0) (v := .ref (ga 6)) (C := R_Blocks) (T := T_Blocks) (N := 1) hx hb htb uin_Blocks hown hK hP 4 rfl rfl 0 (by decide) (htb _ tw35) (fun _ h9 => h9) rfl d_Blocks_copyBlock_31 ?_
          refine lv_iload_n hx hb d_Blocks_copyBlock_34 rfl (lv_at hl 3 rfl) ?_
          refine lv_bipush (v := (64 : Int32)) hx hb d_Blocks_copyBlock_35 (by decide) ?_
          refine lv_imul hx hb d_Blocks_copyBlock_37 ?_
          refine lv_bipush (v := (64 : Int32)) hx hb d_Blocks_copyBlock_38 (by decide) ?_
          obtain ⟨h5, hJ⟩ := j_g hJ
          obtain ⟨k1, k2, k3, k4, k5⟩ := j_cp h5
          refine va_copyi hx hb (hml.trans hl.1.symm) hown (htb _ tw110) (htb _ tw112) (htb _ tw111) (htb _ tw6) hK hP (hDa _) hS 7 6 0 0 rfl rfl rfl rfl rfl k1 k2 k3 k4 k5 (fun i _ => by_fit _) (Nat.le_of_ble_eq_true rfl) (by decide) d_Blocks_copyBlock_40 (fun H locs hP _ hS => ?_)
          rw [by_cpy] at hP
          have hP : va_P (dC, dI) cls (wC ga cB cI (s_D σ (va_cpy (c_M σ) (c_D σ) (a1 * (64 : Int32)).toNatClampNeg (a2 * (64 : Int32)).toNatClampNeg (64 : Int32).toNatClampNeg))) H := hP
          have hJ := Option.some.inj hJ
          exact W.vret hx hb hr (fun t ht hW => ⟨⟨(), rfl, trivial, kW_end hP hK ht hW (congrArg (fun z => wC ga cB cI z) hJ)⟩, hS.F ht⟩) hS.2.2 d_Blocks_copyBlock_43
def J_Blocks_copyBlock_dd (σ : CS) (a1 : Int32) (a2 : Int32) : Option (CS) :=
  (if a1 < (0 : Int32) then some σ else (if (128 : Int32) ≤ a1 then some σ else (if a2 < (0 : Int32) then some σ else (if (128 : Int32) ≤ a2 then some σ else (if jcp (a1 * (64 : Int32)) (a2 * (64 : Int32)) (64 : Int32) 8192 8192 = true then some (s_D σ (va_cpy (c_D σ) (c_D σ) (a1 * (64 : Int32)).toNatClampNeg (a2 * (64 : Int32)).toNatClampNeg (64 : Int32).toNatClampNeg)) else none)))))
abbrev rm_Blocks_copyBlock_dd : Room := { frames := 1, cells := 0, slots := 0, locals := 26 }
set_option maxHeartbeats 4000000 in
set_option maxRecDepth 100000 in
theorem c_Blocks_copyBlock_dd {l : Launch} {dC : Nat → ClassId} {dI : Nat → Nat → Nat} {ga : Nat → Nat} {cB cI : ClassId} {A : Nat → Prop} (hDa : ∀ σ, va_D A (wC ga cB cI σ)) {σ : CS} {a1 : Int32} {a2 : Int32} {res : CS} (hJ : J_Blocks_copyBlock_dd σ a1 a2 = some res) :
    Met l y_Blocks_copyBlock (mw y_Blocks_copyBlock b_Blocks_copyBlock 4 none) rm_Blocks_copyBlock_dd (va_Pc [.ref (ga 4), .ref (ga 4), .int a1, .int a2] (kW (dC, dI) (tC cB cI) (wC ga cB cI σ))) (va_Qv (fun (_ : Unit) => True) (fun _ t => kW (dC, dI) (tC cB cI) (wC ga cB cI res) t) A) 0 0 A := by
  refine Met.ofW (cc := b_Blocks_copyBlock) (maxL := 4) (ret := none) (by decide) rfl ?_
  intro p e s m args below meth c s₁ B hml hv
  obtain ⟨rfl, hP, hK⟩ := hv
  have hx := B.exec
  have hb := B.bytes
  have hr := B.returns
  have hts := atoms_spec (ws := (mw y_Blocks_copyBlock b_Blocks_copyBlock 4 none)) B.pre
  have htb : ∀ w ∈ tb, w.before [.ref (ga 4), .ref (ga 4), .int a1, .int a2].toArray s = true := fun w h => hts w (mwIn h)
  have hown : s.vm.findClass "LogFs$Blocks" = some m.cls := findClass_of_methodNamed B.named
  have hlocks := B.notSynchronized
  have hS : va_S A s.heap s.heap [] := va_S.rf
  have hl := lv_entry ([.ref (ga 4), .ref (ga 4), .int a1, .int a2]) (n := 4) (Nat.le_of_ble_eq_true rfl)
  rw [lg_entry_eq]
  generalize (lg_sl ([.ref (ga 4), .ref (ga 4), .int a1, .int a2]) ++ List.replicate (4 - (lg_sl ([.ref (ga 4), .ref (ga 4), .int a1, .int a2])).length) Slot.unset).toArray = ls at hl ⊢
  have hl : lv_has ls 4 [(0, .ref (ga 4)), (1, .ref (ga 4)), (2, .int a1), (3, .int a2)] := hl
  unfold J_Blocks_copyBlock_dd at hJ
  refine lv_iload_n hx hb d_Blocks_copyBlock_0 rfl (lv_at hl 2 rfl) ?_
  refine lv_if_lt (tgt := 43) hx hb d_Blocks_copyBlock_1 (by decide) (fun h1 => ?_) (fun h1 => ?_)
  · have hJ := j_t hJ h1
    have hJ := Option.some.inj hJ
    exact W.vret hx hb hr (fun t ht hW => ⟨⟨(), rfl, trivial, kW_end hP hK ht hW (congrArg (fun z => wC ga cB cI z) hJ)⟩, hS.F ht⟩) hS.2.2 d_Blocks_copyBlock_43
  · have hJ := j_f hJ h1
    refine lv_iload_n hx hb d_Blocks_copyBlock_4 rfl (lv_at hl 2 rfl) ?_
    refine lv_sipush (v := (128 : Int32)) hx hb d_Blocks_copyBlock_5 (by decide) ?_
    refine lv_icmp_ge (tgt := 43) hx hb d_Blocks_copyBlock_8 (by decide) (fun h2 => ?_) (fun h2 => ?_)
    · have hJ := j_t hJ h2
      have hJ := Option.some.inj hJ
      exact W.vret hx hb hr (fun t ht hW => ⟨⟨(), rfl, trivial, kW_end hP hK ht hW (congrArg (fun z => wC ga cB cI z) hJ)⟩, hS.F ht⟩) hS.2.2 d_Blocks_copyBlock_43
    · have hJ := j_f hJ h2
      refine lv_iload_n hx hb d_Blocks_copyBlock_11 rfl (lv_at hl 3 rfl) ?_
      refine lv_if_lt (tgt := 43) hx hb d_Blocks_copyBlock_12 (by decide) (fun h3 => ?_) (fun h3 => ?_)
      · have hJ := j_t hJ h3
        have hJ := Option.some.inj hJ
        exact W.vret hx hb hr (fun t ht hW => ⟨⟨(), rfl, trivial, kW_end hP hK ht hW (congrArg (fun z => wC ga cB cI z) hJ)⟩, hS.F ht⟩) hS.2.2 d_Blocks_copyBlock_43
      · have hJ := j_f hJ h3
        refine lv_iload_n hx hb d_Blocks_copyBlock_15 rfl (lv_at hl 3 rfl) ?_
        refine lv_sipush (v := (128 : Int32)) hx hb d_Blocks_copyBlock_16 (by decide) ?_
        refine lv_icmp_ge (tgt := 43) hx hb d_Blocks_copyBlock_19 (by decide) (fun h4 => ?_) (fun h4 => ?_)
        · have hJ := j_t hJ h4
          have hJ := Option.some.inj hJ
          exact W.vret hx hb hr (fun t ht hW => ⟨⟨(), rfl, trivial, kW_end hP hK ht hW (congrArg (fun z => wC ga cB cI z) hJ)⟩, hS.F ht⟩) hS.2.2 d_Blocks_copyBlock_43
        · have hJ := j_f hJ h4
          refine lv_aload_n hx hb d_Blocks_copyBlock_22 rfl (lv_at hl 1 rfl) ?_
          refine va_get (D := (dC, dI)) (ci := 0) (v := .ref (ga 6)) (C := R_Blocks) (T := T_Blocks) (N := 1) hx hb htb uin_Blocks hown hK hP 4 rfl rfl 0 (by decide) (htb _ tw35) (fun _ h9 => h9) rfl d_Blocks_copyBlock_23 ?_
          refine lv_iload_n hx hb d_Blocks_copyBlock_26 rfl (lv_at hl 2 rfl) ?_
          refine lv_bipush (v := (64 : Int32)) hx hb d_Blocks_copyBlock_27 (by decide) ?_
          refine lv_imul hx hb d_Blocks_copyBlock_29 ?_
          refine lv_aload_n hx hb d_Blocks_copyBlock_30 rfl (lv_at hl 0 rfl) ?_
          refine va_get (D := (dC, dI)) (ci := 0) (v := .ref (ga 6)) (C := R_Blocks) (T := T_Blocks) (N := 1) hx hb htb uin_Blocks hown hK hP 4 rfl rfl 0 (by decide) (htb _ tw35) (fun _ h9 => h9) rfl d_Blocks_copyBlock_31 ?_
          refine lv_iload_n hx hb d_Blocks_copyBlock_34 rfl (lv_at hl 3 rfl) ?_
          refine lv_bipush (v := (64 : Int32)) hx hb d_Blocks_copyBlock_35 (by decide) ?_
          refine lv_imul hx hb d_Blocks_copyBlock_37 ?_
          refine lv_bipush (v := (64 : Int32)) hx hb d_Blocks_copyBlock_38 (by decide) ?_
          obtain ⟨h5, hJ⟩ := j_g hJ
          obtain ⟨k1, k2, k3, k4, k5⟩ := j_cp h5
          refine va_copyi hx hb (hml.trans hl.1.symm) hown (htb _ tw110) (htb _ tw112) (htb _ tw111) (htb _ tw6) hK hP (hDa _) hS 6 6 0 0 rfl rfl rfl rfl rfl k1 k2 k3 k4 k5 (fun i _ => by_fit _) (Nat.le_of_ble_eq_true rfl) (by decide) d_Blocks_copyBlock_40 (fun H locs hP _ hS => ?_)
          rw [by_cpy] at hP
          have hP : va_P (dC, dI) cls (wC ga cB cI (s_D σ (va_cpy (c_D σ) (c_D σ) (a1 * (64 : Int32)).toNatClampNeg (a2 * (64 : Int32)).toNatClampNeg (64 : Int32).toNatClampNeg))) H := hP
          have hJ := Option.some.inj hJ
          exact W.vret hx hb hr (fun t ht hW => ⟨⟨(), rfl, trivial, kW_end hP hK ht hW (congrArg (fun z => wC ga cB cI z) hJ)⟩, hS.F ht⟩) hS.2.2 d_Blocks_copyBlock_43
def J_Blocks_copyAll (σ : CS)  : Option (CS) :=
  (if jcp (0 : Int32) (0 : Int32) (8192 : Int32) 8192 8192 = true then some (s_M σ (va_cpy (c_D σ) (c_M σ) (0 : Int32).toNatClampNeg (0 : Int32).toNatClampNeg (8192 : Int32).toNatClampNeg)) else none)
abbrev rm_Blocks_copyAll : Room := { frames := 1, cells := 0, slots := 0, locals := 26 }
set_option maxHeartbeats 4000000 in
set_option maxRecDepth 100000 in
theorem c_Blocks_copyAll {l : Launch} {dC : Nat → ClassId} {dI : Nat → Nat → Nat} {ga : Nat → Nat} {cB cI : ClassId} {A : Nat → Prop} (hDa : ∀ σ, va_D A (wC ga cB cI σ)) {σ : CS} {res : CS} (hJ : J_Blocks_copyAll σ = some res) :
    Met l y_Blocks_copyAll (mw y_Blocks_copyAll b_Blocks_copyAll 2 none) rm_Blocks_copyAll (va_Pc [.ref (ga 5), .ref (ga 4)] (kW (dC, dI) (tC cB cI) (wC ga cB cI σ))) (va_Qv (fun (_ : Unit) => True) (fun _ t => kW (dC, dI) (tC cB cI) (wC ga cB cI res) t) A) 0 0 A := by
  refine Met.ofW (cc := b_Blocks_copyAll) (maxL := 2) (ret := none) (by decide) rfl ?_
  intro p e s m args below meth c s₁ B hml hv
  obtain ⟨rfl, hP, hK⟩ := hv
  have hx := B.exec
  have hb := B.bytes
  have hr := B.returns
  have hts := atoms_spec (ws := (mw y_Blocks_copyAll b_Blocks_copyAll 2 none)) B.pre
  have htb : ∀ w ∈ tb, w.before [.ref (ga 5), .ref (ga 4)].toArray s = true := fun w h => hts w (mwIn h)
  have hown : s.vm.findClass "LogFs$Blocks" = some m.cls := findClass_of_methodNamed B.named
  have hlocks := B.notSynchronized
  have hS : va_S A s.heap s.heap [] := va_S.rf
  have hl := lv_entry ([.ref (ga 5), .ref (ga 4)]) (n := 2) (Nat.le_of_ble_eq_true rfl)
  rw [lg_entry_eq]
  generalize (lg_sl ([.ref (ga 5), .ref (ga 4)]) ++ List.replicate (2 - (lg_sl ([.ref (ga 5), .ref (ga 4)])).length) Slot.unset).toArray = ls at hl ⊢
  have hl : lv_has ls 2 [(0, .ref (ga 5)), (1, .ref (ga 4))] := hl
  unfold J_Blocks_copyAll at hJ
  refine lv_aload_n hx hb d_Blocks_copyAll_0 rfl (lv_at hl 1 rfl) ?_
  refine va_get (D := (dC, dI)) (ci := 0) (v := .ref (ga 6)) (C := R_Blocks) (T := T_Blocks) (N := 1) hx hb htb uin_Blocks hown hK hP 4 rfl rfl 0 (by decide) (htb _ tw35) (fun _ h9 => h9) rfl d_Blocks_copyAll_1 ?_
  refine lv_iconst (v := (0 : Int32)) hx hb d_Blocks_copyAll_4 (by decide) ?_
  refine lv_aload_n hx hb d_Blocks_copyAll_5 rfl (lv_at hl 0 rfl) ?_
  refine va_get (D := (dC, dI)) (ci := 0) (v := .ref (ga 7)) (C := R_Blocks) (T := T_Blocks) (N := 1) hx hb htb uin_Blocks hown hK hP 5 rfl rfl 0 (by decide) (htb _ tw35) (fun _ h9 => h9) rfl d_Blocks_copyAll_6 ?_
  refine lv_iconst (v := (0 : Int32)) hx hb d_Blocks_copyAll_9 (by decide) ?_
  refine lv_sipush (v := (8192 : Int32)) hx hb d_Blocks_copyAll_10 (by decide) ?_
  obtain ⟨h1, hJ⟩ := j_g hJ
  obtain ⟨k1, k2, k3, k4, k5⟩ := j_cp h1
  refine va_copyi hx hb (hml.trans hl.1.symm) hown (htb _ tw110) (htb _ tw112) (htb _ tw111) (htb _ tw6) hK hP (hDa _) hS 6 7 0 0 rfl rfl rfl rfl rfl k1 k2 k3 k4 k5 (fun i _ => by_fit _) (Nat.le_of_ble_eq_true rfl) (by decide) d_Blocks_copyAll_13 (fun H locs hP _ hS => ?_)
  rw [by_cpy] at hP
  have hP : va_P (dC, dI) cls (wC ga cB cI (s_M σ (va_cpy (c_D σ) (c_M σ) (0 : Int32).toNatClampNeg (0 : Int32).toNatClampNeg (8192 : Int32).toNatClampNeg))) H := hP
  have hJ := Option.some.inj hJ
  exact W.vret hx hb hr (fun t ht hW => ⟨⟨(), rfl, trivial, kW_end hP hK ht hW (congrArg (fun z => wC ga cB cI z) hJ)⟩, hS.F ht⟩) hS.2.2 d_Blocks_copyAll_16
