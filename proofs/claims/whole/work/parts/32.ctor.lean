/-! The constructors. Written by wip/gen/ctor.py. -/
theorem kI_blind {D : va_G} {tys : List (ClassId × FieldType)} {ws : va_W} {av : List Value} {sz : Nat} {Z : Prop} : FrameBlind (va_Pc av (fun U => U.heap.size = sz ∧ kW D tys ws U ∧ Z)) := fun a U g mk q => ⟨q.1, q.2.1, ⟨q.2.2.1.1, va_K.moved (u := U) (U := U.calling g mk a) (Vm.Alike.refl U.vm) q.2.2.1.2⟩, q.2.2.2⟩
theorem va_D_same {A : Nat → Prop} {ws ws' : va_W} (h : ws'.map (·.1) = ws.map (·.1)) (hD : va_D A ws) : va_D A ws' := by
  have key : ∀ (k : Nat) (q : Nat × va_E), ws'[k]? = some q → ∃ e, ws[k]? = some (q.1, e) := fun k q hk => by
    have h1 : (ws'.map (·.1))[k]? = some q.1 := by rw [List.getElem?_map, hk]; rfl
    rw [h, List.getElem?_map] at h1
    cases hw : ws[k]? with
    | none => rw [hw] at h1; cases h1
    | some z =>
      rw [hw] at h1
      have e1 : z.1 = q.1 := Option.some.inj h1
      exact ⟨z.2, by rw [← e1]⟩
  refine ⟨fun i j p q hi hj e => ?_, fun k q hk => ?_⟩
  · obtain ⟨a, ha⟩ := key i p hi
    obtain ⟨b, hb⟩ := key j q hj
    exact hD.1 i j _ _ ha hb e
  · obtain ⟨a, ha⟩ := key k q hk
    exact hD.2 k (q.1, a) ha
section XNew
variable {p : Program} {l : Launch} {e : Env} {R : Room} {s : State} {m : MethodId} {args : Array Value} {below : List Frame} {meth : Method} {c : Code} {H : Heap} {locs : List Loc} {cells slots : Nat} {Q : State → Prop} {cc : ByteArray} {pc : Nat} {ls : Array Slot} {rest : List Value} {D : va_G} {A : Nat → Prop} {ws : va_W} {H0 : Heap} {cB cI : ClassId}
theorem xn_B (hexec : p.tables.exec = Jvm.exec) (hb : c.code = cc) (harr : (Cond.arrayClass .byte).before args s = true) (hK : va_K D cls (tC cB cI) s) (hP : va_P D cls ws H) (hD : va_D A ws) (hS : va_S A H0 H locs) (hA : ∀ q, H0.size ≤ q → A q)
    {n : Int32} {N : Nat} (hn : ¬ n < 0) (hN : n.toNatClampNeg = N) (hbytes : N * componentBytes .byte ≤ 536870912) (hcells : cells + 1 ≤ R.cells) (hslots : slots + N ≤ R.slots) (hdg : decode cc pc = .ok (.newarray .byte, 2))
    (kk : ∀ (q : Nat) (H1 : Heap), va_P D cls (ws ++ [(q, .inl (cB, N, .inl (fun j => ((fun _ => (0 : Int8)) j).toInt32)))]) H1 → va_D A (ws ++ [(q, .inl (cB, N, .inl (fun j => ((fun _ => (0 : Int8)) j).toInt32)))]) → va_S A H0 H1 locs → W p l e R s m args below meth c H1 locs (cells + 1) (slots + N) Q (F0 m (pc + 2) ls (.ref q :: rest))) : W p l e R s m args below meth c H locs cells slots Q (F0 m pc ls (.int n :: rest)) := by
  refine va_newa (atype := .byte) (ty := .byte) (N' := N) (a0 := (N, .inl (fun j => ((fun _ => (0 : Int8)) j).toInt32))) hexec hb harr rfl hK hP hD hS hA (fun cA => by rw [vp_cell_i]; exact congrArg (arrV cA N) (funext fun _ => congrArg Value.int (show (0 : Int8).toInt32 = 0 by decide))) hn hN hbytes hcells hslots hdg (fun q cA H1 hK1 hP1 hD1 hS1 => ?_)
  have h1 : s.vm.findClass ("[" ++ FieldType.byte.toString) = some cA := (hK1.2 2 (cA, .byte) rfl).2
  have h2 : s.vm.findClass ("[" ++ FieldType.byte.toString) = some cB := (hK.2 0 (cB, .byte) rfl).2
  obtain rfl : cA = cB := Option.some.inj (h1.symm.trans h2)
  exact kk q H1 hP1 hD1 hS1
theorem xn_I (hexec : p.tables.exec = Jvm.exec) (hb : c.code = cc) (harr : (Cond.arrayClass .int).before args s = true) (hK : va_K D cls (tC cB cI) s) (hP : va_P D cls ws H) (hD : va_D A ws) (hS : va_S A H0 H locs) (hA : ∀ q, H0.size ≤ q → A q)
    {n : Int32} {N : Nat} (hn : ¬ n < 0) (hN : n.toNatClampNeg = N) (hbytes : N * componentBytes .int ≤ 536870912) (hcells : cells + 1 ≤ R.cells) (hslots : slots + N ≤ R.slots) (hdg : decode cc pc = .ok (.newarray .int, 2))
    (kk : ∀ (q : Nat) (H1 : Heap), va_P D cls (ws ++ [(q, .inl (cI, N, .inl (fun _ => 0)))]) H1 → va_D A (ws ++ [(q, .inl (cI, N, .inl (fun _ => 0)))]) → va_S A H0 H1 locs → W p l e R s m args below meth c H1 locs (cells + 1) (slots + N) Q (F0 m (pc + 2) ls (.ref q :: rest))) : W p l e R s m args below meth c H locs cells slots Q (F0 m pc ls (.int n :: rest)) := by
  refine va_newa (atype := .int) (ty := .int) (N' := N) (a0 := (N, .inl (fun _ => 0))) hexec hb harr rfl hK hP hD hS hA (fun cA => by rw [vp_cell_i]; exact congrArg (arrV cA N) (funext fun _ => rfl)) hn hN hbytes hcells hslots hdg (fun q cA H1 hK1 hP1 hD1 hS1 => ?_)
  have h1 : s.vm.findClass ("[" ++ FieldType.int.toString) = some cA := (hK1.2 2 (cA, .int) rfl).2
  have h2 : s.vm.findClass ("[" ++ FieldType.int.toString) = some cI := (hK.2 1 (cI, .int) rfl).2
  obtain rfl : cA = cI := Option.some.inj (h1.symm.trans h2)
  exact kk q H1 hP1 hD1 hS1
end XNew
abbrev rm_Blocks_init : Room := { frames := 1, cells := 1, slots := 8192, locals := 12 }
set_option maxHeartbeats 4000000 in
set_option maxRecDepth 100000 in
theorem c_Blocks_init {l : Launch} {dC : Nat → ClassId} {dI : Nat → Nat → Nat} {cB cI : ClassId} (q : Nat) (sz : Nat) :
    Met l y_Blocks_init (mw y_Blocks_init b_Blocks_init 1 none) rm_Blocks_init (va_Pc [.ref q] (fun U => U.heap.size = sz ∧ kW (dC, dI) (tC cB cI) [(q, .inr (0, [.null]))] U ∧ va_D (fun _ => True) [(q, .inr (0, [.null]))])) (va_Qv (fun (_ : Nat) => True) (fun u t => kW (dC, dI) (tC cB cI) [(q, .inr (0, [.ref u])), (u, .inl (cB, 8192, .inl (fun j => ((fun _ => (0 : Int8)) j).toInt32)))] t ∧ va_D (va_A [(q, .inr (0, [.null]))] sz) [(q, .inr (0, [.ref u])), (u, .inl (cB, 8192, .inl (fun j => ((fun _ => (0 : Int8)) j).toInt32)))]) (va_A [(q, .inr (0, [.null]))] sz)) 1 8192 (va_A [(q, .inr (0, [.null]))] sz) := by
  refine Met.ofW (cc := b_Blocks_init) (maxL := 1) (ret := none) (by decide) rfl ?_
  intro p e s m args below meth c s₁ B hml hv
  obtain ⟨rfl, hsz, ⟨hP, hK⟩, hD0⟩ := hv
  have hx := B.exec
  have hb := B.bytes
  have hr := B.returns
  have hts := atoms_spec (ws := (mw y_Blocks_init b_Blocks_init 1 none)) B.pre
  have htb : ∀ x ∈ tb, x.before [.ref q].toArray s = true := fun x h => hts x (mwIn h)
  have hown : s.vm.findClass "LogFs$Blocks" = some m.cls := findClass_of_methodNamed B.named
  have hlocks := B.notSynchronized
  have hin : meth.name = "<init>" := (name_of_methodNamed B.named B.method).1
  subst hsz
  have hD := hD0.self (sz := s.heap.size)
  generalize hAe : va_A [(q, .inr (0, [.null]))] s.heap.size = A at hD ⊢
  have hA : ∀ q : Nat, s.heap.size ≤ q → A q := fun q h => by rw [← hAe]; exact Or.inr h
  have hS : va_S A s.heap s.heap [] := va_S.rf
  have hl := lv_entry ([.ref q]) (n := 1) (Nat.le_of_ble_eq_true rfl)
  rw [lg_entry_eq]
  generalize (lg_sl ([.ref q]) ++ List.replicate (1 - (lg_sl ([.ref q])).length) Slot.unset).toArray = ls at hl ⊢
  have hl : lv_has ls 1 [(0, .ref q)] := hl
  refine lv_aload_n hx hb d_Blocks_init_0 rfl (lv_at hl 0 rfl) ?_
  refine W.objInit hx hb hown (htb _ tw34) (htb _ tw21) (htb _ tw22) rfl (by rw [hml]; exact hl.1) rfl d_Blocks_init_1 (Nat.le_of_ble_eq_true rfl) (Nat.le_of_ble_eq_true rfl) ?_
  refine W.eq (g2 := F0 m 4 ls []) rfl ?_
  refine lv_aload_n hx hb d_Blocks_init_4 rfl (lv_at hl 0 rfl) ?_
  refine lv_sipush (v := (8192 : Int32)) hx hb d_Blocks_init_5 (by decide) ?_
  refine xn_B (N := 8192) hx hb (htb _ tw39) hK hP hD hS hA (by decide) (by decide) (by decide) (Nat.le_of_ble_eq_true rfl) (Nat.le_of_ble_eq_true rfl) d_Blocks_init_8 (fun q8 H hP hD hS => ?_)
  have hP : va_P (dC, dI) cls [(q, .inr (0, [.null])), (q8, .inl (cB, 8192, .inl (fun j => ((fun _ => (0 : Int8)) j).toInt32)))] H := hP
  have hD : va_D A [(q, .inr (0, [.null])), (q8, .inl (cB, 8192, .inl (fun j => ((fun _ => (0 : Int8)) j).toInt32)))] := hD
  refine va_putF (D := (dC, dI)) (ci := 0) (v := .ref q8) (ty := .array .byte) (C := R_Blocks) (T := T_Blocks) (N := 1) hx hb htb uin_Blocks t_Blocks t_Blocks_ok n_Blocks hown hK hP hD hS 0 rfl rfl 0 (by decide) (htb _ tw35) (fun _ h9 => h9) rfl hin rfl (by decide +kernel) rfl rfl (Nat.le_of_ble_eq_true rfl) d_Blocks_init_10 (fun H locs hP hD hS => ?_)
  have hP : va_P (dC, dI) cls [(q, .inr (0, [.ref q8])), (q8, .inl (cB, 8192, .inl (fun j => ((fun _ => (0 : Int8)) j).toInt32)))] H := hP
  have hD : va_D A [(q, .inr (0, [.ref q8])), (q8, .inl (cB, 8192, .inl (fun j => ((fun _ => (0 : Int8)) j).toInt32)))] := hD
  exact W.vret hx hb hr (fun t ht hW => ⟨⟨q8, rfl, trivial, kW_end hP hK ht hW rfl, hD⟩, hS.F ht⟩) hS.2.2 d_Blocks_init_13
abbrev rm_Volume_init : Room := { frames := 1, cells := 0, slots := 0, locals := 12 }
set_option maxHeartbeats 4000000 in
set_option maxRecDepth 100000 in
theorem c_Volume_init {l : Launch} {dC : Nat → ClassId} {dI : Nat → Nat → Nat} {cB cI : ClassId} (q : Nat) (w : Nat) (b : Nat) (d : Nat) (sz : Nat) :
    Met l y_Volume_init (mw y_Volume_init b_Volume_init 2 none) rm_Volume_init (va_Pc [.ref q, .ref w] (fun U => U.heap.size = sz ∧ kW (dC, dI) (tC cB cI) [(q, .inr (3, [.null, .null])), (w, .inr (2, [.ref b, .ref d, .int 0]))] U ∧ va_D (fun _ => True) [(q, .inr (3, [.null, .null])), (w, .inr (2, [.ref b, .ref d, .int 0]))])) (va_Qv (fun (_ : Unit) => True) (fun u t => kW (dC, dI) (tC cB cI) [(q, .inr (3, [.ref w, .ref b])), (w, .inr (2, [.ref b, .ref d, .int 0]))] t ∧ va_D (va_A [(q, .inr (3, [.null, .null])), (w, .inr (2, [.ref b, .ref d, .int 0]))] sz) [(q, .inr (3, [.ref w, .ref b])), (w, .inr (2, [.ref b, .ref d, .int 0]))]) (va_A [(q, .inr (3, [.null, .null])), (w, .inr (2, [.ref b, .ref d, .int 0]))] sz)) 0 0 (va_A [(q, .inr (3, [.null, .null])), (w, .inr (2, [.ref b, .ref d, .int 0]))] sz) := by
  refine Met.ofW (cc := b_Volume_init) (maxL := 2) (ret := none) (by decide) rfl ?_
  intro p e s m args below meth c s₁ B hml hv
  obtain ⟨rfl, hsz, ⟨hP, hK⟩, hD0⟩ := hv
  have hx := B.exec
  have hb := B.bytes
  have hr := B.returns
  have hts := atoms_spec (ws := (mw y_Volume_init b_Volume_init 2 none)) B.pre
  have htb : ∀ x ∈ tb, x.before [.ref q, .ref w].toArray s = true := fun x h => hts x (mwIn h)
  have hown : s.vm.findClass "LogFs$Volume" = some m.cls := findClass_of_methodNamed B.named
  have hlocks := B.notSynchronized
  have hin : meth.name = "<init>" := (name_of_methodNamed B.named B.method).1
  subst hsz
  have hD := hD0.self (sz := s.heap.size)
  generalize hAe : va_A [(q, .inr (3, [.null, .null])), (w, .inr (2, [.ref b, .ref d, .int 0]))] s.heap.size = A at hD ⊢
  have hA : ∀ q : Nat, s.heap.size ≤ q → A q := fun q h => by rw [← hAe]; exact Or.inr h
  have hS : va_S A s.heap s.heap [] := va_S.rf
  have hl := lv_entry ([.ref q, .ref w]) (n := 2) (Nat.le_of_ble_eq_true rfl)
  rw [lg_entry_eq]
  generalize (lg_sl ([.ref q, .ref w]) ++ List.replicate (2 - (lg_sl ([.ref q, .ref w])).length) Slot.unset).toArray = ls at hl ⊢
  have hl : lv_has ls 2 [(0, .ref q), (1, .ref w)] := hl
  refine lv_aload_n hx hb d_Volume_init_0 rfl (lv_at hl 0 rfl) ?_
  refine W.objInit hx hb hown (htb _ tw94) (htb _ tw21) (htb _ tw22) rfl (by rw [hml]; exact hl.1) rfl d_Volume_init_1 (Nat.le_of_ble_eq_true rfl) (Nat.le_of_ble_eq_true rfl) ?_
  refine W.eq (g2 := F0 m 4 ls []) rfl ?_
  refine lv_aload_n hx hb d_Volume_init_4 rfl (lv_at hl 0 rfl) ?_
  refine lv_aload_n hx hb d_Volume_init_5 rfl (lv_at hl 1 rfl) ?_
  refine va_putF (D := (dC, dI)) (ci := 3) (v := .ref w) (ty := .object "LogFs$Memory") (C := R_Volume) (T := T_Volume) (N := 2) hx hb htb uin_Volume t_Volume t_Volume_ok n_Volume hown hK hP hD hS 0 rfl rfl 0 (by decide) (htb _ tw95) (fun _ h9 => h9) rfl hin rfl (by decide +kernel) rfl rfl (Nat.le_of_ble_eq_true rfl) d_Volume_init_6 (fun H locs hP hD hS => ?_)
  have hP : va_P (dC, dI) cls [(q, .inr (3, [.ref w, .null])), (w, .inr (2, [.ref b, .ref d, .int 0]))] H := hP
  have hD : va_D A [(q, .inr (3, [.ref w, .null])), (w, .inr (2, [.ref b, .ref d, .int 0]))] := hD
  refine lv_aload_n hx hb d_Volume_init_9 rfl (lv_at hl 0 rfl) ?_
  refine lv_aload_n hx hb d_Volume_init_10 rfl (lv_at hl 1 rfl) ?_
  refine va_getN (D := (dC, dI)) (ci := 2) (v := .ref b) (C := R_Memory) (T := T_Memory) (N := 3) hx hb htb uin_Memory hown hK hP 1 rfl rfl 0 (by decide) (htb _ tw73) (fun _ h9 => h9) rfl d_Volume_init_11 ?_
  refine va_putF (D := (dC, dI)) (ci := 3) (v := .ref b) (ty := .object "LogFs$Blocks") (C := R_Volume) (T := T_Volume) (N := 2) hx hb htb uin_Volume t_Volume t_Volume_ok n_Volume hown hK hP hD hS 0 rfl rfl 1 (by decide) (htb _ tw96) (fun _ h9 => h9) rfl hin rfl (by decide +kernel) rfl rfl (Nat.le_of_ble_eq_true rfl) d_Volume_init_14 (fun H locs hP hD hS => ?_)
  have hP : va_P (dC, dI) cls [(q, .inr (3, [.ref w, .ref b])), (w, .inr (2, [.ref b, .ref d, .int 0]))] H := hP
  have hD : va_D A [(q, .inr (3, [.ref w, .ref b])), (w, .inr (2, [.ref b, .ref d, .int 0]))] := hD
  exact W.vret hx hb hr (fun t ht hW => ⟨⟨(), rfl, trivial, kW_end hP hK ht hW rfl, hD⟩, hS.F ht⟩) hS.2.2 d_Volume_init_17
abbrev rm_Memory_init : Room := { frames := 2, cells := 3, slots := 8208, locals := 40 }
set_option maxHeartbeats 4000000 in
set_option maxRecDepth 100000 in
theorem c_Memory_init {l : Launch} {dC : Nat → ClassId} {dI : Nat → Nat → Nat} {cB cI : ClassId} (q : Nat) (sz : Nat) :
    Met l y_Memory_init (mw y_Memory_init b_Memory_init 1 none) rm_Memory_init (va_Pc [.ref q] (fun U => U.heap.size = sz ∧ kW (dC, dI) (tC cB cI) [(q, .inr (2, [.null, .null, .int 0]))] U ∧ va_D (fun _ => True) [(q, .inr (2, [.null, .null, .int 0]))])) (va_Qv (fun (_ : Nat × Nat × Nat) => True) (fun u t => kW (dC, dI) (tC cB cI) [(q, .inr (2, [.ref u.1, .ref u.2.2, .int 0])), (u.1, .inr (0, [.ref u.2.1])), (u.2.1, .inl (cB, 8192, .inl (fun j => ((fun _ => (0 : Int8)) j).toInt32))), (u.2.2, .inl (cI, 15, .inl (fun _ => 0)))] t ∧ va_D (va_A [(q, .inr (2, [.null, .null, .int 0]))] sz) [(q, .inr (2, [.ref u.1, .ref u.2.2, .int 0])), (u.1, .inr (0, [.ref u.2.1])), (u.2.1, .inl (cB, 8192, .inl (fun j => ((fun _ => (0 : Int8)) j).toInt32))), (u.2.2, .inl (cI, 15, .inl (fun _ => 0)))]) (va_A [(q, .inr (2, [.null, .null, .int 0]))] sz)) 3 8208 (va_A [(q, .inr (2, [.null, .null, .int 0]))] sz) := by
  refine Met.ofW (cc := b_Memory_init) (maxL := 1) (ret := none) (by decide) rfl ?_
  intro p e s m args below meth c s₁ B hml hv
  obtain ⟨rfl, hsz, ⟨hP, hK⟩, hD0⟩ := hv
  have hx := B.exec
  have hb := B.bytes
  have hr := B.returns
  have hts := atoms_spec (ws := (mw y_Memory_init b_Memory_init 1 none)) B.pre
  have htb : ∀ x ∈ tb, x.before [.ref q].toArray s = true := fun x h => hts x (mwIn h)
  have hown : s.vm.findClass "LogFs$Memory" = some m.cls := findClass_of_methodNamed B.named
  have hlocks := B.notSynchronized
  have hin : meth.name = "<init>" := (name_of_methodNamed B.named B.method).1
  subst hsz
  have hD := hD0.self (sz := s.heap.size)
  generalize hAe : va_A [(q, .inr (2, [.null, .null, .int 0]))] s.heap.size = A at hD ⊢
  have hA : ∀ q : Nat, s.heap.size ≤ q → A q := fun q h => by rw [← hAe]; exact Or.inr h
  have hS : va_S A s.heap s.heap [] := va_S.rf
  have hl := lv_entry ([.ref q]) (n := 1) (Nat.le_of_ble_eq_true rfl)
  rw [lg_entry_eq]
  generalize (lg_sl ([.ref q]) ++ List.replicate (1 - (lg_sl ([.ref q])).length) Slot.unset).toArray = ls at hl ⊢
  have hl : lv_has ls 1 [(0, .ref q)] := hl
  refine lv_aload_n hx hb d_Memory_init_0 rfl (lv_at hl 0 rfl) ?_
  refine W.objInit hx hb hown (htb _ tw70) (htb _ tw21) (htb _ tw22) rfl (by rw [hml]; exact hl.1) rfl d_Memory_init_1 (Nat.le_of_ble_eq_true rfl) (Nat.le_of_ble_eq_true rfl) ?_
  refine W.eq (g2 := F0 m 4 ls []) rfl ?_
  refine lv_aload_n hx hb d_Memory_init_4 rfl (lv_at hl 0 rfl) ?_
  refine va_new (ci := 0) (fs := [.null]) (C := R_Blocks) (T := T_Blocks) (N := 1) hx hb htb uin_Blocks t_Blocks t_Blocks_ok hown (htb _ tw71) (htb _ tw30) (htb _ tw3) hK hP hD hS hA rfl (fun j hj => by rcases (show j = 0 by omega) with rfl <;> rfl) (Nat.le_of_ble_eq_true rfl) (Nat.le_of_ble_eq_true rfl) d_Memory_init_5 (fun q5 H hP hD hS => ?_)
  have hP : va_P (dC, dI) cls [(q, .inr (2, [.null, .null, .int 0])), (q5, .inr (0, [.null]))] H := hP
  have hD : va_D A [(q, .inr (2, [.null, .null, .int 0])), (q5, .inr (0, [.null]))] := hD
  refine lv_dup hx hb d_Memory_init_8 rfl ?_
  have hPc := hP.sub (ws' := [(q5, .inr (0, [.null]))]) [1] rfl
  have hDc := hD.sub (ws' := [(q5, .inr (0, [.null]))]) [1] (by decide) rfl
  have hFc := va_free (wc := [(q5, .inr (0, [.null]))]) hD hS hA [1] rfl
  refine va_callv (va_runI (As := []) (rest := [.ref q5, .ref q]) ⟨hx, hb, hml, hown, htb⟩ (c_Blocks_init (l := l) (dC := dC) (dI := dI) (cB := cB) (cI := cI) q5 H.size) (xcI 0 htb tw33 tw3 tw72 tw32 rfl rfl rfl hd_Blocks_init ⟨Nat.le_of_ble_eq_true rfl, Nat.le_of_ble_eq_true rfl⟩) ⟨kI_blind, fun U hU hW => ⟨rfl, by rw [hU], ⟨by rw [hU]; exact hPc, va_K.moved hW.alike hK⟩, hDc.weaken (fun _ _ _ _ => trivial)⟩⟩ rfl rfl hl.1 rfl (lv_room (Nat.le_of_ble_eq_true rfl)) d_Memory_init_9 ⟨Nat.le_of_ble_eq_true rfl, Nat.le_of_ble_eq_true rfl⟩) hS (fun q _ h => hFc q h) hFc (fun u t H1 locs ht hvm _ hB hz1 hk1 hS => ?_)
  obtain ⟨a9, rfl⟩ : ∃ z, z = u := ⟨_, rfl⟩
  obtain ⟨hB1, hD1⟩ := hB
  have hP1 := kW_P hB1 ht
  obtain ⟨hP, hD⟩ := va_join (wr := [(q, .inr (2, [.null, .null, .int 0]))]) (w1 := [(q5, .inr (0, [.ref a9])), (a9, .inl (cB, 8192, .inl (fun j => ((fun _ => (0 : Int8)) j).toInt32)))]) hP hD [1] [0] rfl rfl (by decide) (by decide) hk1 hFc hP1 hD1
  generalize H1 = H at hP hS ⊢
  have hP : va_P (dC, dI) cls [(q, .inr (2, [.null, .null, .int 0])), (q5, .inr (0, [.ref a9])), (a9, .inl (cB, 8192, .inl (fun j => ((fun _ => (0 : Int8)) j).toInt32)))] H := hP
  have hD : va_D A [(q, .inr (2, [.null, .null, .int 0])), (q5, .inr (0, [.ref a9])), (a9, .inl (cB, 8192, .inl (fun j => ((fun _ => (0 : Int8)) j).toInt32)))] := hD
  refine va_putF (D := (dC, dI)) (ci := 2) (v := .ref q5) (ty := .object "LogFs$Blocks") (C := R_Memory) (T := T_Memory) (N := 3) hx hb htb uin_Memory t_Memory t_Memory_ok n_Memory hown hK hP hD hS 0 rfl rfl 0 (by decide) (htb _ tw74) (fun _ h9 => h9) rfl hin rfl (by decide +kernel) rfl rfl (Nat.le_of_ble_eq_true rfl) d_Memory_init_12 (fun H locs hP hD hS => ?_)
  have hP : va_P (dC, dI) cls [(q, .inr (2, [.ref q5, .null, .int 0])), (q5, .inr (0, [.ref a9])), (a9, .inl (cB, 8192, .inl (fun j => ((fun _ => (0 : Int8)) j).toInt32)))] H := hP
  have hD : va_D A [(q, .inr (2, [.ref q5, .null, .int 0])), (q5, .inr (0, [.ref a9])), (a9, .inl (cB, 8192, .inl (fun j => ((fun _ => (0 : Int8)) j).toInt32)))] := hD
  refine lv_aload_n hx hb d_Memory_init_15 rfl (lv_at hl 0 rfl) ?_
  refine lv_bipush (v := (15 : Int32)) hx hb d_Memory_init_16 (by decide) ?_
  refine xn_I (N := 15) hx hb (htb _ tw88) hK hP hD hS hA (by decide) (by decide) (by decide) (Nat.le_of_ble_eq_true rfl) (Nat.le_of_ble_eq_true rfl) d_Memory_init_18 (fun q18 H hP hD hS => ?_)
  have hP : va_P (dC, dI) cls [(q, .inr (2, [.ref q5, .null, .int 0])), (q5, .inr (0, [.ref a9])), (a9, .inl (cB, 8192, .inl (fun j => ((fun _ => (0 : Int8)) j).toInt32))), (q18, .inl (cI, 15, .inl (fun _ => 0)))] H := hP
  have hD : va_D A [(q, .inr (2, [.ref q5, .null, .int 0])), (q5, .inr (0, [.ref a9])), (a9, .inl (cB, 8192, .inl (fun j => ((fun _ => (0 : Int8)) j).toInt32))), (q18, .inl (cI, 15, .inl (fun _ => 0)))] := hD
  refine va_putF (D := (dC, dI)) (ci := 2) (v := .ref q18) (ty := .array .int) (C := R_Memory) (T := T_Memory) (N := 3) hx hb htb uin_Memory t_Memory t_Memory_ok n_Memory hown hK hP hD hS 0 rfl rfl 1 (by decide) (htb _ tw77) (fun _ h9 => h9) rfl hin rfl (by decide +kernel) rfl rfl (Nat.le_of_ble_eq_true rfl) d_Memory_init_20 (fun H locs hP hD hS => ?_)
  have hP : va_P (dC, dI) cls [(q, .inr (2, [.ref q5, .ref q18, .int 0])), (q5, .inr (0, [.ref a9])), (a9, .inl (cB, 8192, .inl (fun j => ((fun _ => (0 : Int8)) j).toInt32))), (q18, .inl (cI, 15, .inl (fun _ => 0)))] H := hP
  have hD : va_D A [(q, .inr (2, [.ref q5, .ref q18, .int 0])), (q5, .inr (0, [.ref a9])), (a9, .inl (cB, 8192, .inl (fun j => ((fun _ => (0 : Int8)) j).toInt32))), (q18, .inl (cI, 15, .inl (fun _ => 0)))] := hD
  refine lv_aload_n hx hb d_Memory_init_23 rfl (lv_at hl 0 rfl) ?_
  refine lv_iconst (v := (0 : Int32)) hx hb d_Memory_init_24 (by decide) ?_
  refine va_put (D := (dC, dI)) (ci := 2) (v := .int (0 : Int32)) (ty := .int) (C := R_Memory) (T := T_Memory) (N := 3) hx hb htb uin_Memory t_Memory t_Memory_ok n_Memory hown hK hP hD hS 0 rfl rfl 2 (by decide) (htb _ tw78) (fun _ h9 => h9) rfl (by decide +kernel) rfl rfl (Nat.le_of_ble_eq_true rfl) d_Memory_init_25 (fun H locs hP hD hS => ?_)
  have hP : va_P (dC, dI) cls [(q, .inr (2, [.ref q5, .ref q18, .int (0 : Int32)])), (q5, .inr (0, [.ref a9])), (a9, .inl (cB, 8192, .inl (fun j => ((fun _ => (0 : Int8)) j).toInt32))), (q18, .inl (cI, 15, .inl (fun _ => 0)))] H := hP
  have hD : va_D A [(q, .inr (2, [.ref q5, .ref q18, .int (0 : Int32)])), (q5, .inr (0, [.ref a9])), (a9, .inl (cB, 8192, .inl (fun j => ((fun _ => (0 : Int8)) j).toInt32))), (q18, .inl (cI, 15, .inl (fun _ => 0)))] := hD
  have hP : va_P (dC, dI) cls [(q, .inr (2, [.ref q5, .ref q18, .int (0 : Int32)])), (q5, .inr (0, [.ref a9])), (a9, .inl (cB, 8192, .inl (fun j => ((fun _ => (0 : Int8)) j).toInt32))), (q18, .inl (cI, 15, .inl (fun _ => 0)))] H := hP.sub [0, 1, 2, 3] rfl
  have hD : va_D A [(q, .inr (2, [.ref q5, .ref q18, .int (0 : Int32)])), (q5, .inr (0, [.ref a9])), (a9, .inl (cB, 8192, .inl (fun j => ((fun _ => (0 : Int8)) j).toInt32))), (q18, .inl (cI, 15, .inl (fun _ => 0)))] := hD.sub [0, 1, 2, 3] (by decide) rfl
  exact W.vret hx hb hr (fun t ht hW => ⟨⟨(q5, a9, q18), rfl, trivial, kW_end hP hK ht hW rfl, hD⟩, hS.F ht⟩) hS.2.2 d_Memory_init_28
def J_Disk_init_54_b (k : ZS → Int32 → Option (ZS)) (σ : ZS) (v1 : Int32) : Option (ZS) :=
  (if (26 : Int32) ≤ v1 then some σ else (J_Blocks_get_z σ (25 : Int32) (v1 / (8 : Int32))).bind fun x4 => (J_Blocks_set_z σ (25 : Int32) (v1 / (8 : Int32)) (x4 ||| ((1 : Int32) <<< ((v1 - v1 / (8 : Int32) * (8 : Int32)) &&& 31)))).bind fun x5 => k x5 (v1 + (1 : Int32)))
def J_Disk_init_54 : Nat → ZS → Int32 → Option (ZS)
  | 0, _, _ => none
  | n + 1, σ, v1 => J_Disk_init_54_b (J_Disk_init_54 n) σ v1
def J_Disk_init (σ : ZS) : Option (ZS) :=
  (J_Blocks_set_z σ (17 : Int32) (0 : Int32) (2 : Int32)).bind fun x1 => (J_Blocks_set_z x1 (17 : Int32) (1 : Int32) (1 : Int32)).bind fun x2 => J_Disk_init_54 9000 x2 (0 : Int32)
abbrev rm_Disk_init : Room := { frames := 2, cells := 2, slots := 8193, locals := 40 }
set_option maxHeartbeats 4000000 in
set_option maxRecDepth 100000 in
theorem c_Disk_init {l : Launch} {dC : Nat → ClassId} {dI : Nat → Nat → Nat} {cB cI : ClassId} (q : Nat) (sz : Nat) {res : ZS} (hJ : J_Disk_init ((fun _ => (0 : Int8)), (0 : Int32), ((-1) : Int32), (0 : Int32)) = some res) :
    Met l y_Disk_init (mw y_Disk_init b_Disk_init 2 none) rm_Disk_init (va_Pc [.ref q] (fun U => U.heap.size = sz ∧ kW (dC, dI) (tC cB cI) [(q, .inr (1, [.null, .int 0, .int 0, .int 0]))] U ∧ va_D (fun _ => True) [(q, .inr (1, [.null, .int 0, .int 0, .int 0]))])) (va_Qv (fun (_ : Nat × Nat) => True) (fun u t => kW (dC, dI) (tC cB cI) [(q, .inr (1, [.ref u.1, .int (z_w res), .int (z_f res), .int (z_o res)])), (u.1, .inr (0, [.ref u.2])), (u.2, .inl (cB, 8192, .inl (fun j => (z_D res j).toInt32)))] t ∧ va_D (va_A [(q, .inr (1, [.null, .int 0, .int 0, .int 0]))] sz) [(q, .inr (1, [.ref u.1, .int (z_w res), .int (z_f res), .int (z_o res)])), (u.1, .inr (0, [.ref u.2])), (u.2, .inl (cB, 8192, .inl (fun j => (z_D res j).toInt32)))]) (va_A [(q, .inr (1, [.null, .int 0, .int 0, .int 0]))] sz)) 2 8193 (va_A [(q, .inr (1, [.null, .int 0, .int 0, .int 0]))] sz) := by
  refine Met.ofW (cc := b_Disk_init) (maxL := 2) (ret := none) (by decide) rfl ?_
  intro p e s m args below meth c s₁ B hml hv
  obtain ⟨rfl, hsz, ⟨hP, hK⟩, hD0⟩ := hv
  have hx := B.exec
  have hb := B.bytes
  have hr := B.returns
  have hts := atoms_spec (ws := (mw y_Disk_init b_Disk_init 2 none)) B.pre
  have htb : ∀ x ∈ tb, x.before [.ref q].toArray s = true := fun x h => hts x (mwIn h)
  have hown : s.vm.findClass "LogFs$Disk" = some m.cls := findClass_of_methodNamed B.named
  have hlocks := B.notSynchronized
  have hin : meth.name = "<init>" := (name_of_methodNamed B.named B.method).1
  subst hsz
  have hD := hD0.self (sz := s.heap.size)
  generalize hAe : va_A [(q, .inr (1, [.null, .int 0, .int 0, .int 0]))] s.heap.size = A at hD ⊢
  have hA : ∀ q : Nat, s.heap.size ≤ q → A q := fun q h => by rw [← hAe]; exact Or.inr h
  have hS : va_S A s.heap s.heap [] := va_S.rf
  have hl := lv_entry ([.ref q]) (n := 2) (Nat.le_of_ble_eq_true rfl)
  rw [lg_entry_eq]
  generalize (lg_sl ([.ref q]) ++ List.replicate (2 - (lg_sl ([.ref q])).length) Slot.unset).toArray = ls at hl ⊢
  have hl : lv_has ls 2 [(0, .ref q)] := hl
  refine lv_aload_n hx hb d_Disk_init_0 rfl (lv_at hl 0 rfl) ?_
  refine W.objInit hx hb hown (htb _ tw28) (htb _ tw21) (htb _ tw22) rfl (by rw [hml]; exact hl.1) rfl d_Disk_init_1 (Nat.le_of_ble_eq_true rfl) (Nat.le_of_ble_eq_true rfl) ?_
  refine W.eq (g2 := F0 m 4 ls []) rfl ?_
  refine lv_aload_n hx hb d_Disk_init_4 rfl (lv_at hl 0 rfl) ?_
  refine va_new (ci := 0) (fs := [.null]) (C := R_Blocks) (T := T_Blocks) (N := 1) hx hb htb uin_Blocks t_Blocks t_Blocks_ok hown (htb _ tw29) (htb _ tw30) (htb _ tw3) hK hP hD hS hA rfl (fun j hj => by rcases (show j = 0 by omega) with rfl <;> rfl) (Nat.le_of_ble_eq_true rfl) (Nat.le_of_ble_eq_true rfl) d_Disk_init_5 (fun q5 H hP hD hS => ?_)
  have hP : va_P (dC, dI) cls [(q, .inr (1, [.null, .int 0, .int 0, .int 0])), (q5, .inr (0, [.null]))] H := hP
  have hD : va_D A [(q, .inr (1, [.null, .int 0, .int 0, .int 0])), (q5, .inr (0, [.null]))] := hD
  refine lv_dup hx hb d_Disk_init_8 rfl ?_
  have hPc := hP.sub (ws' := [(q5, .inr (0, [.null]))]) [1] rfl
  have hDc := hD.sub (ws' := [(q5, .inr (0, [.null]))]) [1] (by decide) rfl
  have hFc := va_free (wc := [(q5, .inr (0, [.null]))]) hD hS hA [1] rfl
  refine va_callv (va_runI (As := []) (rest := [.ref q5, .ref q]) ⟨hx, hb, hml, hown, htb⟩ (c_Blocks_init (l := l) (dC := dC) (dI := dI) (cB := cB) (cI := cI) q5 H.size) (xcI 0 htb tw33 tw3 tw31 tw32 rfl rfl rfl hd_Blocks_init ⟨Nat.le_of_ble_eq_true rfl, Nat.le_of_ble_eq_true rfl⟩) ⟨kI_blind, fun U hU hW => ⟨rfl, by rw [hU], ⟨by rw [hU]; exact hPc, va_K.moved hW.alike hK⟩, hDc.weaken (fun _ _ _ _ => trivial)⟩⟩ rfl rfl hl.1 rfl (lv_room (Nat.le_of_ble_eq_true rfl)) d_Disk_init_9 ⟨Nat.le_of_ble_eq_true rfl, Nat.le_of_ble_eq_true rfl⟩) hS (fun q _ h => hFc q h) hFc (fun u t H1 locs ht hvm _ hB hz1 hk1 hS => ?_)
  obtain ⟨a9, rfl⟩ : ∃ z, z = u := ⟨_, rfl⟩
  obtain ⟨hB1, hD1⟩ := hB
  have hP1 := kW_P hB1 ht
  obtain ⟨hP, hD⟩ := va_join (wr := [(q, .inr (1, [.null, .int 0, .int 0, .int 0]))]) (w1 := [(q5, .inr (0, [.ref a9])), (a9, .inl (cB, 8192, .inl (fun j => ((fun _ => (0 : Int8)) j).toInt32)))]) hP hD [1] [0] rfl rfl (by decide) (by decide) hk1 hFc hP1 hD1
  generalize H1 = H at hP hS ⊢
  have hP : va_P (dC, dI) cls [(q, .inr (1, [.null, .int 0, .int 0, .int 0])), (q5, .inr (0, [.ref a9])), (a9, .inl (cB, 8192, .inl (fun j => ((fun _ => (0 : Int8)) j).toInt32)))] H := hP
  have hD : va_D A [(q, .inr (1, [.null, .int 0, .int 0, .int 0])), (q5, .inr (0, [.ref a9])), (a9, .inl (cB, 8192, .inl (fun j => ((fun _ => (0 : Int8)) j).toInt32)))] := hD
  refine va_putF (D := (dC, dI)) (ci := 1) (v := .ref q5) (ty := .object "LogFs$Blocks") (C := R_Disk) (T := T_Disk) (N := 4) hx hb htb uin_Disk t_Disk t_Disk_ok n_Disk hown hK hP hD hS 0 rfl rfl 0 (by decide) (htb _ tw48) (fun _ h9 => h9) rfl hin rfl (by decide +kernel) rfl rfl (Nat.le_of_ble_eq_true rfl) d_Disk_init_12 (fun H locs hP hD hS => ?_)
  have hP : va_P (dC, dI) cls [(q, .inr (1, [.ref q5, .int 0, .int 0, .int 0])), (q5, .inr (0, [.ref a9])), (a9, .inl (cB, 8192, .inl (fun j => ((fun _ => (0 : Int8)) j).toInt32)))] H := hP
  have hD : va_D A [(q, .inr (1, [.ref q5, .int 0, .int 0, .int 0])), (q5, .inr (0, [.ref a9])), (a9, .inl (cB, 8192, .inl (fun j => ((fun _ => (0 : Int8)) j).toInt32)))] := hD
  refine lv_aload_n hx hb d_Disk_init_15 rfl (lv_at hl 0 rfl) ?_
  refine lv_iconst (v := (0 : Int32)) hx hb d_Disk_init_16 (by decide) ?_
  refine va_put (D := (dC, dI)) (ci := 1) (v := .int (0 : Int32)) (ty := .int) (C := R_Disk) (T := T_Disk) (N := 4) hx hb htb uin_Disk t_Disk t_Disk_ok n_Disk hown hK hP hD hS 0 rfl rfl 1 (by decide) (htb _ tw50) (fun _ h9 => h9) rfl (by decide +kernel) rfl rfl (Nat.le_of_ble_eq_true rfl) d_Disk_init_17 (fun H locs hP hD hS => ?_)
  have hP : va_P (dC, dI) cls [(q, .inr (1, [.ref q5, .int (0 : Int32), .int 0, .int 0])), (q5, .inr (0, [.ref a9])), (a9, .inl (cB, 8192, .inl (fun j => ((fun _ => (0 : Int8)) j).toInt32)))] H := hP
  have hD : va_D A [(q, .inr (1, [.ref q5, .int (0 : Int32), .int 0, .int 0])), (q5, .inr (0, [.ref a9])), (a9, .inl (cB, 8192, .inl (fun j => ((fun _ => (0 : Int8)) j).toInt32)))] := hD
  refine lv_aload_n hx hb d_Disk_init_20 rfl (lv_at hl 0 rfl) ?_
  refine lv_iconst (v := ((-1) : Int32)) hx hb d_Disk_init_21 (by decide) ?_
  refine va_put (D := (dC, dI)) (ci := 1) (v := .int ((-1) : Int32)) (ty := .int) (C := R_Disk) (T := T_Disk) (N := 4) hx hb htb uin_Disk t_Disk t_Disk_ok n_Disk hown hK hP hD hS 0 rfl rfl 2 (by decide) (htb _ tw52) (fun _ h9 => h9) rfl (by decide +kernel) rfl rfl (Nat.le_of_ble_eq_true rfl) d_Disk_init_22 (fun H locs hP hD hS => ?_)
  have hP : va_P (dC, dI) cls [(q, .inr (1, [.ref q5, .int (0 : Int32), .int ((-1) : Int32), .int 0])), (q5, .inr (0, [.ref a9])), (a9, .inl (cB, 8192, .inl (fun j => ((fun _ => (0 : Int8)) j).toInt32)))] H := hP
  have hD : va_D A [(q, .inr (1, [.ref q5, .int (0 : Int32), .int ((-1) : Int32), .int 0])), (q5, .inr (0, [.ref a9])), (a9, .inl (cB, 8192, .inl (fun j => ((fun _ => (0 : Int8)) j).toInt32)))] := hD
  refine lv_aload_n hx hb d_Disk_init_25 rfl (lv_at hl 0 rfl) ?_
  refine lv_iconst (v := (0 : Int32)) hx hb d_Disk_init_26 (by decide) ?_
  refine va_put (D := (dC, dI)) (ci := 1) (v := .int (0 : Int32)) (ty := .boolean) (C := R_Disk) (T := T_Disk) (N := 4) hx hb htb uin_Disk t_Disk t_Disk_ok n_Disk hown hK hP hD hS 0 rfl rfl 3 (by decide) (htb _ tw54) (fun _ h9 => h9) rfl (by decide +kernel) (by decide +kernel) (by decide +kernel) (Nat.le_of_ble_eq_true rfl) d_Disk_init_27 (fun H locs hP hD hS => ?_)
  have hP : va_P (dC, dI) cls [(q, .inr (1, [.ref q5, .int (0 : Int32), .int ((-1) : Int32), .int (0 : Int32)])), (q5, .inr (0, [.ref a9])), (a9, .inl (cB, 8192, .inl (fun j => ((fun _ => (0 : Int8)) j).toInt32)))] H := hP
  have hD : va_D A [(q, .inr (1, [.ref q5, .int (0 : Int32), .int ((-1) : Int32), .int (0 : Int32)])), (q5, .inr (0, [.ref a9])), (a9, .inl (cB, 8192, .inl (fun j => ((fun _ => (0 : Int8)) j).toInt32)))] := hD
  have hP : va_P (dC, dI) cls [(q, .inr (1, [.ref q5, .int (0 : Int32), .int ((-1) : Int32), .int (0 : Int32)])), (q5, .inr (0, [.ref a9])), (a9, .inl (cB, 8192, .inl (fun j => ((fun _ => (0 : Int8)) j).toInt32)))] H := hP.sub [0, 1, 2] rfl
  have hD : va_D A [(q, .inr (1, [.ref q5, .int (0 : Int32), .int ((-1) : Int32), .int (0 : Int32)])), (q5, .inr (0, [.ref a9])), (a9, .inl (cB, 8192, .inl (fun j => ((fun _ => (0 : Int8)) j).toInt32)))] := hD.sub [0, 1, 2] (by decide) rfl
  obtain ⟨ga, g1, g4, g6⟩ : ∃ ga : Nat → Nat, ga 1 = q ∧ ga 4 = q5 ∧ ga 6 = a9 := ⟨fun k => if k = 1 then q else if k = 4 then q5 else a9, rfl, rfl, rfl⟩
  subst g1; subst g4; subst g6
  have hDa : ∀ σ, va_D A (wZ ga cB cI σ) := fun σ => va_D_same (by rfl) hD
  have hP : va_P (dC, dI) cls (wZ ga cB cI ((fun _ => (0 : Int8)), (0 : Int32), ((-1) : Int32), (0 : Int32))) H := hP
  refine W.widen (k := 2) (n := 8193) (Nat.le_of_ble_eq_true rfl) (Nat.le_of_ble_eq_true rfl) ?_
  have blk54 : ∀ (n : Nat) (σ : ZS) (v1 : Int32) (ls : Array Slot) (H : Heap) (locs : List Loc), J_Disk_init_54 n σ v1 = some res → lv_has ls 2 [(0, .ref (ga 1)), (1, .int v1)] → va_P (dC, dI) cls (wZ ga cB cI σ) H → va_S A s.heap H locs → W p l e (headSpec (mw y_Disk_init b_Disk_init 2 none) rm_Disk_init).room s m [.ref (ga 1)].toArray below meth c H locs 2 8193 (MQ below (va_Qv (fun (_ : Nat × Nat) => True) (fun u t => kW (dC, dI) (tC cB cI) [((ga 1), .inr (1, [.ref u.1, .int (z_w res), .int (z_f res), .int (z_o res)])), (u.1, .inr (0, [.ref u.2])), (u.2, .inl (cB, 8192, .inl (fun j => (z_D res j).toInt32)))] t ∧ va_D A [((ga 1), .inr (1, [.ref u.1, .int (z_w res), .int (z_f res), .int (z_o res)])), (u.1, .inr (0, [.ref u.2])), (u.2, .inl (cB, 8192, .inl (fun j => (z_D res j).toInt32)))]) A) [.ref (ga 1)].toArray s 2 8193 A) (F0 m 54 ls []) := by
    intro n
    induction n with
    | zero => intro σ v1 ls H locs hJ; exact j_none hJ
    | succ n hk =>
      intro σ v1 ls H locs hJ hl hP hS
      have hJ : J_Disk_init_54_b (J_Disk_init_54 n) σ v1 = some res := hJ
      unfold J_Disk_init_54_b at hJ
      refine lv_iload_n hx hb d_Disk_init_54 rfl (lv_at hl 1 rfl) ?_
      refine lv_bipush (v := (26 : Int32)) hx hb d_Disk_init_55 (by decide) ?_
      refine lv_icmp_ge (tgt := 99) hx hb d_Disk_init_57 (by decide) (fun h3 => ?_) (fun h3 => ?_)
      · have hJ := j_t hJ h3
        have hJ := Option.some.inj hJ
        subst hJ
        exact W.vret hx hb hr (fun t ht hW => ⟨⟨(ga 4, ga 6), rfl, trivial, kW_end hP hK ht hW rfl, hDa _⟩, hS.F ht⟩) hS.2.2 d_Disk_init_99
      · have hJ := j_f hJ h3
        refine lv_aload_n hx hb d_Disk_init_60 rfl (lv_at hl 0 rfl) ?_
        refine va_get (D := (dC, dI)) (ci := 1) (v := .ref (ga 4)) (C := R_Disk) (T := T_Disk) (N := 4) hx hb htb uin_Disk hown hK hP 0 rfl rfl 0 (by decide) (htb _ tw48) (fun _ h9 => h9) rfl d_Disk_init_61 ?_
        refine lv_bipush (v := (25 : Int32)) hx hb d_Disk_init_64 (by decide) ?_
        refine lv_iload_n hx hb d_Disk_init_66 rfl (lv_at hl 1 rfl) ?_
        refine lv_bipush (v := (8 : Int32)) hx hb d_Disk_init_67 (by decide) ?_
        refine lv_idiv hx hb d_Disk_init_69 (by decide) ?_
        refine lv_aload_n hx hb d_Disk_init_70 rfl (lv_at hl 0 rfl) ?_
        refine va_get (D := (dC, dI)) (ci := 1) (v := .ref (ga 4)) (C := R_Disk) (T := T_Disk) (N := 4) hx hb htb uin_Disk hown hK hP 0 rfl rfl 0 (by decide) (htb _ tw48) (fun _ h9 => h9) rfl d_Disk_init_71 ?_
        refine lv_bipush (v := (25 : Int32)) hx hb d_Disk_init_74 (by decide) ?_
        refine lv_iload_n hx hb d_Disk_init_76 rfl (lv_at hl 1 rfl) ?_
        refine lv_bipush (v := (8 : Int32)) hx hb d_Disk_init_77 (by decide) ?_
        refine lv_idiv hx hb d_Disk_init_79 (by decide) ?_
        obtain ⟨x4, e4, hJ⟩ := j_bind hJ
        refine va_calli (va_runV (As := [.int (25 : Int32), .int (v1 / (8 : Int32))]) (rest := [.int (v1 / (8 : Int32)), .int (25 : Int32), .ref (ga 4)]) ⟨hx, hb, hml, hown, htb⟩ (c_Blocks_get_z (l := l) (dC := dC) (dI := dI) hDa e4) (xcV 2 htb tw47 tw3 tw44 tw45 tw46 rfl rfl hd_Blocks_get ⟨Nat.le_of_ble_eq_true rfl, Nat.le_of_ble_eq_true rfl⟩) (kW_V hP hK (va_recv (q0 := 1) (ci := 0) hK hP rfl rfl)) rfl rfl hl.1 rfl (lv_room (Nat.le_of_ble_eq_true rfl)) d_Disk_init_80 ⟨Nat.le_of_ble_eq_true rfl, Nat.le_of_ble_eq_true rfl⟩) hS (fun q _ h => h) (fun q h => h) (fun r0 u t H locs ht hvm hw hB _ _ hS => ?_)
        subst r0
        have hP := kW_P hB ht
        refine lv_iconst (v := (1 : Int32)) hx hb d_Disk_init_83 (by decide) ?_
        refine lv_iload_n hx hb d_Disk_init_84 rfl (lv_at hl 1 rfl) ?_
        refine lv_bipush (v := (8 : Int32)) hx hb d_Disk_init_85 (by decide) ?_
        refine lv_irem hx hb d_Disk_init_87 (by decide) ?_
        refine lv_ishl hx hb d_Disk_init_88 ?_
        refine lv_ior hx hb d_Disk_init_89 ?_
        obtain ⟨x5, e5, hJ⟩ := j_bind hJ
        refine va_callv (va_runV (As := [.int (25 : Int32), .int (v1 / (8 : Int32)), .int (x4 ||| ((1 : Int32) <<< ((v1 - v1 / (8 : Int32) * (8 : Int32)) &&& 31)))]) (rest := []) ⟨hx, hb, hml, hown, htb⟩ (c_Blocks_set_z (l := l) (dC := dC) (dI := dI) hDa e5) (xcV 3 htb tw43 tw3 tw40 tw41 tw42 rfl rfl hd_Blocks_set ⟨Nat.le_of_ble_eq_true rfl, Nat.le_of_ble_eq_true rfl⟩) (kW_V hP hK (va_recv (q0 := 1) (ci := 0) hK hP rfl rfl)) rfl rfl hl.1 rfl (lv_room (Nat.le_of_ble_eq_true rfl)) d_Disk_init_90 ⟨Nat.le_of_ble_eq_true rfl, Nat.le_of_ble_eq_true rfl⟩) hS (fun q _ h => h) (fun q h => h) (fun u t H locs ht hvm hw hB _ _ hS => ?_)
        have hP := kW_P hB ht
        refine lv_iinc (k := 1) (v := (v1 + (1 : Int32))) hx hb d_Disk_init_93 hl rfl rfl (Nat.le_of_ble_eq_true rfl) rfl (fun ls hl => ?_)
        have hl : lv_has ls 2 [(1, .int (v1 + (1 : Int32))), (0, .ref (ga 1))] := hl
        refine lv_goto (tgt := 54) hx hb d_Disk_init_96 (by decide) ?_
        exact hk _ _ _ _ _ hJ (lv_sub hl [1, 0] rfl) hP hS
  have hl : lv_has ls 2 [(0, .ref (ga 1))] := hl
  unfold J_Disk_init at hJ
  refine lv_aload_n hx hb d_Disk_init_30 rfl (lv_at hl 0 rfl) ?_
  refine va_get (D := (dC, dI)) (ci := 1) (v := .ref (ga 4)) (C := R_Disk) (T := T_Disk) (N := 4) hx hb htb uin_Disk hown hK hP 0 rfl rfl 0 (by decide) (htb _ tw48) (fun _ h9 => h9) rfl d_Disk_init_31 ?_
  refine lv_bipush (v := (17 : Int32)) hx hb d_Disk_init_34 (by decide) ?_
  refine lv_iconst (v := (0 : Int32)) hx hb d_Disk_init_36 (by decide) ?_
  refine lv_iconst (v := (2 : Int32)) hx hb d_Disk_init_37 (by decide) ?_
  obtain ⟨x1, e1, hJ⟩ := j_bind hJ
  refine va_callv (va_runV (As := [.int (17 : Int32), .int (0 : Int32), .int (2 : Int32)]) (rest := []) ⟨hx, hb, hml, hown, htb⟩ (c_Blocks_set_z (l := l) (dC := dC) (dI := dI) hDa e1) (xcV 3 htb tw43 tw3 tw40 tw41 tw42 rfl rfl hd_Blocks_set ⟨Nat.le_of_ble_eq_true rfl, Nat.le_of_ble_eq_true rfl⟩) (kW_V hP hK (va_recv (q0 := 1) (ci := 0) hK hP rfl rfl)) rfl rfl hl.1 rfl (lv_room (Nat.le_of_ble_eq_true rfl)) d_Disk_init_38 ⟨Nat.le_of_ble_eq_true rfl, Nat.le_of_ble_eq_true rfl⟩) hS (fun q _ h => h) (fun q h => h) (fun u t H locs ht hvm hw hB _ _ hS => ?_)
  have hP := kW_P hB ht
  refine lv_aload_n hx hb d_Disk_init_41 rfl (lv_at hl 0 rfl) ?_
  refine va_get (D := (dC, dI)) (ci := 1) (v := .ref (ga 4)) (C := R_Disk) (T := T_Disk) (N := 4) hx hb htb uin_Disk hown hK hP 0 rfl rfl 0 (by decide) (htb _ tw48) (fun _ h9 => h9) rfl d_Disk_init_42 ?_
  refine lv_bipush (v := (17 : Int32)) hx hb d_Disk_init_45 (by decide) ?_
  refine lv_iconst (v := (1 : Int32)) hx hb d_Disk_init_47 (by decide) ?_
  refine lv_iconst (v := (1 : Int32)) hx hb d_Disk_init_48 (by decide) ?_
  obtain ⟨x2, e2, hJ⟩ := j_bind hJ
  refine va_callv (va_runV (As := [.int (17 : Int32), .int (1 : Int32), .int (1 : Int32)]) (rest := []) ⟨hx, hb, hml, hown, htb⟩ (c_Blocks_set_z (l := l) (dC := dC) (dI := dI) hDa e2) (xcV 3 htb tw43 tw3 tw40 tw41 tw42 rfl rfl hd_Blocks_set ⟨Nat.le_of_ble_eq_true rfl, Nat.le_of_ble_eq_true rfl⟩) (kW_V hP hK (va_recv (q0 := 1) (ci := 0) hK hP rfl rfl)) rfl rfl hl.1 rfl (lv_room (Nat.le_of_ble_eq_true rfl)) d_Disk_init_49 ⟨Nat.le_of_ble_eq_true rfl, Nat.le_of_ble_eq_true rfl⟩) hS (fun q _ h => h) (fun q h => h) (fun u t H locs ht hvm hw hB _ _ hS => ?_)
  have hP := kW_P hB ht
  refine lv_iconst (v := (0 : Int32)) hx hb d_Disk_init_52 (by decide) ?_
  refine lv_istore_n hx hb d_Disk_init_53 rfl hl (Nat.le_of_ble_eq_true rfl) rfl (fun ls hl => ?_)
  have hl : lv_has ls 2 [(1, .int (0 : Int32)), (0, .ref (ga 1))] := hl
  exact blk54 9000 _ _ _ _ _ hJ (lv_sub hl [1, 0] rfl) hP hS
