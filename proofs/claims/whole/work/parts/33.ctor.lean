/-! The constructors of LogFs and of the reference. Written by wip/gen/ctor.py. -/
def J_LogFs_init (σ : CS) : Option (CS) :=
  (J_Memory_load σ).bind fun x1 => some x1
abbrev rm_LogFs_init : Room := { frames := 3, cells := 8, slots := 16410, locals := 70 }
set_option maxHeartbeats 4000000 in
set_option maxRecDepth 100000 in
theorem c_LogFs_init {l : Launch} {dC : Nat → ClassId} {dI : Nat → Nat → Nat} {cB cI : ClassId} (q : Nat) (sz : Nat) {z1 : ZS} (hJ1 : J_Disk_init ((fun _ => (0 : Int8)), (0 : Int32), ((-1) : Int32), (0 : Int32)) = some z1) {res : CS} (hJ : J_LogFs_init ((z_D z1), (fun _ => (0 : Int8)), (fun _ => (0 : Int32)), (0 : Int32), (z_w z1), (z_f z1), (z_o z1), (0 : Int32)) = some res) :
    Met l y_LogFs_init (mw y_LogFs_init b_LogFs_init 1 none) rm_LogFs_init (va_Pc [.ref q] (fun U => U.heap.size = sz ∧ kW (dC, dI) (tC cB cI) [(q, .inr (4, [.null, .null, .null, .int 0]))] U ∧ va_D (fun _ => True) [(q, .inr (4, [.null, .null, .null, .int 0]))])) (va_Qv (fun (u : Nat → Nat) => u 0 = q) (fun u t => kW (dC, dI) (tC cB cI) (wC u cB cI res) t ∧ va_D (va_A [(q, .inr (4, [.null, .null, .null, .int 0]))] sz) (wC u cB cI res)) (va_A [(q, .inr (4, [.null, .null, .null, .int 0]))] sz)) 8 16410 (va_A [(q, .inr (4, [.null, .null, .null, .int 0]))] sz) := by
  refine Met.ofW (cc := b_LogFs_init) (maxL := 1) (ret := none) (by decide) rfl ?_
  intro p e s m args below meth c s₁ B hml hv
  obtain ⟨rfl, hsz, ⟨hP, hK⟩, hD0⟩ := hv
  have hx := B.exec
  have hb := B.bytes
  have hr := B.returns
  have hts := atoms_spec (ws := (mw y_LogFs_init b_LogFs_init 1 none)) B.pre
  have htb : ∀ x ∈ tb, x.before [.ref q].toArray s = true := fun x h => hts x (mwIn h)
  have hown : s.vm.findClass "LogFs" = some m.cls := findClass_of_methodNamed B.named
  have hlocks := B.notSynchronized
  have hin : meth.name = "<init>" := (name_of_methodNamed B.named B.method).1
  subst hsz
  have hD := hD0.self (sz := s.heap.size)
  generalize hAe : va_A [(q, .inr (4, [.null, .null, .null, .int 0]))] s.heap.size = A at hD ⊢
  have hA : ∀ q : Nat, s.heap.size ≤ q → A q := fun q h => by rw [← hAe]; exact Or.inr h
  have hS : va_S A s.heap s.heap [] := va_S.rf
  have hl := lv_entry ([.ref q]) (n := 1) (Nat.le_of_ble_eq_true rfl)
  rw [lg_entry_eq]
  generalize (lg_sl ([.ref q]) ++ List.replicate (1 - (lg_sl ([.ref q])).length) Slot.unset).toArray = ls at hl ⊢
  have hl : lv_has ls 1 [(0, .ref q)] := hl
  refine lv_aload_n hx hb d_LogFs_init_0 rfl (lv_at hl 0 rfl) ?_
  refine W.objInit hx hb hown (htb _ tw20) (htb _ tw21) (htb _ tw22) rfl (by rw [hml]; exact hl.1) rfl d_LogFs_init_1 (Nat.le_of_ble_eq_true rfl) (Nat.le_of_ble_eq_true rfl) ?_
  refine W.eq (g2 := F0 m 4 ls []) rfl ?_
  refine lv_aload_n hx hb d_LogFs_init_4 rfl (lv_at hl 0 rfl) ?_
  refine va_new (ci := 1) (fs := [.null, .int 0, .int 0, .int 0]) (C := R_Disk) (T := T_Disk) (N := 4) hx hb htb uin_Disk t_Disk t_Disk_ok hown (htb _ tw23) (htb _ tw24) (htb _ tw2) hK hP hD hS hA rfl (fun j hj => by rcases (show j = 0 ∨ j = 1 ∨ j = 2 ∨ j = 3 by omega) with rfl | rfl | rfl | rfl <;> rfl) (Nat.le_of_ble_eq_true rfl) (Nat.le_of_ble_eq_true rfl) d_LogFs_init_5 (fun q5 H hP hD hS => ?_)
  have hP : va_P (dC, dI) cls [(q, .inr (4, [.null, .null, .null, .int 0])), (q5, .inr (1, [.null, .int 0, .int 0, .int 0]))] H := hP
  have hD : va_D A [(q, .inr (4, [.null, .null, .null, .int 0])), (q5, .inr (1, [.null, .int 0, .int 0, .int 0]))] := hD
  refine lv_dup hx hb d_LogFs_init_8 rfl ?_
  have hPc := hP.sub (ws' := [(q5, .inr (1, [.null, .int 0, .int 0, .int 0]))]) [1] rfl
  have hDc := hD.sub (ws' := [(q5, .inr (1, [.null, .int 0, .int 0, .int 0]))]) [1] (by decide) rfl
  have hFc := va_free (wc := [(q5, .inr (1, [.null, .int 0, .int 0, .int 0]))]) hD hS hA [1] rfl
  refine va_callv (va_runI (As := []) (rest := [.ref q5, .ref q]) ⟨hx, hb, hml, hown, htb⟩ (c_Disk_init (l := l) (dC := dC) (dI := dI) (cB := cB) (cI := cI) q5 H.size hJ1) (xcI 0 htb tw27 tw2 tw25 tw26 rfl rfl rfl hd_Disk_init ⟨Nat.le_of_ble_eq_true rfl, Nat.le_of_ble_eq_true rfl⟩) ⟨kI_blind, fun U hU hW => ⟨rfl, by rw [hU], ⟨by rw [hU]; exact hPc, va_K.moved hW.alike hK⟩, hDc.weaken (fun _ _ _ _ => trivial)⟩⟩ rfl rfl hl.1 rfl (lv_room (Nat.le_of_ble_eq_true rfl)) d_LogFs_init_9 ⟨Nat.le_of_ble_eq_true rfl, Nat.le_of_ble_eq_true rfl⟩) hS (fun q _ h => hFc q h) hFc (fun u t H1 locs ht hvm _ hB hz1 hk1 hS => ?_)
  obtain ⟨b9, a9⟩ := u
  obtain ⟨hB1, hD1⟩ := hB
  have hP1 := kW_P hB1 ht
  obtain ⟨hP, hD⟩ := va_join (wr := [(q, .inr (4, [.null, .null, .null, .int 0]))]) (w1 := [(q5, .inr (1, [.ref b9, .int (z_w z1), .int (z_f z1), .int (z_o z1)])), (b9, .inr (0, [.ref a9])), (a9, .inl (cB, 8192, .inl (fun j => (z_D z1 j).toInt32)))]) hP hD [1] [0] rfl rfl (by decide) (by decide) hk1 hFc hP1 hD1
  generalize H1 = H at hP hS ⊢
  have hP : va_P (dC, dI) cls [(q, .inr (4, [.null, .null, .null, .int 0])), (q5, .inr (1, [.ref b9, .int (z_w z1), .int (z_f z1), .int (z_o z1)])), (b9, .inr (0, [.ref a9])), (a9, .inl (cB, 8192, .inl (fun j => (z_D z1 j).toInt32)))] H := hP
  have hD : va_D A [(q, .inr (4, [.null, .null, .null, .int 0])), (q5, .inr (1, [.ref b9, .int (z_w z1), .int (z_f z1), .int (z_o z1)])), (b9, .inr (0, [.ref a9])), (a9, .inl (cB, 8192, .inl (fun j => (z_D z1 j).toInt32)))] := hD
  refine va_putF (D := (dC, dI)) (ci := 4) (v := .ref q5) (ty := .object "LogFs$Disk") (C := R_LogFs) (T := T_LogFs) (N := 4) hx hb htb uin_LogFs t_LogFs t_LogFs_ok n_LogFs hown hK hP hD hS 0 rfl rfl 0 (by decide) (htb _ tw117) (fun _ h9 => h9) rfl hin rfl (by decide +kernel) rfl rfl (Nat.le_of_ble_eq_true rfl) d_LogFs_init_12 (fun H locs hP hD hS => ?_)
  have hP : va_P (dC, dI) cls [(q, .inr (4, [.ref q5, .null, .null, .int 0])), (q5, .inr (1, [.ref b9, .int (z_w z1), .int (z_f z1), .int (z_o z1)])), (b9, .inr (0, [.ref a9])), (a9, .inl (cB, 8192, .inl (fun j => (z_D z1 j).toInt32)))] H := hP
  have hD : va_D A [(q, .inr (4, [.ref q5, .null, .null, .int 0])), (q5, .inr (1, [.ref b9, .int (z_w z1), .int (z_f z1), .int (z_o z1)])), (b9, .inr (0, [.ref a9])), (a9, .inl (cB, 8192, .inl (fun j => (z_D z1 j).toInt32)))] := hD
  refine lv_aload_n hx hb d_LogFs_init_15 rfl (lv_at hl 0 rfl) ?_
  refine va_new (ci := 2) (fs := [.null, .null, .int 0]) (C := R_Memory) (T := T_Memory) (N := 3) hx hb htb uin_Memory t_Memory t_Memory_ok hown (htb _ tw65) (htb _ tw66) (htb _ tw4) hK hP hD hS hA rfl (fun j hj => by rcases (show j = 0 ∨ j = 1 ∨ j = 2 by omega) with rfl | rfl | rfl <;> rfl) (Nat.le_of_ble_eq_true rfl) (Nat.le_of_ble_eq_true rfl) d_LogFs_init_16 (fun q16 H hP hD hS => ?_)
  have hP : va_P (dC, dI) cls [(q, .inr (4, [.ref q5, .null, .null, .int 0])), (q5, .inr (1, [.ref b9, .int (z_w z1), .int (z_f z1), .int (z_o z1)])), (b9, .inr (0, [.ref a9])), (a9, .inl (cB, 8192, .inl (fun j => (z_D z1 j).toInt32))), (q16, .inr (2, [.null, .null, .int 0]))] H := hP
  have hD : va_D A [(q, .inr (4, [.ref q5, .null, .null, .int 0])), (q5, .inr (1, [.ref b9, .int (z_w z1), .int (z_f z1), .int (z_o z1)])), (b9, .inr (0, [.ref a9])), (a9, .inl (cB, 8192, .inl (fun j => (z_D z1 j).toInt32))), (q16, .inr (2, [.null, .null, .int 0]))] := hD
  refine lv_dup hx hb d_LogFs_init_19 rfl ?_
  have hPc := hP.sub (ws' := [(q16, .inr (2, [.null, .null, .int 0]))]) [4] rfl
  have hDc := hD.sub (ws' := [(q16, .inr (2, [.null, .null, .int 0]))]) [4] (by decide) rfl
  have hFc := va_free (wc := [(q16, .inr (2, [.null, .null, .int 0]))]) hD hS hA [4] rfl
  refine va_callv (va_runI (As := []) (rest := [.ref q16, .ref q]) ⟨hx, hb, hml, hown, htb⟩ (c_Memory_init (l := l) (dC := dC) (dI := dI) (cB := cB) (cI := cI) q16 H.size) (xcI 0 htb tw69 tw4 tw67 tw68 rfl rfl rfl hd_Memory_init ⟨Nat.le_of_ble_eq_true rfl, Nat.le_of_ble_eq_true rfl⟩) ⟨kI_blind, fun U hU hW => ⟨rfl, by rw [hU], ⟨by rw [hU]; exact hPc, va_K.moved hW.alike hK⟩, hDc.weaken (fun _ _ _ _ => trivial)⟩⟩ rfl rfl hl.1 rfl (lv_room (Nat.le_of_ble_eq_true rfl)) d_LogFs_init_20 ⟨Nat.le_of_ble_eq_true rfl, Nat.le_of_ble_eq_true rfl⟩) hS (fun q _ h => hFc q h) hFc (fun u t H1 locs ht hvm _ hB hz1 hk1 hS => ?_)
  obtain ⟨b20, a20, d20⟩ := u
  obtain ⟨hB1, hD1⟩ := hB
  have hP1 := kW_P hB1 ht
  obtain ⟨hP, hD⟩ := va_join (wr := [(q, .inr (4, [.ref q5, .null, .null, .int 0])), (q5, .inr (1, [.ref b9, .int (z_w z1), .int (z_f z1), .int (z_o z1)])), (b9, .inr (0, [.ref a9])), (a9, .inl (cB, 8192, .inl (fun j => (z_D z1 j).toInt32)))]) (w1 := [(q16, .inr (2, [.ref b20, .ref d20, .int 0])), (b20, .inr (0, [.ref a20])), (a20, .inl (cB, 8192, .inl (fun j => ((fun _ => (0 : Int8)) j).toInt32))), (d20, .inl (cI, 15, .inl (fun _ => 0)))]) hP hD [4] [0, 1, 2, 3] rfl rfl (by decide) (by decide) hk1 hFc hP1 hD1
  generalize H1 = H at hP hS ⊢
  have hP : va_P (dC, dI) cls [(q, .inr (4, [.ref q5, .null, .null, .int 0])), (q5, .inr (1, [.ref b9, .int (z_w z1), .int (z_f z1), .int (z_o z1)])), (b9, .inr (0, [.ref a9])), (a9, .inl (cB, 8192, .inl (fun j => (z_D z1 j).toInt32))), (q16, .inr (2, [.ref b20, .ref d20, .int 0])), (b20, .inr (0, [.ref a20])), (a20, .inl (cB, 8192, .inl (fun j => ((fun _ => (0 : Int8)) j).toInt32))), (d20, .inl (cI, 15, .inl (fun _ => 0)))] H := hP
  have hD : va_D A [(q, .inr (4, [.ref q5, .null, .null, .int 0])), (q5, .inr (1, [.ref b9, .int (z_w z1), .int (z_f z1), .int (z_o z1)])), (b9, .inr (0, [.ref a9])), (a9, .inl (cB, 8192, .inl (fun j => (z_D z1 j).toInt32))), (q16, .inr (2, [.ref b20, .ref d20, .int 0])), (b20, .inr (0, [.ref a20])), (a20, .inl (cB, 8192, .inl (fun j => ((fun _ => (0 : Int8)) j).toInt32))), (d20, .inl (cI, 15, .inl (fun _ => 0)))] := hD
  refine va_putF (D := (dC, dI)) (ci := 4) (v := .ref q16) (ty := .object "LogFs$Memory") (C := R_LogFs) (T := T_LogFs) (N := 4) hx hb htb uin_LogFs t_LogFs t_LogFs_ok n_LogFs hown hK hP hD hS 0 rfl rfl 1 (by decide) (htb _ tw118) (fun _ h9 => h9) rfl hin rfl (by decide +kernel) rfl rfl (Nat.le_of_ble_eq_true rfl) d_LogFs_init_23 (fun H locs hP hD hS => ?_)
  have hP : va_P (dC, dI) cls [(q, .inr (4, [.ref q5, .ref q16, .null, .int 0])), (q5, .inr (1, [.ref b9, .int (z_w z1), .int (z_f z1), .int (z_o z1)])), (b9, .inr (0, [.ref a9])), (a9, .inl (cB, 8192, .inl (fun j => (z_D z1 j).toInt32))), (q16, .inr (2, [.ref b20, .ref d20, .int 0])), (b20, .inr (0, [.ref a20])), (a20, .inl (cB, 8192, .inl (fun j => ((fun _ => (0 : Int8)) j).toInt32))), (d20, .inl (cI, 15, .inl (fun _ => 0)))] H := hP
  have hD : va_D A [(q, .inr (4, [.ref q5, .ref q16, .null, .int 0])), (q5, .inr (1, [.ref b9, .int (z_w z1), .int (z_f z1), .int (z_o z1)])), (b9, .inr (0, [.ref a9])), (a9, .inl (cB, 8192, .inl (fun j => (z_D z1 j).toInt32))), (q16, .inr (2, [.ref b20, .ref d20, .int 0])), (b20, .inr (0, [.ref a20])), (a20, .inl (cB, 8192, .inl (fun j => ((fun _ => (0 : Int8)) j).toInt32))), (d20, .inl (cI, 15, .inl (fun _ => 0)))] := hD
  refine lv_aload_n hx hb d_LogFs_init_26 rfl (lv_at hl 0 rfl) ?_
  refine va_new (ci := 3) (fs := [.null, .null]) (C := R_Volume) (T := T_Volume) (N := 2) hx hb htb uin_Volume t_Volume t_Volume_ok hown (htb _ tw89) (htb _ tw90) (htb _ tw5) hK hP hD hS hA rfl (fun j hj => by rcases (show j = 0 ∨ j = 1 by omega) with rfl | rfl <;> rfl) (Nat.le_of_ble_eq_true rfl) (Nat.le_of_ble_eq_true rfl) d_LogFs_init_27 (fun q27 H hP hD hS => ?_)
  have hP : va_P (dC, dI) cls [(q, .inr (4, [.ref q5, .ref q16, .null, .int 0])), (q5, .inr (1, [.ref b9, .int (z_w z1), .int (z_f z1), .int (z_o z1)])), (b9, .inr (0, [.ref a9])), (a9, .inl (cB, 8192, .inl (fun j => (z_D z1 j).toInt32))), (q16, .inr (2, [.ref b20, .ref d20, .int 0])), (b20, .inr (0, [.ref a20])), (a20, .inl (cB, 8192, .inl (fun j => ((fun _ => (0 : Int8)) j).toInt32))), (d20, .inl (cI, 15, .inl (fun _ => 0))), (q27, .inr (3, [.null, .null]))] H := hP
  have hD : va_D A [(q, .inr (4, [.ref q5, .ref q16, .null, .int 0])), (q5, .inr (1, [.ref b9, .int (z_w z1), .int (z_f z1), .int (z_o z1)])), (b9, .inr (0, [.ref a9])), (a9, .inl (cB, 8192, .inl (fun j => (z_D z1 j).toInt32))), (q16, .inr (2, [.ref b20, .ref d20, .int 0])), (b20, .inr (0, [.ref a20])), (a20, .inl (cB, 8192, .inl (fun j => ((fun _ => (0 : Int8)) j).toInt32))), (d20, .inl (cI, 15, .inl (fun _ => 0))), (q27, .inr (3, [.null, .null]))] := hD
  refine lv_dup hx hb d_LogFs_init_30 rfl ?_
  refine lv_aload_n hx hb d_LogFs_init_31 rfl (lv_at hl 0 rfl) ?_
  refine va_get (D := (dC, dI)) (ci := 4) (v := .ref q16) (C := R_LogFs) (T := T_LogFs) (N := 4) hx hb htb uin_LogFs hown hK hP 0 rfl rfl 1 (by decide) (htb _ tw118) (fun _ h9 => h9) rfl d_LogFs_init_32 ?_
  have hPc := hP.sub (ws' := [(q27, .inr (3, [.null, .null])), (q16, .inr (2, [.ref b20, .ref d20, .int 0]))]) [8, 4] rfl
  have hDc := hD.sub (ws' := [(q27, .inr (3, [.null, .null])), (q16, .inr (2, [.ref b20, .ref d20, .int 0]))]) [8, 4] (by decide) rfl
  have hFc := va_free (wc := [(q27, .inr (3, [.null, .null])), (q16, .inr (2, [.ref b20, .ref d20, .int 0]))]) hD hS hA [8, 4] rfl
  refine va_callv (va_runI (As := [.ref q16]) (rest := [.ref q27, .ref q]) ⟨hx, hb, hml, hown, htb⟩ (c_Volume_init (l := l) (dC := dC) (dI := dI) (cB := cB) (cI := cI) q27 q16 b20 d20 H.size) (xcI 1 htb tw93 tw5 tw91 tw92 rfl rfl rfl hd_Volume_init ⟨Nat.le_of_ble_eq_true rfl, Nat.le_of_ble_eq_true rfl⟩) ⟨kI_blind, fun U hU hW => ⟨rfl, by rw [hU], ⟨by rw [hU]; exact hPc, va_K.moved hW.alike hK⟩, hDc.weaken (fun _ _ _ _ => trivial)⟩⟩ rfl rfl hl.1 rfl (lv_room (Nat.le_of_ble_eq_true rfl)) d_LogFs_init_35 ⟨Nat.le_of_ble_eq_true rfl, Nat.le_of_ble_eq_true rfl⟩) hS (fun q _ h => hFc q h) hFc (fun u t H1 locs ht hvm _ hB hz1 hk1 hS => ?_)
  obtain ⟨hB1, hD1⟩ := hB
  have hP1 := kW_P hB1 ht
  obtain ⟨hP, hD⟩ := va_join (wr := [(q, .inr (4, [.ref q5, .ref q16, .null, .int 0])), (q5, .inr (1, [.ref b9, .int (z_w z1), .int (z_f z1), .int (z_o z1)])), (b9, .inr (0, [.ref a9])), (a9, .inl (cB, 8192, .inl (fun j => (z_D z1 j).toInt32))), (b20, .inr (0, [.ref a20])), (a20, .inl (cB, 8192, .inl (fun j => ((fun _ => (0 : Int8)) j).toInt32))), (d20, .inl (cI, 15, .inl (fun _ => 0)))]) (w1 := [(q27, .inr (3, [.ref q16, .ref b20])), (q16, .inr (2, [.ref b20, .ref d20, .int 0]))]) hP hD [8, 4] [0, 1, 2, 3, 5, 6, 7] rfl rfl (by decide) (by decide) hk1 hFc hP1 hD1
  generalize H1 = H at hP hS ⊢
  have hP : va_P (dC, dI) cls [(q, .inr (4, [.ref q5, .ref q16, .null, .int 0])), (q5, .inr (1, [.ref b9, .int (z_w z1), .int (z_f z1), .int (z_o z1)])), (b9, .inr (0, [.ref a9])), (a9, .inl (cB, 8192, .inl (fun j => (z_D z1 j).toInt32))), (b20, .inr (0, [.ref a20])), (a20, .inl (cB, 8192, .inl (fun j => ((fun _ => (0 : Int8)) j).toInt32))), (d20, .inl (cI, 15, .inl (fun _ => 0))), (q27, .inr (3, [.ref q16, .ref b20])), (q16, .inr (2, [.ref b20, .ref d20, .int 0]))] H := hP
  have hD : va_D A [(q, .inr (4, [.ref q5, .ref q16, .null, .int 0])), (q5, .inr (1, [.ref b9, .int (z_w z1), .int (z_f z1), .int (z_o z1)])), (b9, .inr (0, [.ref a9])), (a9, .inl (cB, 8192, .inl (fun j => (z_D z1 j).toInt32))), (b20, .inr (0, [.ref a20])), (a20, .inl (cB, 8192, .inl (fun j => ((fun _ => (0 : Int8)) j).toInt32))), (d20, .inl (cI, 15, .inl (fun _ => 0))), (q27, .inr (3, [.ref q16, .ref b20])), (q16, .inr (2, [.ref b20, .ref d20, .int 0]))] := hD
  refine va_putF (D := (dC, dI)) (ci := 4) (v := .ref q27) (ty := .object "LogFs$Volume") (C := R_LogFs) (T := T_LogFs) (N := 4) hx hb htb uin_LogFs t_LogFs t_LogFs_ok n_LogFs hown hK hP hD hS 0 rfl rfl 2 (by decide) (htb _ tw119) (fun _ h9 => h9) rfl hin rfl (by decide +kernel) rfl rfl (Nat.le_of_ble_eq_true rfl) d_LogFs_init_38 (fun H locs hP hD hS => ?_)
  have hP : va_P (dC, dI) cls [(q, .inr (4, [.ref q5, .ref q16, .ref q27, .int 0])), (q5, .inr (1, [.ref b9, .int (z_w z1), .int (z_f z1), .int (z_o z1)])), (b9, .inr (0, [.ref a9])), (a9, .inl (cB, 8192, .inl (fun j => (z_D z1 j).toInt32))), (b20, .inr (0, [.ref a20])), (a20, .inl (cB, 8192, .inl (fun j => ((fun _ => (0 : Int8)) j).toInt32))), (d20, .inl (cI, 15, .inl (fun _ => 0))), (q27, .inr (3, [.ref q16, .ref b20])), (q16, .inr (2, [.ref b20, .ref d20, .int 0]))] H := hP
  have hD : va_D A [(q, .inr (4, [.ref q5, .ref q16, .ref q27, .int 0])), (q5, .inr (1, [.ref b9, .int (z_w z1), .int (z_f z1), .int (z_o z1)])), (b9, .inr (0, [.ref a9])), (a9, .inl (cB, 8192, .inl (fun j => (z_D z1 j).toInt32))), (b20, .inr (0, [.ref a20])), (a20, .inl (cB, 8192, .inl (fun j => ((fun _ => (0 : Int8)) j).toInt32))), (d20, .inl (cI, 15, .inl (fun _ => 0))), (q27, .inr (3, [.ref q16, .ref b20])), (q16, .inr (2, [.ref b20, .ref d20, .int 0]))] := hD
  refine lv_aload_n hx hb d_LogFs_init_41 rfl (lv_at hl 0 rfl) ?_
  refine lv_iconst (v := (0 : Int32)) hx hb d_LogFs_init_42 (by decide) ?_
  refine va_put (D := (dC, dI)) (ci := 4) (v := .int (0 : Int32)) (ty := .int) (C := R_LogFs) (T := T_LogFs) (N := 4) hx hb htb uin_LogFs t_LogFs t_LogFs_ok n_LogFs hown hK hP hD hS 0 rfl rfl 3 (by decide) (htb _ tw120) (fun _ h9 => h9) rfl (by decide +kernel) rfl rfl (Nat.le_of_ble_eq_true rfl) d_LogFs_init_43 (fun H locs hP hD hS => ?_)
  have hP : va_P (dC, dI) cls [(q, .inr (4, [.ref q5, .ref q16, .ref q27, .int (0 : Int32)])), (q5, .inr (1, [.ref b9, .int (z_w z1), .int (z_f z1), .int (z_o z1)])), (b9, .inr (0, [.ref a9])), (a9, .inl (cB, 8192, .inl (fun j => (z_D z1 j).toInt32))), (b20, .inr (0, [.ref a20])), (a20, .inl (cB, 8192, .inl (fun j => ((fun _ => (0 : Int8)) j).toInt32))), (d20, .inl (cI, 15, .inl (fun _ => 0))), (q27, .inr (3, [.ref q16, .ref b20])), (q16, .inr (2, [.ref b20, .ref d20, .int 0]))] H := hP
  have hD : va_D A [(q, .inr (4, [.ref q5, .ref q16, .ref q27, .int (0 : Int32)])), (q5, .inr (1, [.ref b9, .int (z_w z1), .int (z_f z1), .int (z_o z1)])), (b9, .inr (0, [.ref a9])), (a9, .inl (cB, 8192, .inl (fun j => (z_D z1 j).toInt32))), (b20, .inr (0, [.ref a20])), (a20, .inl (cB, 8192, .inl (fun j => ((fun _ => (0 : Int8)) j).toInt32))), (d20, .inl (cI, 15, .inl (fun _ => 0))), (q27, .inr (3, [.ref q16, .ref b20])), (q16, .inr (2, [.ref b20, .ref d20, .int 0]))] := hD
  have hP : va_P (dC, dI) cls [(q, .inr (4, [.ref q5, .ref q16, .ref q27, .int (0 : Int32)])), (q5, .inr (1, [.ref b9, .int (z_w z1), .int (z_f z1), .int (z_o z1)])), (q16, .inr (2, [.ref b20, .ref d20, .int 0])), (q27, .inr (3, [.ref q16, .ref b20])), (b9, .inr (0, [.ref a9])), (b20, .inr (0, [.ref a20])), (a9, .inl (cB, 8192, .inl (fun j => (z_D z1 j).toInt32))), (a20, .inl (cB, 8192, .inl (fun j => ((fun _ => (0 : Int8)) j).toInt32))), (d20, .inl (cI, 15, .inl (fun _ => 0)))] H := hP.sub [0, 1, 8, 7, 2, 4, 3, 5, 6] rfl
  have hD : va_D A [(q, .inr (4, [.ref q5, .ref q16, .ref q27, .int (0 : Int32)])), (q5, .inr (1, [.ref b9, .int (z_w z1), .int (z_f z1), .int (z_o z1)])), (q16, .inr (2, [.ref b20, .ref d20, .int 0])), (q27, .inr (3, [.ref q16, .ref b20])), (b9, .inr (0, [.ref a9])), (b20, .inr (0, [.ref a20])), (a9, .inl (cB, 8192, .inl (fun j => (z_D z1 j).toInt32))), (a20, .inl (cB, 8192, .inl (fun j => ((fun _ => (0 : Int8)) j).toInt32))), (d20, .inl (cI, 15, .inl (fun _ => 0)))] := hD.sub [0, 1, 8, 7, 2, 4, 3, 5, 6] (by decide) rfl
  obtain ⟨ga, g0, g1, g2, g3, g4, g5, g6, g7, g8⟩ : ∃ ga : Nat → Nat, ga 0 = q ∧ ga 1 = q5 ∧ ga 2 = q16 ∧ ga 3 = q27 ∧ ga 4 = b9 ∧ ga 5 = b20 ∧ ga 6 = a9 ∧ ga 7 = a20 ∧ ga 8 = d20 := ⟨fun k => if k = 0 then q else if k = 1 then q5 else if k = 2 then q16 else if k = 3 then q27 else if k = 4 then b9 else if k = 5 then b20 else if k = 6 then a9 else if k = 7 then a20 else d20, rfl, rfl, rfl, rfl, rfl, rfl, rfl, rfl, rfl⟩
  subst g0; subst g1; subst g2; subst g3; subst g4; subst g5; subst g6; subst g7; subst g8
  have hDa : ∀ σ, va_D A (wC ga cB cI σ) := fun σ => va_D_same (by rfl) hD
  have hP : va_P (dC, dI) cls (wC ga cB cI ((z_D z1), (fun _ => (0 : Int8)), (fun _ => (0 : Int32)), (0 : Int32), (z_w z1), (z_f z1), (z_o z1), (0 : Int32))) H := hP
  obtain ⟨σ, hσ⟩ : ∃ z : CS, z = ((z_D z1), (fun _ => (0 : Int8)), (fun _ => (0 : Int32)), (0 : Int32), (z_w z1), (z_f z1), (z_o z1), (0 : Int32)) := ⟨_, rfl⟩
  rw [← hσ] at hJ hP
  refine W.widen (k := 8) (n := 16410) (Nat.le_of_ble_eq_true rfl) (Nat.le_of_ble_eq_true rfl) ?_
  have hl : lv_has ls 1 [(0, .ref (ga 0))] := hl
  unfold J_LogFs_init at hJ
  refine lv_aload_n hx hb d_LogFs_init_46 rfl (lv_at hl 0 rfl) ?_
  refine va_get (D := (dC, dI)) (ci := 4) (v := .ref (ga 2)) (C := R_LogFs) (T := T_LogFs) (N := 4) hx hb htb uin_LogFs hown hK hP 0 rfl rfl 1 (by decide) (htb _ tw118) (fun _ h9 => h9) rfl d_LogFs_init_47 ?_
  refine lv_aload_n hx hb d_LogFs_init_50 rfl (lv_at hl 0 rfl) ?_
  refine va_get (D := (dC, dI)) (ci := 4) (v := .ref (ga 1)) (C := R_LogFs) (T := T_LogFs) (N := 4) hx hb htb uin_LogFs hown hK hP 0 rfl rfl 0 (by decide) (htb _ tw117) (fun _ h9 => h9) rfl d_LogFs_init_51 ?_
  refine va_getN (D := (dC, dI)) (ci := 1) (v := .ref (ga 4)) (C := R_Disk) (T := T_Disk) (N := 4) hx hb htb uin_Disk hown hK hP 1 rfl rfl 0 (by decide) (htb _ tw49) (fun _ h9 => h9) rfl d_LogFs_init_54 ?_
  obtain ⟨x1, e1, hJ⟩ := j_bind hJ
  refine va_callv (va_runV (As := [.ref (ga 4)]) (rest := []) ⟨hx, hb, hml, hown, htb⟩ (c_Memory_load (l := l) (dC := dC) (dI := dI) hDa e1) (xcV 1 htb tw105 tw4 tw102 tw103 tw104 rfl rfl hd_Memory_load ⟨Nat.le_of_ble_eq_true rfl, Nat.le_of_ble_eq_true rfl⟩) (kW_V hP hK (va_recv (q0 := 2) (ci := 2) hK hP rfl rfl)) rfl rfl hl.1 rfl (lv_room (Nat.le_of_ble_eq_true rfl)) d_LogFs_init_57 ⟨Nat.le_of_ble_eq_true rfl, Nat.le_of_ble_eq_true rfl⟩) hS (fun q _ h => h) (fun q h => h) (fun u t H locs ht hvm hw hB _ _ hS => ?_)
  have hP := kW_P hB ht
  have hJ := Option.some.inj hJ
  subst hJ
  exact W.vret hx hb hr (fun t ht hW => ⟨⟨ga, rfl, rfl, kW_end hP hK ht hW rfl, hDa _⟩, hS.F ht⟩) hS.2.2 d_LogFs_init_60
def J_Model_init_72_b (k : RS → Int32 → Option (RS)) (σ : RS) (v1 : Int32) : Option (RS) :=
  (if (26 : Int32) ≤ v1 then (J_Model_load σ).bind fun x4 => some x4 else (if jin ((1600 : Int32) + (v1 / (8 : Int32))) 8192 = true then (if jin ((1600 : Int32) + (v1 / (8 : Int32))) 8192 = true then k (q_D σ (va_up (r_D σ) ((1600 : Int32) + (v1 / (8 : Int32))).toNatClampNeg (((r_D σ) ((1600 : Int32) + (v1 / (8 : Int32))).toNatClampNeg).toInt32 ||| ((1 : Int32) <<< ((v1 - v1 / (8 : Int32) * (8 : Int32)) &&& 31))).toInt8.toInt32.toInt8)) (v1 + (1 : Int32)) else none) else none))
def J_Model_init_72 : Nat → RS → Int32 → Option (RS)
  | 0, _, _ => none
  | n + 1, σ, v1 => J_Model_init_72_b (J_Model_init_72 n) σ v1
def J_Model_init (σ : RS) : Option (RS) :=
  (if jin (1088 : Int32) 8192 = true then (if jin (1089 : Int32) 8192 = true then J_Model_init_72 9000 (q_D (q_D σ (va_up (r_D σ) (1088 : Int32).toNatClampNeg (2 : Int32).toInt8)) (va_up (r_D (q_D σ (va_up (r_D σ) (1088 : Int32).toNatClampNeg (2 : Int32).toInt8))) (1089 : Int32).toNatClampNeg (1 : Int32).toInt8)) (0 : Int32) else none) else none)
abbrev rm_Model_init : Room := { frames := 1, cells := 5, slots := 16584, locals := 30 }
set_option maxHeartbeats 4000000 in
set_option maxRecDepth 100000 in
theorem c_Model_init {l : Launch} {dC : Nat → ClassId} {dI : Nat → Nat → Nat} {cB cI : ClassId} (q : Nat) (sz : Nat) {res : RS} (hJ : J_Model_init ((0 : Int32), (fun _ => (0 : Int8)), (fun _ => (0 : Int8)), (fun _ => (0 : Int32)), (0 : Int32), (0 : Int32), (0 : Int32), ((-1) : Int32), (0 : Int32), (0 : Int32), (fun _ => (0 : Int8)), (fun _ => (0 : Int8))) = some res) :
    Met l y_Model_init (mw y_Model_init b_Model_init 2 none) rm_Model_init (va_Pc [.ref q] (fun U => U.heap.size = sz ∧ kW (dC, dI) (tC cB cI) [(q, .inr (5, [.int 0, .null, .null, .null, .int 0, .int 0, .int 0, .int 0, .int 0, .int 0, .null, .null]))] U ∧ va_D (fun _ => True) [(q, .inr (5, [.int 0, .null, .null, .null, .int 0, .int 0, .int 0, .int 0, .int 0, .int 0, .null, .null]))])) (va_Qv (fun (u : Nat → Nat) => u 0 = q) (fun u t => kW (dC, dI) (tC cB cI) (wR u cB cI res) t ∧ va_D (va_A [(q, .inr (5, [.int 0, .null, .null, .null, .int 0, .int 0, .int 0, .int 0, .int 0, .int 0, .null, .null]))] sz) (wR u cB cI res)) (va_A [(q, .inr (5, [.int 0, .null, .null, .null, .int 0, .int 0, .int 0, .int 0, .int 0, .int 0, .null, .null]))] sz)) 5 16584 (va_A [(q, .inr (5, [.int 0, .null, .null, .null, .int 0, .int 0, .int 0, .int 0, .int 0, .int 0, .null, .null]))] sz) := by
  refine Met.ofW (cc := b_Model_init) (maxL := 2) (ret := none) (by decide) rfl ?_
  intro p e s m args below meth c s₁ B hml hv
  obtain ⟨rfl, hsz, ⟨hP, hK⟩, hD0⟩ := hv
  have hx := B.exec
  have hb := B.bytes
  have hr := B.returns
  have hts := atoms_spec (ws := (mw y_Model_init b_Model_init 2 none)) B.pre
  have htb : ∀ x ∈ tb, x.before [.ref q].toArray s = true := fun x h => hts x (mwIn h)
  have hown : s.vm.findClass "LogFsModel" = some m.cls := findClass_of_methodNamed B.named
  have hlocks := B.notSynchronized
  have hin : meth.name = "<init>" := (name_of_methodNamed B.named B.method).1
  subst hsz
  have hD := hD0.self (sz := s.heap.size)
  generalize hAe : va_A [(q, .inr (5, [.int 0, .null, .null, .null, .int 0, .int 0, .int 0, .int 0, .int 0, .int 0, .null, .null]))] s.heap.size = A at hD ⊢
  have hA : ∀ q : Nat, s.heap.size ≤ q → A q := fun q h => by rw [← hAe]; exact Or.inr h
  have hS : va_S A s.heap s.heap [] := va_S.rf
  have hl := lv_entry ([.ref q]) (n := 2) (Nat.le_of_ble_eq_true rfl)
  rw [lg_entry_eq]
  generalize (lg_sl ([.ref q]) ++ List.replicate (2 - (lg_sl ([.ref q])).length) Slot.unset).toArray = ls at hl ⊢
  have hl : lv_has ls 2 [(0, .ref q)] := hl
  refine lv_aload_n hx hb d_Model_init_0 rfl (lv_at hl 0 rfl) ?_
  refine W.objInit hx hb hown (htb _ tw585) (htb _ tw21) (htb _ tw22) rfl (by rw [hml]; exact hl.1) rfl d_Model_init_1 (Nat.le_of_ble_eq_true rfl) (Nat.le_of_ble_eq_true rfl) ?_
  refine W.eq (g2 := F0 m 4 ls []) rfl ?_
  refine lv_aload_n hx hb d_Model_init_4 rfl (lv_at hl 0 rfl) ?_
  refine lv_sipush (v := (8192 : Int32)) hx hb d_Model_init_5 (by decide) ?_
  refine xn_B (N := 8192) hx hb (htb _ tw39) hK hP hD hS hA (by decide) (by decide) (by decide) (Nat.le_of_ble_eq_true rfl) (Nat.le_of_ble_eq_true rfl) d_Model_init_8 (fun q8 H hP hD hS => ?_)
  have hP : va_P (dC, dI) cls [(q, .inr (5, [.int 0, .null, .null, .null, .int 0, .int 0, .int 0, .int 0, .int 0, .int 0, .null, .null])), (q8, .inl (cB, 8192, .inl (fun j => ((fun _ => (0 : Int8)) j).toInt32)))] H := hP
  have hD : va_D A [(q, .inr (5, [.int 0, .null, .null, .null, .int 0, .int 0, .int 0, .int 0, .int 0, .int 0, .null, .null])), (q8, .inl (cB, 8192, .inl (fun j => ((fun _ => (0 : Int8)) j).toInt32)))] := hD
  refine va_putF (D := (dC, dI)) (ci := 5) (v := .ref q8) (ty := .array .byte) (C := R_Model) (T := T_Model) (N := 12) hx hb htb uin_Model t_Model t_Model_ok n_Model hown hK hP hD hS 0 rfl rfl 1 (by decide) (htb _ tw591) (fun _ h9 => h9) rfl hin rfl (by decide +kernel) rfl rfl (Nat.le_of_ble_eq_true rfl) d_Model_init_10 (fun H locs hP hD hS => ?_)
  have hP : va_P (dC, dI) cls [(q, .inr (5, [.int 0, .ref q8, .null, .null, .int 0, .int 0, .int 0, .int 0, .int 0, .int 0, .null, .null])), (q8, .inl (cB, 8192, .inl (fun j => ((fun _ => (0 : Int8)) j).toInt32)))] H := hP
  have hD : va_D A [(q, .inr (5, [.int 0, .ref q8, .null, .null, .int 0, .int 0, .int 0, .int 0, .int 0, .int 0, .null, .null])), (q8, .inl (cB, 8192, .inl (fun j => ((fun _ => (0 : Int8)) j).toInt32)))] := hD
  refine lv_aload_n hx hb d_Model_init_13 rfl (lv_at hl 0 rfl) ?_
  refine lv_sipush (v := (8192 : Int32)) hx hb d_Model_init_14 (by decide) ?_
  refine xn_B (N := 8192) hx hb (htb _ tw39) hK hP hD hS hA (by decide) (by decide) (by decide) (Nat.le_of_ble_eq_true rfl) (Nat.le_of_ble_eq_true rfl) d_Model_init_17 (fun q17 H hP hD hS => ?_)
  have hP : va_P (dC, dI) cls [(q, .inr (5, [.int 0, .ref q8, .null, .null, .int 0, .int 0, .int 0, .int 0, .int 0, .int 0, .null, .null])), (q8, .inl (cB, 8192, .inl (fun j => ((fun _ => (0 : Int8)) j).toInt32))), (q17, .inl (cB, 8192, .inl (fun j => ((fun _ => (0 : Int8)) j).toInt32)))] H := hP
  have hD : va_D A [(q, .inr (5, [.int 0, .ref q8, .null, .null, .int 0, .int 0, .int 0, .int 0, .int 0, .int 0, .null, .null])), (q8, .inl (cB, 8192, .inl (fun j => ((fun _ => (0 : Int8)) j).toInt32))), (q17, .inl (cB, 8192, .inl (fun j => ((fun _ => (0 : Int8)) j).toInt32)))] := hD
  refine va_putF (D := (dC, dI)) (ci := 5) (v := .ref q17) (ty := .array .byte) (C := R_Model) (T := T_Model) (N := 12) hx hb htb uin_Model t_Model t_Model_ok n_Model hown hK hP hD hS 0 rfl rfl 2 (by decide) (htb _ tw592) (fun _ h9 => h9) rfl hin rfl (by decide +kernel) rfl rfl (Nat.le_of_ble_eq_true rfl) d_Model_init_19 (fun H locs hP hD hS => ?_)
  have hP : va_P (dC, dI) cls [(q, .inr (5, [.int 0, .ref q8, .ref q17, .null, .int 0, .int 0, .int 0, .int 0, .int 0, .int 0, .null, .null])), (q8, .inl (cB, 8192, .inl (fun j => ((fun _ => (0 : Int8)) j).toInt32))), (q17, .inl (cB, 8192, .inl (fun j => ((fun _ => (0 : Int8)) j).toInt32)))] H := hP
  have hD : va_D A [(q, .inr (5, [.int 0, .ref q8, .ref q17, .null, .int 0, .int 0, .int 0, .int 0, .int 0, .int 0, .null, .null])), (q8, .inl (cB, 8192, .inl (fun j => ((fun _ => (0 : Int8)) j).toInt32))), (q17, .inl (cB, 8192, .inl (fun j => ((fun _ => (0 : Int8)) j).toInt32)))] := hD
  refine lv_aload_n hx hb d_Model_init_22 rfl (lv_at hl 0 rfl) ?_
  refine lv_sipush (v := (128 : Int32)) hx hb d_Model_init_23 (by decide) ?_
  refine xn_I (N := 128) hx hb (htb _ tw88) hK hP hD hS hA (by decide) (by decide) (by decide) (Nat.le_of_ble_eq_true rfl) (Nat.le_of_ble_eq_true rfl) d_Model_init_26 (fun q26 H hP hD hS => ?_)
  have hP : va_P (dC, dI) cls [(q, .inr (5, [.int 0, .ref q8, .ref q17, .null, .int 0, .int 0, .int 0, .int 0, .int 0, .int 0, .null, .null])), (q8, .inl (cB, 8192, .inl (fun j => ((fun _ => (0 : Int8)) j).toInt32))), (q17, .inl (cB, 8192, .inl (fun j => ((fun _ => (0 : Int8)) j).toInt32))), (q26, .inl (cI, 128, .inl (fun _ => 0)))] H := hP
  have hD : va_D A [(q, .inr (5, [.int 0, .ref q8, .ref q17, .null, .int 0, .int 0, .int 0, .int 0, .int 0, .int 0, .null, .null])), (q8, .inl (cB, 8192, .inl (fun j => ((fun _ => (0 : Int8)) j).toInt32))), (q17, .inl (cB, 8192, .inl (fun j => ((fun _ => (0 : Int8)) j).toInt32))), (q26, .inl (cI, 128, .inl (fun _ => 0)))] := hD
  refine va_putF (D := (dC, dI)) (ci := 5) (v := .ref q26) (ty := .array .int) (C := R_Model) (T := T_Model) (N := 12) hx hb htb uin_Model t_Model t_Model_ok n_Model hown hK hP hD hS 0 rfl rfl 3 (by decide) (htb _ tw593) (fun _ h9 => h9) rfl hin rfl (by decide +kernel) rfl rfl (Nat.le_of_ble_eq_true rfl) d_Model_init_28 (fun H locs hP hD hS => ?_)
  have hP : va_P (dC, dI) cls [(q, .inr (5, [.int 0, .ref q8, .ref q17, .ref q26, .int 0, .int 0, .int 0, .int 0, .int 0, .int 0, .null, .null])), (q8, .inl (cB, 8192, .inl (fun j => ((fun _ => (0 : Int8)) j).toInt32))), (q17, .inl (cB, 8192, .inl (fun j => ((fun _ => (0 : Int8)) j).toInt32))), (q26, .inl (cI, 128, .inl (fun _ => 0)))] H := hP
  have hD : va_D A [(q, .inr (5, [.int 0, .ref q8, .ref q17, .ref q26, .int 0, .int 0, .int 0, .int 0, .int 0, .int 0, .null, .null])), (q8, .inl (cB, 8192, .inl (fun j => ((fun _ => (0 : Int8)) j).toInt32))), (q17, .inl (cB, 8192, .inl (fun j => ((fun _ => (0 : Int8)) j).toInt32))), (q26, .inl (cI, 128, .inl (fun _ => 0)))] := hD
  refine lv_aload_n hx hb d_Model_init_31 rfl (lv_at hl 0 rfl) ?_
  refine lv_iconst (v := ((-1) : Int32)) hx hb d_Model_init_32 (by decide) ?_
  refine va_put (D := (dC, dI)) (ci := 5) (v := .int ((-1) : Int32)) (ty := .int) (C := R_Model) (T := T_Model) (N := 12) hx hb htb uin_Model t_Model t_Model_ok n_Model hown hK hP hD hS 0 rfl rfl 7 (by decide) (htb _ tw597) (fun _ h9 => h9) rfl (by decide +kernel) rfl rfl (Nat.le_of_ble_eq_true rfl) d_Model_init_33 (fun H locs hP hD hS => ?_)
  have hP : va_P (dC, dI) cls [(q, .inr (5, [.int 0, .ref q8, .ref q17, .ref q26, .int 0, .int 0, .int 0, .int ((-1) : Int32), .int 0, .int 0, .null, .null])), (q8, .inl (cB, 8192, .inl (fun j => ((fun _ => (0 : Int8)) j).toInt32))), (q17, .inl (cB, 8192, .inl (fun j => ((fun _ => (0 : Int8)) j).toInt32))), (q26, .inl (cI, 128, .inl (fun _ => 0)))] H := hP
  have hD : va_D A [(q, .inr (5, [.int 0, .ref q8, .ref q17, .ref q26, .int 0, .int 0, .int 0, .int ((-1) : Int32), .int 0, .int 0, .null, .null])), (q8, .inl (cB, 8192, .inl (fun j => ((fun _ => (0 : Int8)) j).toInt32))), (q17, .inl (cB, 8192, .inl (fun j => ((fun _ => (0 : Int8)) j).toInt32))), (q26, .inl (cI, 128, .inl (fun _ => 0)))] := hD
  refine lv_aload_n hx hb d_Model_init_36 rfl (lv_at hl 0 rfl) ?_
  refine lv_bipush (v := (8 : Int32)) hx hb d_Model_init_37 (by decide) ?_
  refine xn_B (N := 8) hx hb (htb _ tw39) hK hP hD hS hA (by decide) (by decide) (by decide) (Nat.le_of_ble_eq_true rfl) (Nat.le_of_ble_eq_true rfl) d_Model_init_39 (fun q39 H hP hD hS => ?_)
  have hP : va_P (dC, dI) cls [(q, .inr (5, [.int 0, .ref q8, .ref q17, .ref q26, .int 0, .int 0, .int 0, .int ((-1) : Int32), .int 0, .int 0, .null, .null])), (q8, .inl (cB, 8192, .inl (fun j => ((fun _ => (0 : Int8)) j).toInt32))), (q17, .inl (cB, 8192, .inl (fun j => ((fun _ => (0 : Int8)) j).toInt32))), (q26, .inl (cI, 128, .inl (fun _ => 0))), (q39, .inl (cB, 8, .inl (fun j => ((fun _ => (0 : Int8)) j).toInt32)))] H := hP
  have hD : va_D A [(q, .inr (5, [.int 0, .ref q8, .ref q17, .ref q26, .int 0, .int 0, .int 0, .int ((-1) : Int32), .int 0, .int 0, .null, .null])), (q8, .inl (cB, 8192, .inl (fun j => ((fun _ => (0 : Int8)) j).toInt32))), (q17, .inl (cB, 8192, .inl (fun j => ((fun _ => (0 : Int8)) j).toInt32))), (q26, .inl (cI, 128, .inl (fun _ => 0))), (q39, .inl (cB, 8, .inl (fun j => ((fun _ => (0 : Int8)) j).toInt32)))] := hD
  refine va_putF (D := (dC, dI)) (ci := 5) (v := .ref q39) (ty := .array .byte) (C := R_Model) (T := T_Model) (N := 12) hx hb htb uin_Model t_Model t_Model_ok n_Model hown hK hP hD hS 0 rfl rfl 10 (by decide) (htb _ tw600) (fun _ h9 => h9) rfl hin rfl (by decide +kernel) rfl rfl (Nat.le_of_ble_eq_true rfl) d_Model_init_41 (fun H locs hP hD hS => ?_)
  have hP : va_P (dC, dI) cls [(q, .inr (5, [.int 0, .ref q8, .ref q17, .ref q26, .int 0, .int 0, .int 0, .int ((-1) : Int32), .int 0, .int 0, .ref q39, .null])), (q8, .inl (cB, 8192, .inl (fun j => ((fun _ => (0 : Int8)) j).toInt32))), (q17, .inl (cB, 8192, .inl (fun j => ((fun _ => (0 : Int8)) j).toInt32))), (q26, .inl (cI, 128, .inl (fun _ => 0))), (q39, .inl (cB, 8, .inl (fun j => ((fun _ => (0 : Int8)) j).toInt32)))] H := hP
  have hD : va_D A [(q, .inr (5, [.int 0, .ref q8, .ref q17, .ref q26, .int 0, .int 0, .int 0, .int ((-1) : Int32), .int 0, .int 0, .ref q39, .null])), (q8, .inl (cB, 8192, .inl (fun j => ((fun _ => (0 : Int8)) j).toInt32))), (q17, .inl (cB, 8192, .inl (fun j => ((fun _ => (0 : Int8)) j).toInt32))), (q26, .inl (cI, 128, .inl (fun _ => 0))), (q39, .inl (cB, 8, .inl (fun j => ((fun _ => (0 : Int8)) j).toInt32)))] := hD
  refine lv_aload_n hx hb d_Model_init_44 rfl (lv_at hl 0 rfl) ?_
  refine lv_bipush (v := (64 : Int32)) hx hb d_Model_init_45 (by decide) ?_
  refine xn_B (N := 64) hx hb (htb _ tw39) hK hP hD hS hA (by decide) (by decide) (by decide) (Nat.le_of_ble_eq_true rfl) (Nat.le_of_ble_eq_true rfl) d_Model_init_47 (fun q47 H hP hD hS => ?_)
  have hP : va_P (dC, dI) cls [(q, .inr (5, [.int 0, .ref q8, .ref q17, .ref q26, .int 0, .int 0, .int 0, .int ((-1) : Int32), .int 0, .int 0, .ref q39, .null])), (q8, .inl (cB, 8192, .inl (fun j => ((fun _ => (0 : Int8)) j).toInt32))), (q17, .inl (cB, 8192, .inl (fun j => ((fun _ => (0 : Int8)) j).toInt32))), (q26, .inl (cI, 128, .inl (fun _ => 0))), (q39, .inl (cB, 8, .inl (fun j => ((fun _ => (0 : Int8)) j).toInt32))), (q47, .inl (cB, 64, .inl (fun j => ((fun _ => (0 : Int8)) j).toInt32)))] H := hP
  have hD : va_D A [(q, .inr (5, [.int 0, .ref q8, .ref q17, .ref q26, .int 0, .int 0, .int 0, .int ((-1) : Int32), .int 0, .int 0, .ref q39, .null])), (q8, .inl (cB, 8192, .inl (fun j => ((fun _ => (0 : Int8)) j).toInt32))), (q17, .inl (cB, 8192, .inl (fun j => ((fun _ => (0 : Int8)) j).toInt32))), (q26, .inl (cI, 128, .inl (fun _ => 0))), (q39, .inl (cB, 8, .inl (fun j => ((fun _ => (0 : Int8)) j).toInt32))), (q47, .inl (cB, 64, .inl (fun j => ((fun _ => (0 : Int8)) j).toInt32)))] := hD
  refine va_putF (D := (dC, dI)) (ci := 5) (v := .ref q47) (ty := .array .byte) (C := R_Model) (T := T_Model) (N := 12) hx hb htb uin_Model t_Model t_Model_ok n_Model hown hK hP hD hS 0 rfl rfl 11 (by decide) (htb _ tw601) (fun _ h9 => h9) rfl hin rfl (by decide +kernel) rfl rfl (Nat.le_of_ble_eq_true rfl) d_Model_init_49 (fun H locs hP hD hS => ?_)
  have hP : va_P (dC, dI) cls [(q, .inr (5, [.int 0, .ref q8, .ref q17, .ref q26, .int 0, .int 0, .int 0, .int ((-1) : Int32), .int 0, .int 0, .ref q39, .ref q47])), (q8, .inl (cB, 8192, .inl (fun j => ((fun _ => (0 : Int8)) j).toInt32))), (q17, .inl (cB, 8192, .inl (fun j => ((fun _ => (0 : Int8)) j).toInt32))), (q26, .inl (cI, 128, .inl (fun _ => 0))), (q39, .inl (cB, 8, .inl (fun j => ((fun _ => (0 : Int8)) j).toInt32))), (q47, .inl (cB, 64, .inl (fun j => ((fun _ => (0 : Int8)) j).toInt32)))] H := hP
  have hD : va_D A [(q, .inr (5, [.int 0, .ref q8, .ref q17, .ref q26, .int 0, .int 0, .int 0, .int ((-1) : Int32), .int 0, .int 0, .ref q39, .ref q47])), (q8, .inl (cB, 8192, .inl (fun j => ((fun _ => (0 : Int8)) j).toInt32))), (q17, .inl (cB, 8192, .inl (fun j => ((fun _ => (0 : Int8)) j).toInt32))), (q26, .inl (cI, 128, .inl (fun _ => 0))), (q39, .inl (cB, 8, .inl (fun j => ((fun _ => (0 : Int8)) j).toInt32))), (q47, .inl (cB, 64, .inl (fun j => ((fun _ => (0 : Int8)) j).toInt32)))] := hD
  have hP : va_P (dC, dI) cls [(q, .inr (5, [.int 0, .ref q8, .ref q17, .ref q26, .int 0, .int 0, .int 0, .int ((-1) : Int32), .int 0, .int 0, .ref q39, .ref q47])), (q8, .inl (cB, 8192, .inl (fun j => ((fun _ => (0 : Int8)) j).toInt32))), (q17, .inl (cB, 8192, .inl (fun j => ((fun _ => (0 : Int8)) j).toInt32))), (q26, .inl (cI, 128, .inl (fun _ => 0))), (q39, .inl (cB, 8, .inl (fun j => ((fun _ => (0 : Int8)) j).toInt32))), (q47, .inl (cB, 64, .inl (fun j => ((fun _ => (0 : Int8)) j).toInt32)))] H := hP.sub [0, 1, 2, 3, 4, 5] rfl
  have hD : va_D A [(q, .inr (5, [.int 0, .ref q8, .ref q17, .ref q26, .int 0, .int 0, .int 0, .int ((-1) : Int32), .int 0, .int 0, .ref q39, .ref q47])), (q8, .inl (cB, 8192, .inl (fun j => ((fun _ => (0 : Int8)) j).toInt32))), (q17, .inl (cB, 8192, .inl (fun j => ((fun _ => (0 : Int8)) j).toInt32))), (q26, .inl (cI, 128, .inl (fun _ => 0))), (q39, .inl (cB, 8, .inl (fun j => ((fun _ => (0 : Int8)) j).toInt32))), (q47, .inl (cB, 64, .inl (fun j => ((fun _ => (0 : Int8)) j).toInt32)))] := hD.sub [0, 1, 2, 3, 4, 5] (by decide) rfl
  obtain ⟨gr, g0, g1, g2, g3, g4, g5⟩ : ∃ gr : Nat → Nat, gr 0 = q ∧ gr 1 = q8 ∧ gr 2 = q17 ∧ gr 3 = q26 ∧ gr 4 = q39 ∧ gr 5 = q47 := ⟨fun k => if k = 0 then q else if k = 1 then q8 else if k = 2 then q17 else if k = 3 then q26 else if k = 4 then q39 else q47, rfl, rfl, rfl, rfl, rfl, rfl⟩
  subst g0; subst g1; subst g2; subst g3; subst g4; subst g5
  have hDa : ∀ σ, va_D A (wR gr cB cI σ) := fun σ => va_D_same (by rfl) hD
  have hP : va_P (dC, dI) cls (wR gr cB cI ((0 : Int32), (fun _ => (0 : Int8)), (fun _ => (0 : Int8)), (fun _ => (0 : Int32)), (0 : Int32), (0 : Int32), (0 : Int32), ((-1) : Int32), (0 : Int32), (0 : Int32), (fun _ => (0 : Int8)), (fun _ => (0 : Int8)))) H := hP
  obtain ⟨σ, hσ⟩ : ∃ z : RS, z = ((0 : Int32), (fun _ => (0 : Int8)), (fun _ => (0 : Int8)), (fun _ => (0 : Int32)), (0 : Int32), (0 : Int32), (0 : Int32), ((-1) : Int32), (0 : Int32), (0 : Int32), (fun _ => (0 : Int8)), (fun _ => (0 : Int8))) := ⟨_, rfl⟩
  rw [← hσ] at hJ hP
  refine W.widen (k := 5) (n := 16584) (Nat.le_of_ble_eq_true rfl) (Nat.le_of_ble_eq_true rfl) ?_
  have blk72 : ∀ (n : Nat) (σ : RS) (v1 : Int32) (ls : Array Slot) (H : Heap) (locs : List Loc), J_Model_init_72 n σ v1 = some res → lv_has ls 2 [(0, .ref (gr 0)), (1, .int v1)] → va_P (dC, dI) cls (wR gr cB cI σ) H → va_S A s.heap H locs → W p l e (headSpec (mw y_Model_init b_Model_init 2 none) rm_Model_init).room s m [.ref (gr 0)].toArray below meth c H locs 5 16584 (MQ below (va_Qv (fun (u : Nat → Nat) => u 0 = gr 0) (fun u t => kW (dC, dI) (tC cB cI) (wR u cB cI res) t ∧ va_D A (wR u cB cI res)) A) [.ref (gr 0)].toArray s 5 16584 A) (F0 m 72 ls []) := by
    intro n
    induction n with
    | zero => intro σ v1 ls H locs hJ; exact j_none hJ
    | succ n hk =>
      intro σ v1 ls H locs hJ hl hP hS
      have hJ : J_Model_init_72_b (J_Model_init_72 n) σ v1 = some res := hJ
      unfold J_Model_init_72_b at hJ
      refine lv_iload_n hx hb d_Model_init_72 rfl (lv_at hl 1 rfl) ?_
      refine lv_bipush (v := (26 : Int32)) hx hb d_Model_init_73 (by decide) ?_
      refine lv_icmp_ge (tgt := 107) hx hb d_Model_init_75 (by decide) (fun h3 => ?_) (fun h3 => ?_)
      · have hJ := j_t hJ h3
        refine lv_aload_n hx hb d_Model_init_107 rfl (lv_at hl 0 rfl) ?_
        obtain ⟨x4, e4, hJ⟩ := j_bind hJ
        refine va_callv (va_runV (As := []) (rest := []) ⟨hx, hb, hml, hown, htb⟩ (c_Model_load (l := l) (dC := dC) (dI := dI) hDa e4) (xcV 0 htb tw589 tw7 tw586 tw588 ts_Model_load rfl rfl hd_Model_load ⟨Nat.le_of_ble_eq_true rfl, Nat.le_of_ble_eq_true rfl⟩) (kW_V hP hK (va_recv (q0 := 0) (ci := 5) hK hP rfl rfl)) rfl rfl hl.1 rfl (lv_room (Nat.le_of_ble_eq_true rfl)) d_Model_init_108 ⟨Nat.le_of_ble_eq_true rfl, Nat.le_of_ble_eq_true rfl⟩) hS (fun q _ h => h) (fun q h => h) (fun u t H locs ht hvm hw hB _ _ hS => ?_)
        have hP := kW_P hB ht
        have hJ := Option.some.inj hJ
        subst hJ
        exact W.vret hx hb hr (fun t ht hW => ⟨⟨gr, rfl, rfl, kW_end hP hK ht hW rfl, hDa _⟩, hS.F ht⟩) hS.2.2 d_Model_init_111
      · have hJ := j_f hJ h3
        refine lv_aload_n hx hb d_Model_init_78 rfl (lv_at hl 0 rfl) ?_
        refine va_get (D := (dC, dI)) (ci := 5) (v := .ref (gr 1)) (C := R_Model) (T := T_Model) (N := 12) hx hb htb uin_Model hown hK hP 0 rfl rfl 1 (by decide) (htb _ tw591) (fun _ h9 => h9) rfl d_Model_init_79 ?_
        refine lv_sipush (v := (1600 : Int32)) hx hb d_Model_init_82 (by decide) ?_
        refine lv_iload_n hx hb d_Model_init_85 rfl (lv_at hl 1 rfl) ?_
        refine lv_bipush (v := (8 : Int32)) hx hb d_Model_init_86 (by decide) ?_
        refine lv_idiv hx hb d_Model_init_88 (by decide) ?_
        refine lv_iadd hx hb d_Model_init_89 ?_
        refine lv_dup2_11 hx hb d_Model_init_90 rfl rfl ?_
        obtain ⟨h5, hJ⟩ := j_g hJ
        refine va_bald hx hb hK hP 1 0 rfl rfl (j_in h5) d_Model_init_91 ?_
        refine lv_iconst (v := (1 : Int32)) hx hb d_Model_init_92 (by decide) ?_
        refine lv_iload_n hx hb d_Model_init_93 rfl (lv_at hl 1 rfl) ?_
        refine lv_bipush (v := (8 : Int32)) hx hb d_Model_init_94 (by decide) ?_
        refine lv_irem hx hb d_Model_init_96 (by decide) ?_
        refine lv_ishl hx hb d_Model_init_97 ?_
        refine lv_ior hx hb d_Model_init_98 ?_
        refine lv_i2b hx hb d_Model_init_99 rfl ?_
        obtain ⟨h6, hJ⟩ := j_g hJ
        refine va_bast hx hb hK hP (hDa _) hS 1 0 rfl rfl (j_in h6) d_Model_init_100 (fun H locs hP _ hS => ?_)
        rw [by_upd] at hP
        have hP : va_P (dC, dI) cls (wR gr cB cI (q_D σ (va_up (r_D σ) ((1600 : Int32) + (v1 / (8 : Int32))).toNatClampNeg (((r_D σ) ((1600 : Int32) + (v1 / (8 : Int32))).toNatClampNeg).toInt32 ||| ((1 : Int32) <<< ((v1 - v1 / (8 : Int32) * (8 : Int32)) &&& 31))).toInt8.toInt32.toInt8))) H := hP
        refine lv_iinc (k := 1) (v := (v1 + (1 : Int32))) hx hb d_Model_init_101 hl rfl rfl (Nat.le_of_ble_eq_true rfl) rfl (fun ls hl => ?_)
        have hl : lv_has ls 2 [(1, .int (v1 + (1 : Int32))), (0, .ref (gr 0))] := hl
        refine lv_goto (tgt := 72) hx hb d_Model_init_104 (by decide) ?_
        exact hk _ _ _ _ _ hJ (lv_sub hl [1, 0] rfl) hP hS
  have hl : lv_has ls 2 [(0, .ref (gr 0))] := hl
  unfold J_Model_init at hJ
  refine lv_aload_n hx hb d_Model_init_52 rfl (lv_at hl 0 rfl) ?_
  refine va_get (D := (dC, dI)) (ci := 5) (v := .ref (gr 1)) (C := R_Model) (T := T_Model) (N := 12) hx hb htb uin_Model hown hK hP 0 rfl rfl 1 (by decide) (htb _ tw591) (fun _ h9 => h9) rfl d_Model_init_53 ?_
  refine lv_sipush (v := (1088 : Int32)) hx hb d_Model_init_56 (by decide) ?_
  refine lv_iconst (v := (2 : Int32)) hx hb d_Model_init_59 (by decide) ?_
  obtain ⟨h1, hJ⟩ := j_g hJ
  refine va_bast hx hb hK hP (hDa _) hS 1 0 rfl rfl (j_in h1) d_Model_init_60 (fun H locs hP _ hS => ?_)
  rw [by_upd] at hP
  have hP : va_P (dC, dI) cls (wR gr cB cI (q_D σ (va_up (r_D σ) (1088 : Int32).toNatClampNeg (2 : Int32).toInt8))) H := hP
  refine lv_aload_n hx hb d_Model_init_61 rfl (lv_at hl 0 rfl) ?_
  refine va_get (D := (dC, dI)) (ci := 5) (v := .ref (gr 1)) (C := R_Model) (T := T_Model) (N := 12) hx hb htb uin_Model hown hK hP 0 rfl rfl 1 (by decide) (htb _ tw591) (fun _ h9 => h9) rfl d_Model_init_62 ?_
  refine lv_sipush (v := (1089 : Int32)) hx hb d_Model_init_65 (by decide) ?_
  refine lv_iconst (v := (1 : Int32)) hx hb d_Model_init_68 (by decide) ?_
  obtain ⟨h2, hJ⟩ := j_g hJ
  refine va_bast hx hb hK hP (hDa _) hS 1 0 rfl rfl (j_in h2) d_Model_init_69 (fun H locs hP _ hS => ?_)
  rw [by_upd] at hP
  have hP : va_P (dC, dI) cls (wR gr cB cI (q_D (q_D σ (va_up (r_D σ) (1088 : Int32).toNatClampNeg (2 : Int32).toInt8)) (va_up (r_D (q_D σ (va_up (r_D σ) (1088 : Int32).toNatClampNeg (2 : Int32).toInt8))) (1089 : Int32).toNatClampNeg (1 : Int32).toInt8))) H := hP
  refine lv_iconst (v := (0 : Int32)) hx hb d_Model_init_70 (by decide) ?_
  refine lv_istore_n hx hb d_Model_init_71 rfl hl (Nat.le_of_ble_eq_true rfl) rfl (fun ls hl => ?_)
  have hl : lv_has ls 2 [(1, .int (0 : Int32)), (0, .ref (gr 0))] := hl
  exact blk72 9000 _ _ _ _ _ hJ (lv_sub hl [1, 0] rfl) hP hS
