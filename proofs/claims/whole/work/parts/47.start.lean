/-! The law's entry, to its loop; the claim. Own rows, and behind them the skeleton's end. -/
theorem k_arr {s : State} {args : Array Value} {ty : FieldType} (h : (Cond.arrayClass ty).before args s = true) (hty : ∀ C, ty ≠ .object C) : ∃ cA : ClassId, ArrOfT s cA ty ∧ va_RA s cA ty := by
  obtain ⟨cA, kA, comp, h1, h2, h3⟩ := Cond.arrayClass_spec h
  refine ⟨cA, fun n z => ⟨fun k h => (by cases h), kA, h2, comp, h3⟩, ?_⟩
  cases ty <;> first | exact h1 | exact absurd rfl (hty _)
theorem k_start {s : State} {args : Array Value} (htb : ∀ w ∈ tb, w.before args s = true) : ∃ (dC : Nat → ClassId) (dI : Nat → Nat → Nat) (cB cI cL : ClassId), va_K (dC, dI) cls (tL cB cI cL) s := by
  obtain ⟨c0, i0, h0⟩ := u_known htb uin_Blocks (htb _ tw30)
  obtain ⟨c1, i1, h1⟩ := u_known htb uin_Disk (htb _ tw24)
  obtain ⟨c2, i2, h2⟩ := u_known htb uin_Memory (htb _ tw66)
  obtain ⟨c3, i3, h3⟩ := u_known htb uin_Volume (htb _ tw90)
  obtain ⟨c4, i4, h4⟩ := u_known htb uin_LogFs (htb _ tw16)
  obtain ⟨c5, i5, h5⟩ := u_known htb uin_Model (htb _ tw581)
  obtain ⟨cB, b1, b2⟩ := k_arr (htb _ tw39) (fun C => by simp)
  obtain ⟨cI, b3, b4⟩ := k_arr (htb _ tw88) (fun C => by simp)
  obtain ⟨cL, b5, b6⟩ := k_arr (htb _ tw840) (fun C => by simp)
  refine ⟨fun k => [c0, c1, c2, c3, c4, c5].getD k c0, fun k => [i0, i1, i2, i3, i4, i5].getD k i0, cB, cI, cL, fun c q hq => ?_, fun k q hq => ?_⟩
  · have hc : c < 6 := (List.getElem?_eq_some_iff.mp hq).1
    rcases (show c = 0 ∨ c = 1 ∨ c = 2 ∨ c = 3 ∨ c = 4 ∨ c = 5 by omega) with rfl | rfl | rfl | rfl | rfl | rfl <;> (cases hq; first | exact h0 | exact h1 | exact h2 | exact h3 | exact h4 | exact h5)
  · have hc : k < 3 := (List.getElem?_eq_some_iff.mp hq).1
    rcases (show k = 0 ∨ k = 1 ∨ k = 2 by omega) with rfl | rfl | rfl <;> (cases hq; first | exact ⟨b1, b2⟩ | exact ⟨b3, b4⟩ | exact ⟨b5, b6⟩)
theorem k_str {s : State} {args : Array Value} {own tx : String} {k n : Nat} (hts : ∀ w ∈ lw_tbl, w.before args s = true) (h : tables_1[n]? = some (Cond.stringRef own k tx)) {cC : ClassId} (hc : s.vm.findClass own = some cC) : ∃ a : Nat, vk_R own k tx a s := by
  have h1 := hts _ (List.mem_append_right _ (List.mem_of_getElem? h))
  obtain ⟨_, _, _, a, -, -, -, -, -, h2⟩ := Cond.stringRef_spec hc h1
  exact ⟨a, vk_R.of h1 h2⟩
theorem kX_start {s : State} {args : Array Value} (hts : ∀ w ∈ lw_tbl, w.before args s = true) (hgv : (Jvm.Cond.and given_1 narrow_1).before args s = true) {cC : ClassId} (hc : s.vm.findClass "LogFs" = some cC) : ∃ sx : Nat → Nat, kX (fun q => s.heap.size ≤ q) sx s := by
  have hs := flat_of_before _ hgv
  obtain ⟨a1, h1⟩ := k_str (n := 226) (k := 183) (own := "LogFs") (tx := "the power is off") hts (by decide +kernel) hc
  obtain ⟨a2, h2⟩ := k_str (n := 357) (k := 136) (own := "LogFs") (tx := "the power failed") hts (by decide +kernel) hc
  obtain ⟨a3, h3⟩ := k_str (n := 539) (k := 143) (own := "LogFs") (tx := "no such byte") hts (by decide +kernel) hc
  obtain ⟨a4, h4⟩ := k_str (n := 558) (k := 152) (own := "LogFs") (tx := "no such inode") hts (by decide +kernel) hc
  obtain ⟨a5, h5⟩ := k_str (n := 561) (k := 160) (own := "LogFs") (tx := "nothing such to look at") hts (by decide +kernel) hc
  obtain ⟨a6, h6⟩ := k_str (n := 572) (k := 186) (own := "LogFs") (tx := "no such byte of a block") hts (by decide +kernel) hc
  refine ⟨fun k => if k = 183 then a1 else if k = 136 then a2 else if k = 143 then a3 else if k = 152 then a4 else if k = 160 then a5 else a6, ?_, ?_, fun q h => h, h1, h2, h3, h4, h5, h6⟩
  · exact xS.of (args := args) (hts _ (List.mem_append_right _ (List.mem_of_getElem? (i := 212) (by decide +kernel)))) (hs _ (by decide +kernel)) (fun a h z => absurd z (by omega))
  · exact xS.of (args := args) (hts _ (List.mem_append_right _ (List.mem_of_getElem? (i := 214) (by decide +kernel)))) (hs _ (by decide +kernel)) (fun a h z => absurd z (by omega))
theorem kN_start {s : State} {args : Array Value} (hgv : (Jvm.Cond.and given_1 narrow_1).before args s = true) : kN s := by
  have hs := flat_of_before _ hgv
  exact ⟨x_wordAt (args := args) (State.WarmedH.refl s) rfl (hs _ (by decide +kernel)), x_wordAt (args := args) (State.WarmedH.refl s) rfl (hs _ (by decide +kernel))⟩
section XNewL
variable {p : Program} {l : Launch} {e : Env} {R : Room} {s : State} {m : MethodId} {args : Array Value} {below : List Frame} {meth : Method} {c : Code} {H : Heap} {locs : List Loc} {cells slots : Nat} {Q : State → Prop} {cc : ByteArray} {pc : Nat} {ls : Array Slot} {rest : List Value} {D : va_G} {A : Nat → Prop} {ws : va_W} {H0 : Heap} {cB cI cL : ClassId}
theorem xn_L (hexec : p.tables.exec = Jvm.exec) (hb : c.code = cc) (harr : (Cond.arrayClass .long).before args s = true) (hK : va_K D cls (tL cB cI cL) s) (hP : va_P D cls ws H) (hD : va_D A ws) (hS : va_S A H0 H locs) (hA : ∀ q, H0.size ≤ q → A q)
    {n : Int32} {N : Nat} (hn : ¬ n < 0) (hN : n.toNatClampNeg = N) (hbytes : N * componentBytes .long ≤ 536870912) (hcells : cells + 1 ≤ R.cells) (hslots : slots + N ≤ R.slots) (hdg : decode cc pc = .ok (.newarray .long, 2))
    (kk : ∀ (q : Nat) (H1 : Heap), va_P D cls (ws ++ [(q, .inl (cL, N, .inr (.inl (fun _ => 0))))]) H1 → va_D A (ws ++ [(q, .inl (cL, N, .inr (.inl (fun _ => 0))))]) → va_S A H0 H1 locs → W p l e R s m args below meth c H1 locs (cells + 1) (slots + N) Q (F0 m (pc + 2) ls (.ref q :: rest))) : W p l e R s m args below meth c H locs cells slots Q (F0 m pc ls (.int n :: rest)) := by
  refine va_newa (atype := .long) (ty := .long) (N' := N) (a0 := (N, .inr (.inl (fun _ => 0)))) hexec hb harr rfl hK hP hD hS hA (fun cA => rfl) hn hN hbytes hcells hslots hdg (fun q cA H1 hK1 hP1 hD1 hS1 => ?_)
  have h1 : s.vm.findClass ("[" ++ FieldType.long.toString) = some cA := (hK1.2 3 (cA, .long) rfl).2
  have h2 : s.vm.findClass ("[" ++ FieldType.long.toString) = some cL := (hK.2 2 (cL, .long) rfl).2
  obtain rfl : cA = cL := Option.some.inj (h1.symm.trans h2)
  exact kk q H1 hP1 hD1 hS1
end XNewL
/-- what is left: component and reference answer alike -/
def lawPure : Prop := ∀ (xs : Nat → Int32) (L : Nat), L ≤ 3072 → ∃ (z1 : ZS) (c1 : CS) (r1 : RS),
  J_Disk_init ((fun _ => (0 : Int8)), (0 : Int32), ((-1) : Int32), (0 : Int32)) = some z1 ∧
  J_LogFs_init ((z_D z1), (fun _ => (0 : Int8)), (fun _ => (0 : Int32)), (0 : Int32), (z_w z1), (z_f z1), (z_o z1), (0 : Int32)) = some c1 ∧
  J_Model_init ((0 : Int32), (fun _ => (0 : Int8)), (fun _ => (0 : Int8)), (fun _ => (0 : Int32)), (0 : Int32), (0 : Int32), (0 : Int32), ((-1) : Int32), (0 : Int32), (0 : Int32), (fun _ => (0 : Int8)), (fun _ => (0 : Int8))) = some r1 ∧
  J_law_23 xs L 513 ((c1, fun _ => 0), r1) 0 = some ()
set_option maxHeartbeats 4000000 in
set_option maxRecDepth 100000 in
theorem law_start (hpure : lawPure) {p : Program} {e : Env} {s : State} {m : MethodId} {below : List Frame} {meth : Method} {c : Code} (l : Launch) (hl0 : l.stackTraces = false) {b L : Nat} {xs : Nat → Int32} (hL : L ≤ 3072) (C0 : lw_At p s m meth c b L xs) : W p l e room_1 s m #[Value.ref b] below meth c s.heap [] 0 0 (lw_Z below #[Value.ref b] s) (entryFrame m ([Value.ref b] : List Value).toArray 7) := by
  obtain ⟨z1, c1, r1, hJ1, hJ2, hJ3, hJ⟩ := hpure xs L hL
  obtain ⟨hx, hb, hr, hml, hown, hts, hXs, hbl, hlocks, hgv⟩ := C0
  have htb : ∀ w ∈ tb, w.before #[Value.ref b] s = true := fun w h => hts w (List.mem_filter.mp h).1
  obtain ⟨dC, dI, cB, cI, cL, hKL⟩ := k_start htb
  have hK := hKL.sub (tys' := tC cB cI) [0, 1] rfl
  have hfc : s.vm.findClass "LogFs" = some (dC 4) := (hKL.1 4 _ rfl).2.1
  obtain ⟨sx, hX⟩ := kX_start hts hgv hfc
  have hN := kN_start hgv
  have hown : s.vm.findClass "LogFsLaw" = some m.cls := hown
  have hA : ∀ q : Nat, s.heap.size ≤ q → (fun q => s.heap.size ≤ q) q := fun q h => h
  generalize hAe : (fun q : Nat => s.heap.size ≤ q) = A at hX hA
  have hA0 : ∀ q, A q → s.heap.size ≤ q := fun q h => by rw [← hAe] at h; exact h
  have hS : va_S A s.heap s.heap [] := va_S.rf
  have hP : va_P (dC, dI) cls [] s.heap := fun k q hq => by simp at hq
  have hD : va_D A [] := ⟨fun i j p q hi => by simp at hi, fun k q hq => by simp at hq⟩
  have hl := lv_entry ([.ref b]) (n := 7) (Nat.le_of_ble_eq_true rfl)
  rw [lg_entry_eq]
  generalize (lg_sl ([.ref b]) ++ List.replicate (7 - (lg_sl ([.ref b])).length) Slot.unset).toArray = ls at hl ⊢
  have hl : lv_has ls 7 [(0, .ref b)] := hl
  refine va_new (ci := 4) (fs := [.null, .null, .null, .int 0]) (C := R_LogFs) (T := T_LogFs) (N := 4) hx hb htb uin_LogFs t_LogFs t_LogFs_ok hown (htb _ tw15) (htb _ tw16) (htb _ tw1) hK hP hD hS hA rfl (fun j hj => by rcases (show j = 0 ∨ j = 1 ∨ j = 2 ∨ j = 3 by omega) with rfl | rfl | rfl | rfl <;> rfl) (Nat.le_of_ble_eq_true rfl) (Nat.le_of_ble_eq_true rfl) d_law_0 (fun q0 H hP hD hS => ?_)
  have hP : va_P (dC, dI) cls [(q0, .inr (4, [.null, .null, .null, .int 0]))] H := hP
  have hD : va_D A [(q0, .inr (4, [.null, .null, .null, .int 0]))] := hD
  refine lv_dup hx hb d_law_3 rfl ?_
  have hFc := va_free (wc := [(q0, .inr (4, [.null, .null, .null, .int 0]))]) hD hS hA [0] rfl
  refine va_callv (va_runI (As := []) (rest := [.ref q0]) ⟨hx, hb, hml, hown, htb⟩ (c_LogFs_init (l := l) (dC := dC) (dI := dI) (cB := cB) (cI := cI) q0 H.size hJ1 hJ2) (xcI 0 htb tw19 tw1 tw17 tw18 rfl rfl rfl hd_LogFs_init ⟨Nat.le_of_ble_eq_true rfl, Nat.le_of_ble_eq_true rfl⟩) ⟨kI_blind, fun U hU hW => ⟨rfl, by rw [hU], ⟨by rw [hU]; exact hP, va_K.moved hW.alike hK⟩, hD.weaken (fun _ _ _ _ => trivial)⟩⟩ rfl rfl hl.1 rfl (lv_room (Nat.le_of_ble_eq_true rfl)) d_law_4 ⟨Nat.le_of_ble_eq_true rfl, Nat.le_of_ble_eq_true rfl⟩) hS (fun q _ h => hFc q h) hFc (fun ga t H1 locs ht hvm hga hB hz1 hk1 hS => ?_)
  obtain ⟨hB1, hD1⟩ := hB
  have hP1 := kW_P hB1 ht
  obtain ⟨hP, hD⟩ := va_join (wr := []) (w1 := wC ga cB cI c1) hP hD [0] [] rfl rfl (by decide) (by decide) hk1 hFc hP1 hD1
  generalize H1 = H at hP hS ⊢
  have hP : va_P (dC, dI) cls (wC ga cB cI c1) H := hP
  have hD : va_D A (wC ga cB cI c1) := hD
  rw [show q0 = ga 0 from hga.symm]
  refine lv_astore_n hx hb d_law_7 rfl hl (by decide) rfl (fun ls hl => ?_)
  have hl : lv_has ls 7 [(1, .ref (ga 0)), (0, .ref b)] := hl
  refine va_new (ci := 5) (fs := [.int 0, .null, .null, .null, .int 0, .int 0, .int 0, .int 0, .int 0, .int 0, .null, .null]) (C := R_Model) (T := T_Model) (N := 12) hx hb htb uin_Model t_Model t_Model_ok hown (htb _ tw580) (htb _ tw581) (htb _ tw7) hK hP hD hS hA rfl (fun j hj => by rcases (show j = 0 ∨ j = 1 ∨ j = 2 ∨ j = 3 ∨ j = 4 ∨ j = 5 ∨ j = 6 ∨ j = 7 ∨ j = 8 ∨ j = 9 ∨ j = 10 ∨ j = 11 by omega) with rfl | rfl | rfl | rfl | rfl | rfl | rfl | rfl | rfl | rfl | rfl | rfl <;> rfl) (Nat.le_of_ble_eq_true rfl) (Nat.le_of_ble_eq_true rfl) d_law_8 (fun q8 H hP hD hS => ?_)
  have hP : va_P (dC, dI) cls (wC ga cB cI c1 ++ [(q8, .inr (5, [.int 0, .null, .null, .null, .int 0, .int 0, .int 0, .int 0, .int 0, .int 0, .null, .null]))]) H := hP
  have hD : va_D A (wC ga cB cI c1 ++ [(q8, .inr (5, [.int 0, .null, .null, .null, .int 0, .int 0, .int 0, .int 0, .int 0, .int 0, .null, .null]))]) := hD
  refine lv_dup hx hb d_law_11 rfl ?_
  have hPc := hP.sub (ws' := [(q8, .inr (5, [.int 0, .null, .null, .null, .int 0, .int 0, .int 0, .int 0, .int 0, .int 0, .null, .null]))]) [9] rfl
  have hDc := hD.sub (ws' := [(q8, .inr (5, [.int 0, .null, .null, .null, .int 0, .int 0, .int 0, .int 0, .int 0, .int 0, .null, .null]))]) [9] (by decide) rfl
  have hFc := va_free (wc := [(q8, .inr (5, [.int 0, .null, .null, .null, .int 0, .int 0, .int 0, .int 0, .int 0, .int 0, .null, .null]))]) hD hS hA [9] rfl
  refine va_callv (va_runI (As := []) (rest := [.ref q8]) ⟨hx, hb, hml, hown, htb⟩ (c_Model_init (l := l) (dC := dC) (dI := dI) (cB := cB) (cI := cI) q8 H.size hJ3) (xcI 0 htb tw584 tw7 tw582 tw583 rfl rfl rfl hd_Model_init ⟨Nat.le_of_ble_eq_true rfl, Nat.le_of_ble_eq_true rfl⟩) ⟨kI_blind, fun U hU hW => ⟨rfl, by rw [hU], ⟨by rw [hU]; exact hPc, va_K.moved hW.alike hK⟩, hDc.weaken (fun _ _ _ _ => trivial)⟩⟩ rfl rfl hl.1 rfl (lv_room (Nat.le_of_ble_eq_true rfl)) d_law_12 ⟨Nat.le_of_ble_eq_true rfl, Nat.le_of_ble_eq_true rfl⟩) hS (fun q _ h => hFc q h) hFc (fun gr t H1 locs ht hvm hgr hB hz1 hk1 hS => ?_)
  obtain ⟨hB1, hD1⟩ := hB
  have hP1 := kW_P hB1 ht
  obtain ⟨hP, hD⟩ := va_join (wr := wC ga cB cI c1) (w1 := wR gr cB cI r1) hP hD [9] [0, 1, 2, 3, 4, 5, 6, 7, 8] rfl rfl (by decide) (by decide) hk1 hFc hP1 hD1
  generalize H1 = H at hP hS ⊢
  rw [show q8 = gr 0 from hgr.symm]
  refine lv_astore_n hx hb d_law_15 rfl hl (by decide) rfl (fun ls hl => ?_)
  have hl : lv_has ls 7 [(2, .ref (gr 0)), (1, .ref (ga 0)), (0, .ref b)] := hl
  refine lv_iconst (v := (1 : Int32)) hx hb d_law_16 (by decide) ?_
  refine xn_L (N := 1) hx hb (htb _ tw840) hKL hP hD hS hA (by decide) (by decide) (by decide) (Nat.le_of_ble_eq_true rfl) (Nat.le_of_ble_eq_true rfl) d_law_17 (fun ho H hP hD hS => ?_)
  have hP := hP.sub (ws' := wQ ga ho gr cB cI cL ((c1, fun _ => 0), r1)) [0, 1, 2, 3, 4, 5, 6, 7, 8, 15, 9, 10, 11, 12, 13, 14] rfl
  have hD := hD.sub (ws' := wQ ga ho gr cB cI cL ((c1, fun _ => 0), r1)) [0, 1, 2, 3, 4, 5, 6, 7, 8, 15, 9, 10, 11, 12, 13, 14] (by decide) rfl
  refine lv_astore_n hx hb d_law_19 rfl hl (by decide) rfl (fun ls hl => ?_)
  have hl : lv_has ls 7 [(3, .ref ho), (2, .ref (gr 0)), (1, .ref (ga 0)), (0, .ref b)] := hl
  refine lv_iconst (v := (0 : Int32)) hx hb d_law_20 (by decide) ?_
  refine lv_istore hx hb d_law_21 hl (by decide) rfl (fun ls hl => ?_)
  have hl : lv_has ls 7 [(4, .int (0 : Int32)), (3, .ref ho), (2, .ref (gr 0)), (1, .ref (ga 0)), (0, .ref b)] := hl
  have Cx : lawCx p s m meth c l b L xs dC dI ga ho gr cB cI cL A sx := ⟨hx, hb, hr, hml, hown, htb, hXs, hbl, hA0, hlocks, hl0, hKL, hX, hN, fun σ => va_D_same (ws := wQ ga ho gr cB cI cL ((c1, fun _ => 0), r1)) rfl hD⟩
  exact law_loop Cx 513 _ _ _ _ _ _ _ hJ (Nat.le_of_ble_eq_true rfl) (Nat.le_of_ble_eq_true rfl) (lv_sub hl [4, 3, 2, 1, 0] rfl) hP hS
