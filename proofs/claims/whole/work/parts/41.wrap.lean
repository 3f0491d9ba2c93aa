/-! The law's helpers: each calls the component and catches what it throws. Written by wip/gen/wrap.py. -/
def J_Law_make (σ : LW) (a1 : Int32) (a2 : Int64) (a3 : Int32) : Option (Int32 × LW) :=
  (J_LogFs_make (σ).1 a1 a2 a3).bind fun x1 => (if x1.1 = 0 then (if jin (0 : Int32) 1 = true then some ((0 : Int32), (u_O (x1.2.2, (σ).2) (vp_updL (l_O (x1.2.2, (σ).2)) (0 : Int32).toNatClampNeg x1.2.1.toInt64))) else none) else (if x1.1 = 1 then some ((1 : Int32), (x1.2.2, (σ).2)) else (if x1.1 = 2 then some ((2 : Int32), (x1.2.2, (σ).2)) else none)))
abbrev rm_Law_make : Room := { frames := 9, cells := 1, slots := 6, locals := 185 }
set_option maxHeartbeats 4000000 in
set_option maxRecDepth 100000 in
theorem c_Law_make {l : Launch} (hl0 : l.stackTraces = false) {dC : Nat → ClassId} {dI : Nat → Nat → Nat} {ga : Nat → Nat} {ho : Nat} {cB cI cL : ClassId} {A : Nat → Prop} {sx : Nat → Nat} (hDa : ∀ σ, va_D A (wL ga ho cB cI cL σ)) {σ : LW} {a1 : Int32} {a2 : Int64} {a3 : Int32} {res : Int32 × LW} (hJ : J_Law_make σ a1 a2 a3 = some res) :
    Met l y_Law_make (mwW y_Law_make b_Law_make 7 (some .int) [(0, 13, 16, 13), (0, 13, 20, 15)]) rm_Law_make (va_Pc [.ref (ga 0), .int a1, .long a2, .int a3, .ref ho] (fun U => kW (dC, dI) (tL cB cI cL) (wL ga ho cB cI cL σ) U ∧ kX A sx U ∧ kN U)) (va_Qi (fun (x : Int32) (_ : Unit) => x = res.1) (fun _ t => kW (dC, dI) (tL cB cI cL) (wL ga ho cB cI cL res.2) t) A) 1 6 A := by
  refine va_MetW (cc := b_Law_make) (maxL := 7) (ret := (some .int)) (hh := [(0, 13, 16, 13), (0, 13, 20, 15)]) (by decide) rfl ?_
  intro p e s m args below meth c s₁ B hml hv
  obtain ⟨rfl, ⟨hP, hK⟩, hX, hN⟩ := hv
  have hx := B.exec
  have hb := B.bytes
  have hr := B.returns
  have hts := atoms_spec (ws := (mwW y_Law_make b_Law_make 7 (some .int) [(0, 13, 16, 13), (0, 13, 20, 15)])) B.pre
  have htb : ∀ w ∈ tb, w.before [.ref (ga 0), .int a1, .long a2, .int a3, .ref ho].toArray s = true := fun w h => hts w (List.mem_cons_of_mem _ h)
  have htab : c.exceptionTable.toList = [⟨0, 13, 16, 13⟩, ⟨0, 13, 20, 15⟩] := x_table B (hts _ List.mem_cons_self)
  have hN := kN_at (args := [.ref (ga 0), .int a1, .long a2, .int a3, .ref ho].toArray) hN
  have hown : s.vm.findClass "LogFsLaw" = some m.cls := findClass_of_methodNamed B.named
  have hlocks := B.notSynchronized
  have hS : va_S A s.heap s.heap [] := va_S.rf
  have hKc := hK.sub (tys' := tC cB cI) [0, 1] rfl
  have hX1 := kX_A (ho := ho) hX (hP 9 _ rfl).lt
  have hl := lv_entry ([.ref (ga 0), .int a1, .long a2, .int a3, .ref ho]) (n := 7) (Nat.le_of_ble_eq_true rfl)
  rw [lg_entry_eq]
  generalize (lg_sl ([.ref (ga 0), .int a1, .long a2, .int a3, .ref ho]) ++ List.replicate (7 - (lg_sl ([.ref (ga 0), .int a1, .long a2, .int a3, .ref ho])).length) Slot.unset).toArray = ls at hl ⊢
  have hl : lv_has ls 7 [(0, .ref (ga 0)), (1, .int a1), (2, .long a2), (4, .int a3), (5, .ref ho)] := hl
  unfold J_Law_make at hJ
  refine lv_aload hx hb d_Law_make_0 (lv_at hl 4 rfl) ?_
  refine lv_iconst (v := (0 : Int32)) hx hb d_Law_make_2 (by decide) ?_
  refine lv_aload_n hx hb d_Law_make_3 rfl (lv_at hl 0 rfl) ?_
  refine lv_iload_n hx hb d_Law_make_4 rfl (lv_at hl 1 rfl) ?_
  refine lv_lload_n hx hb d_Law_make_5 rfl (lv_at hl 2 rfl) ?_
  refine lv_iload hx hb d_Law_make_6 (lv_at hl 3 rfl) ?_
  obtain ⟨x1, e1, hJ⟩ := j_bind hJ
  have hPc := hP.sub (ws' := wC ga cB cI (σ).1) [0, 1, 2, 3, 4, 5, 6, 7, 8] rfl
  have hPo := hP.sub (ws' := [(ho, .inl (cL, 1, .inr (.inl (σ).2)))]) [9] rfl
  refine x_call2 (xb_runV (As := [.int a1, .long a2, .int a3]) (rest := [.int (0 : Int32), .ref ho]) ⟨hx, hb, hml, hown, htb⟩ (c_LogFs_make (l := l) hl0 (dC := dC) (dI := dI) (sx := sx) (A := xA A ho) (wL_D hDa) e1) (xcV 3 htb tw180 tw1 tw177 tw178 tw179 rfl rfl hd_LogFs_make ⟨Nat.le_of_ble_eq_true rfl, Nat.le_of_ble_eq_true rfl⟩) (kX_V (locs := []) hPc hKc hX1 va_S.rf (va_recv (q0 := 0) (ci := 4) hKc hPc rfl rfl)) rfl rfl hl.1 rfl (lv_room (Nat.le_of_ble_eq_true rfl)) d_Law_make_8 ⟨Nat.le_of_ble_eq_true rfl, Nat.le_of_ble_eq_true rfl⟩) hS (fun q h => h.1) (fun hk t H locs ht hW hB hz hk1 hS => ?_) (fun hk q ce t H locs ht hW hB hz hk1 hS hq hv hc => ?_)
  · have hJ := j_t hJ hk
    have hP : va_P (dC, dI) cls (wL ga ho cB cI cL (x1.2.2, (σ).2)) H := (kW_P hB ht).app (keepO hPo hk1)
    refine W.cs (cells' := 0) (slots' := 0) (xc_0 hk) (xs_0 hk) ?_
    refine W.eq (g2 := F0 m 11 ls [.int x1.2.1, .int (0 : Int32), .ref ho]) rfl ?_
    refine lv_i2l hx hb d_Law_make_11 rfl ?_
    obtain ⟨h2, hJ⟩ := j_g hJ
    refine va_last hx hb hK hP (hDa _) hS 9 2 rfl rfl (j_in h2) d_Law_make_12 (fun H locs hP _ hS => ?_)
    have hP : va_P (dC, dI) cls (wL ga ho cB cI cL (u_O (x1.2.2, (σ).2) (vp_updL (l_O (x1.2.2, (σ).2)) (0 : Int32).toNatClampNeg x1.2.1.toInt64))) H := hP
    refine lv_goto (tgt := 24) hx hb d_Law_make_13 (by decide) ?_
    refine lv_iconst (v := (0 : Int32)) hx hb d_Law_make_24 (by decide) ?_
    have hJ := Option.some.inj hJ
    refine W.widen (k := 1) (n := 6) (Nat.le_of_ble_eq_true rfl) (Nat.le_of_ble_eq_true rfl) ?_
    exact W.iret (v := (0 : Int32)) hx hb hr (fun t ht hW => ⟨⟨_, (), rfl, j_p1 hJ, kW_end hP hK ht hW (congrArg (fun z => wL ga ho cB cI cL z) (j_p2 hJ))⟩, hS.F ht⟩) hS.2.2 d_Law_make_25
  · have hJ := j_f hJ hk
    have hP : va_P (dC, dI) cls (wL ga ho cB cI cL (x1.2.2, (σ).2)) H := (kW_P hB ht).app (keepO hPo hk1)
    by_cases h3 : x1.1 = 1
    · have hJ := j_t hJ h3
      rw [h3] at hc
      have hJ := Option.some.inj hJ
      refine x_catch (k := 1) (nm := "java/lang/IllegalStateException") hown [] ⟨0, 13, 16, 13⟩ [⟨0, 13, 20, 15⟩] htab (fun y hy => nomatch hy) ⟨rfl, by decide, htb _ tw175⟩ (htb _ tw187) hq hv hc ?_
      refine W.widen (k := 1) (n := 6) (xc_1 _) (xs_1 _) ?_
      refine lv_astore hx hb d_Law_make_16 hl (Nat.le_of_ble_eq_true rfl) rfl (fun ls hl => ?_)
      refine lv_iconst (v := (1 : Int32)) hx hb d_Law_make_18 (by decide) ?_
      exact W.iret (v := (1 : Int32)) hx hb hr (fun t ht hW => ⟨⟨_, (), rfl, j_p1 hJ, kW_end hP hK ht hW (congrArg (fun z => wL ga ho cB cI cL z) (j_p2 hJ))⟩, hS.F ht⟩) hS.2.2 d_Law_make_19
    · have hJ := j_f hJ h3
      by_cases h4 : x1.1 = 2
      · have hJ := j_t hJ h4
        rw [h4] at hc
        have hJ := Option.some.inj hJ
        refine x_catch (k := 2) (nm := "java/lang/UnsupportedOperationException") hown [(⟨0, 13, 16, 13⟩, "java/lang/IllegalStateException")] ⟨0, 13, 20, 15⟩ [] htab (fun y hy => by obtain rfl := List.mem_singleton.mp hy; exact ⟨⟨rfl, by decide, htb _ tw175⟩, hN.1⟩) ⟨rfl, by decide, htb _ tw176⟩ (htb _ tw350) hq hv hc ?_
        refine W.widen (k := 1) (n := 6) (xc_1 _) (xs_1 _) ?_
        refine lv_astore hx hb d_Law_make_20 hl (Nat.le_of_ble_eq_true rfl) rfl (fun ls hl => ?_)
        refine lv_iconst (v := (2 : Int32)) hx hb d_Law_make_22 (by decide) ?_
        exact W.iret (v := (2 : Int32)) hx hb hr (fun t ht hW => ⟨⟨_, (), rfl, j_p1 hJ, kW_end hP hK ht hW (congrArg (fun z => wL ga ho cB cI cL z) (j_p2 hJ))⟩, hS.F ht⟩) hS.2.2 d_Law_make_23
      · have hJ := j_f hJ h4
        exact j_none hJ
def J_Law_link (σ : LW) (a1 : Int32) (a2 : Int64) (a3 : Int32) : Option (Int32 × LW) :=
  (J_LogFs_link (σ).1 a1 a2 a3).bind fun x1 => (if x1.1 = 0 then (if x1.2.1 = (0 : Int32) then (if jin (0 : Int32) 1 = true then some ((0 : Int32), (u_O (x1.2.2, (σ).2) (vp_updL (l_O (x1.2.2, (σ).2)) (0 : Int32).toNatClampNeg (0 : Int64)))) else none) else (if jin (0 : Int32) 1 = true then some ((0 : Int32), (u_O (x1.2.2, (σ).2) (vp_updL (l_O (x1.2.2, (σ).2)) (0 : Int32).toNatClampNeg (1 : Int64)))) else none)) else (if x1.1 = 1 then some ((1 : Int32), (x1.2.2, (σ).2)) else (if x1.1 = 2 then some ((2 : Int32), (x1.2.2, (σ).2)) else none)))
abbrev rm_Law_link : Room := { frames := 9, cells := 1, slots := 6, locals := 184 }
set_option maxHeartbeats 4000000 in
set_option maxRecDepth 100000 in
theorem c_Law_link {l : Launch} (hl0 : l.stackTraces = false) {dC : Nat → ClassId} {dI : Nat → Nat → Nat} {ga : Nat → Nat} {ho : Nat} {cB cI cL : ClassId} {A : Nat → Prop} {sx : Nat → Nat} (hDa : ∀ σ, va_D A (wL ga ho cB cI cL σ)) {σ : LW} {a1 : Int32} {a2 : Int64} {a3 : Int32} {res : Int32 × LW} (hJ : J_Law_link σ a1 a2 a3 = some res) :
    Met l y_Law_link (mwW y_Law_link b_Law_link 7 (some .int) [(0, 20, 23, 13), (0, 20, 27, 15)]) rm_Law_link (va_Pc [.ref (ga 0), .int a1, .long a2, .int a3, .ref ho] (fun U => kW (dC, dI) (tL cB cI cL) (wL ga ho cB cI cL σ) U ∧ kX A sx U ∧ kN U)) (va_Qi (fun (x : Int32) (_ : Unit) => x = res.1) (fun _ t => kW (dC, dI) (tL cB cI cL) (wL ga ho cB cI cL res.2) t) A) 1 6 A := by
  refine va_MetW (cc := b_Law_link) (maxL := 7) (ret := (some .int)) (hh := [(0, 20, 23, 13), (0, 20, 27, 15)]) (by decide) rfl ?_
  intro p e s m args below meth c s₁ B hml hv
  obtain ⟨rfl, ⟨hP, hK⟩, hX, hN⟩ := hv
  have hx := B.exec
  have hb := B.bytes
  have hr := B.returns
  have hts := atoms_spec (ws := (mwW y_Law_link b_Law_link 7 (some .int) [(0, 20, 23, 13), (0, 20, 27, 15)])) B.pre
  have htb : ∀ w ∈ tb, w.before [.ref (ga 0), .int a1, .long a2, .int a3, .ref ho].toArray s = true := fun w h => hts w (List.mem_cons_of_mem _ h)
  have htab : c.exceptionTable.toList = [⟨0, 20, 23, 13⟩, ⟨0, 20, 27, 15⟩] := x_table B (hts _ List.mem_cons_self)
  have hN := kN_at (args := [.ref (ga 0), .int a1, .long a2, .int a3, .ref ho].toArray) hN
  have hown : s.vm.findClass "LogFsLaw" = some m.cls := findClass_of_methodNamed B.named
  have hlocks := B.notSynchronized
  have hS : va_S A s.heap s.heap [] := va_S.rf
  have hKc := hK.sub (tys' := tC cB cI) [0, 1] rfl
  have hX1 := kX_A (ho := ho) hX (hP 9 _ rfl).lt
  have hl := lv_entry ([.ref (ga 0), .int a1, .long a2, .int a3, .ref ho]) (n := 7) (Nat.le_of_ble_eq_true rfl)
  rw [lg_entry_eq]
  generalize (lg_sl ([.ref (ga 0), .int a1, .long a2, .int a3, .ref ho]) ++ List.replicate (7 - (lg_sl ([.ref (ga 0), .int a1, .long a2, .int a3, .ref ho])).length) Slot.unset).toArray = ls at hl ⊢
  have hl : lv_has ls 7 [(0, .ref (ga 0)), (1, .int a1), (2, .long a2), (4, .int a3), (5, .ref ho)] := hl
  unfold J_Law_link at hJ
  refine lv_aload hx hb d_Law_link_0 (lv_at hl 4 rfl) ?_
  refine lv_iconst (v := (0 : Int32)) hx hb d_Law_link_2 (by decide) ?_
  refine lv_aload_n hx hb d_Law_link_3 rfl (lv_at hl 0 rfl) ?_
  refine lv_iload_n hx hb d_Law_link_4 rfl (lv_at hl 1 rfl) ?_
  refine lv_lload_n hx hb d_Law_link_5 rfl (lv_at hl 2 rfl) ?_
  refine lv_iload hx hb d_Law_link_6 (lv_at hl 3 rfl) ?_
  obtain ⟨x1, e1, hJ⟩ := j_bind hJ
  have hPc := hP.sub (ws' := wC ga cB cI (σ).1) [0, 1, 2, 3, 4, 5, 6, 7, 8] rfl
  have hPo := hP.sub (ws' := [(ho, .inl (cL, 1, .inr (.inl (σ).2)))]) [9] rfl
  refine x_call2 (xb_runV (As := [.int a1, .long a2, .int a3]) (rest := [.int (0 : Int32), .ref ho]) ⟨hx, hb, hml, hown, htb⟩ (c_LogFs_link (l := l) hl0 (dC := dC) (dI := dI) (sx := sx) (A := xA A ho) (wL_D hDa) e1) (xcV 3 htb tw422 tw1 tw419 tw420 tw421 rfl rfl hd_LogFs_link ⟨Nat.le_of_ble_eq_true rfl, Nat.le_of_ble_eq_true rfl⟩) (kX_V (locs := []) hPc hKc hX1 va_S.rf (va_recv (q0 := 0) (ci := 4) hKc hPc rfl rfl)) rfl rfl hl.1 rfl (lv_room (Nat.le_of_ble_eq_true rfl)) d_Law_link_8 ⟨Nat.le_of_ble_eq_true rfl, Nat.le_of_ble_eq_true rfl⟩) hS (fun q h => h.1) (fun hk t H locs ht hW hB hz hk1 hS => ?_) (fun hk q ce t H locs ht hW hB hz hk1 hS hq hv hc => ?_)
  · have hJ := j_t hJ hk
    have hP : va_P (dC, dI) cls (wL ga ho cB cI cL (x1.2.2, (σ).2)) H := (kW_P hB ht).app (keepO hPo hk1)
    refine W.cs (cells' := 0) (slots' := 0) (xc_0 hk) (xs_0 hk) ?_
    refine W.eq (g2 := F0 m 11 ls [.int x1.2.1, .int (0 : Int32), .ref ho]) rfl ?_
    refine lv_if_eq (tgt := 18) hx hb d_Law_link_11 (by decide) (fun h2 => ?_) (fun h2 => ?_)
    · have hJ := j_t hJ h2
      refine lv_lconst (v := (0 : Int64)) hx hb d_Law_link_18 (by decide) ?_
      obtain ⟨h3, hJ⟩ := j_g hJ
      refine va_last hx hb hK hP (hDa _) hS 9 2 rfl rfl (j_in h3) d_Law_link_19 (fun H locs hP _ hS => ?_)
      have hP : va_P (dC, dI) cls (wL ga ho cB cI cL (u_O (x1.2.2, (σ).2) (vp_updL (l_O (x1.2.2, (σ).2)) (0 : Int32).toNatClampNeg (0 : Int64)))) H := hP
      refine lv_goto (tgt := 31) hx hb d_Law_link_20 (by decide) ?_
      refine lv_iconst (v := (0 : Int32)) hx hb d_Law_link_31 (by decide) ?_
      have hJ := Option.some.inj hJ
      refine W.widen (k := 1) (n := 6) (Nat.le_of_ble_eq_true rfl) (Nat.le_of_ble_eq_true rfl) ?_
      exact W.iret (v := (0 : Int32)) hx hb hr (fun t ht hW => ⟨⟨_, (), rfl, j_p1 hJ, kW_end hP hK ht hW (congrArg (fun z => wL ga ho cB cI cL z) (j_p2 hJ))⟩, hS.F ht⟩) hS.2.2 d_Law_link_32
    · have hJ := j_f hJ h2
      refine lv_lconst (v := (1 : Int64)) hx hb d_Law_link_14 (by decide) ?_
      refine lv_goto (tgt := 19) hx hb d_Law_link_15 (by decide) ?_
      obtain ⟨h4, hJ⟩ := j_g hJ
      refine va_last hx hb hK hP (hDa _) hS 9 2 rfl rfl (j_in h4) d_Law_link_19 (fun H locs hP _ hS => ?_)
      have hP : va_P (dC, dI) cls (wL ga ho cB cI cL (u_O (x1.2.2, (σ).2) (vp_updL (l_O (x1.2.2, (σ).2)) (0 : Int32).toNatClampNeg (1 : Int64)))) H := hP
      refine lv_goto (tgt := 31) hx hb d_Law_link_20 (by decide) ?_
      refine lv_iconst (v := (0 : Int32)) hx hb d_Law_link_31 (by decide) ?_
      have hJ := Option.some.inj hJ
      refine W.widen (k := 1) (n := 6) (Nat.le_of_ble_eq_true rfl) (Nat.le_of_ble_eq_true rfl) ?_
      exact W.iret (v := (0 : Int32)) hx hb hr (fun t ht hW => ⟨⟨_, (), rfl, j_p1 hJ, kW_end hP hK ht hW (congrArg (fun z => wL ga ho cB cI cL z) (j_p2 hJ))⟩, hS.F ht⟩) hS.2.2 d_Law_link_32
  · have hJ := j_f hJ hk
    have hP : va_P (dC, dI) cls (wL ga ho cB cI cL (x1.2.2, (σ).2)) H := (kW_P hB ht).app (keepO hPo hk1)
    by_cases h5 : x1.1 = 1
    · have hJ := j_t hJ h5
      rw [h5] at hc
      have hJ := Option.some.inj hJ
      refine x_catch (k := 1) (nm := "java/lang/IllegalStateException") hown [] ⟨0, 20, 23, 13⟩ [⟨0, 20, 27, 15⟩] htab (fun y hy => nomatch hy) ⟨rfl, by decide, htb _ tw175⟩ (htb _ tw187) hq hv hc ?_
      refine W.widen (k := 1) (n := 6) (xc_1 _) (xs_1 _) ?_
      refine lv_astore hx hb d_Law_link_23 hl (Nat.le_of_ble_eq_true rfl) rfl (fun ls hl => ?_)
      refine lv_iconst (v := (1 : Int32)) hx hb d_Law_link_25 (by decide) ?_
      exact W.iret (v := (1 : Int32)) hx hb hr (fun t ht hW => ⟨⟨_, (), rfl, j_p1 hJ, kW_end hP hK ht hW (congrArg (fun z => wL ga ho cB cI cL z) (j_p2 hJ))⟩, hS.F ht⟩) hS.2.2 d_Law_link_26
    · have hJ := j_f hJ h5
      by_cases h6 : x1.1 = 2
      · have hJ := j_t hJ h6
        rw [h6] at hc
        have hJ := Option.some.inj hJ
        refine x_catch (k := 2) (nm := "java/lang/UnsupportedOperationException") hown [(⟨0, 20, 23, 13⟩, "java/lang/IllegalStateException")] ⟨0, 20, 27, 15⟩ [] htab (fun y hy => by obtain rfl := List.mem_singleton.mp hy; exact ⟨⟨rfl, by decide, htb _ tw175⟩, hN.1⟩) ⟨rfl, by decide, htb _ tw176⟩ (htb _ tw350) hq hv hc ?_
        refine W.widen (k := 1) (n := 6) (xc_1 _) (xs_1 _) ?_
        refine lv_astore hx hb d_Law_link_27 hl (Nat.le_of_ble_eq_true rfl) rfl (fun ls hl => ?_)
        refine lv_iconst (v := (2 : Int32)) hx hb d_Law_link_29 (by decide) ?_
        exact W.iret (v := (2 : Int32)) hx hb hr (fun t ht hW => ⟨⟨_, (), rfl, j_p1 hJ, kW_end hP hK ht hW (congrArg (fun z => wL ga ho cB cI cL z) (j_p2 hJ))⟩, hS.F ht⟩) hS.2.2 d_Law_link_30
      · have hJ := j_f hJ h6
        exact j_none hJ
def J_Law_unlink (σ : LW) (a1 : Int32) (a2 : Int64) : Option (Int32 × LW) :=
  (J_LogFs_unlink (σ).1 a1 a2).bind fun x1 => (if x1.1 = 0 then (if x1.2.1 = (0 : Int32) then (if jin (0 : Int32) 1 = true then some ((0 : Int32), (u_O (x1.2.2, (σ).2) (vp_updL (l_O (x1.2.2, (σ).2)) (0 : Int32).toNatClampNeg (0 : Int64)))) else none) else (if jin (0 : Int32) 1 = true then some ((0 : Int32), (u_O (x1.2.2, (σ).2) (vp_updL (l_O (x1.2.2, (σ).2)) (0 : Int32).toNatClampNeg (1 : Int64)))) else none)) else (if x1.1 = 1 then some ((1 : Int32), (x1.2.2, (σ).2)) else (if x1.1 = 2 then some ((2 : Int32), (x1.2.2, (σ).2)) else none)))
abbrev rm_Law_unlink : Room := { frames := 9, cells := 1, slots := 6, locals := 185 }
set_option maxHeartbeats 4000000 in
set_option maxRecDepth 100000 in
theorem c_Law_unlink {l : Launch} (hl0 : l.stackTraces = false) {dC : Nat → ClassId} {dI : Nat → Nat → Nat} {ga : Nat → Nat} {ho : Nat} {cB cI cL : ClassId} {A : Nat → Prop} {sx : Nat → Nat} (hDa : ∀ σ, va_D A (wL ga ho cB cI cL σ)) {σ : LW} {a1 : Int32} {a2 : Int64} {res : Int32 × LW} (hJ : J_Law_unlink σ a1 a2 = some res) :
    Met l y_Law_unlink (mwW y_Law_unlink b_Law_unlink 6 (some .int) [(0, 18, 21, 13), (0, 18, 25, 15)]) rm_Law_unlink (va_Pc [.ref (ga 0), .int a1, .long a2, .ref ho] (fun U => kW (dC, dI) (tL cB cI cL) (wL ga ho cB cI cL σ) U ∧ kX A sx U ∧ kN U)) (va_Qi (fun (x : Int32) (_ : Unit) => x = res.1) (fun _ t => kW (dC, dI) (tL cB cI cL) (wL ga ho cB cI cL res.2) t) A) 1 6 A := by
  refine va_MetW (cc := b_Law_unlink) (maxL := 6) (ret := (some .int)) (hh := [(0, 18, 21, 13), (0, 18, 25, 15)]) (by decide) rfl ?_
  intro p e s m args below meth c s₁ B hml hv
  obtain ⟨rfl, ⟨hP, hK⟩, hX, hN⟩ := hv
  have hx := B.exec
  have hb := B.bytes
  have hr := B.returns
  have hts := atoms_spec (ws := (mwW y_Law_unlink b_Law_unlink 6 (some .int) [(0, 18, 21, 13), (0, 18, 25, 15)])) B.pre
  have htb : ∀ w ∈ tb, w.before [.ref (ga 0), .int a1, .long a2, .ref ho].toArray s = true := fun w h => hts w (List.mem_cons_of_mem _ h)
  have htab : c.exceptionTable.toList = [⟨0, 18, 21, 13⟩, ⟨0, 18, 25, 15⟩] := x_table B (hts _ List.mem_cons_self)
  have hN := kN_at (args := [.ref (ga 0), .int a1, .long a2, .ref ho].toArray) hN
  have hown : s.vm.findClass "LogFsLaw" = some m.cls := findClass_of_methodNamed B.named
  have hlocks := B.notSynchronized
  have hS : va_S A s.heap s.heap [] := va_S.rf
  have hKc := hK.sub (tys' := tC cB cI) [0, 1] rfl
  have hX1 := kX_A (ho := ho) hX (hP 9 _ rfl).lt
  have hl := lv_entry ([.ref (ga 0), .int a1, .long a2, .ref ho]) (n := 6) (Nat.le_of_ble_eq_true rfl)
  rw [lg_entry_eq]
  generalize (lg_sl ([.ref (ga 0), .int a1, .long a2, .ref ho]) ++ List.replicate (6 - (lg_sl ([.ref (ga 0), .int a1, .long a2, .ref ho])).length) Slot.unset).toArray = ls at hl ⊢
  have hl : lv_has ls 6 [(0, .ref (ga 0)), (1, .int a1), (2, .long a2), (4, .ref ho)] := hl
  unfold J_Law_unlink at hJ
  refine lv_aload hx hb d_Law_unlink_0 (lv_at hl 3 rfl) ?_
  refine lv_iconst (v := (0 : Int32)) hx hb d_Law_unlink_2 (by decide) ?_
  refine lv_aload_n hx hb d_Law_unlink_3 rfl (lv_at hl 0 rfl) ?_
  refine lv_iload_n hx hb d_Law_unlink_4 rfl (lv_at hl 1 rfl) ?_
  refine lv_lload_n hx hb d_Law_unlink_5 rfl (lv_at hl 2 rfl) ?_
  obtain ⟨x1, e1, hJ⟩ := j_bind hJ
  have hPc := hP.sub (ws' := wC ga cB cI (σ).1) [0, 1, 2, 3, 4, 5, 6, 7, 8] rfl
  have hPo := hP.sub (ws' := [(ho, .inl (cL, 1, .inr (.inl (σ).2)))]) [9] rfl
  refine x_call2 (xb_runV (As := [.int a1, .long a2]) (rest := [.int (0 : Int32), .ref ho]) ⟨hx, hb, hml, hown, htb⟩ (c_LogFs_unlink (l := l) hl0 (dC := dC) (dI := dI) (sx := sx) (A := xA A ho) (wL_D hDa) e1) (xcV 2 htb tw442 tw1 tw439 tw440 tw441 rfl rfl hd_LogFs_unlink ⟨Nat.le_of_ble_eq_true rfl, Nat.le_of_ble_eq_true rfl⟩) (kX_V (locs := []) hPc hKc hX1 va_S.rf (va_recv (q0 := 0) (ci := 4) hKc hPc rfl rfl)) rfl rfl hl.1 rfl (lv_room (Nat.le_of_ble_eq_true rfl)) d_Law_unlink_6 ⟨Nat.le_of_ble_eq_true rfl, Nat.le_of_ble_eq_true rfl⟩) hS (fun q h => h.1) (fun hk t H locs ht hW hB hz hk1 hS => ?_) (fun hk q ce t H locs ht hW hB hz hk1 hS hq hv hc => ?_)
  · have hJ := j_t hJ hk
    have hP : va_P (dC, dI) cls (wL ga ho cB cI cL (x1.2.2, (σ).2)) H := (kW_P hB ht).app (keepO hPo hk1)
    refine W.cs (cells' := 0) (slots' := 0) (xc_0 hk) (xs_0 hk) ?_
    refine W.eq (g2 := F0 m 9 ls [.int x1.2.1, .int (0 : Int32), .ref ho]) rfl ?_
    refine lv_if_eq (tgt := 16) hx hb d_Law_unlink_9 (by decide) (fun h2 => ?_) (fun h2 => ?_)
    · have hJ := j_t hJ h2
      refine lv_lconst (v := (0 : Int64)) hx hb d_Law_unlink_16 (by decide) ?_
      obtain ⟨h3, hJ⟩ := j_g hJ
      refine va_last hx hb hK hP (hDa _) hS 9 2 rfl rfl (j_in h3) d_Law_unlink_17 (fun H locs hP _ hS => ?_)
      have hP : va_P (dC, dI) cls (wL ga ho cB cI cL (u_O (x1.2.2, (σ).2) (vp_updL (l_O (x1.2.2, (σ).2)) (0 : Int32).toNatClampNeg (0 : Int64)))) H := hP
      refine lv_goto (tgt := 29) hx hb d_Law_unlink_18 (by decide) ?_
      refine lv_iconst (v := (0 : Int32)) hx hb d_Law_unlink_29 (by decide) ?_
      have hJ := Option.some.inj hJ
      refine W.widen (k := 1) (n := 6) (Nat.le_of_ble_eq_true rfl) (Nat.le_of_ble_eq_true rfl) ?_
      exact W.iret (v := (0 : Int32)) hx hb hr (fun t ht hW => ⟨⟨_, (), rfl, j_p1 hJ, kW_end hP hK ht hW (congrArg (fun z => wL ga ho cB cI cL z) (j_p2 hJ))⟩, hS.F ht⟩) hS.2.2 d_Law_unlink_30
    · have hJ := j_f hJ h2
      refine lv_lconst (v := (1 : Int64)) hx hb d_Law_unlink_12 (by decide) ?_
      refine lv_goto (tgt := 17) hx hb d_Law_unlink_13 (by decide) ?_
      obtain ⟨h4, hJ⟩ := j_g hJ
      refine va_last hx hb hK hP (hDa _) hS 9 2 rfl rfl (j_in h4) d_Law_unlink_17 (fun H locs hP _ hS => ?_)
      have hP : va_P (dC, dI) cls (wL ga ho cB cI cL (u_O (x1.2.2, (σ).2) (vp_updL (l_O (x1.2.2, (σ).2)) (0 : Int32).toNatClampNeg (1 : Int64)))) H := hP
      refine lv_goto (tgt := 29) hx hb d_Law_unlink_18 (by decide) ?_
      refine lv_iconst (v := (0 : Int32)) hx hb d_Law_unlink_29 (by decide) ?_
      have hJ := Option.some.inj hJ
      refine W.widen (k := 1) (n := 6) (Nat.le_of_ble_eq_true rfl) (Nat.le_of_ble_eq_true rfl) ?_
      exact W.iret (v := (0 : Int32)) hx hb hr (fun t ht hW => ⟨⟨_, (), rfl, j_p1 hJ, kW_end hP hK ht hW (congrArg (fun z => wL ga ho cB cI cL z) (j_p2 hJ))⟩, hS.F ht⟩) hS.2.2 d_Law_unlink_30
  · have hJ := j_f hJ hk
    have hP : va_P (dC, dI) cls (wL ga ho cB cI cL (x1.2.2, (σ).2)) H := (kW_P hB ht).app (keepO hPo hk1)
    by_cases h5 : x1.1 = 1
    · have hJ := j_t hJ h5
      rw [h5] at hc
      have hJ := Option.some.inj hJ
      refine x_catch (k := 1) (nm := "java/lang/IllegalStateException") hown [] ⟨0, 18, 21, 13⟩ [⟨0, 18, 25, 15⟩] htab (fun y hy => nomatch hy) ⟨rfl, by decide, htb _ tw175⟩ (htb _ tw187) hq hv hc ?_
      refine W.widen (k := 1) (n := 6) (xc_1 _) (xs_1 _) ?_
      refine lv_astore hx hb d_Law_unlink_21 hl (Nat.le_of_ble_eq_true rfl) rfl (fun ls hl => ?_)
      refine lv_iconst (v := (1 : Int32)) hx hb d_Law_unlink_23 (by decide) ?_
      exact W.iret (v := (1 : Int32)) hx hb hr (fun t ht hW => ⟨⟨_, (), rfl, j_p1 hJ, kW_end hP hK ht hW (congrArg (fun z => wL ga ho cB cI cL z) (j_p2 hJ))⟩, hS.F ht⟩) hS.2.2 d_Law_unlink_24
    · have hJ := j_f hJ h5
      by_cases h6 : x1.1 = 2
      · have hJ := j_t hJ h6
        rw [h6] at hc
        have hJ := Option.some.inj hJ
        refine x_catch (k := 2) (nm := "java/lang/UnsupportedOperationException") hown [(⟨0, 18, 21, 13⟩, "java/lang/IllegalStateException")] ⟨0, 18, 25, 15⟩ [] htab (fun y hy => by obtain rfl := List.mem_singleton.mp hy; exact ⟨⟨rfl, by decide, htb _ tw175⟩, hN.1⟩) ⟨rfl, by decide, htb _ tw176⟩ (htb _ tw350) hq hv hc ?_
        refine W.widen (k := 1) (n := 6) (xc_1 _) (xs_1 _) ?_
        refine lv_astore hx hb d_Law_unlink_25 hl (Nat.le_of_ble_eq_true rfl) rfl (fun ls hl => ?_)
        refine lv_iconst (v := (2 : Int32)) hx hb d_Law_unlink_27 (by decide) ?_
        exact W.iret (v := (2 : Int32)) hx hb hr (fun t ht hW => ⟨⟨_, (), rfl, j_p1 hJ, kW_end hP hK ht hW (congrArg (fun z => wL ga ho cB cI cL z) (j_p2 hJ))⟩, hS.F ht⟩) hS.2.2 d_Law_unlink_28
      · have hJ := j_f hJ h6
        exact j_none hJ
def J_Law_write (σ : LW) (a1 : Int32) (a2 : Int32) (a3 : Int64) (a4 : Int32) : Option (Int32 × LW) :=
  (J_LogFs_write (σ).1 a1 a2 a3 a4).bind fun x1 => (if x1.1 = 0 then (if jin (0 : Int32) 1 = true then some ((0 : Int32), (u_O (x1.2.2, (σ).2) (vp_updL (l_O (x1.2.2, (σ).2)) (0 : Int32).toNatClampNeg x1.2.1.toInt64))) else none) else (if x1.1 = 1 then some ((1 : Int32), (x1.2.2, (σ).2)) else (if x1.1 = 2 then some ((2 : Int32), (x1.2.2, (σ).2)) else none)))
abbrev rm_Law_write : Room := { frames := 9, cells := 1, slots := 6, locals := 185 }
set_option maxHeartbeats 4000000 in
set_option maxRecDepth 100000 in
theorem c_Law_write {l : Launch} (hl0 : l.stackTraces = false) {dC : Nat → ClassId} {dI : Nat → Nat → Nat} {ga : Nat → Nat} {ho : Nat} {cB cI cL : ClassId} {A : Nat → Prop} {sx : Nat → Nat} (hDa : ∀ σ, va_D A (wL ga ho cB cI cL σ)) {σ : LW} {a1 : Int32} {a2 : Int32} {a3 : Int64} {a4 : Int32} {res : Int32 × LW} (hJ : J_Law_write σ a1 a2 a3 a4 = some res) :
    Met l y_Law_write (mwW y_Law_write b_Law_write 8 (some .int) [(0, 14, 17, 13), (0, 14, 21, 15)]) rm_Law_write (va_Pc [.ref (ga 0), .int a1, .int a2, .long a3, .int a4, .ref ho] (fun U => kW (dC, dI) (tL cB cI cL) (wL ga ho cB cI cL σ) U ∧ kX A sx U ∧ kN U)) (va_Qi (fun (x : Int32) (_ : Unit) => x = res.1) (fun _ t => kW (dC, dI) (tL cB cI cL) (wL ga ho cB cI cL res.2) t) A) 1 6 A := by
  refine va_MetW (cc := b_Law_write) (maxL := 8) (ret := (some .int)) (hh := [(0, 14, 17, 13), (0, 14, 21, 15)]) (by decide) rfl ?_
  intro p e s m args below meth c s₁ B hml hv
  obtain ⟨rfl, ⟨hP, hK⟩, hX, hN⟩ := hv
  have hx := B.exec
  have hb := B.bytes
  have hr := B.returns
  have hts := atoms_spec (ws := (mwW y_Law_write b_Law_write 8 (some .int) [(0, 14, 17, 13), (0, 14, 21, 15)])) B.pre
  have htb : ∀ w ∈ tb, w.before [.ref (ga 0), .int a1, .int a2, .long a3, .int a4, .ref ho].toArray s = true := fun w h => hts w (List.mem_cons_of_mem _ h)
  have htab : c.exceptionTable.toList = [⟨0, 14, 17, 13⟩, ⟨0, 14, 21, 15⟩] := x_table B (hts _ List.mem_cons_self)
  have hN := kN_at (args := [.ref (ga 0), .int a1, .int a2, .long a3, .int a4, .ref ho].toArray) hN
  have hown : s.vm.findClass "LogFsLaw" = some m.cls := findClass_of_methodNamed B.named
  have hlocks := B.notSynchronized
  have hS : va_S A s.heap s.heap [] := va_S.rf
  have hKc := hK.sub (tys' := tC cB cI) [0, 1] rfl
  have hX1 := kX_A (ho := ho) hX (hP 9 _ rfl).lt
  have hl := lv_entry ([.ref (ga 0), .int a1, .int a2, .long a3, .int a4, .ref ho]) (n := 8) (Nat.le_of_ble_eq_true rfl)
  rw [lg_entry_eq]
  generalize (lg_sl ([.ref (ga 0), .int a1, .int a2, .long a3, .int a4, .ref ho]) ++ List.replicate (8 - (lg_sl ([.ref (ga 0), .int a1, .int a2, .long a3, .int a4, .ref ho])).length) Slot.unset).toArray = ls at hl ⊢
  have hl : lv_has ls 8 [(0, .ref (ga 0)), (1, .int a1), (2, .int a2), (3, .long a3), (5, .int a4), (6, .ref ho)] := hl
  unfold J_Law_write at hJ
  refine lv_aload hx hb d_Law_write_0 (lv_at hl 5 rfl) ?_
  refine lv_iconst (v := (0 : Int32)) hx hb d_Law_write_2 (by decide) ?_
  refine lv_aload_n hx hb d_Law_write_3 rfl (lv_at hl 0 rfl) ?_
  refine lv_iload_n hx hb d_Law_write_4 rfl (lv_at hl 1 rfl) ?_
  refine lv_iload_n hx hb d_Law_write_5 rfl (lv_at hl 2 rfl) ?_
  refine lv_lload_n hx hb d_Law_write_6 rfl (lv_at hl 3 rfl) ?_
  refine lv_iload hx hb d_Law_write_7 (lv_at hl 4 rfl) ?_
  obtain ⟨x1, e1, hJ⟩ := j_bind hJ
  have hPc := hP.sub (ws' := wC ga cB cI (σ).1) [0, 1, 2, 3, 4, 5, 6, 7, 8] rfl
  have hPo := hP.sub (ws' := [(ho, .inl (cL, 1, .inr (.inl (σ).2)))]) [9] rfl
  refine x_call2 (xb_runV (As := [.int a1, .int a2, .long a3, .int a4]) (rest := [.int (0 : Int32), .ref ho]) ⟨hx, hb, hml, hown, htb⟩ (c_LogFs_write (l := l) hl0 (dC := dC) (dI := dI) (sx := sx) (A := xA A ho) (wL_D hDa) e1) (xcV 4 htb tw470 tw1 tw467 tw468 tw469 rfl rfl hd_LogFs_write ⟨Nat.le_of_ble_eq_true rfl, Nat.le_of_ble_eq_true rfl⟩) (kX_V (locs := []) hPc hKc hX1 va_S.rf (va_recv (q0 := 0) (ci := 4) hKc hPc rfl rfl)) rfl rfl hl.1 rfl (lv_room (Nat.le_of_ble_eq_true rfl)) d_Law_write_9 ⟨Nat.le_of_ble_eq_true rfl, Nat.le_of_ble_eq_true rfl⟩) hS (fun q h => h.1) (fun hk t H locs ht hW hB hz hk1 hS => ?_) (fun hk q ce t H locs ht hW hB hz hk1 hS hq hv hc => ?_)
  · have hJ := j_t hJ hk
    have hP : va_P (dC, dI) cls (wL ga ho cB cI cL (x1.2.2, (σ).2)) H := (kW_P hB ht).app (keepO hPo hk1)
    refine W.cs (cells' := 0) (slots' := 0) (xc_0 hk) (xs_0 hk) ?_
    refine W.eq (g2 := F0 m 12 ls [.int x1.2.1, .int (0 : Int32), .ref ho]) rfl ?_
    refine lv_i2l hx hb d_Law_write_12 rfl ?_
    obtain ⟨h2, hJ⟩ := j_g hJ
    refine va_last hx hb hK hP (hDa _) hS 9 2 rfl rfl (j_in h2) d_Law_write_13 (fun H locs hP _ hS => ?_)
    have hP : va_P (dC, dI) cls (wL ga ho cB cI cL (u_O (x1.2.2, (σ).2) (vp_updL (l_O (x1.2.2, (σ).2)) (0 : Int32).toNatClampNeg x1.2.1.toInt64))) H := hP
    refine lv_goto (tgt := 25) hx hb d_Law_write_14 (by decide) ?_
    refine lv_iconst (v := (0 : Int32)) hx hb d_Law_write_25 (by decide) ?_
    have hJ := Option.some.inj hJ
    refine W.widen (k := 1) (n := 6) (Nat.le_of_ble_eq_true rfl) (Nat.le_of_ble_eq_true rfl) ?_
    exact W.iret (v := (0 : Int32)) hx hb hr (fun t ht hW => ⟨⟨_, (), rfl, j_p1 hJ, kW_end hP hK ht hW (congrArg (fun z => wL ga ho cB cI cL z) (j_p2 hJ))⟩, hS.F ht⟩) hS.2.2 d_Law_write_26
  · have hJ := j_f hJ hk
    have hP : va_P (dC, dI) cls (wL ga ho cB cI cL (x1.2.2, (σ).2)) H := (kW_P hB ht).app (keepO hPo hk1)
    by_cases h3 : x1.1 = 1
    · have hJ := j_t hJ h3
      rw [h3] at hc
      have hJ := Option.some.inj hJ
      refine x_catch (k := 1) (nm := "java/lang/IllegalStateException") hown [] ⟨0, 14, 17, 13⟩ [⟨0, 14, 21, 15⟩] htab (fun y hy => nomatch hy) ⟨rfl, by decide, htb _ tw175⟩ (htb _ tw187) hq hv hc ?_
      refine W.widen (k := 1) (n := 6) (xc_1 _) (xs_1 _) ?_
      refine lv_astore hx hb d_Law_write_17 hl (Nat.le_of_ble_eq_true rfl) rfl (fun ls hl => ?_)
      refine lv_iconst (v := (1 : Int32)) hx hb d_Law_write_19 (by decide) ?_
      exact W.iret (v := (1 : Int32)) hx hb hr (fun t ht hW => ⟨⟨_, (), rfl, j_p1 hJ, kW_end hP hK ht hW (congrArg (fun z => wL ga ho cB cI cL z) (j_p2 hJ))⟩, hS.F ht⟩) hS.2.2 d_Law_write_20
    · have hJ := j_f hJ h3
      by_cases h4 : x1.1 = 2
      · have hJ := j_t hJ h4
        rw [h4] at hc
        have hJ := Option.some.inj hJ
        refine x_catch (k := 2) (nm := "java/lang/UnsupportedOperationException") hown [(⟨0, 14, 17, 13⟩, "java/lang/IllegalStateException")] ⟨0, 14, 21, 15⟩ [] htab (fun y hy => by obtain rfl := List.mem_singleton.mp hy; exact ⟨⟨rfl, by decide, htb _ tw175⟩, hN.1⟩) ⟨rfl, by decide, htb _ tw176⟩ (htb _ tw350) hq hv hc ?_
        refine W.widen (k := 1) (n := 6) (xc_1 _) (xs_1 _) ?_
        refine lv_astore hx hb d_Law_write_21 hl (Nat.le_of_ble_eq_true rfl) rfl (fun ls hl => ?_)
        refine lv_iconst (v := (2 : Int32)) hx hb d_Law_write_23 (by decide) ?_
        exact W.iret (v := (2 : Int32)) hx hb hr (fun t ht hW => ⟨⟨_, (), rfl, j_p1 hJ, kW_end hP hK ht hW (congrArg (fun z => wL ga ho cB cI cL z) (j_p2 hJ))⟩, hS.F ht⟩) hS.2.2 d_Law_write_24
      · have hJ := j_f hJ h4
        exact j_none hJ
def J_Law_fill (σ : LW) (a1 : Int32) (a2 : Int32) (a3 : Int32) (a4 : Int32) : Option (Int32 × LW) :=
  (J_LogFs_fill (σ).1 a1 a2 a3 a4).bind fun x1 => (if x1.1 = 0 then (if jin (0 : Int32) 1 = true then some ((0 : Int32), (u_O (x1.2.2, (σ).2) (vp_updL (l_O (x1.2.2, (σ).2)) (0 : Int32).toNatClampNeg x1.2.1.toInt64))) else none) else (if x1.1 = 1 then some ((1 : Int32), (x1.2.2, (σ).2)) else (if x1.1 = 2 then some ((2 : Int32), (x1.2.2, (σ).2)) else none)))
abbrev rm_Law_fill : Room := { frames := 9, cells := 1, slots := 6, locals := 183 }
set_option maxHeartbeats 4000000 in
set_option maxRecDepth 100000 in
theorem c_Law_fill {l : Launch} (hl0 : l.stackTraces = false) {dC : Nat → ClassId} {dI : Nat → Nat → Nat} {ga : Nat → Nat} {ho : Nat} {cB cI cL : ClassId} {A : Nat → Prop} {sx : Nat → Nat} (hDa : ∀ σ, va_D A (wL ga ho cB cI cL σ)) {σ : LW} {a1 : Int32} {a2 : Int32} {a3 : Int32} {a4 : Int32} {res : Int32 × LW} (hJ : J_Law_fill σ a1 a2 a3 a4 = some res) :
    Met l y_Law_fill (mwW y_Law_fill b_Law_fill 7 (some .int) [(0, 14, 17, 13), (0, 14, 21, 15)]) rm_Law_fill (va_Pc [.ref (ga 0), .int a1, .int a2, .int a3, .int a4, .ref ho] (fun U => kW (dC, dI) (tL cB cI cL) (wL ga ho cB cI cL σ) U ∧ kX A sx U ∧ kN U)) (va_Qi (fun (x : Int32) (_ : Unit) => x = res.1) (fun _ t => kW (dC, dI) (tL cB cI cL) (wL ga ho cB cI cL res.2) t) A) 1 6 A := by
  refine va_MetW (cc := b_Law_fill) (maxL := 7) (ret := (some .int)) (hh := [(0, 14, 17, 13), (0, 14, 21, 15)]) (by decide) rfl ?_
  intro p e s m args below meth c s₁ B hml hv
  obtain ⟨rfl, ⟨hP, hK⟩, hX, hN⟩ := hv
  have hx := B.exec
  have hb := B.bytes
  have hr := B.returns
  have hts := atoms_spec (ws := (mwW y_Law_fill b_Law_fill 7 (some .int) [(0, 14, 17, 13), (0, 14, 21, 15)])) B.pre
  have htb : ∀ w ∈ tb, w.before [.ref (ga 0), .int a1, .int a2, .int a3, .int a4, .ref ho].toArray s = true := fun w h => hts w (List.mem_cons_of_mem _ h)
  have htab : c.exceptionTable.toList = [⟨0, 14, 17, 13⟩, ⟨0, 14, 21, 15⟩] := x_table B (hts _ List.mem_cons_self)
  have hN := kN_at (args := [.ref (ga 0), .int a1, .int a2, .int a3, .int a4, .ref ho].toArray) hN
  have hown : s.vm.findClass "LogFsLaw" = some m.cls := findClass_of_methodNamed B.named
  have hlocks := B.notSynchronized
  have hS : va_S A s.heap s.heap [] := va_S.rf
  have hKc := hK.sub (tys' := tC cB cI) [0, 1] rfl
  have hX1 := kX_A (ho := ho) hX (hP 9 _ rfl).lt
  have hl := lv_entry ([.ref (ga 0), .int a1, .int a2, .int a3, .int a4, .ref ho]) (n := 7) (Nat.le_of_ble_eq_true rfl)
  rw [lg_entry_eq]
  generalize (lg_sl ([.ref (ga 0), .int a1, .int a2, .int a3, .int a4, .ref ho]) ++ List.replicate (7 - (lg_sl ([.ref (ga 0), .int a1, .int a2, .int a3, .int a4, .ref ho])).length) Slot.unset).toArray = ls at hl ⊢
  have hl : lv_has ls 7 [(0, .ref (ga 0)), (1, .int a1), (2, .int a2), (3, .int a3), (4, .int a4), (5, .ref ho)] := hl
  unfold J_Law_fill at hJ
  refine lv_aload hx hb d_Law_fill_0 (lv_at hl 5 rfl) ?_
  refine lv_iconst (v := (0 : Int32)) hx hb d_Law_fill_2 (by decide) ?_
  refine lv_aload_n hx hb d_Law_fill_3 rfl (lv_at hl 0 rfl) ?_
  refine lv_iload_n hx hb d_Law_fill_4 rfl (lv_at hl 1 rfl) ?_
  refine lv_iload_n hx hb d_Law_fill_5 rfl (lv_at hl 2 rfl) ?_
  refine lv_iload_n hx hb d_Law_fill_6 rfl (lv_at hl 3 rfl) ?_
  refine lv_iload hx hb d_Law_fill_7 (lv_at hl 4 rfl) ?_
  obtain ⟨x1, e1, hJ⟩ := j_bind hJ
  have hPc := hP.sub (ws' := wC ga cB cI (σ).1) [0, 1, 2, 3, 4, 5, 6, 7, 8] rfl
  have hPo := hP.sub (ws' := [(ho, .inl (cL, 1, .inr (.inl (σ).2)))]) [9] rfl
  refine x_call2 (xb_runV (As := [.int a1, .int a2, .int a3, .int a4]) (rest := [.int (0 : Int32), .ref ho]) ⟨hx, hb, hml, hown, htb⟩ (c_LogFs_fill (l := l) hl0 (dC := dC) (dI := dI) (sx := sx) (A := xA A ho) (wL_D hDa) e1) (xcV 4 htb tw483 tw1 tw480 tw481 tw482 rfl rfl hd_LogFs_fill ⟨Nat.le_of_ble_eq_true rfl, Nat.le_of_ble_eq_true rfl⟩) (kX_V (locs := []) hPc hKc hX1 va_S.rf (va_recv (q0 := 0) (ci := 4) hKc hPc rfl rfl)) rfl rfl hl.1 rfl (lv_room (Nat.le_of_ble_eq_true rfl)) d_Law_fill_9 ⟨Nat.le_of_ble_eq_true rfl, Nat.le_of_ble_eq_true rfl⟩) hS (fun q h => h.1) (fun hk t H locs ht hW hB hz hk1 hS => ?_) (fun hk q ce t H locs ht hW hB hz hk1 hS hq hv hc => ?_)
  · have hJ := j_t hJ hk
    have hP : va_P (dC, dI) cls (wL ga ho cB cI cL (x1.2.2, (σ).2)) H := (kW_P hB ht).app (keepO hPo hk1)
    refine W.cs (cells' := 0) (slots' := 0) (xc_0 hk) (xs_0 hk) ?_
    refine W.eq (g2 := F0 m 12 ls [.int x1.2.1, .int (0 : Int32), .ref ho]) rfl ?_
    refine lv_i2l hx hb d_Law_fill_12 rfl ?_
    obtain ⟨h2, hJ⟩ := j_g hJ
    refine va_last hx hb hK hP (hDa _) hS 9 2 rfl rfl (j_in h2) d_Law_fill_13 (fun H locs hP _ hS => ?_)
    have hP : va_P (dC, dI) cls (wL ga ho cB cI cL (u_O (x1.2.2, (σ).2) (vp_updL (l_O (x1.2.2, (σ).2)) (0 : Int32).toNatClampNeg x1.2.1.toInt64))) H := hP
    refine lv_goto (tgt := 25) hx hb d_Law_fill_14 (by decide) ?_
    refine lv_iconst (v := (0 : Int32)) hx hb d_Law_fill_25 (by decide) ?_
    have hJ := Option.some.inj hJ
    refine W.widen (k := 1) (n := 6) (Nat.le_of_ble_eq_true rfl) (Nat.le_of_ble_eq_true rfl) ?_
    exact W.iret (v := (0 : Int32)) hx hb hr (fun t ht hW => ⟨⟨_, (), rfl, j_p1 hJ, kW_end hP hK ht hW (congrArg (fun z => wL ga ho cB cI cL z) (j_p2 hJ))⟩, hS.F ht⟩) hS.2.2 d_Law_fill_26
  · have hJ := j_f hJ hk
    have hP : va_P (dC, dI) cls (wL ga ho cB cI cL (x1.2.2, (σ).2)) H := (kW_P hB ht).app (keepO hPo hk1)
    by_cases h3 : x1.1 = 1
    · have hJ := j_t hJ h3
      rw [h3] at hc
      have hJ := Option.some.inj hJ
      refine x_catch (k := 1) (nm := "java/lang/IllegalStateException") hown [] ⟨0, 14, 17, 13⟩ [⟨0, 14, 21, 15⟩] htab (fun y hy => nomatch hy) ⟨rfl, by decide, htb _ tw175⟩ (htb _ tw187) hq hv hc ?_
      refine W.widen (k := 1) (n := 6) (xc_1 _) (xs_1 _) ?_
      refine lv_astore hx hb d_Law_fill_17 hl (Nat.le_of_ble_eq_true rfl) rfl (fun ls hl => ?_)
      refine lv_iconst (v := (1 : Int32)) hx hb d_Law_fill_19 (by decide) ?_
      exact W.iret (v := (1 : Int32)) hx hb hr (fun t ht hW => ⟨⟨_, (), rfl, j_p1 hJ, kW_end hP hK ht hW (congrArg (fun z => wL ga ho cB cI cL z) (j_p2 hJ))⟩, hS.F ht⟩) hS.2.2 d_Law_fill_20
    · have hJ := j_f hJ h3
      by_cases h4 : x1.1 = 2
      · have hJ := j_t hJ h4
        rw [h4] at hc
        have hJ := Option.some.inj hJ
        refine x_catch (k := 2) (nm := "java/lang/UnsupportedOperationException") hown [(⟨0, 14, 17, 13⟩, "java/lang/IllegalStateException")] ⟨0, 14, 21, 15⟩ [] htab (fun y hy => by obtain rfl := List.mem_singleton.mp hy; exact ⟨⟨rfl, by decide, htb _ tw175⟩, hN.1⟩) ⟨rfl, by decide, htb _ tw176⟩ (htb _ tw350) hq hv hc ?_
        refine W.widen (k := 1) (n := 6) (xc_1 _) (xs_1 _) ?_
        refine lv_astore hx hb d_Law_fill_21 hl (Nat.le_of_ble_eq_true rfl) rfl (fun ls hl => ?_)
        refine lv_iconst (v := (2 : Int32)) hx hb d_Law_fill_23 (by decide) ?_
        exact W.iret (v := (2 : Int32)) hx hb hr (fun t ht hW => ⟨⟨_, (), rfl, j_p1 hJ, kW_end hP hK ht hW (congrArg (fun z => wL ga ho cB cI cL z) (j_p2 hJ))⟩, hS.F ht⟩) hS.2.2 d_Law_fill_24
      · have hJ := j_f hJ h4
        exact j_none hJ
def J_Law_truncate (σ : LW) (a1 : Int32) : Option (Int32 × LW) :=
  (J_LogFs_truncate (σ).1 a1).bind fun x1 => (if x1.1 = 0 then (if x1.2.1 = (0 : Int32) then (if jin (0 : Int32) 1 = true then some ((0 : Int32), (u_O (x1.2.2, (σ).2) (vp_updL (l_O (x1.2.2, (σ).2)) (0 : Int32).toNatClampNeg (0 : Int64)))) else none) else (if jin (0 : Int32) 1 = true then some ((0 : Int32), (u_O (x1.2.2, (σ).2) (vp_updL (l_O (x1.2.2, (σ).2)) (0 : Int32).toNatClampNeg (1 : Int64)))) else none)) else (if x1.1 = 1 then some ((1 : Int32), (x1.2.2, (σ).2)) else (if x1.1 = 2 then some ((2 : Int32), (x1.2.2, (σ).2)) else none)))
abbrev rm_Law_truncate : Room := { frames := 9, cells := 1, slots := 6, locals := 176 }
set_option maxHeartbeats 4000000 in
set_option maxRecDepth 100000 in
theorem c_Law_truncate {l : Launch} (hl0 : l.stackTraces = false) {dC : Nat → ClassId} {dI : Nat → Nat → Nat} {ga : Nat → Nat} {ho : Nat} {cB cI cL : ClassId} {A : Nat → Prop} {sx : Nat → Nat} (hDa : ∀ σ, va_D A (wL ga ho cB cI cL σ)) {σ : LW} {a1 : Int32} {res : Int32 × LW} (hJ : J_Law_truncate σ a1 = some res) :
    Met l y_Law_truncate (mwW y_Law_truncate b_Law_truncate 4 (some .int) [(0, 16, 19, 13), (0, 16, 22, 15)]) rm_Law_truncate (va_Pc [.ref (ga 0), .int a1, .ref ho] (fun U => kW (dC, dI) (tL cB cI cL) (wL ga ho cB cI cL σ) U ∧ kX A sx U ∧ kN U)) (va_Qi (fun (x : Int32) (_ : Unit) => x = res.1) (fun _ t => kW (dC, dI) (tL cB cI cL) (wL ga ho cB cI cL res.2) t) A) 1 6 A := by
  refine va_MetW (cc := b_Law_truncate) (maxL := 4) (ret := (some .int)) (hh := [(0, 16, 19, 13), (0, 16, 22, 15)]) (by decide) rfl ?_
  intro p e s m args below meth c s₁ B hml hv
  obtain ⟨rfl, ⟨hP, hK⟩, hX, hN⟩ := hv
  have hx := B.exec
  have hb := B.bytes
  have hr := B.returns
  have hts := atoms_spec (ws := (mwW y_Law_truncate b_Law_truncate 4 (some .int) [(0, 16, 19, 13), (0, 16, 22, 15)])) B.pre
  have htb : ∀ w ∈ tb, w.before [.ref (ga 0), .int a1, .ref ho].toArray s = true := fun w h => hts w (List.mem_cons_of_mem _ h)
  have htab : c.exceptionTable.toList = [⟨0, 16, 19, 13⟩, ⟨0, 16, 22, 15⟩] := x_table B (hts _ List.mem_cons_self)
  have hN := kN_at (args := [.ref (ga 0), .int a1, .ref ho].toArray) hN
  have hown : s.vm.findClass "LogFsLaw" = some m.cls := findClass_of_methodNamed B.named
  have hlocks := B.notSynchronized
  have hS : va_S A s.heap s.heap [] := va_S.rf
  have hKc := hK.sub (tys' := tC cB cI) [0, 1] rfl
  have hX1 := kX_A (ho := ho) hX (hP 9 _ rfl).lt
  have hl := lv_entry ([.ref (ga 0), .int a1, .ref ho]) (n := 4) (Nat.le_of_ble_eq_true rfl)
  rw [lg_entry_eq]
  generalize (lg_sl ([.ref (ga 0), .int a1, .ref ho]) ++ List.replicate (4 - (lg_sl ([.ref (ga 0), .int a1, .ref ho])).length) Slot.unset).toArray = ls at hl ⊢
  have hl : lv_has ls 4 [(0, .ref (ga 0)), (1, .int a1), (2, .ref ho)] := hl
  unfold J_Law_truncate at hJ
  refine lv_aload_n hx hb d_Law_truncate_0 rfl (lv_at hl 2 rfl) ?_
  refine lv_iconst (v := (0 : Int32)) hx hb d_Law_truncate_1 (by decide) ?_
  refine lv_aload_n hx hb d_Law_truncate_2 rfl (lv_at hl 0 rfl) ?_
  refine lv_iload_n hx hb d_Law_truncate_3 rfl (lv_at hl 1 rfl) ?_
  obtain ⟨x1, e1, hJ⟩ := j_bind hJ
  have hPc := hP.sub (ws' := wC ga cB cI (σ).1) [0, 1, 2, 3, 4, 5, 6, 7, 8] rfl
  have hPo := hP.sub (ws' := [(ho, .inl (cL, 1, .inr (.inl (σ).2)))]) [9] rfl
  refine x_call2 (xb_runV (As := [.int a1]) (rest := [.int (0 : Int32), .ref ho]) ⟨hx, hb, hml, hown, htb⟩ (c_LogFs_truncate (l := l) hl0 (dC := dC) (dI := dI) (sx := sx) (A := xA A ho) (wL_D hDa) e1) (xcV 1 htb tw494 tw1 tw491 tw492 tw493 rfl rfl hd_LogFs_truncate ⟨Nat.le_of_ble_eq_true rfl, Nat.le_of_ble_eq_true rfl⟩) (kX_V (locs := []) hPc hKc hX1 va_S.rf (va_recv (q0 := 0) (ci := 4) hKc hPc rfl rfl)) rfl rfl hl.1 rfl (lv_room (Nat.le_of_ble_eq_true rfl)) d_Law_truncate_4 ⟨Nat.le_of_ble_eq_true rfl, Nat.le_of_ble_eq_true rfl⟩) hS (fun q h => h.1) (fun hk t H locs ht hW hB hz hk1 hS => ?_) (fun hk q ce t H locs ht hW hB hz hk1 hS hq hv hc => ?_)
  · have hJ := j_t hJ hk
    have hP : va_P (dC, dI) cls (wL ga ho cB cI cL (x1.2.2, (σ).2)) H := (kW_P hB ht).app (keepO hPo hk1)
    refine W.cs (cells' := 0) (slots' := 0) (xc_0 hk) (xs_0 hk) ?_
    refine W.eq (g2 := F0 m 7 ls [.int x1.2.1, .int (0 : Int32), .ref ho]) rfl ?_
    refine lv_if_eq (tgt := 14) hx hb d_Law_truncate_7 (by decide) (fun h2 => ?_) (fun h2 => ?_)
    · have hJ := j_t hJ h2
      refine lv_lconst (v := (0 : Int64)) hx hb d_Law_truncate_14 (by decide) ?_
      obtain ⟨h3, hJ⟩ := j_g hJ
      refine va_last hx hb hK hP (hDa _) hS 9 2 rfl rfl (j_in h3) d_Law_truncate_15 (fun H locs hP _ hS => ?_)
      have hP : va_P (dC, dI) cls (wL ga ho cB cI cL (u_O (x1.2.2, (σ).2) (vp_updL (l_O (x1.2.2, (σ).2)) (0 : Int32).toNatClampNeg (0 : Int64)))) H := hP
      refine lv_goto (tgt := 25) hx hb d_Law_truncate_16 (by decide) ?_
      refine lv_iconst (v := (0 : Int32)) hx hb d_Law_truncate_25 (by decide) ?_
      have hJ := Option.some.inj hJ
      refine W.widen (k := 1) (n := 6) (Nat.le_of_ble_eq_true rfl) (Nat.le_of_ble_eq_true rfl) ?_
      exact W.iret (v := (0 : Int32)) hx hb hr (fun t ht hW => ⟨⟨_, (), rfl, j_p1 hJ, kW_end hP hK ht hW (congrArg (fun z => wL ga ho cB cI cL z) (j_p2 hJ))⟩, hS.F ht⟩) hS.2.2 d_Law_truncate_26
    · have hJ := j_f hJ h2
      refine lv_lconst (v := (1 : Int64)) hx hb d_Law_truncate_10 (by decide) ?_
      refine lv_goto (tgt := 15) hx hb d_Law_truncate_11 (by decide) ?_
      obtain ⟨h4, hJ⟩ := j_g hJ
      refine va_last hx hb hK hP (hDa _) hS 9 2 rfl rfl (j_in h4) d_Law_truncate_15 (fun H locs hP _ hS => ?_)
      have hP : va_P (dC, dI) cls (wL ga ho cB cI cL (u_O (x1.2.2, (σ).2) (vp_updL (l_O (x1.2.2, (σ).2)) (0 : Int32).toNatClampNeg (1 : Int64)))) H := hP
      refine lv_goto (tgt := 25) hx hb d_Law_truncate_16 (by decide) ?_
      refine lv_iconst (v := (0 : Int32)) hx hb d_Law_truncate_25 (by decide) ?_
      have hJ := Option.some.inj hJ
      refine W.widen (k := 1) (n := 6) (Nat.le_of_ble_eq_true rfl) (Nat.le_of_ble_eq_true rfl) ?_
      exact W.iret (v := (0 : Int32)) hx hb hr (fun t ht hW => ⟨⟨_, (), rfl, j_p1 hJ, kW_end hP hK ht hW (congrArg (fun z => wL ga ho cB cI cL z) (j_p2 hJ))⟩, hS.F ht⟩) hS.2.2 d_Law_truncate_26
  · have hJ := j_f hJ hk
    have hP : va_P (dC, dI) cls (wL ga ho cB cI cL (x1.2.2, (σ).2)) H := (kW_P hB ht).app (keepO hPo hk1)
    by_cases h5 : x1.1 = 1
    · have hJ := j_t hJ h5
      rw [h5] at hc
      have hJ := Option.some.inj hJ
      refine x_catch (k := 1) (nm := "java/lang/IllegalStateException") hown [] ⟨0, 16, 19, 13⟩ [⟨0, 16, 22, 15⟩] htab (fun y hy => nomatch hy) ⟨rfl, by decide, htb _ tw175⟩ (htb _ tw187) hq hv hc ?_
      refine W.widen (k := 1) (n := 6) (xc_1 _) (xs_1 _) ?_
      refine lv_astore_n hx hb d_Law_truncate_19 rfl hl (Nat.le_of_ble_eq_true rfl) rfl (fun ls hl => ?_)
      refine lv_iconst (v := (1 : Int32)) hx hb d_Law_truncate_20 (by decide) ?_
      exact W.iret (v := (1 : Int32)) hx hb hr (fun t ht hW => ⟨⟨_, (), rfl, j_p1 hJ, kW_end hP hK ht hW (congrArg (fun z => wL ga ho cB cI cL z) (j_p2 hJ))⟩, hS.F ht⟩) hS.2.2 d_Law_truncate_21
    · have hJ := j_f hJ h5
      by_cases h6 : x1.1 = 2
      · have hJ := j_t hJ h6
        rw [h6] at hc
        have hJ := Option.some.inj hJ
        refine x_catch (k := 2) (nm := "java/lang/UnsupportedOperationException") hown [(⟨0, 16, 19, 13⟩, "java/lang/IllegalStateException")] ⟨0, 16, 22, 15⟩ [] htab (fun y hy => by obtain rfl := List.mem_singleton.mp hy; exact ⟨⟨rfl, by decide, htb _ tw175⟩, hN.1⟩) ⟨rfl, by decide, htb _ tw176⟩ (htb _ tw350) hq hv hc ?_
        refine W.widen (k := 1) (n := 6) (xc_1 _) (xs_1 _) ?_
        refine lv_astore_n hx hb d_Law_truncate_22 rfl hl (Nat.le_of_ble_eq_true rfl) rfl (fun ls hl => ?_)
        refine lv_iconst (v := (2 : Int32)) hx hb d_Law_truncate_23 (by decide) ?_
        exact W.iret (v := (2 : Int32)) hx hb hr (fun t ht hW => ⟨⟨_, (), rfl, j_p1 hJ, kW_end hP hK ht hW (congrArg (fun z => wL ga ho cB cI cL z) (j_p2 hJ))⟩, hS.F ht⟩) hS.2.2 d_Law_truncate_24
      · have hJ := j_f hJ h6
        exact j_none hJ
def J_Law_sync (σ : LW)  : Option (Int32 × LW) :=
  (J_LogFs_sync (σ).1).bind fun x1 => (if x1.1 = 0 then (if jin (0 : Int32) 1 = true then some ((0 : Int32), (u_O (x1.2.2, (σ).2) (vp_updL (l_O (x1.2.2, (σ).2)) (0 : Int32).toNatClampNeg x1.2.1.toInt64))) else none) else (if x1.1 = 1 then some ((1 : Int32), (x1.2.2, (σ).2)) else (if x1.1 = 2 then some ((2 : Int32), (x1.2.2, (σ).2)) else none)))
abbrev rm_Law_sync : Room := { frames := 8, cells := 1, slots := 6, locals := 156 }
set_option maxHeartbeats 4000000 in
set_option maxRecDepth 100000 in
theorem c_Law_sync {l : Launch} (hl0 : l.stackTraces = false) {dC : Nat → ClassId} {dI : Nat → Nat → Nat} {ga : Nat → Nat} {ho : Nat} {cB cI cL : ClassId} {A : Nat → Prop} {sx : Nat → Nat} (hDa : ∀ σ, va_D A (wL ga ho cB cI cL σ)) {σ : LW} {res : Int32 × LW} (hJ : J_Law_sync σ  = some res) :
    Met l y_Law_sync (mwW y_Law_sync b_Law_sync 3 (some .int) [(0, 8, 11, 13), (0, 8, 14, 15)]) rm_Law_sync (va_Pc [.ref (ga 0), .ref ho] (fun U => kW (dC, dI) (tL cB cI cL) (wL ga ho cB cI cL σ) U ∧ kX A sx U ∧ kN U)) (va_Qi (fun (x : Int32) (_ : Unit) => x = res.1) (fun _ t => kW (dC, dI) (tL cB cI cL) (wL ga ho cB cI cL res.2) t) A) 1 6 A := by
  refine va_MetW (cc := b_Law_sync) (maxL := 3) (ret := (some .int)) (hh := [(0, 8, 11, 13), (0, 8, 14, 15)]) (by decide) rfl ?_
  intro p e s m args below meth c s₁ B hml hv
  obtain ⟨rfl, ⟨hP, hK⟩, hX, hN⟩ := hv
  have hx := B.exec
  have hb := B.bytes
  have hr := B.returns
  have hts := atoms_spec (ws := (mwW y_Law_sync b_Law_sync 3 (some .int) [(0, 8, 11, 13), (0, 8, 14, 15)])) B.pre
  have htb : ∀ w ∈ tb, w.before [.ref (ga 0), .ref ho].toArray s = true := fun w h => hts w (List.mem_cons_of_mem _ h)
  have htab : c.exceptionTable.toList = [⟨0, 8, 11, 13⟩, ⟨0, 8, 14, 15⟩] := x_table B (hts _ List.mem_cons_self)
  have hN := kN_at (args := [.ref (ga 0), .ref ho].toArray) hN
  have hown : s.vm.findClass "LogFsLaw" = some m.cls := findClass_of_methodNamed B.named
  have hlocks := B.notSynchronized
  have hS : va_S A s.heap s.heap [] := va_S.rf
  have hKc := hK.sub (tys' := tC cB cI) [0, 1] rfl
  have hX1 := kX_A (ho := ho) hX (hP 9 _ rfl).lt
  have hl := lv_entry ([.ref (ga 0), .ref ho]) (n := 3) (Nat.le_of_ble_eq_true rfl)
  rw [lg_entry_eq]
  generalize (lg_sl ([.ref (ga 0), .ref ho]) ++ List.replicate (3 - (lg_sl ([.ref (ga 0), .ref ho])).length) Slot.unset).toArray = ls at hl ⊢
  have hl : lv_has ls 3 [(0, .ref (ga 0)), (1, .ref ho)] := hl
  unfold J_Law_sync at hJ
  refine lv_aload_n hx hb d_Law_sync_0 rfl (lv_at hl 1 rfl) ?_
  refine lv_iconst (v := (0 : Int32)) hx hb d_Law_sync_1 (by decide) ?_
  refine lv_aload_n hx hb d_Law_sync_2 rfl (lv_at hl 0 rfl) ?_
  obtain ⟨x1, e1, hJ⟩ := j_bind hJ
  have hPc := hP.sub (ws' := wC ga cB cI (σ).1) [0, 1, 2, 3, 4, 5, 6, 7, 8] rfl
  have hPo := hP.sub (ws' := [(ho, .inl (cL, 1, .inr (.inl (σ).2)))]) [9] rfl
  refine x_call2 (xb_runV (As := []) (rest := [.int (0 : Int32), .ref ho]) ⟨hx, hb, hml, hown, htb⟩ (c_LogFs_sync (l := l) hl0 (dC := dC) (dI := dI) (sx := sx) (A := xA A ho) (wL_D hDa) e1) (xcV 0 htb tw502 tw1 tw499 tw500 tw501 rfl rfl hd_LogFs_sync ⟨Nat.le_of_ble_eq_true rfl, Nat.le_of_ble_eq_true rfl⟩) (kX_V (locs := []) hPc hKc hX1 va_S.rf (va_recv (q0 := 0) (ci := 4) hKc hPc rfl rfl)) rfl rfl hl.1 rfl (lv_room (Nat.le_of_ble_eq_true rfl)) d_Law_sync_3 ⟨Nat.le_of_ble_eq_true rfl, Nat.le_of_ble_eq_true rfl⟩) hS (fun q h => h.1) (fun hk t H locs ht hW hB hz hk1 hS => ?_) (fun hk q ce t H locs ht hW hB hz hk1 hS hq hv hc => ?_)
  · have hJ := j_t hJ hk
    have hP : va_P (dC, dI) cls (wL ga ho cB cI cL (x1.2.2, (σ).2)) H := (kW_P hB ht).app (keepO hPo hk1)
    refine W.cs (cells' := 0) (slots' := 0) (xc_0 hk) (xs_0 hk) ?_
    refine W.eq (g2 := F0 m 6 ls [.int x1.2.1, .int (0 : Int32), .ref ho]) rfl ?_
    refine lv_i2l hx hb d_Law_sync_6 rfl ?_
    obtain ⟨h2, hJ⟩ := j_g hJ
    refine va_last hx hb hK hP (hDa _) hS 9 2 rfl rfl (j_in h2) d_Law_sync_7 (fun H locs hP _ hS => ?_)
    have hP : va_P (dC, dI) cls (wL ga ho cB cI cL (u_O (x1.2.2, (σ).2) (vp_updL (l_O (x1.2.2, (σ).2)) (0 : Int32).toNatClampNeg x1.2.1.toInt64))) H := hP
    refine lv_goto (tgt := 17) hx hb d_Law_sync_8 (by decide) ?_
    refine lv_iconst (v := (0 : Int32)) hx hb d_Law_sync_17 (by decide) ?_
    have hJ := Option.some.inj hJ
    refine W.widen (k := 1) (n := 6) (Nat.le_of_ble_eq_true rfl) (Nat.le_of_ble_eq_true rfl) ?_
    exact W.iret (v := (0 : Int32)) hx hb hr (fun t ht hW => ⟨⟨_, (), rfl, j_p1 hJ, kW_end hP hK ht hW (congrArg (fun z => wL ga ho cB cI cL z) (j_p2 hJ))⟩, hS.F ht⟩) hS.2.2 d_Law_sync_18
  · have hJ := j_f hJ hk
    have hP : va_P (dC, dI) cls (wL ga ho cB cI cL (x1.2.2, (σ).2)) H := (kW_P hB ht).app (keepO hPo hk1)
    by_cases h3 : x1.1 = 1
    · have hJ := j_t hJ h3
      rw [h3] at hc
      have hJ := Option.some.inj hJ
      refine x_catch (k := 1) (nm := "java/lang/IllegalStateException") hown [] ⟨0, 8, 11, 13⟩ [⟨0, 8, 14, 15⟩] htab (fun y hy => nomatch hy) ⟨rfl, by decide, htb _ tw175⟩ (htb _ tw187) hq hv hc ?_
      refine W.widen (k := 1) (n := 6) (xc_1 _) (xs_1 _) ?_
      refine lv_astore_n hx hb d_Law_sync_11 rfl hl (Nat.le_of_ble_eq_true rfl) rfl (fun ls hl => ?_)
      refine lv_iconst (v := (1 : Int32)) hx hb d_Law_sync_12 (by decide) ?_
      exact W.iret (v := (1 : Int32)) hx hb hr (fun t ht hW => ⟨⟨_, (), rfl, j_p1 hJ, kW_end hP hK ht hW (congrArg (fun z => wL ga ho cB cI cL z) (j_p2 hJ))⟩, hS.F ht⟩) hS.2.2 d_Law_sync_13
    · have hJ := j_f hJ h3
      by_cases h4 : x1.1 = 2
      · have hJ := j_t hJ h4
        rw [h4] at hc
        have hJ := Option.some.inj hJ
        refine x_catch (k := 2) (nm := "java/lang/UnsupportedOperationException") hown [(⟨0, 8, 11, 13⟩, "java/lang/IllegalStateException")] ⟨0, 8, 14, 15⟩ [] htab (fun y hy => by obtain rfl := List.mem_singleton.mp hy; exact ⟨⟨rfl, by decide, htb _ tw175⟩, hN.1⟩) ⟨rfl, by decide, htb _ tw176⟩ (htb _ tw350) hq hv hc ?_
        refine W.widen (k := 1) (n := 6) (xc_1 _) (xs_1 _) ?_
        refine lv_astore_n hx hb d_Law_sync_14 rfl hl (Nat.le_of_ble_eq_true rfl) rfl (fun ls hl => ?_)
        refine lv_iconst (v := (2 : Int32)) hx hb d_Law_sync_15 (by decide) ?_
        exact W.iret (v := (2 : Int32)) hx hb hr (fun t ht hW => ⟨⟨_, (), rfl, j_p1 hJ, kW_end hP hK ht hW (congrArg (fun z => wL ga ho cB cI cL z) (j_p2 hJ))⟩, hS.F ht⟩) hS.2.2 d_Law_sync_16
      · have hJ := j_f hJ h4
        exact j_none hJ
def J_Law_mount (σ : LW)  : Option (Int32 × LW) :=
  (J_LogFs_mount (σ).1).bind fun x1 => (if x1.1 = 0 then (if jin (0 : Int32) 1 = true then some ((0 : Int32), (u_O (x1.2.2, (σ).2) (vp_updL (l_O (x1.2.2, (σ).2)) (0 : Int32).toNatClampNeg x1.2.1.toInt64))) else none) else (if x1.1 = 2 then some ((1 : Int32), (x1.2.2, (σ).2)) else none))
abbrev rm_Law_mount : Room := { frames := 7, cells := 1, slots := 6, locals := 115 }
set_option maxHeartbeats 4000000 in
set_option maxRecDepth 100000 in
theorem c_Law_mount {l : Launch} (hl0 : l.stackTraces = false) {dC : Nat → ClassId} {dI : Nat → Nat → Nat} {ga : Nat → Nat} {ho : Nat} {cB cI cL : ClassId} {A : Nat → Prop} {sx : Nat → Nat} (hDa : ∀ σ, va_D A (wL ga ho cB cI cL σ)) {σ : LW} {res : Int32 × LW} (hJ : J_Law_mount σ  = some res) :
    Met l y_Law_mount (mwW y_Law_mount b_Law_mount 3 (some .int) [(0, 8, 11, 15)]) rm_Law_mount (va_Pc [.ref (ga 0), .ref ho] (fun U => kW (dC, dI) (tL cB cI cL) (wL ga ho cB cI cL σ) U ∧ kX A sx U ∧ kN U)) (va_Qi (fun (x : Int32) (_ : Unit) => x = res.1) (fun _ t => kW (dC, dI) (tL cB cI cL) (wL ga ho cB cI cL res.2) t) A) 1 6 A := by
  refine va_MetW (cc := b_Law_mount) (maxL := 3) (ret := (some .int)) (hh := [(0, 8, 11, 15)]) (by decide) rfl ?_
  intro p e s m args below meth c s₁ B hml hv
  obtain ⟨rfl, ⟨hP, hK⟩, hX, hN⟩ := hv
  have hx := B.exec
  have hb := B.bytes
  have hr := B.returns
  have hts := atoms_spec (ws := (mwW y_Law_mount b_Law_mount 3 (some .int) [(0, 8, 11, 15)])) B.pre
  have htb : ∀ w ∈ tb, w.before [.ref (ga 0), .ref ho].toArray s = true := fun w h => hts w (List.mem_cons_of_mem _ h)
  have htab : c.exceptionTable.toList = [⟨0, 8, 11, 15⟩] := x_table B (hts _ List.mem_cons_self)
  have hN := kN_at (args := [.ref (ga 0), .ref ho].toArray) hN
  have hown : s.vm.findClass "LogFsLaw" = some m.cls := findClass_of_methodNamed B.named
  have hlocks := B.notSynchronized
  have hS : va_S A s.heap s.heap [] := va_S.rf
  have hKc := hK.sub (tys' := tC cB cI) [0, 1] rfl
  have hX1 := kX_A (ho := ho) hX (hP 9 _ rfl).lt
  have hl := lv_entry ([.ref (ga 0), .ref ho]) (n := 3) (Nat.le_of_ble_eq_true rfl)
  rw [lg_entry_eq]
  generalize (lg_sl ([.ref (ga 0), .ref ho]) ++ List.replicate (3 - (lg_sl ([.ref (ga 0), .ref ho])).length) Slot.unset).toArray = ls at hl ⊢
  have hl : lv_has ls 3 [(0, .ref (ga 0)), (1, .ref ho)] := hl
  unfold J_Law_mount at hJ
  refine lv_aload_n hx hb d_Law_mount_0 rfl (lv_at hl 1 rfl) ?_
  refine lv_iconst (v := (0 : Int32)) hx hb d_Law_mount_1 (by decide) ?_
  refine lv_aload_n hx hb d_Law_mount_2 rfl (lv_at hl 0 rfl) ?_
  obtain ⟨x1, e1, hJ⟩ := j_bind hJ
  have hPc := hP.sub (ws' := wC ga cB cI (σ).1) [0, 1, 2, 3, 4, 5, 6, 7, 8] rfl
  have hPo := hP.sub (ws' := [(ho, .inl (cL, 1, .inr (.inl (σ).2)))]) [9] rfl
  refine x_call2 (xb_runV (As := []) (rest := [.int (0 : Int32), .ref ho]) ⟨hx, hb, hml, hown, htb⟩ (c_LogFs_mount (l := l) hl0 (dC := dC) (dI := dI) (sx := sx) (A := xA A ho) (wL_D hDa) e1) (xcV 0 htb tw509 tw1 tw506 tw507 tw508 rfl rfl hd_LogFs_mount ⟨Nat.le_of_ble_eq_true rfl, Nat.le_of_ble_eq_true rfl⟩) (kX_V (locs := []) hPc hKc hX1 va_S.rf (va_recv (q0 := 0) (ci := 4) hKc hPc rfl rfl)) rfl rfl hl.1 rfl (lv_room (Nat.le_of_ble_eq_true rfl)) d_Law_mount_3 ⟨Nat.le_of_ble_eq_true rfl, Nat.le_of_ble_eq_true rfl⟩) hS (fun q h => h.1) (fun hk t H locs ht hW hB hz hk1 hS => ?_) (fun hk q ce t H locs ht hW hB hz hk1 hS hq hv hc => ?_)
  · have hJ := j_t hJ hk
    have hP : va_P (dC, dI) cls (wL ga ho cB cI cL (x1.2.2, (σ).2)) H := (kW_P hB ht).app (keepO hPo hk1)
    refine W.cs (cells' := 0) (slots' := 0) (xc_0 hk) (xs_0 hk) ?_
    refine W.eq (g2 := F0 m 6 ls [.int x1.2.1, .int (0 : Int32), .ref ho]) rfl ?_
    refine lv_i2l hx hb d_Law_mount_6 rfl ?_
    obtain ⟨h2, hJ⟩ := j_g hJ
    refine va_last hx hb hK hP (hDa _) hS 9 2 rfl rfl (j_in h2) d_Law_mount_7 (fun H locs hP _ hS => ?_)
    have hP : va_P (dC, dI) cls (wL ga ho cB cI cL (u_O (x1.2.2, (σ).2) (vp_updL (l_O (x1.2.2, (σ).2)) (0 : Int32).toNatClampNeg x1.2.1.toInt64))) H := hP
    refine lv_goto (tgt := 14) hx hb d_Law_mount_8 (by decide) ?_
    refine lv_iconst (v := (0 : Int32)) hx hb d_Law_mount_14 (by decide) ?_
    have hJ := Option.some.inj hJ
    refine W.widen (k := 1) (n := 6) (Nat.le_of_ble_eq_true rfl) (Nat.le_of_ble_eq_true rfl) ?_
    exact W.iret (v := (0 : Int32)) hx hb hr (fun t ht hW => ⟨⟨_, (), rfl, j_p1 hJ, kW_end hP hK ht hW (congrArg (fun z => wL ga ho cB cI cL z) (j_p2 hJ))⟩, hS.F ht⟩) hS.2.2 d_Law_mount_15
  · have hJ := j_f hJ hk
    have hP : va_P (dC, dI) cls (wL ga ho cB cI cL (x1.2.2, (σ).2)) H := (kW_P hB ht).app (keepO hPo hk1)
    by_cases h3 : x1.1 = 2
    · have hJ := j_t hJ h3
      rw [h3] at hc
      have hJ := Option.some.inj hJ
      refine x_catch (k := 2) (nm := "java/lang/UnsupportedOperationException") hown [] ⟨0, 8, 11, 15⟩ [] htab (fun y hy => nomatch hy) ⟨rfl, by decide, htb _ tw176⟩ (htb _ tw350) hq hv hc ?_
      refine W.widen (k := 1) (n := 6) (xc_1 _) (xs_1 _) ?_
      refine lv_astore_n hx hb d_Law_mount_11 rfl hl (Nat.le_of_ble_eq_true rfl) rfl (fun ls hl => ?_)
      refine lv_iconst (v := (1 : Int32)) hx hb d_Law_mount_12 (by decide) ?_
      exact W.iret (v := (1 : Int32)) hx hb hr (fun t ht hW => ⟨⟨_, (), rfl, j_p1 hJ, kW_end hP hK ht hW (congrArg (fun z => wL ga ho cB cI cL z) (j_p2 hJ))⟩, hS.F ht⟩) hS.2.2 d_Law_mount_13
    · have hJ := j_f hJ h3
      exact j_none hJ
def J_Law_find (σ : LW) (a1 : Int32) (a2 : Int64) : Option (Int32 × LW) :=
  (J_LogFs_find (σ).1 a1 a2).bind fun x1 => (if x1.1 = 0 then (if jin (0 : Int32) 1 = true then some ((0 : Int32), (u_O σ (vp_updL (l_O σ) (0 : Int32).toNatClampNeg x1.2.toInt64))) else none) else (if x1.1 = 1 then some ((1 : Int32), σ) else none))
abbrev rm_Law_find : Room := { frames := 8, cells := 1, slots := 6, locals := 142 }
set_option maxHeartbeats 4000000 in
set_option maxRecDepth 100000 in
theorem c_Law_find {l : Launch} (hl0 : l.stackTraces = false) {dC : Nat → ClassId} {dI : Nat → Nat → Nat} {ga : Nat → Nat} {ho : Nat} {cB cI cL : ClassId} {A : Nat → Prop} {sx : Nat → Nat} (hDa : ∀ σ, va_D A (wL ga ho cB cI cL σ)) {σ : LW} {a1 : Int32} {a2 : Int64} {res : Int32 × LW} (hJ : J_Law_find σ a1 a2 = some res) :
    Met l y_Law_find (mwW y_Law_find b_Law_find 6 (some .int) [(0, 11, 14, 13)]) rm_Law_find (va_Pc [.ref (ga 0), .int a1, .long a2, .ref ho] (fun U => kW (dC, dI) (tL cB cI cL) (wL ga ho cB cI cL σ) U ∧ kX A sx U ∧ kN U)) (va_Qi (fun (x : Int32) (_ : Unit) => x = res.1) (fun _ t => kW (dC, dI) (tL cB cI cL) (wL ga ho cB cI cL res.2) t) A) 1 6 A := by
  refine va_MetW (cc := b_Law_find) (maxL := 6) (ret := (some .int)) (hh := [(0, 11, 14, 13)]) (by decide) rfl ?_
  intro p e s m args below meth c s₁ B hml hv
  obtain ⟨rfl, ⟨hP, hK⟩, hX, hN⟩ := hv
  have hx := B.exec
  have hb := B.bytes
  have hr := B.returns
  have hts := atoms_spec (ws := (mwW y_Law_find b_Law_find 6 (some .int) [(0, 11, 14, 13)])) B.pre
  have htb : ∀ w ∈ tb, w.before [.ref (ga 0), .int a1, .long a2, .ref ho].toArray s = true := fun w h => hts w (List.mem_cons_of_mem _ h)
  have htab : c.exceptionTable.toList = [⟨0, 11, 14, 13⟩] := x_table B (hts _ List.mem_cons_self)
  have hN := kN_at (args := [.ref (ga 0), .int a1, .long a2, .ref ho].toArray) hN
  have hown : s.vm.findClass "LogFsLaw" = some m.cls := findClass_of_methodNamed B.named
  have hlocks := B.notSynchronized
  have hS : va_S A s.heap s.heap [] := va_S.rf
  have hKc := hK.sub (tys' := tC cB cI) [0, 1] rfl
  have hX1 := kX_A (ho := ho) hX (hP 9 _ rfl).lt
  have hl := lv_entry ([.ref (ga 0), .int a1, .long a2, .ref ho]) (n := 6) (Nat.le_of_ble_eq_true rfl)
  rw [lg_entry_eq]
  generalize (lg_sl ([.ref (ga 0), .int a1, .long a2, .ref ho]) ++ List.replicate (6 - (lg_sl ([.ref (ga 0), .int a1, .long a2, .ref ho])).length) Slot.unset).toArray = ls at hl ⊢
  have hl : lv_has ls 6 [(0, .ref (ga 0)), (1, .int a1), (2, .long a2), (4, .ref ho)] := hl
  unfold J_Law_find at hJ
  refine lv_aload hx hb d_Law_find_0 (lv_at hl 3 rfl) ?_
  refine lv_iconst (v := (0 : Int32)) hx hb d_Law_find_2 (by decide) ?_
  refine lv_aload_n hx hb d_Law_find_3 rfl (lv_at hl 0 rfl) ?_
  refine lv_iload_n hx hb d_Law_find_4 rfl (lv_at hl 1 rfl) ?_
  refine lv_lload_n hx hb d_Law_find_5 rfl (lv_at hl 2 rfl) ?_
  obtain ⟨x1, e1, hJ⟩ := j_bind hJ
  have hPc := hP.sub (ws' := wC ga cB cI (σ).1) [0, 1, 2, 3, 4, 5, 6, 7, 8] rfl
  have hPo := hP.sub (ws' := [(ho, .inl (cL, 1, .inr (.inl (σ).2)))]) [9] rfl
  refine x_call2 (xb_runV (As := [.int a1, .long a2]) (rest := [.int (0 : Int32), .ref ho]) ⟨hx, hb, hml, hown, htb⟩ (c_LogFs_find (l := l) hl0 (dC := dC) (dI := dI) (sx := sx) (A := xA A ho) (wL_D hDa) e1) (xcV 2 htb tw521 tw1 tw518 tw519 tw520 rfl rfl hd_LogFs_find ⟨Nat.le_of_ble_eq_true rfl, Nat.le_of_ble_eq_true rfl⟩) (kX_V (locs := []) hPc hKc hX1 va_S.rf (va_recv (q0 := 0) (ci := 4) hKc hPc rfl rfl)) rfl rfl hl.1 rfl (lv_room (Nat.le_of_ble_eq_true rfl)) d_Law_find_6 ⟨Nat.le_of_ble_eq_true rfl, Nat.le_of_ble_eq_true rfl⟩) hS (fun q h => h.1) (fun hk t H locs ht hW hB hz hk1 hS => ?_) (fun hk q ce t H locs ht hW hB hz hk1 hS hq hv hc => ?_)
  · have hJ := j_t hJ hk
    have hP : va_P (dC, dI) cls (wL ga ho cB cI cL σ) H := (kW_P hB ht).app (keepO hPo hk1)
    refine W.cs (cells' := 0) (slots' := 0) (xc_0 hk) (xs_0 hk) ?_
    refine W.eq (g2 := F0 m 9 ls [.int x1.2, .int (0 : Int32), .ref ho]) rfl ?_
    refine lv_i2l hx hb d_Law_find_9 rfl ?_
    obtain ⟨h2, hJ⟩ := j_g hJ
    refine va_last hx hb hK hP (hDa _) hS 9 2 rfl rfl (j_in h2) d_Law_find_10 (fun H locs hP _ hS => ?_)
    have hP : va_P (dC, dI) cls (wL ga ho cB cI cL (u_O σ (vp_updL (l_O σ) (0 : Int32).toNatClampNeg x1.2.toInt64))) H := hP
    refine lv_goto (tgt := 18) hx hb d_Law_find_11 (by decide) ?_
    refine lv_iconst (v := (0 : Int32)) hx hb d_Law_find_18 (by decide) ?_
    have hJ := Option.some.inj hJ
    refine W.widen (k := 1) (n := 6) (Nat.le_of_ble_eq_true rfl) (Nat.le_of_ble_eq_true rfl) ?_
    exact W.iret (v := (0 : Int32)) hx hb hr (fun t ht hW => ⟨⟨_, (), rfl, j_p1 hJ, kW_end hP hK ht hW (congrArg (fun z => wL ga ho cB cI cL z) (j_p2 hJ))⟩, hS.F ht⟩) hS.2.2 d_Law_find_19
  · have hJ := j_f hJ hk
    have hP : va_P (dC, dI) cls (wL ga ho cB cI cL σ) H := (kW_P hB ht).app (keepO hPo hk1)
    by_cases h3 : x1.1 = 1
    · have hJ := j_t hJ h3
      rw [h3] at hc
      have hJ := Option.some.inj hJ
      refine x_catch (k := 1) (nm := "java/lang/IllegalStateException") hown [] ⟨0, 11, 14, 13⟩ [] htab (fun y hy => nomatch hy) ⟨rfl, by decide, htb _ tw175⟩ (htb _ tw187) hq hv hc ?_
      refine W.widen (k := 1) (n := 6) (xc_1 _) (xs_1 _) ?_
      refine lv_astore hx hb d_Law_find_14 hl (Nat.le_of_ble_eq_true rfl) rfl (fun ls hl => ?_)
      refine lv_iconst (v := (1 : Int32)) hx hb d_Law_find_16 (by decide) ?_
      exact W.iret (v := (1 : Int32)) hx hb hr (fun t ht hW => ⟨⟨_, (), rfl, j_p1 hJ, kW_end hP hK ht hW (congrArg (fun z => wL ga ho cB cI cL z) (j_p2 hJ))⟩, hS.F ht⟩) hS.2.2 d_Law_find_17
    · have hJ := j_f hJ h3
      exact j_none hJ
def J_Law_read (σ : LW) (a1 : Int32) (a2 : Int32) : Option (Int32 × LW) :=
  (J_LogFs_read (σ).1 a1 a2).bind fun x1 => (if x1.1 = 0 then (if jin (0 : Int32) 1 = true then some ((0 : Int32), (u_O σ (vp_updL (l_O σ) (0 : Int32).toNatClampNeg x1.2.toInt64))) else none) else (if x1.1 = 1 then some ((1 : Int32), σ) else (if x1.1 = 3 then some ((2 : Int32), σ) else none)))
abbrev rm_Law_read : Room := { frames := 8, cells := 1, slots := 6, locals := 132 }
set_option maxHeartbeats 4000000 in
set_option maxRecDepth 100000 in
theorem c_Law_read {l : Launch} (hl0 : l.stackTraces = false) {dC : Nat → ClassId} {dI : Nat → Nat → Nat} {ga : Nat → Nat} {ho : Nat} {cB cI cL : ClassId} {A : Nat → Prop} {sx : Nat → Nat} (hDa : ∀ σ, va_D A (wL ga ho cB cI cL σ)) {σ : LW} {a1 : Int32} {a2 : Int32} {res : Int32 × LW} (hJ : J_Law_read σ a1 a2 = some res) :
    Met l y_Law_read (mwW y_Law_read b_Law_read 5 (some .int) [(0, 10, 13, 13), (0, 10, 17, 52)]) rm_Law_read (va_Pc [.ref (ga 0), .int a1, .int a2, .ref ho] (fun U => kW (dC, dI) (tL cB cI cL) (wL ga ho cB cI cL σ) U ∧ kX A sx U ∧ kN U)) (va_Qi (fun (x : Int32) (_ : Unit) => x = res.1) (fun _ t => kW (dC, dI) (tL cB cI cL) (wL ga ho cB cI cL res.2) t) A) 1 6 A := by
  refine va_MetW (cc := b_Law_read) (maxL := 5) (ret := (some .int)) (hh := [(0, 10, 13, 13), (0, 10, 17, 52)]) (by decide) rfl ?_
  intro p e s m args below meth c s₁ B hml hv
  obtain ⟨rfl, ⟨hP, hK⟩, hX, hN⟩ := hv
  have hx := B.exec
  have hb := B.bytes
  have hr := B.returns
  have hts := atoms_spec (ws := (mwW y_Law_read b_Law_read 5 (some .int) [(0, 10, 13, 13), (0, 10, 17, 52)])) B.pre
  have htb : ∀ w ∈ tb, w.before [.ref (ga 0), .int a1, .int a2, .ref ho].toArray s = true := fun w h => hts w (List.mem_cons_of_mem _ h)
  have htab : c.exceptionTable.toList = [⟨0, 10, 13, 13⟩, ⟨0, 10, 17, 52⟩] := x_table B (hts _ List.mem_cons_self)
  have hN := kN_at (args := [.ref (ga 0), .int a1, .int a2, .ref ho].toArray) hN
  have hown : s.vm.findClass "LogFsLaw" = some m.cls := findClass_of_methodNamed B.named
  have hlocks := B.notSynchronized
  have hS : va_S A s.heap s.heap [] := va_S.rf
  have hKc := hK.sub (tys' := tC cB cI) [0, 1] rfl
  have hX1 := kX_A (ho := ho) hX (hP 9 _ rfl).lt
  have hl := lv_entry ([.ref (ga 0), .int a1, .int a2, .ref ho]) (n := 5) (Nat.le_of_ble_eq_true rfl)
  rw [lg_entry_eq]
  generalize (lg_sl ([.ref (ga 0), .int a1, .int a2, .ref ho]) ++ List.replicate (5 - (lg_sl ([.ref (ga 0), .int a1, .int a2, .ref ho])).length) Slot.unset).toArray = ls at hl ⊢
  have hl : lv_has ls 5 [(0, .ref (ga 0)), (1, .int a1), (2, .int a2), (3, .ref ho)] := hl
  unfold J_Law_read at hJ
  refine lv_aload_n hx hb d_Law_read_0 rfl (lv_at hl 3 rfl) ?_
  refine lv_iconst (v := (0 : Int32)) hx hb d_Law_read_1 (by decide) ?_
  refine lv_aload_n hx hb d_Law_read_2 rfl (lv_at hl 0 rfl) ?_
  refine lv_iload_n hx hb d_Law_read_3 rfl (lv_at hl 1 rfl) ?_
  refine lv_iload_n hx hb d_Law_read_4 rfl (lv_at hl 2 rfl) ?_
  obtain ⟨x1, e1, hJ⟩ := j_bind hJ
  have hPc := hP.sub (ws' := wC ga cB cI (σ).1) [0, 1, 2, 3, 4, 5, 6, 7, 8] rfl
  have hPo := hP.sub (ws' := [(ho, .inl (cL, 1, .inr (.inl (σ).2)))]) [9] rfl
  refine x_call2 (xb_runV (As := [.int a1, .int a2]) (rest := [.int (0 : Int32), .ref ho]) ⟨hx, hb, hml, hown, htb⟩ (c_LogFs_read (l := l) hl0 (dC := dC) (dI := dI) (sx := sx) (A := xA A ho) (wL_D hDa) e1) (xcV 2 htb tw529 tw1 tw526 tw527 tw528 rfl rfl hd_LogFs_read ⟨Nat.le_of_ble_eq_true rfl, Nat.le_of_ble_eq_true rfl⟩) (kX_V (locs := []) hPc hKc hX1 va_S.rf (va_recv (q0 := 0) (ci := 4) hKc hPc rfl rfl)) rfl rfl hl.1 rfl (lv_room (Nat.le_of_ble_eq_true rfl)) d_Law_read_5 ⟨Nat.le_of_ble_eq_true rfl, Nat.le_of_ble_eq_true rfl⟩) hS (fun q h => h.1) (fun hk t H locs ht hW hB hz hk1 hS => ?_) (fun hk q ce t H locs ht hW hB hz hk1 hS hq hv hc => ?_)
  · have hJ := j_t hJ hk
    have hP : va_P (dC, dI) cls (wL ga ho cB cI cL σ) H := (kW_P hB ht).app (keepO hPo hk1)
    refine W.cs (cells' := 0) (slots' := 0) (xc_0 hk) (xs_0 hk) ?_
    refine W.eq (g2 := F0 m 8 ls [.int x1.2, .int (0 : Int32), .ref ho]) rfl ?_
    refine lv_i2l hx hb d_Law_read_8 rfl ?_
    obtain ⟨h2, hJ⟩ := j_g hJ
    refine va_last hx hb hK hP (hDa _) hS 9 2 rfl rfl (j_in h2) d_Law_read_9 (fun H locs hP _ hS => ?_)
    have hP : va_P (dC, dI) cls (wL ga ho cB cI cL (u_O σ (vp_updL (l_O σ) (0 : Int32).toNatClampNeg x1.2.toInt64))) H := hP
    refine lv_goto (tgt := 21) hx hb d_Law_read_10 (by decide) ?_
    refine lv_iconst (v := (0 : Int32)) hx hb d_Law_read_21 (by decide) ?_
    have hJ := Option.some.inj hJ
    refine W.widen (k := 1) (n := 6) (Nat.le_of_ble_eq_true rfl) (Nat.le_of_ble_eq_true rfl) ?_
    exact W.iret (v := (0 : Int32)) hx hb hr (fun t ht hW => ⟨⟨_, (), rfl, j_p1 hJ, kW_end hP hK ht hW (congrArg (fun z => wL ga ho cB cI cL z) (j_p2 hJ))⟩, hS.F ht⟩) hS.2.2 d_Law_read_22
  · have hJ := j_f hJ hk
    have hP : va_P (dC, dI) cls (wL ga ho cB cI cL σ) H := (kW_P hB ht).app (keepO hPo hk1)
    by_cases h3 : x1.1 = 1
    · have hJ := j_t hJ h3
      rw [h3] at hc
      have hJ := Option.some.inj hJ
      refine x_catch (k := 1) (nm := "java/lang/IllegalStateException") hown [] ⟨0, 10, 13, 13⟩ [⟨0, 10, 17, 52⟩] htab (fun y hy => nomatch hy) ⟨rfl, by decide, htb _ tw175⟩ (htb _ tw187) hq hv hc ?_
      refine W.widen (k := 1) (n := 6) (xc_1 _) (xs_1 _) ?_
      refine lv_astore hx hb d_Law_read_13 hl (Nat.le_of_ble_eq_true rfl) rfl (fun ls hl => ?_)
      refine lv_iconst (v := (1 : Int32)) hx hb d_Law_read_15 (by decide) ?_
      exact W.iret (v := (1 : Int32)) hx hb hr (fun t ht hW => ⟨⟨_, (), rfl, j_p1 hJ, kW_end hP hK ht hW (congrArg (fun z => wL ga ho cB cI cL z) (j_p2 hJ))⟩, hS.F ht⟩) hS.2.2 d_Law_read_16
    · have hJ := j_f hJ h3
      by_cases h4 : x1.1 = 3
      · have hJ := j_t hJ h4
        rw [h4] at hc
        have hJ := Option.some.inj hJ
        refine x_catch (k := 3) (nm := "java/lang/IndexOutOfBoundsException") hown [(⟨0, 10, 13, 13⟩, "java/lang/IllegalStateException")] ⟨0, 10, 17, 52⟩ [] htab (fun y hy => by obtain rfl := List.mem_singleton.mp hy; exact ⟨⟨rfl, by decide, htb _ tw175⟩, hN.2⟩) ⟨rfl, by decide, htb _ tw525⟩ (htb _ tw532) hq hv hc ?_
        refine W.widen (k := 1) (n := 6) (xc_1 _) (xs_1 _) ?_
        refine lv_astore hx hb d_Law_read_17 hl (Nat.le_of_ble_eq_true rfl) rfl (fun ls hl => ?_)
        refine lv_iconst (v := (2 : Int32)) hx hb d_Law_read_19 (by decide) ?_
        exact W.iret (v := (2 : Int32)) hx hb hr (fun t ht hW => ⟨⟨_, (), rfl, j_p1 hJ, kW_end hP hK ht hW (congrArg (fun z => wL ga ho cB cI cL z) (j_p2 hJ))⟩, hS.F ht⟩) hS.2.2 d_Law_read_20
      · have hJ := j_f hJ h4
        exact j_none hJ
def J_Law_look (σ : LW) (a1 : Int32) (a2 : Int32) : Option (Int32 × LW) :=
  (J_LogFs_look (σ).1 a1 a2).bind fun x1 => (if x1.1 = 0 then (if jin (0 : Int32) 1 = true then some ((0 : Int32), (u_O σ (vp_updL (l_O σ) (0 : Int32).toNatClampNeg x1.2.toInt64))) else none) else (if x1.1 = 1 then some ((1 : Int32), σ) else (if x1.1 = 3 then some ((2 : Int32), σ) else none)))
abbrev rm_Law_look : Room := { frames := 8, cells := 1, slots := 6, locals := 139 }
set_option maxHeartbeats 4000000 in
set_option maxRecDepth 100000 in
theorem c_Law_look {l : Launch} (hl0 : l.stackTraces = false) {dC : Nat → ClassId} {dI : Nat → Nat → Nat} {ga : Nat → Nat} {ho : Nat} {cB cI cL : ClassId} {A : Nat → Prop} {sx : Nat → Nat} (hDa : ∀ σ, va_D A (wL ga ho cB cI cL σ)) {σ : LW} {a1 : Int32} {a2 : Int32} {res : Int32 × LW} (hJ : J_Law_look σ a1 a2 = some res) :
    Met l y_Law_look (mwW y_Law_look b_Law_look 5 (some .int) [(0, 10, 13, 13), (0, 10, 17, 52)]) rm_Law_look (va_Pc [.ref (ga 0), .int a1, .int a2, .ref ho] (fun U => kW (dC, dI) (tL cB cI cL) (wL ga ho cB cI cL σ) U ∧ kX A sx U ∧ kN U)) (va_Qi (fun (x : Int32) (_ : Unit) => x = res.1) (fun _ t => kW (dC, dI) (tL cB cI cL) (wL ga ho cB cI cL res.2) t) A) 1 6 A := by
  refine va_MetW (cc := b_Law_look) (maxL := 5) (ret := (some .int)) (hh := [(0, 10, 13, 13), (0, 10, 17, 52)]) (by decide) rfl ?_
  intro p e s m args below meth c s₁ B hml hv
  obtain ⟨rfl, ⟨hP, hK⟩, hX, hN⟩ := hv
  have hx := B.exec
  have hb := B.bytes
  have hr := B.returns
  have hts := atoms_spec (ws := (mwW y_Law_look b_Law_look 5 (some .int) [(0, 10, 13, 13), (0, 10, 17, 52)])) B.pre
  have htb : ∀ w ∈ tb, w.before [.ref (ga 0), .int a1, .int a2, .ref ho].toArray s = true := fun w h => hts w (List.mem_cons_of_mem _ h)
  have htab : c.exceptionTable.toList = [⟨0, 10, 13, 13⟩, ⟨0, 10, 17, 52⟩] := x_table B (hts _ List.mem_cons_self)
  have hN := kN_at (args := [.ref (ga 0), .int a1, .int a2, .ref ho].toArray) hN
  have hown : s.vm.findClass "LogFsLaw" = some m.cls := findClass_of_methodNamed B.named
  have hlocks := B.notSynchronized
  have hS : va_S A s.heap s.heap [] := va_S.rf
  have hKc := hK.sub (tys' := tC cB cI) [0, 1] rfl
  have hX1 := kX_A (ho := ho) hX (hP 9 _ rfl).lt
  have hl := lv_entry ([.ref (ga 0), .int a1, .int a2, .ref ho]) (n := 5) (Nat.le_of_ble_eq_true rfl)
  rw [lg_entry_eq]
  generalize (lg_sl ([.ref (ga 0), .int a1, .int a2, .ref ho]) ++ List.replicate (5 - (lg_sl ([.ref (ga 0), .int a1, .int a2, .ref ho])).length) Slot.unset).toArray = ls at hl ⊢
  have hl : lv_has ls 5 [(0, .ref (ga 0)), (1, .int a1), (2, .int a2), (3, .ref ho)] := hl
  unfold J_Law_look at hJ
  refine lv_aload_n hx hb d_Law_look_0 rfl (lv_at hl 3 rfl) ?_
  refine lv_iconst (v := (0 : Int32)) hx hb d_Law_look_1 (by decide) ?_
  refine lv_aload_n hx hb d_Law_look_2 rfl (lv_at hl 0 rfl) ?_
  refine lv_iload_n hx hb d_Law_look_3 rfl (lv_at hl 1 rfl) ?_
  refine lv_iload_n hx hb d_Law_look_4 rfl (lv_at hl 2 rfl) ?_
  obtain ⟨x1, e1, hJ⟩ := j_bind hJ
  have hPc := hP.sub (ws' := wC ga cB cI (σ).1) [0, 1, 2, 3, 4, 5, 6, 7, 8] rfl
  have hPo := hP.sub (ws' := [(ho, .inl (cL, 1, .inr (.inl (σ).2)))]) [9] rfl
  refine x_call2 (xb_runV (As := [.int a1, .int a2]) (rest := [.int (0 : Int32), .ref ho]) ⟨hx, hb, hml, hown, htb⟩ (c_LogFs_look (l := l) hl0 (dC := dC) (dI := dI) (sx := sx) (A := xA A ho) (wL_D hDa) e1) (xcV 2 htb tw556 tw1 tw553 tw554 tw555 rfl rfl hd_LogFs_look ⟨Nat.le_of_ble_eq_true rfl, Nat.le_of_ble_eq_true rfl⟩) (kX_V (locs := []) hPc hKc hX1 va_S.rf (va_recv (q0 := 0) (ci := 4) hKc hPc rfl rfl)) rfl rfl hl.1 rfl (lv_room (Nat.le_of_ble_eq_true rfl)) d_Law_look_5 ⟨Nat.le_of_ble_eq_true rfl, Nat.le_of_ble_eq_true rfl⟩) hS (fun q h => h.1) (fun hk t H locs ht hW hB hz hk1 hS => ?_) (fun hk q ce t H locs ht hW hB hz hk1 hS hq hv hc => ?_)
  · have hJ := j_t hJ hk
    have hP : va_P (dC, dI) cls (wL ga ho cB cI cL σ) H := (kW_P hB ht).app (keepO hPo hk1)
    refine W.cs (cells' := 0) (slots' := 0) (xc_0 hk) (xs_0 hk) ?_
    refine W.eq (g2 := F0 m 8 ls [.int x1.2, .int (0 : Int32), .ref ho]) rfl ?_
    refine lv_i2l hx hb d_Law_look_8 rfl ?_
    obtain ⟨h2, hJ⟩ := j_g hJ
    refine va_last hx hb hK hP (hDa _) hS 9 2 rfl rfl (j_in h2) d_Law_look_9 (fun H locs hP _ hS => ?_)
    have hP : va_P (dC, dI) cls (wL ga ho cB cI cL (u_O σ (vp_updL (l_O σ) (0 : Int32).toNatClampNeg x1.2.toInt64))) H := hP
    refine lv_goto (tgt := 21) hx hb d_Law_look_10 (by decide) ?_
    refine lv_iconst (v := (0 : Int32)) hx hb d_Law_look_21 (by decide) ?_
    have hJ := Option.some.inj hJ
    refine W.widen (k := 1) (n := 6) (Nat.le_of_ble_eq_true rfl) (Nat.le_of_ble_eq_true rfl) ?_
    exact W.iret (v := (0 : Int32)) hx hb hr (fun t ht hW => ⟨⟨_, (), rfl, j_p1 hJ, kW_end hP hK ht hW (congrArg (fun z => wL ga ho cB cI cL z) (j_p2 hJ))⟩, hS.F ht⟩) hS.2.2 d_Law_look_22
  · have hJ := j_f hJ hk
    have hP : va_P (dC, dI) cls (wL ga ho cB cI cL σ) H := (kW_P hB ht).app (keepO hPo hk1)
    by_cases h3 : x1.1 = 1
    · have hJ := j_t hJ h3
      rw [h3] at hc
      have hJ := Option.some.inj hJ
      refine x_catch (k := 1) (nm := "java/lang/IllegalStateException") hown [] ⟨0, 10, 13, 13⟩ [⟨0, 10, 17, 52⟩] htab (fun y hy => nomatch hy) ⟨rfl, by decide, htb _ tw175⟩ (htb _ tw187) hq hv hc ?_
      refine W.widen (k := 1) (n := 6) (xc_1 _) (xs_1 _) ?_
      refine lv_astore hx hb d_Law_look_13 hl (Nat.le_of_ble_eq_true rfl) rfl (fun ls hl => ?_)
      refine lv_iconst (v := (1 : Int32)) hx hb d_Law_look_15 (by decide) ?_
      exact W.iret (v := (1 : Int32)) hx hb hr (fun t ht hW => ⟨⟨_, (), rfl, j_p1 hJ, kW_end hP hK ht hW (congrArg (fun z => wL ga ho cB cI cL z) (j_p2 hJ))⟩, hS.F ht⟩) hS.2.2 d_Law_look_16
    · have hJ := j_f hJ h3
      by_cases h4 : x1.1 = 3
      · have hJ := j_t hJ h4
        rw [h4] at hc
        have hJ := Option.some.inj hJ
        refine x_catch (k := 3) (nm := "java/lang/IndexOutOfBoundsException") hown [(⟨0, 10, 13, 13⟩, "java/lang/IllegalStateException")] ⟨0, 10, 17, 52⟩ [] htab (fun y hy => by obtain rfl := List.mem_singleton.mp hy; exact ⟨⟨rfl, by decide, htb _ tw175⟩, hN.2⟩) ⟨rfl, by decide, htb _ tw525⟩ (htb _ tw532) hq hv hc ?_
        refine W.widen (k := 1) (n := 6) (xc_1 _) (xs_1 _) ?_
        refine lv_astore hx hb d_Law_look_17 hl (Nat.le_of_ble_eq_true rfl) rfl (fun ls hl => ?_)
        refine lv_iconst (v := (2 : Int32)) hx hb d_Law_look_19 (by decide) ?_
        exact W.iret (v := (2 : Int32)) hx hb hr (fun t ht hW => ⟨⟨_, (), rfl, j_p1 hJ, kW_end hP hK ht hW (congrArg (fun z => wL ga ho cB cI cL z) (j_p2 hJ))⟩, hS.F ht⟩) hS.2.2 d_Law_look_20
      · have hJ := j_f hJ h4
        exact j_none hJ
def J_Law_disk (σ : LW) (a1 : Int32) (a2 : Int32) : Option (Int32 × LW) :=
  (J_LogFs_disk (σ).1 a1 a2).bind fun x1 => (if x1.1 = 0 then (if jin (0 : Int32) 1 = true then some ((0 : Int32), (u_O σ (vp_updL (l_O σ) (0 : Int32).toNatClampNeg x1.2.toInt64))) else none) else (if x1.1 = 3 then some ((1 : Int32), σ) else none))
abbrev rm_Law_disk : Room := { frames := 8, cells := 1, slots := 6, locals := 133 }
set_option maxHeartbeats 4000000 in
set_option maxRecDepth 100000 in
theorem c_Law_disk {l : Launch} (hl0 : l.stackTraces = false) {dC : Nat → ClassId} {dI : Nat → Nat → Nat} {ga : Nat → Nat} {ho : Nat} {cB cI cL : ClassId} {A : Nat → Prop} {sx : Nat → Nat} (hDa : ∀ σ, va_D A (wL ga ho cB cI cL σ)) {σ : LW} {a1 : Int32} {a2 : Int32} {res : Int32 × LW} (hJ : J_Law_disk σ a1 a2 = some res) :
    Met l y_Law_disk (mwW y_Law_disk b_Law_disk 5 (some .int) [(0, 10, 13, 52)]) rm_Law_disk (va_Pc [.ref (ga 0), .int a1, .int a2, .ref ho] (fun U => kW (dC, dI) (tL cB cI cL) (wL ga ho cB cI cL σ) U ∧ kX A sx U ∧ kN U)) (va_Qi (fun (x : Int32) (_ : Unit) => x = res.1) (fun _ t => kW (dC, dI) (tL cB cI cL) (wL ga ho cB cI cL res.2) t) A) 1 6 A := by
  refine va_MetW (cc := b_Law_disk) (maxL := 5) (ret := (some .int)) (hh := [(0, 10, 13, 52)]) (by decide) rfl ?_
  intro p e s m args below meth c s₁ B hml hv
  obtain ⟨rfl, ⟨hP, hK⟩, hX, hN⟩ := hv
  have hx := B.exec
  have hb := B.bytes
  have hr := B.returns
  have hts := atoms_spec (ws := (mwW y_Law_disk b_Law_disk 5 (some .int) [(0, 10, 13, 52)])) B.pre
  have htb : ∀ w ∈ tb, w.before [.ref (ga 0), .int a1, .int a2, .ref ho].toArray s = true := fun w h => hts w (List.mem_cons_of_mem _ h)
  have htab : c.exceptionTable.toList = [⟨0, 10, 13, 52⟩] := x_table B (hts _ List.mem_cons_self)
  have hN := kN_at (args := [.ref (ga 0), .int a1, .int a2, .ref ho].toArray) hN
  have hown : s.vm.findClass "LogFsLaw" = some m.cls := findClass_of_methodNamed B.named
  have hlocks := B.notSynchronized
  have hS : va_S A s.heap s.heap [] := va_S.rf
  have hKc := hK.sub (tys' := tC cB cI) [0, 1] rfl
  have hX1 := kX_A (ho := ho) hX (hP 9 _ rfl).lt
  have hl := lv_entry ([.ref (ga 0), .int a1, .int a2, .ref ho]) (n := 5) (Nat.le_of_ble_eq_true rfl)
  rw [lg_entry_eq]
  generalize (lg_sl ([.ref (ga 0), .int a1, .int a2, .ref ho]) ++ List.replicate (5 - (lg_sl ([.ref (ga 0), .int a1, .int a2, .ref ho])).length) Slot.unset).toArray = ls at hl ⊢
  have hl : lv_has ls 5 [(0, .ref (ga 0)), (1, .int a1), (2, .int a2), (3, .ref ho)] := hl
  unfold J_Law_disk at hJ
  refine lv_aload_n hx hb d_Law_disk_0 rfl (lv_at hl 3 rfl) ?_
  refine lv_iconst (v := (0 : Int32)) hx hb d_Law_disk_1 (by decide) ?_
  refine lv_aload_n hx hb d_Law_disk_2 rfl (lv_at hl 0 rfl) ?_
  refine lv_iload_n hx hb d_Law_disk_3 rfl (lv_at hl 1 rfl) ?_
  refine lv_iload_n hx hb d_Law_disk_4 rfl (lv_at hl 2 rfl) ?_
  obtain ⟨x1, e1, hJ⟩ := j_bind hJ
  have hPc := hP.sub (ws' := wC ga cB cI (σ).1) [0, 1, 2, 3, 4, 5, 6, 7, 8] rfl
  have hPo := hP.sub (ws' := [(ho, .inl (cL, 1, .inr (.inl (σ).2)))]) [9] rfl
  refine x_call2 (xb_runV (As := [.int a1, .int a2]) (rest := [.int (0 : Int32), .ref ho]) ⟨hx, hb, hml, hown, htb⟩ (c_LogFs_disk (l := l) hl0 (dC := dC) (dI := dI) (sx := sx) (A := xA A ho) (wL_D hDa) e1) (xcV 2 htb tw568 tw1 tw565 tw566 tw567 rfl rfl hd_LogFs_disk ⟨Nat.le_of_ble_eq_true rfl, Nat.le_of_ble_eq_true rfl⟩) (kX_V (locs := []) hPc hKc hX1 va_S.rf (va_recv (q0 := 0) (ci := 4) hKc hPc rfl rfl)) rfl rfl hl.1 rfl (lv_room (Nat.le_of_ble_eq_true rfl)) d_Law_disk_5 ⟨Nat.le_of_ble_eq_true rfl, Nat.le_of_ble_eq_true rfl⟩) hS (fun q h => h.1) (fun hk t H locs ht hW hB hz hk1 hS => ?_) (fun hk q ce t H locs ht hW hB hz hk1 hS hq hv hc => ?_)
  · have hJ := j_t hJ hk
    have hP : va_P (dC, dI) cls (wL ga ho cB cI cL σ) H := (kW_P hB ht).app (keepO hPo hk1)
    refine W.cs (cells' := 0) (slots' := 0) (xc_0 hk) (xs_0 hk) ?_
    refine W.eq (g2 := F0 m 8 ls [.int x1.2, .int (0 : Int32), .ref ho]) rfl ?_
    refine lv_i2l hx hb d_Law_disk_8 rfl ?_
    obtain ⟨h2, hJ⟩ := j_g hJ
    refine va_last hx hb hK hP (hDa _) hS 9 2 rfl rfl (j_in h2) d_Law_disk_9 (fun H locs hP _ hS => ?_)
    have hP : va_P (dC, dI) cls (wL ga ho cB cI cL (u_O σ (vp_updL (l_O σ) (0 : Int32).toNatClampNeg x1.2.toInt64))) H := hP
    refine lv_goto (tgt := 17) hx hb d_Law_disk_10 (by decide) ?_
    refine lv_iconst (v := (0 : Int32)) hx hb d_Law_disk_17 (by decide) ?_
    have hJ := Option.some.inj hJ
    refine W.widen (k := 1) (n := 6) (Nat.le_of_ble_eq_true rfl) (Nat.le_of_ble_eq_true rfl) ?_
    exact W.iret (v := (0 : Int32)) hx hb hr (fun t ht hW => ⟨⟨_, (), rfl, j_p1 hJ, kW_end hP hK ht hW (congrArg (fun z => wL ga ho cB cI cL z) (j_p2 hJ))⟩, hS.F ht⟩) hS.2.2 d_Law_disk_18
  · have hJ := j_f hJ hk
    have hP : va_P (dC, dI) cls (wL ga ho cB cI cL σ) H := (kW_P hB ht).app (keepO hPo hk1)
    by_cases h3 : x1.1 = 3
    · have hJ := j_t hJ h3
      rw [h3] at hc
      have hJ := Option.some.inj hJ
      refine x_catch (k := 3) (nm := "java/lang/IndexOutOfBoundsException") hown [] ⟨0, 10, 13, 52⟩ [] htab (fun y hy => nomatch hy) ⟨rfl, by decide, htb _ tw525⟩ (htb _ tw532) hq hv hc ?_
      refine W.widen (k := 1) (n := 6) (xc_1 _) (xs_1 _) ?_
      refine lv_astore hx hb d_Law_disk_13 hl (Nat.le_of_ble_eq_true rfl) rfl (fun ls hl => ?_)
      refine lv_iconst (v := (1 : Int32)) hx hb d_Law_disk_15 (by decide) ?_
      exact W.iret (v := (1 : Int32)) hx hb hr (fun t ht hW => ⟨⟨_, (), rfl, j_p1 hJ, kW_end hP hK ht hW (congrArg (fun z => wL ga ho cB cI cL z) (j_p2 hJ))⟩, hS.F ht⟩) hS.2.2 d_Law_disk_16
    · have hJ := j_f hJ h3
      exact j_none hJ
def J_Law_memory (σ : LW) (a1 : Int32) (a2 : Int32) : Option (Int32 × LW) :=
  (J_LogFs_memory (σ).1 a1 a2).bind fun x1 => (if x1.1 = 0 then (if jin (0 : Int32) 1 = true then some ((0 : Int32), (u_O σ (vp_updL (l_O σ) (0 : Int32).toNatClampNeg x1.2.toInt64))) else none) else (if x1.1 = 1 then some ((1 : Int32), σ) else (if x1.1 = 3 then some ((2 : Int32), σ) else none)))
abbrev rm_Law_memory : Room := { frames := 8, cells := 1, slots := 6, locals := 133 }
set_option maxHeartbeats 4000000 in
set_option maxRecDepth 100000 in
theorem c_Law_memory {l : Launch} (hl0 : l.stackTraces = false) {dC : Nat → ClassId} {dI : Nat → Nat → Nat} {ga : Nat → Nat} {ho : Nat} {cB cI cL : ClassId} {A : Nat → Prop} {sx : Nat → Nat} (hDa : ∀ σ, va_D A (wL ga ho cB cI cL σ)) {σ : LW} {a1 : Int32} {a2 : Int32} {res : Int32 × LW} (hJ : J_Law_memory σ a1 a2 = some res) :
    Met l y_Law_memory (mwW y_Law_memory b_Law_memory 5 (some .int) [(0, 10, 13, 13), (0, 10, 17, 52)]) rm_Law_memory (va_Pc [.ref (ga 0), .int a1, .int a2, .ref ho] (fun U => kW (dC, dI) (tL cB cI cL) (wL ga ho cB cI cL σ) U ∧ kX A sx U ∧ kN U)) (va_Qi (fun (x : Int32) (_ : Unit) => x = res.1) (fun _ t => kW (dC, dI) (tL cB cI cL) (wL ga ho cB cI cL res.2) t) A) 1 6 A := by
  refine va_MetW (cc := b_Law_memory) (maxL := 5) (ret := (some .int)) (hh := [(0, 10, 13, 13), (0, 10, 17, 52)]) (by decide) rfl ?_
  intro p e s m args below meth c s₁ B hml hv
  obtain ⟨rfl, ⟨hP, hK⟩, hX, hN⟩ := hv
  have hx := B.exec
  have hb := B.bytes
  have hr := B.returns
  have hts := atoms_spec (ws := (mwW y_Law_memory b_Law_memory 5 (some .int) [(0, 10, 13, 13), (0, 10, 17, 52)])) B.pre
  have htb : ∀ w ∈ tb, w.before [.ref (ga 0), .int a1, .int a2, .ref ho].toArray s = true := fun w h => hts w (List.mem_cons_of_mem _ h)
  have htab : c.exceptionTable.toList = [⟨0, 10, 13, 13⟩, ⟨0, 10, 17, 52⟩] := x_table B (hts _ List.mem_cons_self)
  have hN := kN_at (args := [.ref (ga 0), .int a1, .int a2, .ref ho].toArray) hN
  have hown : s.vm.findClass "LogFsLaw" = some m.cls := findClass_of_methodNamed B.named
  have hlocks := B.notSynchronized
  have hS : va_S A s.heap s.heap [] := va_S.rf
  have hKc := hK.sub (tys' := tC cB cI) [0, 1] rfl
  have hX1 := kX_A (ho := ho) hX (hP 9 _ rfl).lt
  have hl := lv_entry ([.ref (ga 0), .int a1, .int a2, .ref ho]) (n := 5) (Nat.le_of_ble_eq_true rfl)
  rw [lg_entry_eq]
  generalize (lg_sl ([.ref (ga 0), .int a1, .int a2, .ref ho]) ++ List.replicate (5 - (lg_sl ([.ref (ga 0), .int a1, .int a2, .ref ho])).length) Slot.unset).toArray = ls at hl ⊢
  have hl : lv_has ls 5 [(0, .ref (ga 0)), (1, .int a1), (2, .int a2), (3, .ref ho)] := hl
  unfold J_Law_memory at hJ
  refine lv_aload_n hx hb d_Law_memory_0 rfl (lv_at hl 3 rfl) ?_
  refine lv_iconst (v := (0 : Int32)) hx hb d_Law_memory_1 (by decide) ?_
  refine lv_aload_n hx hb d_Law_memory_2 rfl (lv_at hl 0 rfl) ?_
  refine lv_iload_n hx hb d_Law_memory_3 rfl (lv_at hl 1 rfl) ?_
  refine lv_iload_n hx hb d_Law_memory_4 rfl (lv_at hl 2 rfl) ?_
  obtain ⟨x1, e1, hJ⟩ := j_bind hJ
  have hPc := hP.sub (ws' := wC ga cB cI (σ).1) [0, 1, 2, 3, 4, 5, 6, 7, 8] rfl
  have hPo := hP.sub (ws' := [(ho, .inl (cL, 1, .inr (.inl (σ).2)))]) [9] rfl
  refine x_call2 (xb_runV (As := [.int a1, .int a2]) (rest := [.int (0 : Int32), .ref ho]) ⟨hx, hb, hml, hown, htb⟩ (c_LogFs_memory (l := l) hl0 (dC := dC) (dI := dI) (sx := sx) (A := xA A ho) (wL_D hDa) e1) (xcV 2 htb tw579 tw1 tw576 tw577 tw578 rfl rfl hd_LogFs_memory ⟨Nat.le_of_ble_eq_true rfl, Nat.le_of_ble_eq_true rfl⟩) (kX_V (locs := []) hPc hKc hX1 va_S.rf (va_recv (q0 := 0) (ci := 4) hKc hPc rfl rfl)) rfl rfl hl.1 rfl (lv_room (Nat.le_of_ble_eq_true rfl)) d_Law_memory_5 ⟨Nat.le_of_ble_eq_true rfl, Nat.le_of_ble_eq_true rfl⟩) hS (fun q h => h.1) (fun hk t H locs ht hW hB hz hk1 hS => ?_) (fun hk q ce t H locs ht hW hB hz hk1 hS hq hv hc => ?_)
  · have hJ := j_t hJ hk
    have hP : va_P (dC, dI) cls (wL ga ho cB cI cL σ) H := (kW_P hB ht).app (keepO hPo hk1)
    refine W.cs (cells' := 0) (slots' := 0) (xc_0 hk) (xs_0 hk) ?_
    refine W.eq (g2 := F0 m 8 ls [.int x1.2, .int (0 : Int32), .ref ho]) rfl ?_
    refine lv_i2l hx hb d_Law_memory_8 rfl ?_
    obtain ⟨h2, hJ⟩ := j_g hJ
    refine va_last hx hb hK hP (hDa _) hS 9 2 rfl rfl (j_in h2) d_Law_memory_9 (fun H locs hP _ hS => ?_)
    have hP : va_P (dC, dI) cls (wL ga ho cB cI cL (u_O σ (vp_updL (l_O σ) (0 : Int32).toNatClampNeg x1.2.toInt64))) H := hP
    refine lv_goto (tgt := 21) hx hb d_Law_memory_10 (by decide) ?_
    refine lv_iconst (v := (0 : Int32)) hx hb d_Law_memory_21 (by decide) ?_
    have hJ := Option.some.inj hJ
    refine W.widen (k := 1) (n := 6) (Nat.le_of_ble_eq_true rfl) (Nat.le_of_ble_eq_true rfl) ?_
    exact W.iret (v := (0 : Int32)) hx hb hr (fun t ht hW => ⟨⟨_, (), rfl, j_p1 hJ, kW_end hP hK ht hW (congrArg (fun z => wL ga ho cB cI cL z) (j_p2 hJ))⟩, hS.F ht⟩) hS.2.2 d_Law_memory_22
  · have hJ := j_f hJ hk
    have hP : va_P (dC, dI) cls (wL ga ho cB cI cL σ) H := (kW_P hB ht).app (keepO hPo hk1)
    by_cases h3 : x1.1 = 1
    · have hJ := j_t hJ h3
      rw [h3] at hc
      have hJ := Option.some.inj hJ
      refine x_catch (k := 1) (nm := "java/lang/IllegalStateException") hown [] ⟨0, 10, 13, 13⟩ [⟨0, 10, 17, 52⟩] htab (fun y hy => nomatch hy) ⟨rfl, by decide, htb _ tw175⟩ (htb _ tw187) hq hv hc ?_
      refine W.widen (k := 1) (n := 6) (xc_1 _) (xs_1 _) ?_
      refine lv_astore hx hb d_Law_memory_13 hl (Nat.le_of_ble_eq_true rfl) rfl (fun ls hl => ?_)
      refine lv_iconst (v := (1 : Int32)) hx hb d_Law_memory_15 (by decide) ?_
      exact W.iret (v := (1 : Int32)) hx hb hr (fun t ht hW => ⟨⟨_, (), rfl, j_p1 hJ, kW_end hP hK ht hW (congrArg (fun z => wL ga ho cB cI cL z) (j_p2 hJ))⟩, hS.F ht⟩) hS.2.2 d_Law_memory_16
    · have hJ := j_f hJ h3
      by_cases h4 : x1.1 = 3
      · have hJ := j_t hJ h4
        rw [h4] at hc
        have hJ := Option.some.inj hJ
        refine x_catch (k := 3) (nm := "java/lang/IndexOutOfBoundsException") hown [(⟨0, 10, 13, 13⟩, "java/lang/IllegalStateException")] ⟨0, 10, 17, 52⟩ [] htab (fun y hy => by obtain rfl := List.mem_singleton.mp hy; exact ⟨⟨rfl, by decide, htb _ tw175⟩, hN.2⟩) ⟨rfl, by decide, htb _ tw525⟩ (htb _ tw532) hq hv hc ?_
        refine W.widen (k := 1) (n := 6) (xc_1 _) (xs_1 _) ?_
        refine lv_astore hx hb d_Law_memory_17 hl (Nat.le_of_ble_eq_true rfl) rfl (fun ls hl => ?_)
        refine lv_iconst (v := (2 : Int32)) hx hb d_Law_memory_19 (by decide) ?_
        exact W.iret (v := (2 : Int32)) hx hb hr (fun t ht hW => ⟨⟨_, (), rfl, j_p1 hJ, kW_end hP hK ht hW (congrArg (fun z => wL ga ho cB cI cL z) (j_p2 hJ))⟩, hS.F ht⟩) hS.2.2 d_Law_memory_20
      · have hJ := j_f hJ h4
        exact j_none hJ
