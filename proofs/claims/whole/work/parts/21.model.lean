/-! The reference, second part. Written by wip/gen/classes.py. -/
def J_Model_mount_128 (σ : RS) (v1 : Int32) (t1 : Int32) : Option (Int32 × RS) :=
  (if (r_f (q_t σ t1)) = (0 : Int32) then (J_Model_load (q_t σ t1)).bind fun x6 => some (v1, x6) else some ((0 : Int32), (q_t σ t1)))
def J_Model_mount_110 (σ : RS) (v1 : Int32) : Option (Int32 × RS) :=
  (if (r_f (q_n σ (0 : Int32))) = (0 : Int32) then J_Model_mount_128 (q_n σ (0 : Int32)) v1 (0 : Int32) else J_Model_mount_128 (q_n σ (0 : Int32)) v1 (1 : Int32))
def J_Model_mount_89 (σ : RS) (v1 : Int32) : Option (Int32 × RS) :=
  (if v1 ≤ (0 : Int32) then J_Model_mount_110 σ v1 else (if (r_f σ) = (0 : Int32) then (J_Model_head σ (0 : Int32)).bind fun x8 => (J_Model_put x8 (1 : Int32)).bind fun x9 => J_Model_mount_110 x9 v1 else J_Model_mount_110 σ v1))
def J_Model_mount_39_b (k : RS → Int32 → Int32 → Int32 → Option (Int32 × Int32 × RS)) (σ : RS) (v1 : Int32) (v2 : Int32) (v3 : Int32) : Option (Int32 × Int32 × RS) :=
  (if (64 : Int32) ≤ v3 then some (v1, v2, σ) else (if jin (((64 : Int32) * ((2 : Int32) + v2)) + v3) 8192 = true then (if jin v3 64 = true then k (q_G σ (va_up (r_G σ) v3.toNatClampNeg ((r_D σ) (((64 : Int32) * ((2 : Int32) + v2)) + v3).toNatClampNeg).toInt32.toInt8)) v1 v2 (v3 + (1 : Int32)) else none) else none))
def J_Model_mount_39 : Nat → RS → Int32 → Int32 → Int32 → Option (Int32 × Int32 × RS)
  | 0, _, _, _, _ => none
  | n + 1, σ, v1, v2, v3 => J_Model_mount_39_b (J_Model_mount_39 n) σ v1 v2 v3
def J_Model_mount_25_b (k : RS → Int32 → Int32 → Option (Int32 × RS)) (σ : RS) (v1 : Int32) (v2 : Int32) : Option (Int32 × RS) :=
  (if v1 ≤ v2 then J_Model_mount_89 σ v1 else (if (r_f σ) = (0 : Int32) then (J_Model_mount_39 9000 σ v1 v2 (0 : Int32)).bind fun x14 => (if jin ((65 : Int32) + x14.2.1) 8192 = true then (J_Model_put x14.2.2 ((r_D x14.2.2) ((65 : Int32) + x14.2.1).toNatClampNeg).toInt32).bind fun x16 => k x16 x14.1 (x14.2.1 + (1 : Int32)) else none) else J_Model_mount_89 σ v1))
def J_Model_mount_25 : Nat → RS → Int32 → Int32 → Option (Int32 × RS)
  | 0, _, _, _ => none
  | n + 1, σ, v1, v2 => J_Model_mount_25_b (J_Model_mount_25 n) σ v1 v2
def J_Model_mount (σ : RS)  : Option (Int32 × RS) :=
  (if jin (64 : Int32) 8192 = true then J_Model_mount_25 9000 (q_t (q_f (q_o σ (0 : Int32)) (0 : Int32)) (0 : Int32)) ((r_D (q_t (q_f (q_o σ (0 : Int32)) (0 : Int32)) (0 : Int32))) (64 : Int32).toNatClampNeg).toInt32 (0 : Int32) else none)
abbrev rm_Model_mount : Room := { frames := 1, cells := 0, slots := 0, locals := 22 }
set_option maxHeartbeats 4000000 in
set_option maxRecDepth 100000 in
theorem c_Model_mount {l : Launch} {dC : Nat → ClassId} {dI : Nat → Nat → Nat} {gr : Nat → Nat} {cB cI : ClassId} {A : Nat → Prop} (hDa : ∀ σ, va_D A (wR gr cB cI σ)) {σ : RS} {res : Int32 × RS} (hJ : J_Model_mount σ = some res) :
    Met l y_Model_mount (mw y_Model_mount b_Model_mount 4 (some .int)) rm_Model_mount (va_Pc [.ref (gr 0)] (kW (dC, dI) (tC cB cI) (wR gr cB cI σ))) (va_Qi (fun (x : Int32) (_ : Unit) => x = res.1) (fun _ t => kW (dC, dI) (tC cB cI) (wR gr cB cI res.2) t) A) 0 0 A := by
  refine Met.ofW (cc := b_Model_mount) (maxL := 4) (ret := (some .int)) (by decide) rfl ?_
  intro p e s m args below meth c s₁ B hml hv
  obtain ⟨rfl, hP, hK⟩ := hv
  have hx := B.exec
  have hb := B.bytes
  have hr := B.returns
  have hts := atoms_spec (ws := (mw y_Model_mount b_Model_mount 4 (some .int))) B.pre
  have htb : ∀ w ∈ tb, w.before [.ref (gr 0)].toArray s = true := fun w h => hts w (mwIn h)
  have hown : s.vm.findClass "LogFsModel" = some m.cls := findClass_of_methodNamed B.named
  have hlocks := B.notSynchronized
  have hS : va_S A s.heap s.heap [] := va_S.rf
  have hl := lv_entry ([.ref (gr 0)]) (n := 4) (Nat.le_of_ble_eq_true rfl)
  rw [lg_entry_eq]
  generalize (lg_sl ([.ref (gr 0)]) ++ List.replicate (4 - (lg_sl ([.ref (gr 0)])).length) Slot.unset).toArray = ls at hl ⊢
  have hl : lv_has ls 4 [(0, .ref (gr 0))] := hl
  have blk128 : ∀ (σ : RS) (v1 : Int32) (t1 : Int32) (ls : Array Slot) (H : Heap) (locs : List Loc), J_Model_mount_128 σ v1 t1 = some res → lv_has ls 4 [(0, .ref (gr 0)), (1, .int v1)] → va_P (dC, dI) cls (wR gr cB cI σ) H → va_S A s.heap H locs → W p l e (headSpec (mw y_Model_mount b_Model_mount 4 (some .int)) rm_Model_mount).room s m [.ref (gr 0)].toArray below meth c H locs 0 0 (MQ below (va_Qi (fun (x : Int32) (_ : Unit) => x = res.1) (fun _ t => kW (dC, dI) (tC cB cI) (wR gr cB cI res.2) t) A) [.ref (gr 0)].toArray s 0 0 A) (F0 m 128 ls [.int t1, .ref (gr 0)]) := by
    intro σ v1 t1 ls H locs hJ hl hP hS
    unfold J_Model_mount_128 at hJ
    refine va_put (D := (dC, dI)) (ci := 5) (v := .int t1) (ty := .int) (C := R_Model) (T := T_Model) (N := 12) hx hb htb uin_Model t_Model t_Model_ok n_Model hown hK hP (hDa _) hS 0 rfl rfl 0 (by decide) (htb _ tw590) (fun _ h9 => h9) rfl (by decide +kernel) rfl rfl (Nat.le_of_ble_eq_true rfl) d_Model_mount_128 (fun H locs hP _ hS => ?_)
    have hP : va_P (dC, dI) cls (wR gr cB cI (q_t σ t1)) H := hP
    refine lv_aload_n hx hb d_Model_mount_131 rfl (lv_at hl 0 rfl) ?_
    refine va_get (D := (dC, dI)) (ci := 5) (v := .int (r_f (q_t σ t1))) (C := R_Model) (T := T_Model) (N := 12) hx hb htb uin_Model hown hK hP 0 rfl rfl 9 (by decide) (htb _ tw599) (fun _ h9 => h9) rfl d_Model_mount_132 ?_
    refine lv_if_eq (tgt := 140) hx hb d_Model_mount_135 (by decide) (fun h5 => ?_) (fun h5 => ?_)
    · have hJ := j_t hJ h5
      refine lv_aload_n hx hb d_Model_mount_140 rfl (lv_at hl 0 rfl) ?_
      obtain ⟨x6, e6, hJ⟩ := j_bind hJ
      refine va_callv (va_runV (As := []) (rest := []) ⟨hx, hb, hml, hown, htb⟩ (c_Model_load (l := l) (dC := dC) (dI := dI) hDa e6) (xcV 0 htb tw589 tw7 tw586 tw588 ts_Model_load rfl rfl hd_Model_load ⟨Nat.le_of_ble_eq_true rfl, Nat.le_of_ble_eq_true rfl⟩) (kW_V hP hK (va_recv (q0 := 0) (ci := 5) hK hP rfl rfl)) rfl rfl hl.1 rfl (lv_room (Nat.le_of_ble_eq_true rfl)) d_Model_mount_141 ⟨Nat.le_of_ble_eq_true rfl, Nat.le_of_ble_eq_true rfl⟩) hS (fun q _ h => h) (fun q h => h) (fun u t H locs ht hvm hw hB _ _ hS => ?_)
      have hP := kW_P hB ht
      refine lv_iload_n hx hb d_Model_mount_144 rfl (lv_at hl 1 rfl) ?_
      have hJ := Option.some.inj hJ
      exact W.iret (v := v1) hx hb hr (fun t ht hW => ⟨⟨_, (), rfl, (j_p1 hJ), kW_end hP hK ht hW (congrArg (fun z => wR gr cB cI z) (j_p2 hJ))⟩, hS.F ht⟩) hS.2.2 d_Model_mount_145
    · have hJ := j_f hJ h5
      refine lv_iconst (v := (0 : Int32)) hx hb d_Model_mount_138 (by decide) ?_
      have hJ := Option.some.inj hJ
      exact W.iret (v := (0 : Int32)) hx hb hr (fun t ht hW => ⟨⟨_, (), rfl, (j_p1 hJ), kW_end hP hK ht hW (congrArg (fun z => wR gr cB cI z) (j_p2 hJ))⟩, hS.F ht⟩) hS.2.2 d_Model_mount_139
  have blk110 : ∀ (σ : RS) (v1 : Int32) (ls : Array Slot) (H : Heap) (locs : List Loc), J_Model_mount_110 σ v1 = some res → lv_has ls 4 [(0, .ref (gr 0)), (1, .int v1)] → va_P (dC, dI) cls (wR gr cB cI σ) H → va_S A s.heap H locs → W p l e (headSpec (mw y_Model_mount b_Model_mount 4 (some .int)) rm_Model_mount).room s m [.ref (gr 0)].toArray below meth c H locs 0 0 (MQ below (va_Qi (fun (x : Int32) (_ : Unit) => x = res.1) (fun _ t => kW (dC, dI) (tC cB cI) (wR gr cB cI res.2) t) A) [.ref (gr 0)].toArray s 0 0 A) (F0 m 110 ls []) := by
    intro σ v1 ls H locs hJ hl hP hS
    unfold J_Model_mount_110 at hJ
    refine lv_aload_n hx hb d_Model_mount_110 rfl (lv_at hl 0 rfl) ?_
    refine lv_iconst (v := (0 : Int32)) hx hb d_Model_mount_111 (by decide) ?_
    refine va_put (D := (dC, dI)) (ci := 5) (v := .int (0 : Int32)) (ty := .int) (C := R_Model) (T := T_Model) (N := 12) hx hb htb uin_Model t_Model t_Model_ok n_Model hown hK hP (hDa _) hS 0 rfl rfl 4 (by decide) (htb _ tw594) (fun _ h9 => h9) rfl (by decide +kernel) rfl rfl (Nat.le_of_ble_eq_true rfl) d_Model_mount_112 (fun H locs hP _ hS => ?_)
    have hP : va_P (dC, dI) cls (wR gr cB cI (q_n σ (0 : Int32))) H := hP
    refine lv_aload_n hx hb d_Model_mount_115 rfl (lv_at hl 0 rfl) ?_
    refine lv_aload_n hx hb d_Model_mount_116 rfl (lv_at hl 0 rfl) ?_
    refine va_get (D := (dC, dI)) (ci := 5) (v := .int (r_f (q_n σ (0 : Int32)))) (C := R_Model) (T := T_Model) (N := 12) hx hb htb uin_Model hown hK hP 0 rfl rfl 9 (by decide) (htb _ tw599) (fun _ h9 => h9) rfl d_Model_mount_117 ?_
    refine lv_if_eq (tgt := 127) hx hb d_Model_mount_120 (by decide) (fun h4 => ?_) (fun h4 => ?_)
    · have hJ := j_t hJ h4
      refine lv_iconst (v := (0 : Int32)) hx hb d_Model_mount_127 (by decide) ?_
      exact blk128 _ _ _ _ _ _ hJ (lv_sub hl [0, 1] rfl) hP hS
    · have hJ := j_f hJ h4
      refine lv_iconst (v := (1 : Int32)) hx hb d_Model_mount_123 (by decide) ?_
      refine lv_goto (tgt := 128) hx hb d_Model_mount_124 (by decide) ?_
      exact blk128 _ _ _ _ _ _ hJ (lv_sub hl [0, 1] rfl) hP hS
  have blk89 : ∀ (σ : RS) (v1 : Int32) (ls : Array Slot) (H : Heap) (locs : List Loc), J_Model_mount_89 σ v1 = some res → lv_has ls 4 [(0, .ref (gr 0)), (1, .int v1)] → va_P (dC, dI) cls (wR gr cB cI σ) H → va_S A s.heap H locs → W p l e (headSpec (mw y_Model_mount b_Model_mount 4 (some .int)) rm_Model_mount).room s m [.ref (gr 0)].toArray below meth c H locs 0 0 (MQ below (va_Qi (fun (x : Int32) (_ : Unit) => x = res.1) (fun _ t => kW (dC, dI) (tC cB cI) (wR gr cB cI res.2) t) A) [.ref (gr 0)].toArray s 0 0 A) (F0 m 89 ls []) := by
    intro σ v1 ls H locs hJ hl hP hS
    unfold J_Model_mount_89 at hJ
    refine lv_iload_n hx hb d_Model_mount_89 rfl (lv_at hl 1 rfl) ?_
    refine lv_if_le (tgt := 110) hx hb d_Model_mount_90 (by decide) (fun h3 => ?_) (fun h3 => ?_)
    · have hJ := j_t hJ h3
      exact blk110 _ _ _ _ _ hJ (lv_sub hl [0, 1] rfl) hP hS
    · have hJ := j_f hJ h3
      refine lv_aload_n hx hb d_Model_mount_93 rfl (lv_at hl 0 rfl) ?_
      refine va_get (D := (dC, dI)) (ci := 5) (v := .int (r_f σ)) (C := R_Model) (T := T_Model) (N := 12) hx hb htb uin_Model hown hK hP 0 rfl rfl 9 (by decide) (htb _ tw599) (fun _ h9 => h9) rfl d_Model_mount_94 ?_
      refine lv_if_ne (tgt := 110) hx hb d_Model_mount_97 (by decide) (fun h7 => ?_) (fun h7 => ?_)
      · have hJ := j_f hJ h7
        exact blk110 _ _ _ _ _ hJ (lv_sub hl [0, 1] rfl) hP hS
      · have hJ := j_t hJ h7
        refine lv_aload_n hx hb d_Model_mount_100 rfl (lv_at hl 0 rfl) ?_
        refine lv_iconst (v := (0 : Int32)) hx hb d_Model_mount_101 (by decide) ?_
        obtain ⟨x8, e8, hJ⟩ := j_bind hJ
        refine va_callv (va_runV (As := [.int (0 : Int32)]) (rest := []) ⟨hx, hb, hml, hown, htb⟩ (c_Model_head (l := l) (dC := dC) (dI := dI) hDa e8) (xcV 1 htb tw654 tw7 tw651 tw653 ts_Model_head rfl rfl hd_Model_head ⟨Nat.le_of_ble_eq_true rfl, Nat.le_of_ble_eq_true rfl⟩) (kW_V hP hK (va_recv (q0 := 0) (ci := 5) hK hP rfl rfl)) rfl rfl hl.1 rfl (lv_room (Nat.le_of_ble_eq_true rfl)) d_Model_mount_102 ⟨Nat.le_of_ble_eq_true rfl, Nat.le_of_ble_eq_true rfl⟩) hS (fun q _ h => h) (fun q h => h) (fun u t H locs ht hvm hw hB _ _ hS => ?_)
        have hP := kW_P hB ht
        refine lv_aload_n hx hb d_Model_mount_105 rfl (lv_at hl 0 rfl) ?_
        refine lv_iconst (v := (1 : Int32)) hx hb d_Model_mount_106 (by decide) ?_
        obtain ⟨x9, e9, hJ⟩ := j_bind hJ
        refine va_callv (va_runV (As := [.int (1 : Int32)]) (rest := []) ⟨hx, hb, hml, hown, htb⟩ (c_Model_put (l := l) (dC := dC) (dI := dI) hDa e9) (xcV 1 htb tw650 tw7 tw647 tw649 ts_Model_put rfl rfl hd_Model_put ⟨Nat.le_of_ble_eq_true rfl, Nat.le_of_ble_eq_true rfl⟩) (kW_V hP hK (va_recv (q0 := 0) (ci := 5) hK hP rfl rfl)) rfl rfl hl.1 rfl (lv_room (Nat.le_of_ble_eq_true rfl)) d_Model_mount_107 ⟨Nat.le_of_ble_eq_true rfl, Nat.le_of_ble_eq_true rfl⟩) hS (fun q _ h => h) (fun q h => h) (fun u t H locs ht hvm hw hB _ _ hS => ?_)
        have hP := kW_P hB ht
        exact blk110 _ _ _ _ _ hJ (lv_sub hl [0, 1] rfl) hP hS
  have blk39 : ∀ (n : Nat) (σ : RS) (v1 : Int32) (v2 : Int32) (v3 : Int32) (ls : Array Slot) (H : Heap) (locs : List Loc) (x : Int32 × Int32 × RS), J_Model_mount_39 n σ v1 v2 v3 = some x → (∀ (ls : Array Slot) (H : Heap) (locs : List Loc), lv_has ls 4 [(0, .ref (gr 0)), (1, .int x.1), (2, .int x.2.1)] → va_P (dC, dI) cls (wR gr cB cI x.2.2) H → va_S A s.heap H locs → W p l e (headSpec (mw y_Model_mount b_Model_mount 4 (some .int)) rm_Model_mount).room s m [.ref (gr 0)].toArray below meth c H locs 0 0 (MQ below (va_Qi (fun (x : Int32) (_ : Unit) => x = res.1) (fun _ t => kW (dC, dI) (tC cB cI) (wR gr cB cI res.2) t) A) [.ref (gr 0)].toArray s 0 0 A) (F0 m 70 ls [])) → lv_has ls 4 [(0, .ref (gr 0)), (1, .int v1), (2, .int v2), (3, .int v3)] → va_P (dC, dI) cls (wR gr cB cI σ) H → va_S A s.heap H locs → W p l e (headSpec (mw y_Model_mount b_Model_mount 4 (some .int)) rm_Model_mount).room s m [.ref (gr 0)].toArray below meth c H locs 0 0 (MQ below (va_Qi (fun (x : Int32) (_ : Unit) => x = res.1) (fun _ t => kW (dC, dI) (tC cB cI) (wR gr cB cI res.2) t) A) [.ref (gr 0)].toArray s 0 0 A) (F0 m 39 ls []) := by
    intro n
    induction n with
    | zero => intro σ v1 v2 v3 ls H locs x hJ; exact j_none hJ
    | succ n hk0 =>
      intro σ v1 v2 v3 ls H locs x hJ hc hl hP hS
      have hk := fun σ9 v19 v29 v39 ls9 H9 locs9 hJ hl hP hS => hk0 σ9 v19 v29 v39 ls9 H9 locs9 x hJ hc hl hP hS
      have hJ : J_Model_mount_39_b (J_Model_mount_39 n) σ v1 v2 v3 = some x := hJ
      unfold J_Model_mount_39_b at hJ
      refine lv_iload_n hx hb d_Model_mount_39 rfl (lv_at hl 3 rfl) ?_
      refine lv_bipush (v := (64 : Int32)) hx hb d_Model_mount_40 (by decide) ?_
      refine lv_icmp_ge (tgt := 70) hx hb d_Model_mount_42 (by decide) (fun h11 => ?_) (fun h11 => ?_)
      · have hJ := j_t hJ h11
        obtain rfl := Option.some.inj hJ
        exact hc _ _ _ (lv_sub hl [0, 1, 2] rfl) hP hS
      · have hJ := j_f hJ h11
        refine lv_aload_n hx hb d_Model_mount_45 rfl (lv_at hl 0 rfl) ?_
        refine va_get (D := (dC, dI)) (ci := 5) (v := .ref (gr 5)) (C := R_Model) (T := T_Model) (N := 12) hx hb htb uin_Model hown hK hP 0 rfl rfl 11 (by decide) (htb _ tw601) (fun _ h9 => h9) rfl d_Model_mount_46 ?_
        refine lv_iload_n hx hb d_Model_mount_49 rfl (lv_at hl 3 rfl) ?_
        refine lv_aload_n hx hb d_Model_mount_50 rfl (lv_at hl 0 rfl) ?_
        refine va_get (D := (dC, dI)) (ci := 5) (v := .ref (gr 1)) (C := R_Model) (T := T_Model) (N := 12) hx hb htb uin_Model hown hK hP 0 rfl rfl 1 (by decide) (htb _ tw591) (fun _ h9 => h9) rfl d_Model_mount_51 ?_
        refine lv_bipush (v := (64 : Int32)) hx hb d_Model_mount_54 (by decide) ?_
        refine lv_iconst (v := (2 : Int32)) hx hb d_Model_mount_56 (by decide) ?_
        refine lv_iload_n hx hb d_Model_mount_57 rfl (lv_at hl 2 rfl) ?_
        refine lv_iadd hx hb d_Model_mount_58 ?_
        refine lv_imul hx hb d_Model_mount_59 ?_
        refine lv_iload_n hx hb d_Model_mount_60 rfl (lv_at hl 3 rfl) ?_
        refine lv_iadd hx hb d_Model_mount_61 ?_
        obtain ⟨h12, hJ⟩ := j_g hJ
        refine va_bald hx hb hK hP 1 0 rfl rfl (j_in h12) d_Model_mount_62 ?_
        obtain ⟨h13, hJ⟩ := j_g hJ
        refine va_bast hx hb hK hP (hDa _) hS 5 0 rfl rfl (j_in h13) d_Model_mount_63 (fun H locs hP _ hS => ?_)
        rw [by_upd] at hP
        have hP : va_P (dC, dI) cls (wR gr cB cI (q_G σ (va_up (r_G σ) v3.toNatClampNeg ((r_D σ) (((64 : Int32) * ((2 : Int32) + v2)) + v3).toNatClampNeg).toInt32.toInt8))) H := hP
        refine lv_iinc (k := 3) (v := (v3 + (1 : Int32))) hx hb d_Model_mount_64 hl rfl rfl (Nat.le_of_ble_eq_true rfl) rfl (fun ls hl => ?_)
        have hl : lv_has ls 4 [(3, .int (v3 + (1 : Int32))), (0, .ref (gr 0)), (1, .int v1), (2, .int v2)] := hl
        refine lv_goto (tgt := 39) hx hb d_Model_mount_67 (by decide) ?_
        exact hk _ _ _ _ _ _ _ hJ (lv_sub hl [1, 2, 3, 0] rfl) hP hS
  have blk25 : ∀ (n : Nat) (σ : RS) (v1 : Int32) (v2 : Int32) (ls : Array Slot) (H : Heap) (locs : List Loc), J_Model_mount_25 n σ v1 v2 = some res → lv_has ls 4 [(0, .ref (gr 0)), (1, .int v1), (2, .int v2)] → va_P (dC, dI) cls (wR gr cB cI σ) H → va_S A s.heap H locs → W p l e (headSpec (mw y_Model_mount b_Model_mount 4 (some .int)) rm_Model_mount).room s m [.ref (gr 0)].toArray below meth c H locs 0 0 (MQ below (va_Qi (fun (x : Int32) (_ : Unit) => x = res.1) (fun _ t => kW (dC, dI) (tC cB cI) (wR gr cB cI res.2) t) A) [.ref (gr 0)].toArray s 0 0 A) (F0 m 25 ls []) := by
    intro n
    induction n with
    | zero => intro σ v1 v2 ls H locs hJ; exact j_none hJ
    | succ n hk =>
      intro σ v1 v2 ls H locs hJ hl hP hS
      have hJ : J_Model_mount_25_b (J_Model_mount_25 n) σ v1 v2 = some res := hJ
      unfold J_Model_mount_25_b at hJ
      refine lv_iload_n hx hb d_Model_mount_25 rfl (lv_at hl 2 rfl) ?_
      refine lv_iload_n hx hb d_Model_mount_26 rfl (lv_at hl 1 rfl) ?_
      refine lv_icmp_ge (tgt := 89) hx hb d_Model_mount_27 (by decide) (fun h2 => ?_) (fun h2 => ?_)
      · have hJ := j_t hJ h2
        exact blk89 _ _ _ _ _ hJ (lv_sub hl [0, 1] rfl) hP hS
      · have hJ := j_f hJ h2
        refine lv_aload_n hx hb d_Model_mount_30 rfl (lv_at hl 0 rfl) ?_
        refine va_get (D := (dC, dI)) (ci := 5) (v := .int (r_f σ)) (C := R_Model) (T := T_Model) (N := 12) hx hb htb uin_Model hown hK hP 0 rfl rfl 9 (by decide) (htb _ tw599) (fun _ h9 => h9) rfl d_Model_mount_31 ?_
        refine lv_if_ne (tgt := 89) hx hb d_Model_mount_34 (by decide) (fun h10 => ?_) (fun h10 => ?_)
        · have hJ := j_f hJ h10
          exact blk89 _ _ _ _ _ hJ (lv_sub hl [0, 1] rfl) hP hS
        · have hJ := j_t hJ h10
          refine lv_iconst (v := (0 : Int32)) hx hb d_Model_mount_37 (by decide) ?_
          refine lv_istore_n hx hb d_Model_mount_38 rfl hl (Nat.le_of_ble_eq_true rfl) rfl (fun ls hl => ?_)
          have hl : lv_has ls 4 [(3, .int (0 : Int32)), (0, .ref (gr 0)), (1, .int v1), (2, .int v2)] := hl
          obtain ⟨x14, e14, hJ⟩ := j_bind hJ
          refine blk39 9000 _ _ _ _ _ _ _ _ e14 (fun ls H locs hl hP hS => ?_) (lv_sub hl [1, 2, 3, 0] rfl) hP hS
          refine lv_aload_n hx hb d_Model_mount_70 rfl (lv_at hl 0 rfl) ?_
          refine lv_aload_n hx hb d_Model_mount_71 rfl (lv_at hl 0 rfl) ?_
          refine va_get (D := (dC, dI)) (ci := 5) (v := .ref (gr 1)) (C := R_Model) (T := T_Model) (N := 12) hx hb htb uin_Model hown hK hP 0 rfl rfl 1 (by decide) (htb _ tw591) (fun _ h9 => h9) rfl d_Model_mount_72 ?_
          refine lv_bipush (v := (65 : Int32)) hx hb d_Model_mount_75 (by decide) ?_
          refine lv_iload_n hx hb d_Model_mount_77 rfl (lv_at hl 2 rfl) ?_
          refine lv_iadd hx hb d_Model_mount_78 ?_
          obtain ⟨h15, hJ⟩ := j_g hJ
          refine va_bald hx hb hK hP 1 0 rfl rfl (j_in h15) d_Model_mount_79 ?_
          obtain ⟨x16, e16, hJ⟩ := j_bind hJ
          refine va_callv (va_runV (As := [.int ((r_D x14.2.2) ((65 : Int32) + x14.2.1).toNatClampNeg).toInt32]) (rest := []) ⟨hx, hb, hml, hown, htb⟩ (c_Model_put (l := l) (dC := dC) (dI := dI) hDa e16) (xcV 1 htb tw650 tw7 tw647 tw649 ts_Model_put rfl rfl hd_Model_put ⟨Nat.le_of_ble_eq_true rfl, Nat.le_of_ble_eq_true rfl⟩) (kW_V hP hK (va_recv (q0 := 0) (ci := 5) hK hP rfl rfl)) rfl rfl hl.1 rfl (lv_room (Nat.le_of_ble_eq_true rfl)) d_Model_mount_80 ⟨Nat.le_of_ble_eq_true rfl, Nat.le_of_ble_eq_true rfl⟩) hS (fun q _ h => h) (fun q h => h) (fun u t H locs ht hvm hw hB _ _ hS => ?_)
          have hP := kW_P hB ht
          refine lv_iinc (k := 2) (v := (x14.2.1 + (1 : Int32))) hx hb d_Model_mount_83 hl rfl rfl (Nat.le_of_ble_eq_true rfl) rfl (fun ls hl => ?_)
          have hl : lv_has ls 4 [(2, .int (x14.2.1 + (1 : Int32))), (0, .ref (gr 0)), (1, .int x14.1)] := hl
          refine lv_goto (tgt := 25) hx hb d_Model_mount_86 (by decide) ?_
          exact hk _ _ _ _ _ _ hJ (lv_sub hl [1, 2, 0] rfl) hP hS
  unfold J_Model_mount at hJ
  refine lv_aload_n hx hb d_Model_mount_0 rfl (lv_at hl 0 rfl) ?_
  refine lv_iconst (v := (0 : Int32)) hx hb d_Model_mount_1 (by decide) ?_
  refine va_put (D := (dC, dI)) (ci := 5) (v := .int (0 : Int32)) (ty := .boolean) (C := R_Model) (T := T_Model) (N := 12) hx hb htb uin_Model t_Model t_Model_ok n_Model hown hK hP (hDa _) hS 0 rfl rfl 8 (by decide) (htb _ tw598) (fun _ h9 => h9) rfl (by decide +kernel) (by decide +kernel) (by decide +kernel) (Nat.le_of_ble_eq_true rfl) d_Model_mount_2 (fun H locs hP _ hS => ?_)
  have hP : va_P (dC, dI) cls (wR gr cB cI (q_o σ (0 : Int32))) H := hP
  refine lv_aload_n hx hb d_Model_mount_5 rfl (lv_at hl 0 rfl) ?_
  refine lv_iconst (v := (0 : Int32)) hx hb d_Model_mount_6 (by decide) ?_
  refine va_put (D := (dC, dI)) (ci := 5) (v := .int (0 : Int32)) (ty := .boolean) (C := R_Model) (T := T_Model) (N := 12) hx hb htb uin_Model t_Model t_Model_ok n_Model hown hK hP (hDa _) hS 0 rfl rfl 9 (by decide) (htb _ tw599) (fun _ h9 => h9) rfl (by decide +kernel) (by decide +kernel) (by decide +kernel) (Nat.le_of_ble_eq_true rfl) d_Model_mount_7 (fun H locs hP _ hS => ?_)
  have hP : va_P (dC, dI) cls (wR gr cB cI (q_f (q_o σ (0 : Int32)) (0 : Int32))) H := hP
  refine lv_aload_n hx hb d_Model_mount_10 rfl (lv_at hl 0 rfl) ?_
  refine lv_iconst (v := (0 : Int32)) hx hb d_Model_mount_11 (by decide) ?_
  refine va_put (D := (dC, dI)) (ci := 5) (v := .int (0 : Int32)) (ty := .int) (C := R_Model) (T := T_Model) (N := 12) hx hb htb uin_Model t_Model t_Model_ok n_Model hown hK hP (hDa _) hS 0 rfl rfl 0 (by decide) (htb _ tw590) (fun _ h9 => h9) rfl (by decide +kernel) rfl rfl (Nat.le_of_ble_eq_true rfl) d_Model_mount_12 (fun H locs hP _ hS => ?_)
  have hP : va_P (dC, dI) cls (wR gr cB cI (q_t (q_f (q_o σ (0 : Int32)) (0 : Int32)) (0 : Int32))) H := hP
  refine lv_aload_n hx hb d_Model_mount_15 rfl (lv_at hl 0 rfl) ?_
  refine va_get (D := (dC, dI)) (ci := 5) (v := .ref (gr 1)) (C := R_Model) (T := T_Model) (N := 12) hx hb htb uin_Model hown hK hP 0 rfl rfl 1 (by decide) (htb _ tw591) (fun _ h9 => h9) rfl d_Model_mount_16 ?_
  refine lv_bipush (v := (64 : Int32)) hx hb d_Model_mount_19 (by decide) ?_
  obtain ⟨h1, hJ⟩ := j_g hJ
  refine va_bald hx hb hK hP 1 0 rfl rfl (j_in h1) d_Model_mount_21 ?_
  refine lv_istore_n hx hb d_Model_mount_22 rfl hl (Nat.le_of_ble_eq_true rfl) rfl (fun ls hl => ?_)
  have hl : lv_has ls 4 [(1, .int ((r_D (q_t (q_f (q_o σ (0 : Int32)) (0 : Int32)) (0 : Int32))) (64 : Int32).toNatClampNeg).toInt32), (0, .ref (gr 0))] := hl
  refine lv_iconst (v := (0 : Int32)) hx hb d_Model_mount_23 (by decide) ?_
  refine lv_istore_n hx hb d_Model_mount_24 rfl hl (Nat.le_of_ble_eq_true rfl) rfl (fun ls hl => ?_)
  have hl : lv_has ls 4 [(2, .int (0 : Int32)), (1, .int ((r_D (q_t (q_f (q_o σ (0 : Int32)) (0 : Int32)) (0 : Int32))) (64 : Int32).toNatClampNeg).toInt32), (0, .ref (gr 0))] := hl
  exact blk25 9000 _ _ _ _ _ _ hJ (lv_sub hl [2, 1, 0] rfl) hP hS
def J_Model_isName_85 (k : RS → Int64 → Int32 → Int32 → Int32 → Option (Int32 × RS)) (σ : RS) (v1 : Int64) (v4 : Int32) (v5 : Int32) (v6 : Int32) (t0 : Int32) : Option (Int32 × RS) :=
  (if jin v5 8 = true then k (q_N σ (va_up (r_N σ) v5.toNatClampNeg v6.toInt8.toInt32.toInt8)) v1 t0 v4 (v5 + (1 : Int32)) else none)
def J_Model_isName_84 (k : RS → Int64 → Int32 → Int32 → Int32 → Option (Int32 × RS)) (σ : RS) (v1 : Int64) (v4 : Int32) (v5 : Int32) (v6 : Int32) : Option (Int32 × RS) :=
  J_Model_isName_85 k σ v1 v4 v5 v6 (0 : Int32)
def J_Model_isName_80 (k : RS → Int64 → Int32 → Int32 → Int32 → Option (Int32 × RS)) (σ : RS) (v1 : Int64) (v4 : Int32) (v5 : Int32) (v6 : Int32) : Option (Int32 × RS) :=
  J_Model_isName_85 k σ v1 v4 v5 v6 (1 : Int32)
def J_Model_isName_47 (k : RS → Int64 → Int32 → Int32 → Int32 → Option (Int32 × RS)) (σ : RS) (v1 : Int64) (v3 : Int32) (v5 : Int32) (v6 : Int32) (t0 : Int32) : Option (Int32 × RS) :=
  (if v3 = (0 : Int32) then J_Model_isName_84 k σ v1 t0 v5 v6 else (if t0 = (0 : Int32) then (if v6 < (33 : Int32) then J_Model_isName_84 k σ v1 t0 v5 v6 else (if (126 : Int32) < v6 then J_Model_isName_84 k σ v1 t0 v5 v6 else J_Model_isName_80 k σ v1 t0 v5 v6)) else (if v6 = (0 : Int32) then J_Model_isName_80 k σ v1 t0 v5 v6 else J_Model_isName_84 k σ v1 t0 v5 v6)))
def J_Model_isName_42 (k : RS → Int64 → Int32 → Int32 → Int32 → Option (Int32 × RS)) (σ : RS) (v1 : Int64) (v3 : Int32) (v5 : Int32) (v6 : Int32) : Option (Int32 × RS) :=
  J_Model_isName_47 k σ v1 v3 v5 v6 (1 : Int32)
def J_Model_isName_8_b (k : RS → Int64 → Int32 → Int32 → Int32 → Option (Int32 × RS)) (σ : RS) (v1 : Int64) (v3 : Int32) (v4 : Int32) (v5 : Int32) : Option (Int32 × RS) :=
  (if (8 : Int32) ≤ v5 then (if v3 = (0 : Int32) then some ((0 : Int32), σ) else (if jin (0 : Int32) 8 = true then (if ((r_N σ) (0 : Int32).toNatClampNeg).toInt32 = (0 : Int32) then some ((0 : Int32), σ) else (if v4 = (0 : Int32) then some ((0 : Int32), σ) else some ((1 : Int32), σ))) else none)) else (if v4 = (0 : Int32) then (if ((v1 >>> (((56 : Int32) - ((8 : Int32) * v5)).toInt64 &&& 63)) &&& (255 : Int64)).toInt32 = (0 : Int32) then J_Model_isName_42 k σ v1 v3 v5 ((v1 >>> (((56 : Int32) - ((8 : Int32) * v5)).toInt64 &&& 63)) &&& (255 : Int64)).toInt32 else J_Model_isName_47 k σ v1 v3 v5 ((v1 >>> (((56 : Int32) - ((8 : Int32) * v5)).toInt64 &&& 63)) &&& (255 : Int64)).toInt32 (0 : Int32)) else J_Model_isName_42 k σ v1 v3 v5 ((v1 >>> (((56 : Int32) - ((8 : Int32) * v5)).toInt64 &&& 63)) &&& (255 : Int64)).toInt32))
def J_Model_isName_8 : Nat → RS → Int64 → Int32 → Int32 → Int32 → Option (Int32 × RS)
  | 0, _, _, _, _, _ => none
  | n + 1, σ, v1, v3, v4, v5 => J_Model_isName_8_b (J_Model_isName_8 n) σ v1 v3 v4 v5
def J_Model_isName (σ : RS) (a1 : Int64) : Option (Int32 × RS) :=
  J_Model_isName_8 9000 σ a1 (1 : Int32) (0 : Int32) (0 : Int32)
abbrev rm_Model_isName : Room := { frames := 0, cells := 0, slots := 0, locals := 0 }
set_option maxHeartbeats 4000000 in
set_option maxRecDepth 100000 in
theorem c_Model_isName {l : Launch} {dC : Nat → ClassId} {dI : Nat → Nat → Nat} {gr : Nat → Nat} {cB cI : ClassId} {A : Nat → Prop} (hDa : ∀ σ, va_D A (wR gr cB cI σ)) {σ : RS} {a1 : Int64} {res : Int32 × RS} (hJ : J_Model_isName σ a1 = some res) :
    Met l y_Model_isName (mw y_Model_isName b_Model_isName 7 (some .boolean)) rm_Model_isName (va_Pc [.ref (gr 0), .long a1] (kW (dC, dI) (tC cB cI) (wR gr cB cI σ))) (va_Qi (fun (x : Int32) (_ : Unit) => x = res.1) (fun _ t => kW (dC, dI) (tC cB cI) (wR gr cB cI res.2) t) A) 0 0 A := by
  refine Met.ofW (cc := b_Model_isName) (maxL := 7) (ret := (some .boolean)) (by decide) rfl ?_
  intro p e s m args below meth c s₁ B hml hv
  obtain ⟨rfl, hP, hK⟩ := hv
  have hx := B.exec
  have hb := B.bytes
  have hr := B.returns
  have hts := atoms_spec (ws := (mw y_Model_isName b_Model_isName 7 (some .boolean))) B.pre
  have htb : ∀ w ∈ tb, w.before [.ref (gr 0), .long a1].toArray s = true := fun w h => hts w (mwIn h)
  have hown : s.vm.findClass "LogFsModel" = some m.cls := findClass_of_methodNamed B.named
  have hlocks := B.notSynchronized
  have hS : va_S A s.heap s.heap [] := va_S.rf
  have hl := lv_entry ([.ref (gr 0), .long a1]) (n := 7) (Nat.le_of_ble_eq_true rfl)
  rw [lg_entry_eq]
  generalize (lg_sl ([.ref (gr 0), .long a1]) ++ List.replicate (7 - (lg_sl ([.ref (gr 0), .long a1])).length) Slot.unset).toArray = ls at hl ⊢
  have hl : lv_has ls 7 [(0, .ref (gr 0)), (1, .long a1)] := hl
  have blk85 : ∀ (k : RS → Int64 → Int32 → Int32 → Int32 → Option (Int32 × RS)) (hk : ∀ (σ : RS) (v1 : Int64) (v3 : Int32) (v4 : Int32) (v5 : Int32) (ls : Array Slot) (H : Heap) (locs : List Loc), k σ v1 v3 v4 v5 = some res → lv_has ls 7 [(0, .ref (gr 0)), (1, .long v1), (3, .int v3), (4, .int v4), (5, .int v5)] → va_P (dC, dI) cls (wR gr cB cI σ) H → va_S A s.heap H locs → W p l e (headSpec (mw y_Model_isName b_Model_isName 7 (some .boolean)) rm_Model_isName).room s m [.ref (gr 0), .long a1].toArray below meth c H locs 0 0 (MQ below (va_Qi (fun (x : Int32) (_ : Unit) => x = res.1) (fun _ t => kW (dC, dI) (tC cB cI) (wR gr cB cI res.2) t) A) [.ref (gr 0), .long a1].toArray s 0 0 A) (F0 m 8 ls [])) (σ : RS) (v1 : Int64) (v4 : Int32) (v5 : Int32) (v6 : Int32) (t0 : Int32) (ls : Array Slot) (H : Heap) (locs : List Loc), J_Model_isName_85 k σ v1 v4 v5 v6 t0 = some res → lv_has ls 7 [(0, .ref (gr 0)), (1, .long v1), (4, .int v4), (5, .int v5), (6, .int v6)] → va_P (dC, dI) cls (wR gr cB cI σ) H → va_S A s.heap H locs → W p l e (headSpec (mw y_Model_isName b_Model_isName 7 (some .boolean)) rm_Model_isName).room s m [.ref (gr 0), .long a1].toArray below meth c H locs 0 0 (MQ below (va_Qi (fun (x : Int32) (_ : Unit) => x = res.1) (fun _ t => kW (dC, dI) (tC cB cI) (wR gr cB cI res.2) t) A) [.ref (gr 0), .long a1].toArray s 0 0 A) (F0 m 85 ls [.int t0]) := by
    intro k hk σ v1 v4 v5 v6 t0 ls H locs hJ hl hP hS
    unfold J_Model_isName_85 at hJ
    refine lv_istore_n hx hb d_Model_isName_85 rfl hl (Nat.le_of_ble_eq_true rfl) rfl (fun ls hl => ?_)
    have hl : lv_has ls 7 [(3, .int t0), (0, .ref (gr 0)), (1, .long v1), (4, .int v4), (5, .int v5), (6, .int v6)] := hl
    refine lv_aload_n hx hb d_Model_isName_86 rfl (lv_at hl 1 rfl) ?_
    refine va_get (D := (dC, dI)) (ci := 5) (v := .ref (gr 4)) (C := R_Model) (T := T_Model) (N := 12) hx hb htb uin_Model hown hK hP 0 rfl rfl 10 (by decide) (htb _ tw600) (fun _ h9 => h9) rfl d_Model_isName_87 ?_
    refine lv_iload hx hb d_Model_isName_90 (lv_at hl 4 rfl) ?_
    refine lv_iload hx hb d_Model_isName_92 (lv_at hl 5 rfl) ?_
    refine lv_i2b hx hb d_Model_isName_94 rfl ?_
    obtain ⟨h8, hJ⟩ := j_g hJ
    refine va_bast hx hb hK hP (hDa _) hS 4 0 rfl rfl (j_in h8) d_Model_isName_95 (fun H locs hP _ hS => ?_)
    rw [by_upd] at hP
    have hP : va_P (dC, dI) cls (wR gr cB cI (q_N σ (va_up (r_N σ) v5.toNatClampNeg v6.toInt8.toInt32.toInt8))) H := hP
    refine lv_iinc (k := 4) (v := (v5 + (1 : Int32))) hx hb d_Model_isName_96 hl rfl rfl (Nat.le_of_ble_eq_true rfl) rfl (fun ls hl => ?_)
    have hl : lv_has ls 7 [(5, .int (v5 + (1 : Int32))), (3, .int t0), (0, .ref (gr 0)), (1, .long v1), (4, .int v4), (6, .int v6)] := hl
    refine lv_goto (tgt := 8) hx hb d_Model_isName_99 (by decide) ?_
    exact hk _ _ _ _ _ _ _ _ hJ (lv_sub hl [2, 3, 1, 4, 0] rfl) hP hS
  have blk84 : ∀ (k : RS → Int64 → Int32 → Int32 → Int32 → Option (Int32 × RS)) (hk : ∀ (σ : RS) (v1 : Int64) (v3 : Int32) (v4 : Int32) (v5 : Int32) (ls : Array Slot) (H : Heap) (locs : List Loc), k σ v1 v3 v4 v5 = some res → lv_has ls 7 [(0, .ref (gr 0)), (1, .long v1), (3, .int v3), (4, .int v4), (5, .int v5)] → va_P (dC, dI) cls (wR gr cB cI σ) H → va_S A s.heap H locs → W p l e (headSpec (mw y_Model_isName b_Model_isName 7 (some .boolean)) rm_Model_isName).room s m [.ref (gr 0), .long a1].toArray below meth c H locs 0 0 (MQ below (va_Qi (fun (x : Int32) (_ : Unit) => x = res.1) (fun _ t => kW (dC, dI) (tC cB cI) (wR gr cB cI res.2) t) A) [.ref (gr 0), .long a1].toArray s 0 0 A) (F0 m 8 ls [])) (σ : RS) (v1 : Int64) (v4 : Int32) (v5 : Int32) (v6 : Int32) (ls : Array Slot) (H : Heap) (locs : List Loc), J_Model_isName_84 k σ v1 v4 v5 v6 = some res → lv_has ls 7 [(0, .ref (gr 0)), (1, .long v1), (4, .int v4), (5, .int v5), (6, .int v6)] → va_P (dC, dI) cls (wR gr cB cI σ) H → va_S A s.heap H locs → W p l e (headSpec (mw y_Model_isName b_Model_isName 7 (some .boolean)) rm_Model_isName).room s m [.ref (gr 0), .long a1].toArray below meth c H locs 0 0 (MQ below (va_Qi (fun (x : Int32) (_ : Unit) => x = res.1) (fun _ t => kW (dC, dI) (tC cB cI) (wR gr cB cI res.2) t) A) [.ref (gr 0), .long a1].toArray s 0 0 A) (F0 m 84 ls []) := by
    intro k hk σ v1 v4 v5 v6 ls H locs hJ hl hP hS
    unfold J_Model_isName_84 at hJ
    refine lv_iconst (v := (0 : Int32)) hx hb d_Model_isName_84 (by decide) ?_
    exact blk85 _ hk _ _ _ _ _ _ _ _ _ hJ (lv_sub hl [0, 1, 2, 3, 4] rfl) hP hS
  have blk80 : ∀ (k : RS → Int64 → Int32 → Int32 → Int32 → Option (Int32 × RS)) (hk : ∀ (σ : RS) (v1 : Int64) (v3 : Int32) (v4 : Int32) (v5 : Int32) (ls : Array Slot) (H : Heap) (locs : List Loc), k σ v1 v3 v4 v5 = some res → lv_has ls 7 [(0, .ref (gr 0)), (1, .long v1), (3, .int v3), (4, .int v4), (5, .int v5)] → va_P (dC, dI) cls (wR gr cB cI σ) H → va_S A s.heap H locs → W p l e (headSpec (mw y_Model_isName b_Model_isName 7 (some .boolean)) rm_Model_isName).room s m [.ref (gr 0), .long a1].toArray below meth c H locs 0 0 (MQ below (va_Qi (fun (x : Int32) (_ : Unit) => x = res.1) (fun _ t => kW (dC, dI) (tC cB cI) (wR gr cB cI res.2) t) A) [.ref (gr 0), .long a1].toArray s 0 0 A) (F0 m 8 ls [])) (σ : RS) (v1 : Int64) (v4 : Int32) (v5 : Int32) (v6 : Int32) (ls : Array Slot) (H : Heap) (locs : List Loc), J_Model_isName_80 k σ v1 v4 v5 v6 = some res → lv_has ls 7 [(0, .ref (gr 0)), (1, .long v1), (4, .int v4), (5, .int v5), (6, .int v6)] → va_P (dC, dI) cls (wR gr cB cI σ) H → va_S A s.heap H locs → W p l e (headSpec (mw y_Model_isName b_Model_isName 7 (some .boolean)) rm_Model_isName).room s m [.ref (gr 0), .long a1].toArray below meth c H locs 0 0 (MQ below (va_Qi (fun (x : Int32) (_ : Unit) => x = res.1) (fun _ t => kW (dC, dI) (tC cB cI) (wR gr cB cI res.2) t) A) [.ref (gr 0), .long a1].toArray s 0 0 A) (F0 m 80 ls []) := by
    intro k hk σ v1 v4 v5 v6 ls H locs hJ hl hP hS
    unfold J_Model_isName_80 at hJ
    refine lv_iconst (v := (1 : Int32)) hx hb d_Model_isName_80 (by decide) ?_
    refine lv_goto (tgt := 85) hx hb d_Model_isName_81 (by decide) ?_
    exact blk85 _ hk _ _ _ _ _ _ _ _ _ hJ (lv_sub hl [0, 1, 2, 3, 4] rfl) hP hS
  have blk47 : ∀ (k : RS → Int64 → Int32 → Int32 → Int32 → Option (Int32 × RS)) (hk : ∀ (σ : RS) (v1 : Int64) (v3 : Int32) (v4 : Int32) (v5 : Int32) (ls : Array Slot) (H : Heap) (locs : List Loc), k σ v1 v3 v4 v5 = some res → lv_has ls 7 [(0, .ref (gr 0)), (1, .long v1), (3, .int v3), (4, .int v4), (5, .int v5)] → va_P (dC, dI) cls (wR gr cB cI σ) H → va_S A s.heap H locs → W p l e (headSpec (mw y_Model_isName b_Model_isName 7 (some .boolean)) rm_Model_isName).room s m [.ref (gr 0), .long a1].toArray below meth c H locs 0 0 (MQ below (va_Qi (fun (x : Int32) (_ : Unit) => x = res.1) (fun _ t => kW (dC, dI) (tC cB cI) (wR gr cB cI res.2) t) A) [.ref (gr 0), .long a1].toArray s 0 0 A) (F0 m 8 ls [])) (σ : RS) (v1 : Int64) (v3 : Int32) (v5 : Int32) (v6 : Int32) (t0 : Int32) (ls : Array Slot) (H : Heap) (locs : List Loc), J_Model_isName_47 k σ v1 v3 v5 v6 t0 = some res → lv_has ls 7 [(0, .ref (gr 0)), (1, .long v1), (3, .int v3), (5, .int v5), (6, .int v6)] → va_P (dC, dI) cls (wR gr cB cI σ) H → va_S A s.heap H locs → W p l e (headSpec (mw y_Model_isName b_Model_isName 7 (some .boolean)) rm_Model_isName).room s m [.ref (gr 0), .long a1].toArray below meth c H locs 0 0 (MQ below (va_Qi (fun (x : Int32) (_ : Unit) => x = res.1) (fun _ t => kW (dC, dI) (tC cB cI) (wR gr cB cI res.2) t) A) [.ref (gr 0), .long a1].toArray s 0 0 A) (F0 m 47 ls [.int t0]) := by
    intro k hk σ v1 v3 v5 v6 t0 ls H locs hJ hl hP hS
    unfold J_Model_isName_47 at hJ
    refine lv_istore hx hb d_Model_isName_47 hl (Nat.le_of_ble_eq_true rfl) rfl (fun ls hl => ?_)
    have hl : lv_has ls 7 [(4, .int t0), (0, .ref (gr 0)), (1, .long v1), (3, .int v3), (5, .int v5), (6, .int v6)] := hl
    refine lv_iload_n hx hb d_Model_isName_49 rfl (lv_at hl 3 rfl) ?_
    refine lv_if_eq (tgt := 84) hx hb d_Model_isName_50 (by decide) (fun h7 => ?_) (fun h7 => ?_)
    · have hJ := j_t hJ h7
      exact blk84 _ hk _ _ _ _ _ _ _ _ hJ (lv_sub hl [1, 2, 0, 4, 5] rfl) hP hS
    · have hJ := j_f hJ h7
      refine lv_iload hx hb d_Model_isName_53 (lv_at hl 0 rfl) ?_
      refine lv_if_eq (tgt := 66) hx hb d_Model_isName_55 (by decide) (fun h9 => ?_) (fun h9 => ?_)
      · have hJ := j_t hJ h9
        refine lv_iload hx hb d_Model_isName_66 (lv_at hl 5 rfl) ?_
        refine lv_bipush (v := (33 : Int32)) hx hb d_Model_isName_68 (by decide) ?_
        refine lv_icmp_lt (tgt := 84) hx hb d_Model_isName_70 (by decide) (fun h10 => ?_) (fun h10 => ?_)
        · have hJ := j_t hJ h10
          exact blk84 _ hk _ _ _ _ _ _ _ _ hJ (lv_sub hl [1, 2, 0, 4, 5] rfl) hP hS
        · have hJ := j_f hJ h10
          refine lv_iload hx hb d_Model_isName_73 (lv_at hl 5 rfl) ?_
          refine lv_bipush (v := (126 : Int32)) hx hb d_Model_isName_75 (by decide) ?_
          refine lv_icmp_gt (tgt := 84) hx hb d_Model_isName_77 (by decide) (fun h11 => ?_) (fun h11 => ?_)
          · have hJ := j_t hJ h11
            exact blk84 _ hk _ _ _ _ _ _ _ _ hJ (lv_sub hl [1, 2, 0, 4, 5] rfl) hP hS
          · have hJ := j_f hJ h11
            exact blk80 _ hk _ _ _ _ _ _ _ _ hJ (lv_sub hl [1, 2, 0, 4, 5] rfl) hP hS
      · have hJ := j_f hJ h9
        refine lv_iload hx hb d_Model_isName_58 (lv_at hl 5 rfl) ?_
        refine lv_if_ne (tgt := 84) hx hb d_Model_isName_60 (by decide) (fun h12 => ?_) (fun h12 => ?_)
        · have hJ := j_f hJ h12
          exact blk84 _ hk _ _ _ _ _ _ _ _ hJ (lv_sub hl [1, 2, 0, 4, 5] rfl) hP hS
        · have hJ := j_t hJ h12
          refine lv_goto (tgt := 80) hx hb d_Model_isName_63 (by decide) ?_
          exact blk80 _ hk _ _ _ _ _ _ _ _ hJ (lv_sub hl [1, 2, 0, 4, 5] rfl) hP hS
  have blk42 : ∀ (k : RS → Int64 → Int32 → Int32 → Int32 → Option (Int32 × RS)) (hk : ∀ (σ : RS) (v1 : Int64) (v3 : Int32) (v4 : Int32) (v5 : Int32) (ls : Array Slot) (H : Heap) (locs : List Loc), k σ v1 v3 v4 v5 = some res → lv_has ls 7 [(0, .ref (gr 0)), (1, .long v1), (3, .int v3), (4, .int v4), (5, .int v5)] → va_P (dC, dI) cls (wR gr cB cI σ) H → va_S A s.heap H locs → W p l e (headSpec (mw y_Model_isName b_Model_isName 7 (some .boolean)) rm_Model_isName).room s m [.ref (gr 0), .long a1].toArray below meth c H locs 0 0 (MQ below (va_Qi (fun (x : Int32) (_ : Unit) => x = res.1) (fun _ t => kW (dC, dI) (tC cB cI) (wR gr cB cI res.2) t) A) [.ref (gr 0), .long a1].toArray s 0 0 A) (F0 m 8 ls [])) (σ : RS) (v1 : Int64) (v3 : Int32) (v5 : Int32) (v6 : Int32) (ls : Array Slot) (H : Heap) (locs : List Loc), J_Model_isName_42 k σ v1 v3 v5 v6 = some res → lv_has ls 7 [(0, .ref (gr 0)), (1, .long v1), (3, .int v3), (5, .int v5), (6, .int v6)] → va_P (dC, dI) cls (wR gr cB cI σ) H → va_S A s.heap H locs → W p l e (headSpec (mw y_Model_isName b_Model_isName 7 (some .boolean)) rm_Model_isName).room s m [.ref (gr 0), .long a1].toArray below meth c H locs 0 0 (MQ below (va_Qi (fun (x : Int32) (_ : Unit) => x = res.1) (fun _ t => kW (dC, dI) (tC cB cI) (wR gr cB cI res.2) t) A) [.ref (gr 0), .long a1].toArray s 0 0 A) (F0 m 42 ls []) := by
    intro k hk σ v1 v3 v5 v6 ls H locs hJ hl hP hS
    unfold J_Model_isName_42 at hJ
    refine lv_iconst (v := (1 : Int32)) hx hb d_Model_isName_42 (by decide) ?_
    refine lv_goto (tgt := 47) hx hb d_Model_isName_43 (by decide) ?_
    exact blk47 _ hk _ _ _ _ _ _ _ _ _ hJ (lv_sub hl [0, 1, 2, 3, 4] rfl) hP hS
  have blk8 : ∀ (n : Nat) (σ : RS) (v1 : Int64) (v3 : Int32) (v4 : Int32) (v5 : Int32) (ls : Array Slot) (H : Heap) (locs : List Loc), J_Model_isName_8 n σ v1 v3 v4 v5 = some res → lv_has ls 7 [(0, .ref (gr 0)), (1, .long v1), (3, .int v3), (4, .int v4), (5, .int v5)] → va_P (dC, dI) cls (wR gr cB cI σ) H → va_S A s.heap H locs → W p l e (headSpec (mw y_Model_isName b_Model_isName 7 (some .boolean)) rm_Model_isName).room s m [.ref (gr 0), .long a1].toArray below meth c H locs 0 0 (MQ below (va_Qi (fun (x : Int32) (_ : Unit) => x = res.1) (fun _ t => kW (dC, dI) (tC cB cI) (wR gr cB cI res.2) t) A) [.ref (gr 0), .long a1].toArray s 0 0 A) (F0 m 8 ls []) := by
    intro n
    induction n with
    | zero => intro σ v1 v3 v4 v5 ls H locs hJ; exact j_none hJ
    | succ n hk =>
      intro σ v1 v3 v4 v5 ls H locs hJ hl hP hS
      have hJ : J_Model_isName_8_b (J_Model_isName_8 n) σ v1 v3 v4 v5 = some res := hJ
      unfold J_Model_isName_8_b at hJ
      refine lv_iload hx hb d_Model_isName_8 (lv_at hl 4 rfl) ?_
      refine lv_bipush (v := (8 : Int32)) hx hb d_Model_isName_10 (by decide) ?_
      refine lv_icmp_ge (tgt := 102) hx hb d_Model_isName_12 (by decide) (fun h1 => ?_) (fun h1 => ?_)
      · have hJ := j_t hJ h1
        refine lv_iload_n hx hb d_Model_isName_102 rfl (lv_at hl 2 rfl) ?_
        refine lv_if_eq (tgt := 124) hx hb d_Model_isName_103 (by decide) (fun h2 => ?_) (fun h2 => ?_)
        · have hJ := j_t hJ h2
          refine lv_iconst (v := (0 : Int32)) hx hb d_Model_isName_124 (by decide) ?_
          have hJ := Option.some.inj hJ
          exact W.zret (v := (0 : Int32)) (ty := .boolean) hx hb hr (by decide +kernel) (fun t ht hW => ⟨⟨_, (), rfl, (j_p1 hJ), kW_end hP hK ht hW (congrArg (fun z => wR gr cB cI z) (j_p2 hJ))⟩, hS.F ht⟩) hS.2.2 d_Model_isName_125
        · have hJ := j_f hJ h2
          refine lv_aload_n hx hb d_Model_isName_106 rfl (lv_at hl 0 rfl) ?_
          refine va_get (D := (dC, dI)) (ci := 5) (v := .ref (gr 4)) (C := R_Model) (T := T_Model) (N := 12) hx hb htb uin_Model hown hK hP 0 rfl rfl 10 (by decide) (htb _ tw600) (fun _ h9 => h9) rfl d_Model_isName_107 ?_
          refine lv_iconst (v := (0 : Int32)) hx hb d_Model_isName_110 (by decide) ?_
          obtain ⟨h3, hJ⟩ := j_g hJ
          refine va_bald hx hb hK hP 4 0 rfl rfl (j_in h3) d_Model_isName_111 ?_
          refine lv_if_eq (tgt := 124) hx hb d_Model_isName_112 (by decide) (fun h4 => ?_) (fun h4 => ?_)
          · have hJ := j_t hJ h4
            refine lv_iconst (v := (0 : Int32)) hx hb d_Model_isName_124 (by decide) ?_
            have hJ := Option.some.inj hJ
            exact W.zret (v := (0 : Int32)) (ty := .boolean) hx hb hr (by decide +kernel) (fun t ht hW => ⟨⟨_, (), rfl, (j_p1 hJ), kW_end hP hK ht hW (congrArg (fun z => wR gr cB cI z) (j_p2 hJ))⟩, hS.F ht⟩) hS.2.2 d_Model_isName_125
          · have hJ := j_f hJ h4
            refine lv_iload hx hb d_Model_isName_115 (lv_at hl 3 rfl) ?_
            refine lv_if_eq (tgt := 124) hx hb d_Model_isName_117 (by decide) (fun h5 => ?_) (fun h5 => ?_)
            · have hJ := j_t hJ h5
              refine lv_iconst (v := (0 : Int32)) hx hb d_Model_isName_124 (by decide) ?_
              have hJ := Option.some.inj hJ
              exact W.zret (v := (0 : Int32)) (ty := .boolean) hx hb hr (by decide +kernel) (fun t ht hW => ⟨⟨_, (), rfl, (j_p1 hJ), kW_end hP hK ht hW (congrArg (fun z => wR gr cB cI z) (j_p2 hJ))⟩, hS.F ht⟩) hS.2.2 d_Model_isName_125
            · have hJ := j_f hJ h5
              refine lv_iconst (v := (1 : Int32)) hx hb d_Model_isName_120 (by decide) ?_
              refine lv_goto (tgt := 125) hx hb d_Model_isName_121 (by decide) ?_
              have hJ := Option.some.inj hJ
              exact W.zret (v := (1 : Int32)) (ty := .boolean) hx hb hr (by decide +kernel) (fun t ht hW => ⟨⟨_, (), rfl, (j_p1 hJ), kW_end hP hK ht hW (congrArg (fun z => wR gr cB cI z) (j_p2 hJ))⟩, hS.F ht⟩) hS.2.2 d_Model_isName_125
      · have hJ := j_f hJ h1
        refine lv_lload_n hx hb d_Model_isName_15 rfl (lv_at hl 1 rfl) ?_
        refine lv_bipush (v := (56 : Int32)) hx hb d_Model_isName_16 (by decide) ?_
        refine lv_bipush (v := (8 : Int32)) hx hb d_Model_isName_18 (by decide) ?_
        refine lv_iload hx hb d_Model_isName_20 (lv_at hl 4 rfl) ?_
        refine lv_imul hx hb d_Model_isName_22 ?_
        refine lv_isub hx hb d_Model_isName_23 ?_
        refine lv_lshr hx hb d_Model_isName_24 rfl ?_
        refine lv_ldc2 (v := (255 : Int64)) hx hb hown (htb _ tw671) d_Model_isName_25 ?_
        refine lv_land hx hb d_Model_isName_28 ?_
        refine lv_l2i hx hb d_Model_isName_29 rfl ?_
        refine lv_istore hx hb d_Model_isName_30 hl (Nat.le_of_ble_eq_true rfl) rfl (fun ls hl => ?_)
        have hl : lv_has ls 7 [(6, .int ((v1 >>> (((56 : Int32) - ((8 : Int32) * v5)).toInt64 &&& 63)) &&& (255 : Int64)).toInt32), (0, .ref (gr 0)), (1, .long v1), (3, .int v3), (4, .int v4), (5, .int v5)] := hl
        refine lv_iload hx hb d_Model_isName_32 (lv_at hl 4 rfl) ?_
        refine lv_if_ne (tgt := 42) hx hb d_Model_isName_34 (by decide) (fun h6 => ?_) (fun h6 => ?_)
        · have hJ := j_f hJ h6
          exact blk42 _ hk _ _ _ _ _ _ _ _ hJ (lv_sub hl [1, 2, 3, 5, 0] rfl) hP hS
        · have hJ := j_t hJ h6
          refine lv_iload hx hb d_Model_isName_37 (lv_at hl 0 rfl) ?_
          refine lv_if_ne (tgt := 46) hx hb d_Model_isName_39 (by decide) (fun h13 => ?_) (fun h13 => ?_)
          · have hJ := j_f hJ h13
            refine lv_iconst (v := (0 : Int32)) hx hb d_Model_isName_46 (by decide) ?_
            exact blk47 _ hk _ _ _ _ _ _ _ _ _ hJ (lv_sub hl [1, 2, 3, 5, 0] rfl) hP hS
          · have hJ := j_t hJ h13
            exact blk42 _ hk _ _ _ _ _ _ _ _ hJ (lv_sub hl [1, 2, 3, 5, 0] rfl) hP hS
  unfold J_Model_isName at hJ
  refine lv_iconst (v := (1 : Int32)) hx hb d_Model_isName_0 (by decide) ?_
  refine lv_istore_n hx hb d_Model_isName_1 rfl hl (Nat.le_of_ble_eq_true rfl) rfl (fun ls hl => ?_)
  have hl : lv_has ls 7 [(3, .int (1 : Int32)), (0, .ref (gr 0)), (1, .long a1)] := hl
  refine lv_iconst (v := (0 : Int32)) hx hb d_Model_isName_2 (by decide) ?_
  refine lv_istore hx hb d_Model_isName_3 hl (Nat.le_of_ble_eq_true rfl) rfl (fun ls hl => ?_)
  have hl : lv_has ls 7 [(4, .int (0 : Int32)), (3, .int (1 : Int32)), (0, .ref (gr 0)), (1, .long a1)] := hl
  refine lv_iconst (v := (0 : Int32)) hx hb d_Model_isName_5 (by decide) ?_
  refine lv_istore hx hb d_Model_isName_6 hl (Nat.le_of_ble_eq_true rfl) rfl (fun ls hl => ?_)
  have hl : lv_has ls 7 [(5, .int (0 : Int32)), (4, .int (0 : Int32)), (3, .int (1 : Int32)), (0, .ref (gr 0)), (1, .long a1)] := hl
  exact blk8 9000 _ _ _ _ _ _ _ _ hJ (lv_sub hl [3, 4, 2, 1, 0] rfl) hP hS
def J_Model_findEntry_32_b (k : Int32 → Int32 → Int32 → Int32 → Int32 → Option (Int32 × Int32 × Int32 × Int32)) (σ : RS) (v1 : Int32) (v2 : Int32) (v3 : Int32) (v4 : Int32) (v5 : Int32) : Option (Int32 × Int32 × Int32 × Int32) :=
  (if (7 : Int32) ≤ v5 then some (v1, v2, v3, v4) else (if v4 = (0 : Int32) then k v1 v2 v3 (0 : Int32) (v5 + (1 : Int32)) else (J_Model_contentAt σ v1 ((v3 + (1 : Int32)) + v5)).bind fun x7 => (if jin v5 8 = true then (if x7 = ((r_N σ) v5.toNatClampNeg).toInt32 then k v1 v2 v3 (1 : Int32) (v5 + (1 : Int32)) else k v1 v2 v3 (0 : Int32) (v5 + (1 : Int32))) else none)))
def J_Model_findEntry_32 : Nat → RS → Int32 → Int32 → Int32 → Int32 → Int32 → Option (Int32 × Int32 × Int32 × Int32)
  | 0, _, _, _, _, _, _ => none
  | n + 1, σ, v1, v2, v3, v4, v5 => J_Model_findEntry_32_b (J_Model_findEntry_32 n σ) σ v1 v2 v3 v4 v5
def J_Model_findEntry_4_b (k : Int32 → Int32 → Int32 → Option (Int32)) (σ : RS) (v1 : Int32) (v2 : Int32) (v3 : Int32) : Option (Int32) :=
  (J_Model_sizeOf σ v1).bind fun x1 => (if x1 ≤ v3 then some v2 else (J_Model_contentAt σ v1 v3).bind fun x3 => (if x3 = (0 : Int32) then (J_Model_findEntry_32 9000 σ v1 v2 v3 (0 : Int32) (0 : Int32)).bind fun x10 => (if x10.2.2.2 = (0 : Int32) then k x10.1 x10.2.1 (x10.2.2.1 + (8 : Int32)) else k x10.1 x10.2.2.1 (x10.2.2.1 + (8 : Int32))) else (J_Model_findEntry_32 9000 σ v1 v2 v3 (1 : Int32) (0 : Int32)).bind fun x12 => (if x12.2.2.2 = (0 : Int32) then k x12.1 x12.2.1 (x12.2.2.1 + (8 : Int32)) else k x12.1 x12.2.2.1 (x12.2.2.1 + (8 : Int32)))))
def J_Model_findEntry_4 : Nat → RS → Int32 → Int32 → Int32 → Option (Int32)
  | 0, _, _, _, _ => none
  | n + 1, σ, v1, v2, v3 => J_Model_findEntry_4_b (J_Model_findEntry_4 n σ) σ v1 v2 v3
def J_Model_findEntry (σ : RS) (a1 : Int32) : Option (Int32) :=
  J_Model_findEntry_4 9000 σ a1 ((-1) : Int32) (0 : Int32)
abbrev rm_Model_findEntry : Room := { frames := 4, cells := 0, slots := 0, locals := 88 }
set_option maxHeartbeats 4000000 in
set_option maxRecDepth 100000 in
theorem c_Model_findEntry {l : Launch} {dC : Nat → ClassId} {dI : Nat → Nat → Nat} {gr : Nat → Nat} {cB cI : ClassId} {A : Nat → Prop} (hDa : ∀ σ, va_D A (wR gr cB cI σ)) {σ : RS} {a1 : Int32} {res : Int32} (hJ : J_Model_findEntry σ a1 = some res) :
    Met l y_Model_findEntry (mw y_Model_findEntry b_Model_findEntry 6 (some .int)) rm_Model_findEntry (va_Pc [.ref (gr 0), .int a1] (kW (dC, dI) (tC cB cI) (wR gr cB cI σ))) (va_Qi (fun (x : Int32) (_ : Unit) => x = res) (fun _ t => kW (dC, dI) (tC cB cI) (wR gr cB cI σ) t) A) 0 0 A := by
  refine Met.ofW (cc := b_Model_findEntry) (maxL := 6) (ret := (some .int)) (by decide) rfl ?_
  intro p e s m args below meth c s₁ B hml hv
  obtain ⟨rfl, hP, hK⟩ := hv
  have hx := B.exec
  have hb := B.bytes
  have hr := B.returns
  have hts := atoms_spec (ws := (mw y_Model_findEntry b_Model_findEntry 6 (some .int))) B.pre
  have htb : ∀ w ∈ tb, w.before [.ref (gr 0), .int a1].toArray s = true := fun w h => hts w (mwIn h)
  have hown : s.vm.findClass "LogFsModel" = some m.cls := findClass_of_methodNamed B.named
  have hlocks := B.notSynchronized
  have hS : va_S A s.heap s.heap [] := va_S.rf
  have hl := lv_entry ([.ref (gr 0), .int a1]) (n := 6) (Nat.le_of_ble_eq_true rfl)
  rw [lg_entry_eq]
  generalize (lg_sl ([.ref (gr 0), .int a1]) ++ List.replicate (6 - (lg_sl ([.ref (gr 0), .int a1])).length) Slot.unset).toArray = ls at hl ⊢
  have hl : lv_has ls 6 [(0, .ref (gr 0)), (1, .int a1)] := hl
  have blk32 : ∀ (n : Nat) (v1 : Int32) (v2 : Int32) (v3 : Int32) (v4 : Int32) (v5 : Int32) (ls : Array Slot) (H : Heap) (locs : List Loc) (x : Int32 × Int32 × Int32 × Int32), J_Model_findEntry_32 n σ v1 v2 v3 v4 v5 = some x → (∀ (ls : Array Slot) (H : Heap) (locs : List Loc), lv_has ls 6 [(0, .ref (gr 0)), (1, .int x.1), (2, .int x.2.1), (3, .int x.2.2.1), (4, .int x.2.2.2)] → va_P (dC, dI) cls (wR gr cB cI σ) H → va_S A s.heap H locs → W p l e (headSpec (mw y_Model_findEntry b_Model_findEntry 6 (some .int)) rm_Model_findEntry).room s m [.ref (gr 0), .int a1].toArray below meth c H locs 0 0 (MQ below (va_Qi (fun (x : Int32) (_ : Unit) => x = res) (fun _ t => kW (dC, dI) (tC cB cI) (wR gr cB cI σ) t) A) [.ref (gr 0), .int a1].toArray s 0 0 A) (F0 m 78 ls [])) → lv_has ls 6 [(0, .ref (gr 0)), (1, .int v1), (2, .int v2), (3, .int v3), (4, .int v4), (5, .int v5)] → va_P (dC, dI) cls (wR gr cB cI σ) H → va_S A s.heap H locs → W p l e (headSpec (mw y_Model_findEntry b_Model_findEntry 6 (some .int)) rm_Model_findEntry).room s m [.ref (gr 0), .int a1].toArray below meth c H locs 0 0 (MQ below (va_Qi (fun (x : Int32) (_ : Unit) => x = res) (fun _ t => kW (dC, dI) (tC cB cI) (wR gr cB cI σ) t) A) [.ref (gr 0), .int a1].toArray s 0 0 A) (F0 m 32 ls []) := by
    intro n
    induction n with
    | zero => intro v1 v2 v3 v4 v5 ls H locs x hJ; exact j_none hJ
    | succ n hk0 =>
      intro v1 v2 v3 v4 v5 ls H locs x hJ hc hl hP hS
      have hk := fun v19 v29 v39 v49 v59 ls9 H9 locs9 hJ hl hP hS => hk0 v19 v29 v39 v49 v59 ls9 H9 locs9 x hJ hc hl hP hS
      have hJ : J_Model_findEntry_32_b (J_Model_findEntry_32 n σ) σ v1 v2 v3 v4 v5 = some x := hJ
      unfold J_Model_findEntry_32_b at hJ
      refine lv_iload hx hb d_Model_findEntry_32 (lv_at hl 5 rfl) ?_
      refine lv_bipush (v := (7 : Int32)) hx hb d_Model_findEntry_34 (by decide) ?_
      refine lv_icmp_ge (tgt := 78) hx hb d_Model_findEntry_36 (by decide) (fun h5 => ?_) (fun h5 => ?_)
      · have hJ := j_t hJ h5
        obtain rfl := Option.some.inj hJ
        exact hc _ _ _ (lv_sub hl [0, 1, 2, 3, 4] rfl) hP hS
      · have hJ := j_f hJ h5
        refine lv_iload hx hb d_Model_findEntry_39 (lv_at hl 4 rfl) ?_
        refine lv_if_eq (tgt := 69) hx hb d_Model_findEntry_41 (by decide) (fun h6 => ?_) (fun h6 => ?_)
        · have hJ := j_t hJ h6
          refine lv_iconst (v := (0 : Int32)) hx hb d_Model_findEntry_69 (by decide) ?_
          refine lv_istore hx hb d_Model_findEntry_70 hl (Nat.le_of_ble_eq_true rfl) rfl (fun ls hl => ?_)
          have hl : lv_has ls 6 [(4, .int (0 : Int32)), (0, .ref (gr 0)), (1, .int v1), (2, .int v2), (3, .int v3), (5, .int v5)] := hl
          refine lv_iinc (k := 5) (v := (v5 + (1 : Int32))) hx hb d_Model_findEntry_72 hl rfl rfl (Nat.le_of_ble_eq_true rfl) rfl (fun ls hl => ?_)
          have hl : lv_has ls 6 [(5, .int (v5 + (1 : Int32))), (4, .int (0 : Int32)), (0, .ref (gr 0)), (1, .int v1), (2, .int v2), (3, .int v3)] := hl
          refine lv_goto (tgt := 32) hx hb d_Model_findEntry_75 (by decide) ?_
          exact hk _ _ _ _ _ _ _ _ hJ (lv_sub hl [2, 3, 4, 5, 1, 0] rfl) hP hS
        · have hJ := j_f hJ h6
          refine lv_aload_n hx hb d_Model_findEntry_44 rfl (lv_at hl 0 rfl) ?_
          refine lv_iload_n hx hb d_Model_findEntry_45 rfl (lv_at hl 1 rfl) ?_
          refine lv_iload_n hx hb d_Model_findEntry_46 rfl (lv_at hl 3 rfl) ?_
          refine lv_iconst (v := (1 : Int32)) hx hb d_Model_findEntry_47 (by decide) ?_
          refine lv_iadd hx hb d_Model_findEntry_48 ?_
          refine lv_iload hx hb d_Model_findEntry_49 (lv_at hl 5 rfl) ?_
          refine lv_iadd hx hb d_Model_findEntry_51 ?_
          obtain ⟨x7, e7, hJ⟩ := j_bind hJ
          refine va_calli (va_runV (As := [.int v1, .int ((v3 + (1 : Int32)) + v5)]) (rest := []) ⟨hx, hb, hml, hown, htb⟩ (c_Model_contentAt (l := l) (dC := dC) (dI := dI) hDa e7) (xcV 2 htb tw708 tw7 tw705 tw707 ts_Model_contentAt rfl rfl hd_Model_contentAt ⟨Nat.le_of_ble_eq_true rfl, Nat.le_of_ble_eq_true rfl⟩) (kW_V hP hK (va_recv (q0 := 0) (ci := 5) hK hP rfl rfl)) rfl rfl hl.1 rfl (lv_room (Nat.le_of_ble_eq_true rfl)) d_Model_findEntry_52 ⟨Nat.le_of_ble_eq_true rfl, Nat.le_of_ble_eq_true rfl⟩) hS (fun q _ h => h) (fun q h => h) (fun r0 u t H locs ht hvm hw hB _ _ hS => ?_)
          subst r0
          have hP := kW_P hB ht
          refine lv_aload_n hx hb d_Model_findEntry_55 rfl (lv_at hl 0 rfl) ?_
          refine va_get (D := (dC, dI)) (ci := 5) (v := .ref (gr 4)) (C := R_Model) (T := T_Model) (N := 12) hx hb htb uin_Model hown hK hP 0 rfl rfl 10 (by decide) (htb _ tw600) (fun _ h9 => h9) rfl d_Model_findEntry_56 ?_
          refine lv_iload hx hb d_Model_findEntry_59 (lv_at hl 5 rfl) ?_
          obtain ⟨h8, hJ⟩ := j_g hJ
          refine va_bald hx hb hK hP 4 0 rfl rfl (j_in h8) d_Model_findEntry_61 ?_
          refine lv_icmp_ne (tgt := 69) hx hb d_Model_findEntry_62 (by decide) (fun h9 => ?_) (fun h9 => ?_)
          · have hJ := j_f hJ h9
            refine lv_iconst (v := (0 : Int32)) hx hb d_Model_findEntry_69 (by decide) ?_
            refine lv_istore hx hb d_Model_findEntry_70 hl (Nat.le_of_ble_eq_true rfl) rfl (fun ls hl => ?_)
            have hl : lv_has ls 6 [(4, .int (0 : Int32)), (0, .ref (gr 0)), (1, .int v1), (2, .int v2), (3, .int v3), (5, .int v5)] := hl
            refine lv_iinc (k := 5) (v := (v5 + (1 : Int32))) hx hb d_Model_findEntry_72 hl rfl rfl (Nat.le_of_ble_eq_true rfl) rfl (fun ls hl => ?_)
            have hl : lv_has ls 6 [(5, .int (v5 + (1 : Int32))), (4, .int (0 : Int32)), (0, .ref (gr 0)), (1, .int v1), (2, .int v2), (3, .int v3)] := hl
            refine lv_goto (tgt := 32) hx hb d_Model_findEntry_75 (by decide) ?_
            exact hk _ _ _ _ _ _ _ _ hJ (lv_sub hl [2, 3, 4, 5, 1, 0] rfl) hP hS
          · have hJ := j_t hJ h9
            refine lv_iconst (v := (1 : Int32)) hx hb d_Model_findEntry_65 (by decide) ?_
            refine lv_goto (tgt := 70) hx hb d_Model_findEntry_66 (by decide) ?_
            refine lv_istore hx hb d_Model_findEntry_70 hl (Nat.le_of_ble_eq_true rfl) rfl (fun ls hl => ?_)
            have hl : lv_has ls 6 [(4, .int (1 : Int32)), (0, .ref (gr 0)), (1, .int v1), (2, .int v2), (3, .int v3), (5, .int v5)] := hl
            refine lv_iinc (k := 5) (v := (v5 + (1 : Int32))) hx hb d_Model_findEntry_72 hl rfl rfl (Nat.le_of_ble_eq_true rfl) rfl (fun ls hl => ?_)
            have hl : lv_has ls 6 [(5, .int (v5 + (1 : Int32))), (4, .int (1 : Int32)), (0, .ref (gr 0)), (1, .int v1), (2, .int v2), (3, .int v3)] := hl
            refine lv_goto (tgt := 32) hx hb d_Model_findEntry_75 (by decide) ?_
            exact hk _ _ _ _ _ _ _ _ hJ (lv_sub hl [2, 3, 4, 5, 1, 0] rfl) hP hS
  have blk4 : ∀ (n : Nat) (v1 : Int32) (v2 : Int32) (v3 : Int32) (ls : Array Slot) (H : Heap) (locs : List Loc), J_Model_findEntry_4 n σ v1 v2 v3 = some res → lv_has ls 6 [(0, .ref (gr 0)), (1, .int v1), (2, .int v2), (3, .int v3)] → va_P (dC, dI) cls (wR gr cB cI σ) H → va_S A s.heap H locs → W p l e (headSpec (mw y_Model_findEntry b_Model_findEntry 6 (some .int)) rm_Model_findEntry).room s m [.ref (gr 0), .int a1].toArray below meth c H locs 0 0 (MQ below (va_Qi (fun (x : Int32) (_ : Unit) => x = res) (fun _ t => kW (dC, dI) (tC cB cI) (wR gr cB cI σ) t) A) [.ref (gr 0), .int a1].toArray s 0 0 A) (F0 m 4 ls []) := by
    intro n
    induction n with
    | zero => intro v1 v2 v3 ls H locs hJ; exact j_none hJ
    | succ n hk =>
      intro v1 v2 v3 ls H locs hJ hl hP hS
      have hJ : J_Model_findEntry_4_b (J_Model_findEntry_4 n σ) σ v1 v2 v3 = some res := hJ
      unfold J_Model_findEntry_4_b at hJ
      refine lv_iload_n hx hb d_Model_findEntry_4 rfl (lv_at hl 3 rfl) ?_
      refine lv_aload_n hx hb d_Model_findEntry_5 rfl (lv_at hl 0 rfl) ?_
      refine lv_iload_n hx hb d_Model_findEntry_6 rfl (lv_at hl 1 rfl) ?_
      obtain ⟨x1, e1, hJ⟩ := j_bind hJ
      refine va_calli (va_runV (As := [.int v1]) (rest := [.int v3]) ⟨hx, hb, hml, hown, htb⟩ (c_Model_sizeOf (l := l) (dC := dC) (dI := dI) hDa e1) (xcV 1 htb tw704 tw7 tw701 tw703 ts_Model_sizeOf rfl rfl hd_Model_sizeOf ⟨Nat.le_of_ble_eq_true rfl, Nat.le_of_ble_eq_true rfl⟩) (kW_V hP hK (va_recv (q0 := 0) (ci := 5) hK hP rfl rfl)) rfl rfl hl.1 rfl (lv_room (Nat.le_of_ble_eq_true rfl)) d_Model_findEntry_7 ⟨Nat.le_of_ble_eq_true rfl, Nat.le_of_ble_eq_true rfl⟩) hS (fun q _ h => h) (fun q h => h) (fun r0 u t H locs ht hvm hw hB _ _ hS => ?_)
      subst r0
      have hP := kW_P hB ht
      refine lv_icmp_ge (tgt := 95) hx hb d_Model_findEntry_10 (by decide) (fun h2 => ?_) (fun h2 => ?_)
      · have hJ := j_t hJ h2
        refine lv_iload_n hx hb d_Model_findEntry_95 rfl (lv_at hl 2 rfl) ?_
        have hJ := Option.some.inj hJ
        exact W.iret (v := v2) hx hb hr (fun t ht hW => ⟨⟨_, (), rfl, hJ, kW_end hP hK ht hW rfl⟩, hS.F ht⟩) hS.2.2 d_Model_findEntry_96
      · have hJ := j_f hJ h2
        refine lv_aload_n hx hb d_Model_findEntry_13 rfl (lv_at hl 0 rfl) ?_
        refine lv_iload_n hx hb d_Model_findEntry_14 rfl (lv_at hl 1 rfl) ?_
        refine lv_iload_n hx hb d_Model_findEntry_15 rfl (lv_at hl 3 rfl) ?_
        obtain ⟨x3, e3, hJ⟩ := j_bind hJ
        refine va_calli (va_runV (As := [.int v1, .int v3]) (rest := []) ⟨hx, hb, hml, hown, htb⟩ (c_Model_contentAt (l := l) (dC := dC) (dI := dI) hDa e3) (xcV 2 htb tw708 tw7 tw705 tw707 ts_Model_contentAt rfl rfl hd_Model_contentAt ⟨Nat.le_of_ble_eq_true rfl, Nat.le_of_ble_eq_true rfl⟩) (kW_V hP hK (va_recv (q0 := 0) (ci := 5) hK hP rfl rfl)) rfl rfl hl.1 rfl (lv_room (Nat.le_of_ble_eq_true rfl)) d_Model_findEntry_16 ⟨Nat.le_of_ble_eq_true rfl, Nat.le_of_ble_eq_true rfl⟩) hS (fun q _ h => h) (fun q h => h) (fun r0 u t H locs ht hvm hw hB _ _ hS => ?_)
        subst r0
        have hP := kW_P hB ht
        refine lv_if_eq (tgt := 26) hx hb d_Model_findEntry_19 (by decide) (fun h4 => ?_) (fun h4 => ?_)
        · have hJ := j_t hJ h4
          refine lv_iconst (v := (0 : Int32)) hx hb d_Model_findEntry_26 (by decide) ?_
          refine lv_istore hx hb d_Model_findEntry_27 hl (Nat.le_of_ble_eq_true rfl) rfl (fun ls hl => ?_)
          have hl : lv_has ls 6 [(4, .int (0 : Int32)), (0, .ref (gr 0)), (1, .int v1), (2, .int v2), (3, .int v3)] := hl
          refine lv_iconst (v := (0 : Int32)) hx hb d_Model_findEntry_29 (by decide) ?_
          refine lv_istore hx hb d_Model_findEntry_30 hl (Nat.le_of_ble_eq_true rfl) rfl (fun ls hl => ?_)
          have hl : lv_has ls 6 [(5, .int (0 : Int32)), (4, .int (0 : Int32)), (0, .ref (gr 0)), (1, .int v1), (2, .int v2), (3, .int v3)] := hl
          obtain ⟨x10, e10, hJ⟩ := j_bind hJ
          refine blk32 9000 _ _ _ _ _ _ _ _ _ e10 (fun ls H locs hl hP hS => ?_) (lv_sub hl [2, 3, 4, 5, 1, 0] rfl) hP hS
          refine lv_iload hx hb d_Model_findEntry_78 (lv_at hl 4 rfl) ?_
          refine lv_if_eq (tgt := 87) hx hb d_Model_findEntry_80 (by decide) (fun h11 => ?_) (fun h11 => ?_)
          · have hJ := j_t hJ h11
            refine lv_iload_n hx hb d_Model_findEntry_87 rfl (lv_at hl 2 rfl) ?_
            refine lv_istore_n hx hb d_Model_findEntry_88 rfl hl (Nat.le_of_ble_eq_true rfl) rfl (fun ls hl => ?_)
            have hl : lv_has ls 6 [(2, .int x10.2.1), (0, .ref (gr 0)), (1, .int x10.1), (3, .int x10.2.2.1), (4, .int x10.2.2.2)] := hl
            refine lv_iinc (k := 3) (v := (x10.2.2.1 + (8 : Int32))) hx hb d_Model_findEntry_89 hl rfl rfl (Nat.le_of_ble_eq_true rfl) rfl (fun ls hl => ?_)
            have hl : lv_has ls 6 [(3, .int (x10.2.2.1 + (8 : Int32))), (2, .int x10.2.1), (0, .ref (gr 0)), (1, .int x10.1), (4, .int x10.2.2.2)] := hl
            refine lv_goto (tgt := 4) hx hb d_Model_findEntry_92 (by decide) ?_
            exact hk _ _ _ _ _ _ hJ (lv_sub hl [2, 3, 1, 0] rfl) hP hS
          · have hJ := j_f hJ h11
            refine lv_iload_n hx hb d_Model_findEntry_83 rfl (lv_at hl 3 rfl) ?_
            refine lv_goto (tgt := 88) hx hb d_Model_findEntry_84 (by decide) ?_
            refine lv_istore_n hx hb d_Model_findEntry_88 rfl hl (Nat.le_of_ble_eq_true rfl) rfl (fun ls hl => ?_)
            have hl : lv_has ls 6 [(2, .int x10.2.2.1), (0, .ref (gr 0)), (1, .int x10.1), (3, .int x10.2.2.1), (4, .int x10.2.2.2)] := hl
            refine lv_iinc (k := 3) (v := (x10.2.2.1 + (8 : Int32))) hx hb d_Model_findEntry_89 hl rfl rfl (Nat.le_of_ble_eq_true rfl) rfl (fun ls hl => ?_)
            have hl : lv_has ls 6 [(3, .int (x10.2.2.1 + (8 : Int32))), (2, .int x10.2.2.1), (0, .ref (gr 0)), (1, .int x10.1), (4, .int x10.2.2.2)] := hl
            refine lv_goto (tgt := 4) hx hb d_Model_findEntry_92 (by decide) ?_
            exact hk _ _ _ _ _ _ hJ (lv_sub hl [2, 3, 1, 0] rfl) hP hS
        · have hJ := j_f hJ h4
          refine lv_iconst (v := (1 : Int32)) hx hb d_Model_findEntry_22 (by decide) ?_
          refine lv_goto (tgt := 27) hx hb d_Model_findEntry_23 (by decide) ?_
          refine lv_istore hx hb d_Model_findEntry_27 hl (Nat.le_of_ble_eq_true rfl) rfl (fun ls hl => ?_)
          have hl : lv_has ls 6 [(4, .int (1 : Int32)), (0, .ref (gr 0)), (1, .int v1), (2, .int v2), (3, .int v3)] := hl
          refine lv_iconst (v := (0 : Int32)) hx hb d_Model_findEntry_29 (by decide) ?_
          refine lv_istore hx hb d_Model_findEntry_30 hl (Nat.le_of_ble_eq_true rfl) rfl (fun ls hl => ?_)
          have hl : lv_has ls 6 [(5, .int (0 : Int32)), (4, .int (1 : Int32)), (0, .ref (gr 0)), (1, .int v1), (2, .int v2), (3, .int v3)] := hl
          obtain ⟨x12, e12, hJ⟩ := j_bind hJ
          refine blk32 9000 _ _ _ _ _ _ _ _ _ e12 (fun ls H locs hl hP hS => ?_) (lv_sub hl [2, 3, 4, 5, 1, 0] rfl) hP hS
          refine lv_iload hx hb d_Model_findEntry_78 (lv_at hl 4 rfl) ?_
          refine lv_if_eq (tgt := 87) hx hb d_Model_findEntry_80 (by decide) (fun h13 => ?_) (fun h13 => ?_)
          · have hJ := j_t hJ h13
            refine lv_iload_n hx hb d_Model_findEntry_87 rfl (lv_at hl 2 rfl) ?_
            refine lv_istore_n hx hb d_Model_findEntry_88 rfl hl (Nat.le_of_ble_eq_true rfl) rfl (fun ls hl => ?_)
            have hl : lv_has ls 6 [(2, .int x12.2.1), (0, .ref (gr 0)), (1, .int x12.1), (3, .int x12.2.2.1), (4, .int x12.2.2.2)] := hl
            refine lv_iinc (k := 3) (v := (x12.2.2.1 + (8 : Int32))) hx hb d_Model_findEntry_89 hl rfl rfl (Nat.le_of_ble_eq_true rfl) rfl (fun ls hl => ?_)
            have hl : lv_has ls 6 [(3, .int (x12.2.2.1 + (8 : Int32))), (2, .int x12.2.1), (0, .ref (gr 0)), (1, .int x12.1), (4, .int x12.2.2.2)] := hl
            refine lv_goto (tgt := 4) hx hb d_Model_findEntry_92 (by decide) ?_
            exact hk _ _ _ _ _ _ hJ (lv_sub hl [2, 3, 1, 0] rfl) hP hS
          · have hJ := j_f hJ h13
            refine lv_iload_n hx hb d_Model_findEntry_83 rfl (lv_at hl 3 rfl) ?_
            refine lv_goto (tgt := 88) hx hb d_Model_findEntry_84 (by decide) ?_
            refine lv_istore_n hx hb d_Model_findEntry_88 rfl hl (Nat.le_of_ble_eq_true rfl) rfl (fun ls hl => ?_)
            have hl : lv_has ls 6 [(2, .int x12.2.2.1), (0, .ref (gr 0)), (1, .int x12.1), (3, .int x12.2.2.1), (4, .int x12.2.2.2)] := hl
            refine lv_iinc (k := 3) (v := (x12.2.2.1 + (8 : Int32))) hx hb d_Model_findEntry_89 hl rfl rfl (Nat.le_of_ble_eq_true rfl) rfl (fun ls hl => ?_)
            have hl : lv_has ls 6 [(3, .int (x12.2.2.1 + (8 : Int32))), (2, .int x12.2.2.1), (0, .ref (gr 0)), (1, .int x12.1), (4, .int x12.2.2.2)] := hl
            refine lv_goto (tgt := 4) hx hb d_Model_findEntry_92 (by decide) ?_
            exact hk _ _ _ _ _ _ hJ (lv_sub hl [2, 3, 1, 0] rfl) hP hS
  unfold J_Model_findEntry at hJ
  refine lv_iconst (v := ((-1) : Int32)) hx hb d_Model_findEntry_0 (by decide) ?_
  refine lv_istore_n hx hb d_Model_findEntry_1 rfl hl (Nat.le_of_ble_eq_true rfl) rfl (fun ls hl => ?_)
  have hl : lv_has ls 6 [(2, .int ((-1) : Int32)), (0, .ref (gr 0)), (1, .int a1)] := hl
  refine lv_iconst (v := (0 : Int32)) hx hb d_Model_findEntry_2 (by decide) ?_
  refine lv_istore_n hx hb d_Model_findEntry_3 rfl hl (Nat.le_of_ble_eq_true rfl) rfl (fun ls hl => ?_)
  have hl : lv_has ls 6 [(3, .int (0 : Int32)), (2, .int ((-1) : Int32)), (0, .ref (gr 0)), (1, .int a1)] := hl
  exact blk4 9000 _ _ _ _ _ _ hJ (lv_sub hl [2, 3, 1, 0] rfl) hP hS
def J_Model_placeForEntry_2_b (k : Int32 → Int32 → Option (Int32)) (σ : RS) (v1 : Int32) (v2 : Int32) : Option (Int32) :=
  (J_Model_sizeOf σ v1).bind fun x1 => (if x1 ≤ v2 then some v2 else (J_Model_contentAt σ v1 v2).bind fun x3 => (if x3 = (0 : Int32) then some v2 else k v1 (v2 + (8 : Int32))))
def J_Model_placeForEntry_2 : Nat → RS → Int32 → Int32 → Option (Int32)
  | 0, _, _, _ => none
  | n + 1, σ, v1, v2 => J_Model_placeForEntry_2_b (J_Model_placeForEntry_2 n σ) σ v1 v2
def J_Model_placeForEntry (σ : RS) (a1 : Int32) : Option (Int32) :=
  J_Model_placeForEntry_2 9000 σ a1 (0 : Int32)
abbrev rm_Model_placeForEntry : Room := { frames := 4, cells := 0, slots := 0, locals := 88 }
set_option maxHeartbeats 4000000 in
set_option maxRecDepth 100000 in
theorem c_Model_placeForEntry {l : Launch} {dC : Nat → ClassId} {dI : Nat → Nat → Nat} {gr : Nat → Nat} {cB cI : ClassId} {A : Nat → Prop} (hDa : ∀ σ, va_D A (wR gr cB cI σ)) {σ : RS} {a1 : Int32} {res : Int32} (hJ : J_Model_placeForEntry σ a1 = some res) :
    Met l y_Model_placeForEntry (mw y_Model_placeForEntry b_Model_placeForEntry 3 (some .int)) rm_Model_placeForEntry (va_Pc [.ref (gr 0), .int a1] (kW (dC, dI) (tC cB cI) (wR gr cB cI σ))) (va_Qi (fun (x : Int32) (_ : Unit) => x = res) (fun _ t => kW (dC, dI) (tC cB cI) (wR gr cB cI σ) t) A) 0 0 A := by
  refine Met.ofW (cc := b_Model_placeForEntry) (maxL := 3) (ret := (some .int)) (by decide) rfl ?_
  intro p e s m args below meth c s₁ B hml hv
  obtain ⟨rfl, hP, hK⟩ := hv
  have hx := B.exec
  have hb := B.bytes
  have hr := B.returns
  have hts := atoms_spec (ws := (mw y_Model_placeForEntry b_Model_placeForEntry 3 (some .int))) B.pre
  have htb : ∀ w ∈ tb, w.before [.ref (gr 0), .int a1].toArray s = true := fun w h => hts w (mwIn h)
  have hown : s.vm.findClass "LogFsModel" = some m.cls := findClass_of_methodNamed B.named
  have hlocks := B.notSynchronized
  have hS : va_S A s.heap s.heap [] := va_S.rf
  have hl := lv_entry ([.ref (gr 0), .int a1]) (n := 3) (Nat.le_of_ble_eq_true rfl)
  rw [lg_entry_eq]
  generalize (lg_sl ([.ref (gr 0), .int a1]) ++ List.replicate (3 - (lg_sl ([.ref (gr 0), .int a1])).length) Slot.unset).toArray = ls at hl ⊢
  have hl : lv_has ls 3 [(0, .ref (gr 0)), (1, .int a1)] := hl
  have blk2 : ∀ (n : Nat) (v1 : Int32) (v2 : Int32) (ls : Array Slot) (H : Heap) (locs : List Loc), J_Model_placeForEntry_2 n σ v1 v2 = some res → lv_has ls 3 [(0, .ref (gr 0)), (1, .int v1), (2, .int v2)] → va_P (dC, dI) cls (wR gr cB cI σ) H → va_S A s.heap H locs → W p l e (headSpec (mw y_Model_placeForEntry b_Model_placeForEntry 3 (some .int)) rm_Model_placeForEntry).room s m [.ref (gr 0), .int a1].toArray below meth c H locs 0 0 (MQ below (va_Qi (fun (x : Int32) (_ : Unit) => x = res) (fun _ t => kW (dC, dI) (tC cB cI) (wR gr cB cI σ) t) A) [.ref (gr 0), .int a1].toArray s 0 0 A) (F0 m 2 ls []) := by
    intro n
    induction n with
    | zero => intro v1 v2 ls H locs hJ; exact j_none hJ
    | succ n hk =>
      intro v1 v2 ls H locs hJ hl hP hS
      have hJ : J_Model_placeForEntry_2_b (J_Model_placeForEntry_2 n σ) σ v1 v2 = some res := hJ
      unfold J_Model_placeForEntry_2_b at hJ
      refine lv_iload_n hx hb d_Model_placeForEntry_2 rfl (lv_at hl 2 rfl) ?_
      refine lv_aload_n hx hb d_Model_placeForEntry_3 rfl (lv_at hl 0 rfl) ?_
      refine lv_iload_n hx hb d_Model_placeForEntry_4 rfl (lv_at hl 1 rfl) ?_
      obtain ⟨x1, e1, hJ⟩ := j_bind hJ
      refine va_calli (va_runV (As := [.int v1]) (rest := [.int v2]) ⟨hx, hb, hml, hown, htb⟩ (c_Model_sizeOf (l := l) (dC := dC) (dI := dI) hDa e1) (xcV 1 htb tw704 tw7 tw701 tw703 ts_Model_sizeOf rfl rfl hd_Model_sizeOf ⟨Nat.le_of_ble_eq_true rfl, Nat.le_of_ble_eq_true rfl⟩) (kW_V hP hK (va_recv (q0 := 0) (ci := 5) hK hP rfl rfl)) rfl rfl hl.1 rfl (lv_room (Nat.le_of_ble_eq_true rfl)) d_Model_placeForEntry_5 ⟨Nat.le_of_ble_eq_true rfl, Nat.le_of_ble_eq_true rfl⟩) hS (fun q _ h => h) (fun q h => h) (fun r0 u t H locs ht hvm hw hB _ _ hS => ?_)
      subst r0
      have hP := kW_P hB ht
      refine lv_icmp_ge (tgt := 26) hx hb d_Model_placeForEntry_8 (by decide) (fun h2 => ?_) (fun h2 => ?_)
      · have hJ := j_t hJ h2
        refine lv_iload_n hx hb d_Model_placeForEntry_26 rfl (lv_at hl 2 rfl) ?_
        have hJ := Option.some.inj hJ
        exact W.iret (v := v2) hx hb hr (fun t ht hW => ⟨⟨_, (), rfl, hJ, kW_end hP hK ht hW rfl⟩, hS.F ht⟩) hS.2.2 d_Model_placeForEntry_27
      · have hJ := j_f hJ h2
        refine lv_aload_n hx hb d_Model_placeForEntry_11 rfl (lv_at hl 0 rfl) ?_
        refine lv_iload_n hx hb d_Model_placeForEntry_12 rfl (lv_at hl 1 rfl) ?_
        refine lv_iload_n hx hb d_Model_placeForEntry_13 rfl (lv_at hl 2 rfl) ?_
        obtain ⟨x3, e3, hJ⟩ := j_bind hJ
        refine va_calli (va_runV (As := [.int v1, .int v2]) (rest := []) ⟨hx, hb, hml, hown, htb⟩ (c_Model_contentAt (l := l) (dC := dC) (dI := dI) hDa e3) (xcV 2 htb tw708 tw7 tw705 tw707 ts_Model_contentAt rfl rfl hd_Model_contentAt ⟨Nat.le_of_ble_eq_true rfl, Nat.le_of_ble_eq_true rfl⟩) (kW_V hP hK (va_recv (q0 := 0) (ci := 5) hK hP rfl rfl)) rfl rfl hl.1 rfl (lv_room (Nat.le_of_ble_eq_true rfl)) d_Model_placeForEntry_14 ⟨Nat.le_of_ble_eq_true rfl, Nat.le_of_ble_eq_true rfl⟩) hS (fun q _ h => h) (fun q h => h) (fun r0 u t H locs ht hvm hw hB _ _ hS => ?_)
        subst r0
        have hP := kW_P hB ht
        refine lv_if_eq (tgt := 26) hx hb d_Model_placeForEntry_17 (by decide) (fun h4 => ?_) (fun h4 => ?_)
        · have hJ := j_t hJ h4
          refine lv_iload_n hx hb d_Model_placeForEntry_26 rfl (lv_at hl 2 rfl) ?_
          have hJ := Option.some.inj hJ
          exact W.iret (v := v2) hx hb hr (fun t ht hW => ⟨⟨_, (), rfl, hJ, kW_end hP hK ht hW rfl⟩, hS.F ht⟩) hS.2.2 d_Model_placeForEntry_27
        · have hJ := j_f hJ h4
          refine lv_iinc (k := 2) (v := (v2 + (8 : Int32))) hx hb d_Model_placeForEntry_20 hl rfl rfl (Nat.le_of_ble_eq_true rfl) rfl (fun ls hl => ?_)
          have hl : lv_has ls 3 [(2, .int (v2 + (8 : Int32))), (0, .ref (gr 0)), (1, .int v1)] := hl
          refine lv_goto (tgt := 2) hx hb d_Model_placeForEntry_23 (by decide) ?_
          exact hk _ _ _ _ _ hJ (lv_sub hl [1, 2, 0] rfl) hP hS
  unfold J_Model_placeForEntry at hJ
  refine lv_iconst (v := (0 : Int32)) hx hb d_Model_placeForEntry_0 (by decide) ?_
  refine lv_istore_n hx hb d_Model_placeForEntry_1 rfl hl (Nat.le_of_ble_eq_true rfl) rfl (fun ls hl => ?_)
  have hl : lv_has ls 3 [(2, .int (0 : Int32)), (0, .ref (gr 0)), (1, .int a1)] := hl
  exact blk2 9000 _ _ _ _ _ hJ (lv_sub hl [1, 2, 0] rfl) hP hS
def J_Model_entries_4_b (k : Int32 → Int32 → Int32 → Option (Int32)) (σ : RS) (v1 : Int32) (v2 : Int32) (v3 : Int32) : Option (Int32) :=
  (J_Model_sizeOf σ v1).bind fun x1 => (if x1 ≤ v3 then some v2 else (J_Model_contentAt σ v1 v3).bind fun x3 => (if x3 = (0 : Int32) then k v1 (v2 + (0 : Int32)) (v3 + (8 : Int32)) else k v1 (v2 + (1 : Int32)) (v3 + (8 : Int32))))
def J_Model_entries_4 : Nat → RS → Int32 → Int32 → Int32 → Option (Int32)
  | 0, _, _, _, _ => none
  | n + 1, σ, v1, v2, v3 => J_Model_entries_4_b (J_Model_entries_4 n σ) σ v1 v2 v3
def J_Model_entries (σ : RS) (a1 : Int32) : Option (Int32) :=
  J_Model_entries_4 9000 σ a1 (0 : Int32) (0 : Int32)
abbrev rm_Model_entries : Room := { frames := 4, cells := 0, slots := 0, locals := 88 }
set_option maxHeartbeats 4000000 in
set_option maxRecDepth 100000 in
theorem c_Model_entries {l : Launch} {dC : Nat → ClassId} {dI : Nat → Nat → Nat} {gr : Nat → Nat} {cB cI : ClassId} {A : Nat → Prop} (hDa : ∀ σ, va_D A (wR gr cB cI σ)) {σ : RS} {a1 : Int32} {res : Int32} (hJ : J_Model_entries σ a1 = some res) :
    Met l y_Model_entries (mw y_Model_entries b_Model_entries 4 (some .int)) rm_Model_entries (va_Pc [.ref (gr 0), .int a1] (kW (dC, dI) (tC cB cI) (wR gr cB cI σ))) (va_Qi (fun (x : Int32) (_ : Unit) => x = res) (fun _ t => kW (dC, dI) (tC cB cI) (wR gr cB cI σ) t) A) 0 0 A := by
  refine Met.ofW (cc := b_Model_entries) (maxL := 4) (ret := (some .int)) (by decide) rfl ?_
  intro p e s m args below meth c s₁ B hml hv
  obtain ⟨rfl, hP, hK⟩ := hv
  have hx := B.exec
  have hb := B.bytes
  have hr := B.returns
  have hts := atoms_spec (ws := (mw y_Model_entries b_Model_entries 4 (some .int))) B.pre
  have htb : ∀ w ∈ tb, w.before [.ref (gr 0), .int a1].toArray s = true := fun w h => hts w (mwIn h)
  have hown : s.vm.findClass "LogFsModel" = some m.cls := findClass_of_methodNamed B.named
  have hlocks := B.notSynchronized
  have hS : va_S A s.heap s.heap [] := va_S.rf
  have hl := lv_entry ([.ref (gr 0), .int a1]) (n := 4) (Nat.le_of_ble_eq_true rfl)
  rw [lg_entry_eq]
  generalize (lg_sl ([.ref (gr 0), .int a1]) ++ List.replicate (4 - (lg_sl ([.ref (gr 0), .int a1])).length) Slot.unset).toArray = ls at hl ⊢
  have hl : lv_has ls 4 [(0, .ref (gr 0)), (1, .int a1)] := hl
  have blk4 : ∀ (n : Nat) (v1 : Int32) (v2 : Int32) (v3 : Int32) (ls : Array Slot) (H : Heap) (locs : List Loc), J_Model_entries_4 n σ v1 v2 v3 = some res → lv_has ls 4 [(0, .ref (gr 0)), (1, .int v1), (2, .int v2), (3, .int v3)] → va_P (dC, dI) cls (wR gr cB cI σ) H → va_S A s.heap H locs → W p l e (headSpec (mw y_Model_entries b_Model_entries 4 (some .int)) rm_Model_entries).room s m [.ref (gr 0), .int a1].toArray below meth c H locs 0 0 (MQ below (va_Qi (fun (x : Int32) (_ : Unit) => x = res) (fun _ t => kW (dC, dI) (tC cB cI) (wR gr cB cI σ) t) A) [.ref (gr 0), .int a1].toArray s 0 0 A) (F0 m 4 ls []) := by
    intro n
    induction n with
    | zero => intro v1 v2 v3 ls H locs hJ; exact j_none hJ
    | succ n hk =>
      intro v1 v2 v3 ls H locs hJ hl hP hS
      have hJ : J_Model_entries_4_b (J_Model_entries_4 n σ) σ v1 v2 v3 = some res := hJ
      unfold J_Model_entries_4_b at hJ
      refine lv_iload_n hx hb d_Model_entries_4 rfl (lv_at hl 3 rfl) ?_
      refine lv_aload_n hx hb d_Model_entries_5 rfl (lv_at hl 0 rfl) ?_
      refine lv_iload_n hx hb d_Model_entries_6 rfl (lv_at hl 1 rfl) ?_
      obtain ⟨x1, e1, hJ⟩ := j_bind hJ
      refine va_calli (va_runV (As := [.int v1]) (rest := [.int v3]) ⟨hx, hb, hml, hown, htb⟩ (c_Model_sizeOf (l := l) (dC := dC) (dI := dI) hDa e1) (xcV 1 htb tw704 tw7 tw701 tw703 ts_Model_sizeOf rfl rfl hd_Model_sizeOf ⟨Nat.le_of_ble_eq_true rfl, Nat.le_of_ble_eq_true rfl⟩) (kW_V hP hK (va_recv (q0 := 0) (ci := 5) hK hP rfl rfl)) rfl rfl hl.1 rfl (lv_room (Nat.le_of_ble_eq_true rfl)) d_Model_entries_7 ⟨Nat.le_of_ble_eq_true rfl, Nat.le_of_ble_eq_true rfl⟩) hS (fun q _ h => h) (fun q h => h) (fun r0 u t H locs ht hvm hw hB _ _ hS => ?_)
      subst r0
      have hP := kW_P hB ht
      refine lv_icmp_ge (tgt := 36) hx hb d_Model_entries_10 (by decide) (fun h2 => ?_) (fun h2 => ?_)
      · have hJ := j_t hJ h2
        refine lv_iload_n hx hb d_Model_entries_36 rfl (lv_at hl 2 rfl) ?_
        have hJ := Option.some.inj hJ
        exact W.iret (v := v2) hx hb hr (fun t ht hW => ⟨⟨_, (), rfl, hJ, kW_end hP hK ht hW rfl⟩, hS.F ht⟩) hS.2.2 d_Model_entries_37
      · have hJ := j_f hJ h2
        refine lv_iload_n hx hb d_Model_entries_13 rfl (lv_at hl 2 rfl) ?_
        refine lv_aload_n hx hb d_Model_entries_14 rfl (lv_at hl 0 rfl) ?_
        refine lv_iload_n hx hb d_Model_entries_15 rfl (lv_at hl 1 rfl) ?_
        refine lv_iload_n hx hb d_Model_entries_16 rfl (lv_at hl 3 rfl) ?_
        obtain ⟨x3, e3, hJ⟩ := j_bind hJ
        refine va_calli (va_runV (As := [.int v1, .int v3]) (rest := [.int v2]) ⟨hx, hb, hml, hown, htb⟩ (c_Model_contentAt (l := l) (dC := dC) (dI := dI) hDa e3) (xcV 2 htb tw708 tw7 tw705 tw707 ts_Model_contentAt rfl rfl hd_Model_contentAt ⟨Nat.le_of_ble_eq_true rfl, Nat.le_of_ble_eq_true rfl⟩) (kW_V hP hK (va_recv (q0 := 0) (ci := 5) hK hP rfl rfl)) rfl rfl hl.1 rfl (lv_room (Nat.le_of_ble_eq_true rfl)) d_Model_entries_17 ⟨Nat.le_of_ble_eq_true rfl, Nat.le_of_ble_eq_true rfl⟩) hS (fun q _ h => h) (fun q h => h) (fun r0 u t H locs ht hvm hw hB _ _ hS => ?_)
        subst r0
        have hP := kW_P hB ht
        refine lv_if_ne (tgt := 27) hx hb d_Model_entries_20 (by decide) (fun h4 => ?_) (fun h4 => ?_)
        · have hJ := j_f hJ h4
          refine lv_iconst (v := (1 : Int32)) hx hb d_Model_entries_27 (by decide) ?_
          refine lv_iadd hx hb d_Model_entries_28 ?_
          refine lv_istore_n hx hb d_Model_entries_29 rfl hl (Nat.le_of_ble_eq_true rfl) rfl (fun ls hl => ?_)
          have hl : lv_has ls 4 [(2, .int (v2 + (1 : Int32))), (0, .ref (gr 0)), (1, .int v1), (3, .int v3)] := hl
          refine lv_iinc (k := 3) (v := (v3 + (8 : Int32))) hx hb d_Model_entries_30 hl rfl rfl (Nat.le_of_ble_eq_true rfl) rfl (fun ls hl => ?_)
          have hl : lv_has ls 4 [(3, .int (v3 + (8 : Int32))), (2, .int (v2 + (1 : Int32))), (0, .ref (gr 0)), (1, .int v1)] := hl
          refine lv_goto (tgt := 4) hx hb d_Model_entries_33 (by decide) ?_
          exact hk _ _ _ _ _ _ hJ (lv_sub hl [2, 3, 1, 0] rfl) hP hS
        · have hJ := j_t hJ h4
          refine lv_iconst (v := (0 : Int32)) hx hb d_Model_entries_23 (by decide) ?_
          refine lv_goto (tgt := 28) hx hb d_Model_entries_24 (by decide) ?_
          refine lv_iadd hx hb d_Model_entries_28 ?_
          refine lv_istore_n hx hb d_Model_entries_29 rfl hl (Nat.le_of_ble_eq_true rfl) rfl (fun ls hl => ?_)
          have hl : lv_has ls 4 [(2, .int (v2 + (0 : Int32))), (0, .ref (gr 0)), (1, .int v1), (3, .int v3)] := hl
          refine lv_iinc (k := 3) (v := (v3 + (8 : Int32))) hx hb d_Model_entries_30 hl rfl rfl (Nat.le_of_ble_eq_true rfl) rfl (fun ls hl => ?_)
          have hl : lv_has ls 4 [(3, .int (v3 + (8 : Int32))), (2, .int (v2 + (0 : Int32))), (0, .ref (gr 0)), (1, .int v1)] := hl
          refine lv_goto (tgt := 4) hx hb d_Model_entries_33 (by decide) ?_
          exact hk _ _ _ _ _ _ hJ (lv_sub hl [2, 3, 1, 0] rfl) hP hS
  unfold J_Model_entries at hJ
  refine lv_iconst (v := (0 : Int32)) hx hb d_Model_entries_0 (by decide) ?_
  refine lv_istore_n hx hb d_Model_entries_1 rfl hl (Nat.le_of_ble_eq_true rfl) rfl (fun ls hl => ?_)
  have hl : lv_has ls 4 [(2, .int (0 : Int32)), (0, .ref (gr 0)), (1, .int a1)] := hl
  refine lv_iconst (v := (0 : Int32)) hx hb d_Model_entries_2 (by decide) ?_
  refine lv_istore_n hx hb d_Model_entries_3 rfl hl (Nat.le_of_ble_eq_true rfl) rfl (fun ls hl => ?_)
  have hl : lv_has ls 4 [(3, .int (0 : Int32)), (2, .int (0 : Int32)), (0, .ref (gr 0)), (1, .int a1)] := hl
  exact blk4 9000 _ _ _ _ _ _ hJ (lv_sub hl [2, 3, 1, 0] rfl) hP hS
def J_Model_needs (σ : RS) (a1 : Int32) (a2 : Int32) : Option (Int32) :=
  (J_Model_sizeOf σ a1).bind fun x1 => (J_Model_blocksFor x1).bind fun x2 => (J_Model_blocksFor a2).bind fun x3 => (if x2 < x3 then (if x3 ≤ (10 : Int32) then some ((x3 - x2) + (0 : Int32)) else (if (10 : Int32) < x2 then some ((x3 - x2) + (0 : Int32)) else some ((x3 - x2) + (1 : Int32)))) else some (0 : Int32))
abbrev rm_Model_needs : Room := { frames := 3, cells := 0, slots := 0, locals := 65 }
set_option maxHeartbeats 4000000 in
set_option maxRecDepth 100000 in
theorem c_Model_needs {l : Launch} {dC : Nat → ClassId} {dI : Nat → Nat → Nat} {gr : Nat → Nat} {cB cI : ClassId} {A : Nat → Prop} (hDa : ∀ σ, va_D A (wR gr cB cI σ)) {σ : RS} {a1 : Int32} {a2 : Int32} {res : Int32} (hJ : J_Model_needs σ a1 a2 = some res) :
    Met l y_Model_needs (mw y_Model_needs b_Model_needs 5 (some .int)) rm_Model_needs (va_Pc [.ref (gr 0), .int a1, .int a2] (kW (dC, dI) (tC cB cI) (wR gr cB cI σ))) (va_Qi (fun (x : Int32) (_ : Unit) => x = res) (fun _ t => kW (dC, dI) (tC cB cI) (wR gr cB cI σ) t) A) 0 0 A := by
  refine Met.ofW (cc := b_Model_needs) (maxL := 5) (ret := (some .int)) (by decide) rfl ?_
  intro p e s m args below meth c s₁ B hml hv
  obtain ⟨rfl, hP, hK⟩ := hv
  have hx := B.exec
  have hb := B.bytes
  have hr := B.returns
  have hts := atoms_spec (ws := (mw y_Model_needs b_Model_needs 5 (some .int))) B.pre
  have htb : ∀ w ∈ tb, w.before [.ref (gr 0), .int a1, .int a2].toArray s = true := fun w h => hts w (mwIn h)
  have hown : s.vm.findClass "LogFsModel" = some m.cls := findClass_of_methodNamed B.named
  have hlocks := B.notSynchronized
  have hS : va_S A s.heap s.heap [] := va_S.rf
  have hl := lv_entry ([.ref (gr 0), .int a1, .int a2]) (n := 5) (Nat.le_of_ble_eq_true rfl)
  rw [lg_entry_eq]
  generalize (lg_sl ([.ref (gr 0), .int a1, .int a2]) ++ List.replicate (5 - (lg_sl ([.ref (gr 0), .int a1, .int a2])).length) Slot.unset).toArray = ls at hl ⊢
  have hl : lv_has ls 5 [(0, .ref (gr 0)), (1, .int a1), (2, .int a2)] := hl
  unfold J_Model_needs at hJ
  refine lv_aload_n hx hb d_Model_needs_0 rfl (lv_at hl 0 rfl) ?_
  refine lv_iload_n hx hb d_Model_needs_1 rfl (lv_at hl 1 rfl) ?_
  obtain ⟨x1, e1, hJ⟩ := j_bind hJ
  refine va_calli (va_runV (As := [.int a1]) (rest := []) ⟨hx, hb, hml, hown, htb⟩ (c_Model_sizeOf (l := l) (dC := dC) (dI := dI) hDa e1) (xcV 1 htb tw704 tw7 tw701 tw703 ts_Model_sizeOf rfl rfl hd_Model_sizeOf ⟨Nat.le_of_ble_eq_true rfl, Nat.le_of_ble_eq_true rfl⟩) (kW_V hP hK (va_recv (q0 := 0) (ci := 5) hK hP rfl rfl)) rfl rfl hl.1 rfl (lv_room (Nat.le_of_ble_eq_true rfl)) d_Model_needs_2 ⟨Nat.le_of_ble_eq_true rfl, Nat.le_of_ble_eq_true rfl⟩) hS (fun q _ h => h) (fun q h => h) (fun r0 u t H locs ht hvm hw hB _ _ hS => ?_)
  subst r0
  have hP := kW_P hB ht
  obtain ⟨x2, e2, hJ⟩ := j_bind hJ
  refine va_calli (va_runS (As := [.int x1]) (rest := []) ⟨hx, hb, hml, hown, htb⟩ (c_Model_blocksFor (l := l) (dC := dC) (dI := dI) (σ := σ) hDa e2) (xcS 1 htb tw723 tw7 tw721 tw722 rfl rfl hd_Model_blocksFor ⟨Nat.le_of_ble_eq_true rfl, Nat.le_of_ble_eq_true rfl⟩) (kW_S hP hK) rfl rfl hl.1 rfl (lv_room (Nat.le_of_ble_eq_true rfl)) d_Model_needs_5 ⟨Nat.le_of_ble_eq_true rfl, Nat.le_of_ble_eq_true rfl⟩) hS (fun q _ h => h) (fun q h => h) (fun r0 u t H locs ht hvm hw hB _ _ hS => ?_)
  subst r0
  have hP := kW_P hB ht
  refine lv_istore_n hx hb d_Model_needs_8 rfl hl (Nat.le_of_ble_eq_true rfl) rfl (fun ls hl => ?_)
  have hl : lv_has ls 5 [(3, .int x2), (0, .ref (gr 0)), (1, .int a1), (2, .int a2)] := hl
  refine lv_iload_n hx hb d_Model_needs_9 rfl (lv_at hl 3 rfl) ?_
  obtain ⟨x3, e3, hJ⟩ := j_bind hJ
  refine va_calli (va_runS (As := [.int a2]) (rest := []) ⟨hx, hb, hml, hown, htb⟩ (c_Model_blocksFor (l := l) (dC := dC) (dI := dI) (σ := σ) hDa e3) (xcS 1 htb tw723 tw7 tw721 tw722 rfl rfl hd_Model_blocksFor ⟨Nat.le_of_ble_eq_true rfl, Nat.le_of_ble_eq_true rfl⟩) (kW_S hP hK) rfl rfl hl.1 rfl (lv_room (Nat.le_of_ble_eq_true rfl)) d_Model_needs_10 ⟨Nat.le_of_ble_eq_true rfl, Nat.le_of_ble_eq_true rfl⟩) hS (fun q _ h => h) (fun q h => h) (fun r0 u t H locs ht hvm hw hB _ _ hS => ?_)
  subst r0
  have hP := kW_P hB ht
  refine lv_istore hx hb d_Model_needs_13 hl (Nat.le_of_ble_eq_true rfl) rfl (fun ls hl => ?_)
  have hl : lv_has ls 5 [(4, .int x3), (3, .int x2), (0, .ref (gr 0)), (1, .int a1), (2, .int a2)] := hl
  refine lv_iload hx hb d_Model_needs_15 (lv_at hl 0 rfl) ?_
  refine lv_iload_n hx hb d_Model_needs_17 rfl (lv_at hl 1 rfl) ?_
  refine lv_icmp_gt (tgt := 25) hx hb d_Model_needs_18 (by decide) (fun h4 => ?_) (fun h4 => ?_)
  · have hJ := j_t hJ h4
    refine lv_iload hx hb d_Model_needs_25 (lv_at hl 0 rfl) ?_
    refine lv_iload_n hx hb d_Model_needs_27 rfl (lv_at hl 1 rfl) ?_
    refine lv_isub hx hb d_Model_needs_28 ?_
    refine lv_iload hx hb d_Model_needs_29 (lv_at hl 0 rfl) ?_
    refine lv_bipush (v := (10 : Int32)) hx hb d_Model_needs_31 (by decide) ?_
    refine lv_icmp_le (tgt := 46) hx hb d_Model_needs_33 (by decide) (fun h5 => ?_) (fun h5 => ?_)
    · have hJ := j_t hJ h5
      refine lv_iconst (v := (0 : Int32)) hx hb d_Model_needs_46 (by decide) ?_
      refine lv_iadd hx hb d_Model_needs_47 ?_
      have hJ := Option.some.inj hJ
      exact W.iret (v := ((x3 - x2) + (0 : Int32))) hx hb hr (fun t ht hW => ⟨⟨_, (), rfl, hJ, kW_end hP hK ht hW rfl⟩, hS.F ht⟩) hS.2.2 d_Model_needs_48
    · have hJ := j_f hJ h5
      refine lv_iload_n hx hb d_Model_needs_36 rfl (lv_at hl 1 rfl) ?_
      refine lv_bipush (v := (10 : Int32)) hx hb d_Model_needs_37 (by decide) ?_
      refine lv_icmp_gt (tgt := 46) hx hb d_Model_needs_39 (by decide) (fun h6 => ?_) (fun h6 => ?_)
      · have hJ := j_t hJ h6
        refine lv_iconst (v := (0 : Int32)) hx hb d_Model_needs_46 (by decide) ?_
        refine lv_iadd hx hb d_Model_needs_47 ?_
        have hJ := Option.some.inj hJ
        exact W.iret (v := ((x3 - x2) + (0 : Int32))) hx hb hr (fun t ht hW => ⟨⟨_, (), rfl, hJ, kW_end hP hK ht hW rfl⟩, hS.F ht⟩) hS.2.2 d_Model_needs_48
      · have hJ := j_f hJ h6
        refine lv_iconst (v := (1 : Int32)) hx hb d_Model_needs_42 (by decide) ?_
        refine lv_goto (tgt := 47) hx hb d_Model_needs_43 (by decide) ?_
        refine lv_iadd hx hb d_Model_needs_47 ?_
        have hJ := Option.some.inj hJ
        exact W.iret (v := ((x3 - x2) + (1 : Int32))) hx hb hr (fun t ht hW => ⟨⟨_, (), rfl, hJ, kW_end hP hK ht hW rfl⟩, hS.F ht⟩) hS.2.2 d_Model_needs_48
  · have hJ := j_f hJ h4
    refine lv_iconst (v := (0 : Int32)) hx hb d_Model_needs_21 (by decide) ?_
    refine lv_goto (tgt := 48) hx hb d_Model_needs_22 (by decide) ?_
    have hJ := Option.some.inj hJ
    exact W.iret (v := (0 : Int32)) hx hb hr (fun t ht hW => ⟨⟨_, (), rfl, hJ, kW_end hP hK ht hW rfl⟩, hS.F ht⟩) hS.2.2 d_Model_needs_48
def J_Model_takeBlock_45_b (k : RS → Int32 → Int32 → Option (Int32 × RS)) (σ : RS) (v1 : Int32) (v2 : Int32) : Option (Int32 × RS) :=
  (if (64 : Int32) ≤ v2 then some (v1, σ) else (J_Model_set σ v1 v2 (0 : Int32)).bind fun x6 => k x6 v1 (v2 + (1 : Int32)))
def J_Model_takeBlock_45 : Nat → RS → Int32 → Int32 → Option (Int32 × RS)
  | 0, _, _, _ => none
  | n + 1, σ, v1, v2 => J_Model_takeBlock_45_b (J_Model_takeBlock_45 n) σ v1 v2
def J_Model_takeBlock_2_b (k : RS → Int32 → Option (Int32 × RS)) (σ : RS) (v1 : Int32) : Option (Int32 × RS) :=
  (J_Model_isUsed σ v1).bind fun x1 => (if x1 = (0 : Int32) then (J_Model_at σ (25 : Int32) (v1 / (8 : Int32))).bind fun x3 => (J_Model_set σ (25 : Int32) (v1 / (8 : Int32)) (x3 ||| ((1 : Int32) <<< ((v1 - v1 / (8 : Int32) * (8 : Int32)) &&& 31)))).bind fun x4 => J_Model_takeBlock_45 9000 x4 v1 (0 : Int32) else k σ (v1 + (1 : Int32)))
def J_Model_takeBlock_2 : Nat → RS → Int32 → Option (Int32 × RS)
  | 0, _, _ => none
  | n + 1, σ, v1 => J_Model_takeBlock_2_b (J_Model_takeBlock_2 n) σ v1
def J_Model_takeBlock (σ : RS)  : Option (Int32 × RS) :=
  J_Model_takeBlock_2 9000 σ (0 : Int32)
abbrev rm_Model_takeBlock : Room := { frames := 2, cells := 0, slots := 0, locals := 46 }
set_option maxHeartbeats 4000000 in
set_option maxRecDepth 100000 in
theorem c_Model_takeBlock {l : Launch} {dC : Nat → ClassId} {dI : Nat → Nat → Nat} {gr : Nat → Nat} {cB cI : ClassId} {A : Nat → Prop} (hDa : ∀ σ, va_D A (wR gr cB cI σ)) {σ : RS} {res : Int32 × RS} (hJ : J_Model_takeBlock σ = some res) :
    Met l y_Model_takeBlock (mw y_Model_takeBlock b_Model_takeBlock 3 (some .int)) rm_Model_takeBlock (va_Pc [.ref (gr 0)] (kW (dC, dI) (tC cB cI) (wR gr cB cI σ))) (va_Qi (fun (x : Int32) (_ : Unit) => x = res.1) (fun _ t => kW (dC, dI) (tC cB cI) (wR gr cB cI res.2) t) A) 0 0 A := by
  refine Met.ofW (cc := b_Model_takeBlock) (maxL := 3) (ret := (some .int)) (by decide) rfl ?_
  intro p e s m args below meth c s₁ B hml hv
  obtain ⟨rfl, hP, hK⟩ := hv
  have hx := B.exec
  have hb := B.bytes
  have hr := B.returns
  have hts := atoms_spec (ws := (mw y_Model_takeBlock b_Model_takeBlock 3 (some .int))) B.pre
  have htb : ∀ w ∈ tb, w.before [.ref (gr 0)].toArray s = true := fun w h => hts w (mwIn h)
  have hown : s.vm.findClass "LogFsModel" = some m.cls := findClass_of_methodNamed B.named
  have hlocks := B.notSynchronized
  have hS : va_S A s.heap s.heap [] := va_S.rf
  have hl := lv_entry ([.ref (gr 0)]) (n := 3) (Nat.le_of_ble_eq_true rfl)
  rw [lg_entry_eq]
  generalize (lg_sl ([.ref (gr 0)]) ++ List.replicate (3 - (lg_sl ([.ref (gr 0)])).length) Slot.unset).toArray = ls at hl ⊢
  have hl : lv_has ls 3 [(0, .ref (gr 0))] := hl
  have blk45 : ∀ (n : Nat) (σ : RS) (v1 : Int32) (v2 : Int32) (ls : Array Slot) (H : Heap) (locs : List Loc), J_Model_takeBlock_45 n σ v1 v2 = some res → lv_has ls 3 [(0, .ref (gr 0)), (1, .int v1), (2, .int v2)] → va_P (dC, dI) cls (wR gr cB cI σ) H → va_S A s.heap H locs → W p l e (headSpec (mw y_Model_takeBlock b_Model_takeBlock 3 (some .int)) rm_Model_takeBlock).room s m [.ref (gr 0)].toArray below meth c H locs 0 0 (MQ below (va_Qi (fun (x : Int32) (_ : Unit) => x = res.1) (fun _ t => kW (dC, dI) (tC cB cI) (wR gr cB cI res.2) t) A) [.ref (gr 0)].toArray s 0 0 A) (F0 m 45 ls []) := by
    intro n
    induction n with
    | zero => intro σ v1 v2 ls H locs hJ; exact j_none hJ
    | succ n hk =>
      intro σ v1 v2 ls H locs hJ hl hP hS
      have hJ : J_Model_takeBlock_45_b (J_Model_takeBlock_45 n) σ v1 v2 = some res := hJ
      unfold J_Model_takeBlock_45_b at hJ
      refine lv_iload_n hx hb d_Model_takeBlock_45 rfl (lv_at hl 2 rfl) ?_
      refine lv_bipush (v := (64 : Int32)) hx hb d_Model_takeBlock_46 (by decide) ?_
      refine lv_icmp_ge (tgt := 64) hx hb d_Model_takeBlock_48 (by decide) (fun h5 => ?_) (fun h5 => ?_)
      · have hJ := j_t hJ h5
        refine lv_iload_n hx hb d_Model_takeBlock_64 rfl (lv_at hl 1 rfl) ?_
        have hJ := Option.some.inj hJ
        exact W.iret (v := v1) hx hb hr (fun t ht hW => ⟨⟨_, (), rfl, (j_p1 hJ), kW_end hP hK ht hW (congrArg (fun z => wR gr cB cI z) (j_p2 hJ))⟩, hS.F ht⟩) hS.2.2 d_Model_takeBlock_65
      · have hJ := j_f hJ h5
        refine lv_aload_n hx hb d_Model_takeBlock_51 rfl (lv_at hl 0 rfl) ?_
        refine lv_iload_n hx hb d_Model_takeBlock_52 rfl (lv_at hl 1 rfl) ?_
        refine lv_iload_n hx hb d_Model_takeBlock_53 rfl (lv_at hl 2 rfl) ?_
        refine lv_iconst (v := (0 : Int32)) hx hb d_Model_takeBlock_54 (by decide) ?_
        obtain ⟨x6, e6, hJ⟩ := j_bind hJ
        refine va_callv (va_runV (As := [.int v1, .int v2, .int (0 : Int32)]) (rest := []) ⟨hx, hb, hml, hown, htb⟩ (c_Model_set (l := l) (dC := dC) (dI := dI) hDa e6) (xcV 3 htb tw747 tw7 tw744 tw746 ts_Model_set rfl rfl hd_Model_set ⟨Nat.le_of_ble_eq_true rfl, Nat.le_of_ble_eq_true rfl⟩) (kW_V hP hK (va_recv (q0 := 0) (ci := 5) hK hP rfl rfl)) rfl rfl hl.1 rfl (lv_room (Nat.le_of_ble_eq_true rfl)) d_Model_takeBlock_55 ⟨Nat.le_of_ble_eq_true rfl, Nat.le_of_ble_eq_true rfl⟩) hS (fun q _ h => h) (fun q h => h) (fun u t H locs ht hvm hw hB _ _ hS => ?_)
        have hP := kW_P hB ht
        refine lv_iinc (k := 2) (v := (v2 + (1 : Int32))) hx hb d_Model_takeBlock_58 hl rfl rfl (Nat.le_of_ble_eq_true rfl) rfl (fun ls hl => ?_)
        have hl : lv_has ls 3 [(2, .int (v2 + (1 : Int32))), (0, .ref (gr 0)), (1, .int v1)] := hl
        refine lv_goto (tgt := 45) hx hb d_Model_takeBlock_61 (by decide) ?_
        exact hk _ _ _ _ _ _ hJ (lv_sub hl [1, 2, 0] rfl) hP hS
  have blk2 : ∀ (n : Nat) (σ : RS) (v1 : Int32) (ls : Array Slot) (H : Heap) (locs : List Loc), J_Model_takeBlock_2 n σ v1 = some res → lv_has ls 3 [(0, .ref (gr 0)), (1, .int v1)] → va_P (dC, dI) cls (wR gr cB cI σ) H → va_S A s.heap H locs → W p l e (headSpec (mw y_Model_takeBlock b_Model_takeBlock 3 (some .int)) rm_Model_takeBlock).room s m [.ref (gr 0)].toArray below meth c H locs 0 0 (MQ below (va_Qi (fun (x : Int32) (_ : Unit) => x = res.1) (fun _ t => kW (dC, dI) (tC cB cI) (wR gr cB cI res.2) t) A) [.ref (gr 0)].toArray s 0 0 A) (F0 m 2 ls []) := by
    intro n
    induction n with
    | zero => intro σ v1 ls H locs hJ; exact j_none hJ
    | succ n hk =>
      intro σ v1 ls H locs hJ hl hP hS
      have hJ : J_Model_takeBlock_2_b (J_Model_takeBlock_2 n) σ v1 = some res := hJ
      unfold J_Model_takeBlock_2_b at hJ
      refine lv_aload_n hx hb d_Model_takeBlock_2 rfl (lv_at hl 0 rfl) ?_
      refine lv_iload_n hx hb d_Model_takeBlock_3 rfl (lv_at hl 1 rfl) ?_
      obtain ⟨x1, e1, hJ⟩ := j_bind hJ
      refine va_calli (va_runV (As := [.int v1]) (rest := []) ⟨hx, hb, hml, hown, htb⟩ (c_Model_isUsed (l := l) (dC := dC) (dI := dI) hDa e1) (xcV 1 htb tw731 tw7 tw728 tw730 ts_Model_isUsed rfl rfl hd_Model_isUsed ⟨Nat.le_of_ble_eq_true rfl, Nat.le_of_ble_eq_true rfl⟩) (kW_V hP hK (va_recv (q0 := 0) (ci := 5) hK hP rfl rfl)) rfl rfl hl.1 rfl (lv_room (Nat.le_of_ble_eq_true rfl)) d_Model_takeBlock_4 ⟨Nat.le_of_ble_eq_true rfl, Nat.le_of_ble_eq_true rfl⟩) hS (fun q _ h => h) (fun q h => h) (fun r0 u t H locs ht hvm hw hB _ _ hS => ?_)
      subst r0
      have hP := kW_P hB ht
      refine lv_if_eq (tgt := 16) hx hb d_Model_takeBlock_7 (by decide) (fun h2 => ?_) (fun h2 => ?_)
      · have hJ := j_t hJ h2
        refine lv_aload_n hx hb d_Model_takeBlock_16 rfl (lv_at hl 0 rfl) ?_
        refine lv_bipush (v := (25 : Int32)) hx hb d_Model_takeBlock_17 (by decide) ?_
        refine lv_iload_n hx hb d_Model_takeBlock_19 rfl (lv_at hl 1 rfl) ?_
        refine lv_bipush (v := (8 : Int32)) hx hb d_Model_takeBlock_20 (by decide) ?_
        refine lv_idiv hx hb d_Model_takeBlock_22 (by decide) ?_
        refine lv_aload_n hx hb d_Model_takeBlock_23 rfl (lv_at hl 0 rfl) ?_
        refine lv_bipush (v := (25 : Int32)) hx hb d_Model_takeBlock_24 (by decide) ?_
        refine lv_iload_n hx hb d_Model_takeBlock_26 rfl (lv_at hl 1 rfl) ?_
        refine lv_bipush (v := (8 : Int32)) hx hb d_Model_takeBlock_27 (by decide) ?_
        refine lv_idiv hx hb d_Model_takeBlock_29 (by decide) ?_
        obtain ⟨x3, e3, hJ⟩ := j_bind hJ
        refine va_calli (va_runV (As := [.int (25 : Int32), .int (v1 / (8 : Int32))]) (rest := [.int (v1 / (8 : Int32)), .int (25 : Int32), .ref (gr 0)]) ⟨hx, hb, hml, hown, htb⟩ (c_Model_at (l := l) (dC := dC) (dI := dI) hDa e3) (xcV 2 htb tw692 tw7 tw689 tw691 ts_Model_at rfl rfl hd_Model_at ⟨Nat.le_of_ble_eq_true rfl, Nat.le_of_ble_eq_true rfl⟩) (kW_V hP hK (va_recv (q0 := 0) (ci := 5) hK hP rfl rfl)) rfl rfl hl.1 rfl (lv_room (Nat.le_of_ble_eq_true rfl)) d_Model_takeBlock_30 ⟨Nat.le_of_ble_eq_true rfl, Nat.le_of_ble_eq_true rfl⟩) hS (fun q _ h => h) (fun q h => h) (fun r0 u t H locs ht hvm hw hB _ _ hS => ?_)
        subst r0
        have hP := kW_P hB ht
        refine lv_iconst (v := (1 : Int32)) hx hb d_Model_takeBlock_33 (by decide) ?_
        refine lv_iload_n hx hb d_Model_takeBlock_34 rfl (lv_at hl 1 rfl) ?_
        refine lv_bipush (v := (8 : Int32)) hx hb d_Model_takeBlock_35 (by decide) ?_
        refine lv_irem hx hb d_Model_takeBlock_37 (by decide) ?_
        refine lv_ishl hx hb d_Model_takeBlock_38 ?_
        refine lv_ior hx hb d_Model_takeBlock_39 ?_
        obtain ⟨x4, e4, hJ⟩ := j_bind hJ
        refine va_callv (va_runV (As := [.int (25 : Int32), .int (v1 / (8 : Int32)), .int (x3 ||| ((1 : Int32) <<< ((v1 - v1 / (8 : Int32) * (8 : Int32)) &&& 31)))]) (rest := []) ⟨hx, hb, hml, hown, htb⟩ (c_Model_set (l := l) (dC := dC) (dI := dI) hDa e4) (xcV 3 htb tw747 tw7 tw744 tw746 ts_Model_set rfl rfl hd_Model_set ⟨Nat.le_of_ble_eq_true rfl, Nat.le_of_ble_eq_true rfl⟩) (kW_V hP hK (va_recv (q0 := 0) (ci := 5) hK hP rfl rfl)) rfl rfl hl.1 rfl (lv_room (Nat.le_of_ble_eq_true rfl)) d_Model_takeBlock_40 ⟨Nat.le_of_ble_eq_true rfl, Nat.le_of_ble_eq_true rfl⟩) hS (fun q _ h => h) (fun q h => h) (fun u t H locs ht hvm hw hB _ _ hS => ?_)
        have hP := kW_P hB ht
        refine lv_iconst (v := (0 : Int32)) hx hb d_Model_takeBlock_43 (by decide) ?_
        refine lv_istore_n hx hb d_Model_takeBlock_44 rfl hl (Nat.le_of_ble_eq_true rfl) rfl (fun ls hl => ?_)
        have hl : lv_has ls 3 [(2, .int (0 : Int32)), (0, .ref (gr 0)), (1, .int v1)] := hl
        exact blk45 9000 _ _ _ _ _ _ hJ (lv_sub hl [1, 2, 0] rfl) hP hS
      · have hJ := j_f hJ h2
        refine lv_iinc (k := 1) (v := (v1 + (1 : Int32))) hx hb d_Model_takeBlock_10 hl rfl rfl (Nat.le_of_ble_eq_true rfl) rfl (fun ls hl => ?_)
        have hl : lv_has ls 3 [(1, .int (v1 + (1 : Int32))), (0, .ref (gr 0))] := hl
        refine lv_goto (tgt := 2) hx hb d_Model_takeBlock_13 (by decide) ?_
        exact hk _ _ _ _ _ hJ (lv_sub hl [1, 0] rfl) hP hS
  unfold J_Model_takeBlock at hJ
  refine lv_iconst (v := (0 : Int32)) hx hb d_Model_takeBlock_0 (by decide) ?_
  refine lv_istore_n hx hb d_Model_takeBlock_1 rfl hl (Nat.le_of_ble_eq_true rfl) rfl (fun ls hl => ?_)
  have hl : lv_has ls 3 [(1, .int (0 : Int32)), (0, .ref (gr 0))] := hl
  exact blk2 9000 _ _ _ _ _ hJ (lv_sub hl [1, 0] rfl) hP hS
def J_Model_blockFor_46 (σ : RS) (v1 : Int32) (v2 : Int32) : Option (RS) :=
  (J_Model_takeBlock σ).bind fun x4 => (J_Model_inodeAt x4.2 v1 (14 : Int32)).bind fun x5 => (J_Model_set x4.2 x5 (v2 - (10 : Int32)) x4.1).bind fun x6 => some x6
def J_Model_blockFor (σ : RS) (a1 : Int32) (a2 : Int32) : Option (RS) :=
  (if (10 : Int32) ≤ a2 then (J_Model_inodeAt σ a1 (14 : Int32)).bind fun x2 => (if x2 = (0 : Int32) then (J_Model_takeBlock σ).bind fun x7 => (J_Model_setInode x7.2 a1 (14 : Int32) x7.1).bind fun x8 => J_Model_blockFor_46 x8 a1 a2 else J_Model_blockFor_46 σ a1 a2) else (J_Model_takeBlock σ).bind fun x9 => (J_Model_setInode x9.2 a1 ((4 : Int32) + a2) x9.1).bind fun x10 => some x10)
abbrev rm_Model_blockFor : Room := { frames := 3, cells := 0, slots := 0, locals := 69 }
set_option maxHeartbeats 4000000 in
set_option maxRecDepth 100000 in
theorem c_Model_blockFor {l : Launch} {dC : Nat → ClassId} {dI : Nat → Nat → Nat} {gr : Nat → Nat} {cB cI : ClassId} {A : Nat → Prop} (hDa : ∀ σ, va_D A (wR gr cB cI σ)) {σ : RS} {a1 : Int32} {a2 : Int32} {res : RS} (hJ : J_Model_blockFor σ a1 a2 = some res) :
    Met l y_Model_blockFor (mw y_Model_blockFor b_Model_blockFor 4 none) rm_Model_blockFor (va_Pc [.ref (gr 0), .int a1, .int a2] (kW (dC, dI) (tC cB cI) (wR gr cB cI σ))) (va_Qv (fun (_ : Unit) => True) (fun _ t => kW (dC, dI) (tC cB cI) (wR gr cB cI res) t) A) 0 0 A := by
  refine Met.ofW (cc := b_Model_blockFor) (maxL := 4) (ret := none) (by decide) rfl ?_
  intro p e s m args below meth c s₁ B hml hv
  obtain ⟨rfl, hP, hK⟩ := hv
  have hx := B.exec
  have hb := B.bytes
  have hr := B.returns
  have hts := atoms_spec (ws := (mw y_Model_blockFor b_Model_blockFor 4 none)) B.pre
  have htb : ∀ w ∈ tb, w.before [.ref (gr 0), .int a1, .int a2].toArray s = true := fun w h => hts w (mwIn h)
  have hown : s.vm.findClass "LogFsModel" = some m.cls := findClass_of_methodNamed B.named
  have hlocks := B.notSynchronized
  have hS : va_S A s.heap s.heap [] := va_S.rf
  have hl := lv_entry ([.ref (gr 0), .int a1, .int a2]) (n := 4) (Nat.le_of_ble_eq_true rfl)
  rw [lg_entry_eq]
  generalize (lg_sl ([.ref (gr 0), .int a1, .int a2]) ++ List.replicate (4 - (lg_sl ([.ref (gr 0), .int a1, .int a2])).length) Slot.unset).toArray = ls at hl ⊢
  have hl : lv_has ls 4 [(0, .ref (gr 0)), (1, .int a1), (2, .int a2)] := hl
  have blk46 : ∀ (σ : RS) (v1 : Int32) (v2 : Int32) (ls : Array Slot) (H : Heap) (locs : List Loc), J_Model_blockFor_46 σ v1 v2 = some res → lv_has ls 4 [(0, .ref (gr 0)), (1, .int v1), (2, .int v2)] → va_P (dC, dI) cls (wR gr cB cI σ) H → va_S A s.heap H locs → W p l e (headSpec (mw y_Model_blockFor b_Model_blockFor 4 none) rm_Model_blockFor).room s m [.ref (gr 0), .int a1, .int a2].toArray below meth c H locs 0 0 (MQ below (va_Qv (fun (_ : Unit) => True) (fun _ t => kW (dC, dI) (tC cB cI) (wR gr cB cI res) t) A) [.ref (gr 0), .int a1, .int a2].toArray s 0 0 A) (F0 m 46 ls []) := by
    intro σ v1 v2 ls H locs hJ hl hP hS
    unfold J_Model_blockFor_46 at hJ
    refine lv_aload_n hx hb d_Model_blockFor_46 rfl (lv_at hl 0 rfl) ?_
    obtain ⟨x4, e4, hJ⟩ := j_bind hJ
    refine va_calli (va_runV (As := []) (rest := []) ⟨hx, hb, hml, hown, htb⟩ (c_Model_takeBlock (l := l) (dC := dC) (dI := dI) hDa e4) (xcV 0 htb tw763 tw7 tw760 tw762 ts_Model_takeBlock rfl rfl hd_Model_takeBlock ⟨Nat.le_of_ble_eq_true rfl, Nat.le_of_ble_eq_true rfl⟩) (kW_V hP hK (va_recv (q0 := 0) (ci := 5) hK hP rfl rfl)) rfl rfl hl.1 rfl (lv_room (Nat.le_of_ble_eq_true rfl)) d_Model_blockFor_47 ⟨Nat.le_of_ble_eq_true rfl, Nat.le_of_ble_eq_true rfl⟩) hS (fun q _ h => h) (fun q h => h) (fun r0 u t H locs ht hvm hw hB _ _ hS => ?_)
    subst r0
    have hP := kW_P hB ht
    refine lv_istore_n hx hb d_Model_blockFor_50 rfl hl (Nat.le_of_ble_eq_true rfl) rfl (fun ls hl => ?_)
    have hl : lv_has ls 4 [(3, .int x4.1), (0, .ref (gr 0)), (1, .int v1), (2, .int v2)] := hl
    refine lv_aload_n hx hb d_Model_blockFor_51 rfl (lv_at hl 1 rfl) ?_
    refine lv_aload_n hx hb d_Model_blockFor_52 rfl (lv_at hl 1 rfl) ?_
    refine lv_iload_n hx hb d_Model_blockFor_53 rfl (lv_at hl 2 rfl) ?_
    refine lv_bipush (v := (14 : Int32)) hx hb d_Model_blockFor_54 (by decide) ?_
    obtain ⟨x5, e5, hJ⟩ := j_bind hJ
    refine va_calli (va_runV (As := [.int v1, .int (14 : Int32)]) (rest := [.ref (gr 0)]) ⟨hx, hb, hml, hown, htb⟩ (c_Model_inodeAt (l := l) (dC := dC) (dI := dI) hDa e5) (xcV 2 htb tw682 tw7 tw679 tw681 ts_Model_inodeAt rfl rfl hd_Model_inodeAt ⟨Nat.le_of_ble_eq_true rfl, Nat.le_of_ble_eq_true rfl⟩) (kW_V hP hK (va_recv (q0 := 0) (ci := 5) hK hP rfl rfl)) rfl rfl hl.1 rfl (lv_room (Nat.le_of_ble_eq_true rfl)) d_Model_blockFor_56 ⟨Nat.le_of_ble_eq_true rfl, Nat.le_of_ble_eq_true rfl⟩) hS (fun q _ h => h) (fun q h => h) (fun r0 u t H locs ht hvm hw hB _ _ hS => ?_)
    subst r0
    have hP := kW_P hB ht
    refine lv_iload_n hx hb d_Model_blockFor_59 rfl (lv_at hl 3 rfl) ?_
    refine lv_bipush (v := (10 : Int32)) hx hb d_Model_blockFor_60 (by decide) ?_
    refine lv_isub hx hb d_Model_blockFor_62 ?_
    refine lv_iload_n hx hb d_Model_blockFor_63 rfl (lv_at hl 0 rfl) ?_
    obtain ⟨x6, e6, hJ⟩ := j_bind hJ
    refine va_callv (va_runV (As := [.int x5, .int (v2 - (10 : Int32)), .int x4.1]) (rest := []) ⟨hx, hb, hml, hown, htb⟩ (c_Model_set (l := l) (dC := dC) (dI := dI) hDa e6) (xcV 3 htb tw747 tw7 tw744 tw746 ts_Model_set rfl rfl hd_Model_set ⟨Nat.le_of_ble_eq_true rfl, Nat.le_of_ble_eq_true rfl⟩) (kW_V hP hK (va_recv (q0 := 0) (ci := 5) hK hP rfl rfl)) rfl rfl hl.1 rfl (lv_room (Nat.le_of_ble_eq_true rfl)) d_Model_blockFor_64 ⟨Nat.le_of_ble_eq_true rfl, Nat.le_of_ble_eq_true rfl⟩) hS (fun q _ h => h) (fun q h => h) (fun u t H locs ht hvm hw hB _ _ hS => ?_)
    have hP := kW_P hB ht
    have hJ := Option.some.inj hJ
    exact W.vret hx hb hr (fun t ht hW => ⟨⟨(), rfl, trivial, kW_end hP hK ht hW (congrArg (fun z => wR gr cB cI z) hJ)⟩, hS.F ht⟩) hS.2.2 d_Model_blockFor_67
  unfold J_Model_blockFor at hJ
  refine lv_iload_n hx hb d_Model_blockFor_0 rfl (lv_at hl 2 rfl) ?_
  refine lv_bipush (v := (10 : Int32)) hx hb d_Model_blockFor_1 (by decide) ?_
  refine lv_icmp_ge (tgt := 23) hx hb d_Model_blockFor_3 (by decide) (fun h1 => ?_) (fun h1 => ?_)
  · have hJ := j_t hJ h1
    refine lv_aload_n hx hb d_Model_blockFor_23 rfl (lv_at hl 0 rfl) ?_
    refine lv_iload_n hx hb d_Model_blockFor_24 rfl (lv_at hl 1 rfl) ?_
    refine lv_bipush (v := (14 : Int32)) hx hb d_Model_blockFor_25 (by decide) ?_
    obtain ⟨x2, e2, hJ⟩ := j_bind hJ
    refine va_calli (va_runV (As := [.int a1, .int (14 : Int32)]) (rest := []) ⟨hx, hb, hml, hown, htb⟩ (c_Model_inodeAt (l := l) (dC := dC) (dI := dI) hDa e2) (xcV 2 htb tw682 tw7 tw679 tw681 ts_Model_inodeAt rfl rfl hd_Model_inodeAt ⟨Nat.le_of_ble_eq_true rfl, Nat.le_of_ble_eq_true rfl⟩) (kW_V hP hK (va_recv (q0 := 0) (ci := 5) hK hP rfl rfl)) rfl rfl hl.1 rfl (lv_room (Nat.le_of_ble_eq_true rfl)) d_Model_blockFor_27 ⟨Nat.le_of_ble_eq_true rfl, Nat.le_of_ble_eq_true rfl⟩) hS (fun q _ h => h) (fun q h => h) (fun r0 u t H locs ht hvm hw hB _ _ hS => ?_)
    subst r0
    have hP := kW_P hB ht
    refine lv_if_ne (tgt := 46) hx hb d_Model_blockFor_30 (by decide) (fun h3 => ?_) (fun h3 => ?_)
    · have hJ := j_f hJ h3
      exact blk46 _ _ _ _ _ _ hJ (lv_sub hl [0, 1, 2] rfl) hP hS
    · have hJ := j_t hJ h3
      refine lv_aload_n hx hb d_Model_blockFor_33 rfl (lv_at hl 0 rfl) ?_
      obtain ⟨x7, e7, hJ⟩ := j_bind hJ
      refine va_calli (va_runV (As := []) (rest := []) ⟨hx, hb, hml, hown, htb⟩ (c_Model_takeBlock (l := l) (dC := dC) (dI := dI) hDa e7) (xcV 0 htb tw763 tw7 tw760 tw762 ts_Model_takeBlock rfl rfl hd_Model_takeBlock ⟨Nat.le_of_ble_eq_true rfl, Nat.le_of_ble_eq_true rfl⟩) (kW_V hP hK (va_recv (q0 := 0) (ci := 5) hK hP rfl rfl)) rfl rfl hl.1 rfl (lv_room (Nat.le_of_ble_eq_true rfl)) d_Model_blockFor_34 ⟨Nat.le_of_ble_eq_true rfl, Nat.le_of_ble_eq_true rfl⟩) hS (fun q _ h => h) (fun q h => h) (fun r0 u t H locs ht hvm hw hB _ _ hS => ?_)
      subst r0
      have hP := kW_P hB ht
      refine lv_istore_n hx hb d_Model_blockFor_37 rfl hl (Nat.le_of_ble_eq_true rfl) rfl (fun ls hl => ?_)
      have hl : lv_has ls 4 [(3, .int x7.1), (0, .ref (gr 0)), (1, .int a1), (2, .int a2)] := hl
      refine lv_aload_n hx hb d_Model_blockFor_38 rfl (lv_at hl 1 rfl) ?_
      refine lv_iload_n hx hb d_Model_blockFor_39 rfl (lv_at hl 2 rfl) ?_
      refine lv_bipush (v := (14 : Int32)) hx hb d_Model_blockFor_40 (by decide) ?_
      refine lv_iload_n hx hb d_Model_blockFor_42 rfl (lv_at hl 0 rfl) ?_
      obtain ⟨x8, e8, hJ⟩ := j_bind hJ
      refine va_callv (va_runV (As := [.int a1, .int (14 : Int32), .int x7.1]) (rest := []) ⟨hx, hb, hml, hown, htb⟩ (c_Model_setInode (l := l) (dC := dC) (dI := dI) hDa e8) (xcV 3 htb tw743 tw7 tw740 tw742 ts_Model_setInode rfl rfl hd_Model_setInode ⟨Nat.le_of_ble_eq_true rfl, Nat.le_of_ble_eq_true rfl⟩) (kW_V hP hK (va_recv (q0 := 0) (ci := 5) hK hP rfl rfl)) rfl rfl hl.1 rfl (lv_room (Nat.le_of_ble_eq_true rfl)) d_Model_blockFor_43 ⟨Nat.le_of_ble_eq_true rfl, Nat.le_of_ble_eq_true rfl⟩) hS (fun q _ h => h) (fun q h => h) (fun u t H locs ht hvm hw hB _ _ hS => ?_)
      have hP := kW_P hB ht
      exact blk46 _ _ _ _ _ _ hJ (lv_sub hl [1, 2, 3] rfl) hP hS
  · have hJ := j_f hJ h1
    refine lv_aload_n hx hb d_Model_blockFor_6 rfl (lv_at hl 0 rfl) ?_
    obtain ⟨x9, e9, hJ⟩ := j_bind hJ
    refine va_calli (va_runV (As := []) (rest := []) ⟨hx, hb, hml, hown, htb⟩ (c_Model_takeBlock (l := l) (dC := dC) (dI := dI) hDa e9) (xcV 0 htb tw763 tw7 tw760 tw762 ts_Model_takeBlock rfl rfl hd_Model_takeBlock ⟨Nat.le_of_ble_eq_true rfl, Nat.le_of_ble_eq_true rfl⟩) (kW_V hP hK (va_recv (q0 := 0) (ci := 5) hK hP rfl rfl)) rfl rfl hl.1 rfl (lv_room (Nat.le_of_ble_eq_true rfl)) d_Model_blockFor_7 ⟨Nat.le_of_ble_eq_true rfl, Nat.le_of_ble_eq_true rfl⟩) hS (fun q _ h => h) (fun q h => h) (fun r0 u t H locs ht hvm hw hB _ _ hS => ?_)
    subst r0
    have hP := kW_P hB ht
    refine lv_istore_n hx hb d_Model_blockFor_10 rfl hl (Nat.le_of_ble_eq_true rfl) rfl (fun ls hl => ?_)
    have hl : lv_has ls 4 [(3, .int x9.1), (0, .ref (gr 0)), (1, .int a1), (2, .int a2)] := hl
    refine lv_aload_n hx hb d_Model_blockFor_11 rfl (lv_at hl 1 rfl) ?_
    refine lv_iload_n hx hb d_Model_blockFor_12 rfl (lv_at hl 2 rfl) ?_
    refine lv_iconst (v := (4 : Int32)) hx hb d_Model_blockFor_13 (by decide) ?_
    refine lv_iload_n hx hb d_Model_blockFor_14 rfl (lv_at hl 3 rfl) ?_
    refine lv_iadd hx hb d_Model_blockFor_15 ?_
    refine lv_iload_n hx hb d_Model_blockFor_16 rfl (lv_at hl 0 rfl) ?_
    obtain ⟨x10, e10, hJ⟩ := j_bind hJ
    refine va_callv (va_runV (As := [.int a1, .int ((4 : Int32) + a2), .int x9.1]) (rest := []) ⟨hx, hb, hml, hown, htb⟩ (c_Model_setInode (l := l) (dC := dC) (dI := dI) hDa e10) (xcV 3 htb tw743 tw7 tw740 tw742 ts_Model_setInode rfl rfl hd_Model_setInode ⟨Nat.le_of_ble_eq_true rfl, Nat.le_of_ble_eq_true rfl⟩) (kW_V hP hK (va_recv (q0 := 0) (ci := 5) hK hP rfl rfl)) rfl rfl hl.1 rfl (lv_room (Nat.le_of_ble_eq_true rfl)) d_Model_blockFor_17 ⟨Nat.le_of_ble_eq_true rfl, Nat.le_of_ble_eq_true rfl⟩) hS (fun q _ h => h) (fun q h => h) (fun u t H locs ht hvm hw hB _ _ hS => ?_)
    have hP := kW_P hB ht
    refine lv_goto (tgt := 67) hx hb d_Model_blockFor_20 (by decide) ?_
    have hJ := Option.some.inj hJ
    exact W.vret hx hb hr (fun t ht hW => ⟨⟨(), rfl, trivial, kW_end hP hK ht hW (congrArg (fun z => wR gr cB cI z) hJ)⟩, hS.F ht⟩) hS.2.2 d_Model_blockFor_67
def J_Model_enter_70_b (k : RS → Int32 → Int32 → Int32 → Int32 → Int32 → Option (RS)) (σ : RS) (v1 : Int32) (v3 : Int32) (v4 : Int32) (v5 : Int32) (v6 : Int32) : Option (RS) :=
  (if (7 : Int32) ≤ v6 then (if v4 = (0 : Int32) then some σ else (J_Model_setSize σ v1 (v3 + (8 : Int32))).bind fun x9 => some x9) else (if jin v6 8 = true then (J_Model_set σ v5 (((v3 - v3 / (64 : Int32) * (64 : Int32)) + (1 : Int32)) + v6) ((r_N σ) v6.toNatClampNeg).toInt32).bind fun x11 => k x11 v1 v3 v4 v5 (v6 + (1 : Int32)) else none))
def J_Model_enter_70 : Nat → RS → Int32 → Int32 → Int32 → Int32 → Int32 → Option (RS)
  | 0, _, _, _, _, _, _ => none
  | n + 1, σ, v1, v3, v4, v5, v6 => J_Model_enter_70_b (J_Model_enter_70 n) σ v1 v3 v4 v5 v6
def J_Model_enter_43 (σ : RS) (v1 : Int32) (v2 : Int32) (v3 : Int32) (v4 : Int32) : Option (RS) :=
  (J_Model_contentBlock σ v1 (v3 / (64 : Int32))).bind fun x5 => (J_Model_set σ x5 (v3 - v3 / (64 : Int32) * (64 : Int32)) (v2 + (1 : Int32))).bind fun x6 => J_Model_enter_70 9000 x6 v1 v3 v4 x5 (0 : Int32)
def J_Model_enter_20 (σ : RS) (v1 : Int32) (v2 : Int32) (v3 : Int32) (t0 : Int32) : Option (RS) :=
  (if t0 = (0 : Int32) then J_Model_enter_43 σ v1 v2 v3 t0 else (if (v3 - v3 / (64 : Int32) * (64 : Int32)) = (0 : Int32) then (J_Model_blockFor σ v1 (v3 / (64 : Int32))).bind fun x13 => J_Model_enter_43 x13 v1 v2 v3 t0 else J_Model_enter_43 σ v1 v2 v3 t0))
def J_Model_enter (σ : RS) (a1 : Int32) (a2 : Int32) : Option (RS) :=
  (J_Model_placeForEntry σ a1).bind fun x1 => (J_Model_sizeOf σ a1).bind fun x2 => (if x1 = x2 then J_Model_enter_20 σ a1 a2 x1 (1 : Int32) else J_Model_enter_20 σ a1 a2 x1 (0 : Int32))
abbrev rm_Model_enter : Room := { frames := 5, cells := 0, slots := 0, locals := 110 }
set_option maxHeartbeats 4000000 in
set_option maxRecDepth 100000 in
theorem c_Model_enter {l : Launch} {dC : Nat → ClassId} {dI : Nat → Nat → Nat} {gr : Nat → Nat} {cB cI : ClassId} {A : Nat → Prop} (hDa : ∀ σ, va_D A (wR gr cB cI σ)) {σ : RS} {a1 : Int32} {a2 : Int32} {res : RS} (hJ : J_Model_enter σ a1 a2 = some res) :
    Met l y_Model_enter (mw y_Model_enter b_Model_enter 7 none) rm_Model_enter (va_Pc [.ref (gr 0), .int a1, .int a2] (kW (dC, dI) (tC cB cI) (wR gr cB cI σ))) (va_Qv (fun (_ : Unit) => True) (fun _ t => kW (dC, dI) (tC cB cI) (wR gr cB cI res) t) A) 0 0 A := by
  refine Met.ofW (cc := b_Model_enter) (maxL := 7) (ret := none) (by decide) rfl ?_
  intro p e s m args below meth c s₁ B hml hv
  obtain ⟨rfl, hP, hK⟩ := hv
  have hx := B.exec
  have hb := B.bytes
  have hr := B.returns
  have hts := atoms_spec (ws := (mw y_Model_enter b_Model_enter 7 none)) B.pre
  have htb : ∀ w ∈ tb, w.before [.ref (gr 0), .int a1, .int a2].toArray s = true := fun w h => hts w (mwIn h)
  have hown : s.vm.findClass "LogFsModel" = some m.cls := findClass_of_methodNamed B.named
  have hlocks := B.notSynchronized
  have hS : va_S A s.heap s.heap [] := va_S.rf
  have hl := lv_entry ([.ref (gr 0), .int a1, .int a2]) (n := 7) (Nat.le_of_ble_eq_true rfl)
  rw [lg_entry_eq]
  generalize (lg_sl ([.ref (gr 0), .int a1, .int a2]) ++ List.replicate (7 - (lg_sl ([.ref (gr 0), .int a1, .int a2])).length) Slot.unset).toArray = ls at hl ⊢
  have hl : lv_has ls 7 [(0, .ref (gr 0)), (1, .int a1), (2, .int a2)] := hl
  have blk70 : ∀ (n : Nat) (σ : RS) (v1 : Int32) (v3 : Int32) (v4 : Int32) (v5 : Int32) (v6 : Int32) (ls : Array Slot) (H : Heap) (locs : List Loc), J_Model_enter_70 n σ v1 v3 v4 v5 v6 = some res → lv_has ls 7 [(0, .ref (gr 0)), (1, .int v1), (3, .int v3), (4, .int v4), (5, .int v5), (6, .int v6)] → va_P (dC, dI) cls (wR gr cB cI σ) H → va_S A s.heap H locs → W p l e (headSpec (mw y_Model_enter b_Model_enter 7 none) rm_Model_enter).room s m [.ref (gr 0), .int a1, .int a2].toArray below meth c H locs 0 0 (MQ below (va_Qv (fun (_ : Unit) => True) (fun _ t => kW (dC, dI) (tC cB cI) (wR gr cB cI res) t) A) [.ref (gr 0), .int a1, .int a2].toArray s 0 0 A) (F0 m 70 ls []) := by
    intro n
    induction n with
    | zero => intro σ v1 v3 v4 v5 v6 ls H locs hJ; exact j_none hJ
    | succ n hk =>
      intro σ v1 v3 v4 v5 v6 ls H locs hJ hl hP hS
      have hJ : J_Model_enter_70_b (J_Model_enter_70 n) σ v1 v3 v4 v5 v6 = some res := hJ
      unfold J_Model_enter_70_b at hJ
      refine lv_iload hx hb d_Model_enter_70 (lv_at hl 5 rfl) ?_
      refine lv_bipush (v := (7 : Int32)) hx hb d_Model_enter_72 (by decide) ?_
      refine lv_icmp_ge (tgt := 105) hx hb d_Model_enter_74 (by decide) (fun h7 => ?_) (fun h7 => ?_)
      · have hJ := j_t hJ h7
        refine lv_iload hx hb d_Model_enter_105 (lv_at hl 3 rfl) ?_
        refine lv_if_eq (tgt := 119) hx hb d_Model_enter_107 (by decide) (fun h8 => ?_) (fun h8 => ?_)
        · have hJ := j_t hJ h8
          have hJ := Option.some.inj hJ
          exact W.vret hx hb hr (fun t ht hW => ⟨⟨(), rfl, trivial, kW_end hP hK ht hW (congrArg (fun z => wR gr cB cI z) hJ)⟩, hS.F ht⟩) hS.2.2 d_Model_enter_119
        · have hJ := j_f hJ h8
          refine lv_aload_n hx hb d_Model_enter_110 rfl (lv_at hl 0 rfl) ?_
          refine lv_iload_n hx hb d_Model_enter_111 rfl (lv_at hl 1 rfl) ?_
          refine lv_iload_n hx hb d_Model_enter_112 rfl (lv_at hl 2 rfl) ?_
          refine lv_bipush (v := (8 : Int32)) hx hb d_Model_enter_113 (by decide) ?_
          refine lv_iadd hx hb d_Model_enter_115 ?_
          obtain ⟨x9, e9, hJ⟩ := j_bind hJ
          refine va_callv (va_runV (As := [.int v1, .int (v3 + (8 : Int32))]) (rest := []) ⟨hx, hb, hml, hown, htb⟩ (c_Model_setSize (l := l) (dC := dC) (dI := dI) hDa e9) (xcV 2 htb tw767 tw7 tw764 tw766 ts_Model_setSize rfl rfl hd_Model_setSize ⟨Nat.le_of_ble_eq_true rfl, Nat.le_of_ble_eq_true rfl⟩) (kW_V hP hK (va_recv (q0 := 0) (ci := 5) hK hP rfl rfl)) rfl rfl hl.1 rfl (lv_room (Nat.le_of_ble_eq_true rfl)) d_Model_enter_116 ⟨Nat.le_of_ble_eq_true rfl, Nat.le_of_ble_eq_true rfl⟩) hS (fun q _ h => h) (fun q h => h) (fun u t H locs ht hvm hw hB _ _ hS => ?_)
          have hP := kW_P hB ht
          have hJ := Option.some.inj hJ
          exact W.vret hx hb hr (fun t ht hW => ⟨⟨(), rfl, trivial, kW_end hP hK ht hW (congrArg (fun z => wR gr cB cI z) hJ)⟩, hS.F ht⟩) hS.2.2 d_Model_enter_119
      · have hJ := j_f hJ h7
        refine lv_aload_n hx hb d_Model_enter_77 rfl (lv_at hl 0 rfl) ?_
        refine lv_iload hx hb d_Model_enter_78 (lv_at hl 4 rfl) ?_
        refine lv_iload_n hx hb d_Model_enter_80 rfl (lv_at hl 2 rfl) ?_
        refine lv_bipush (v := (64 : Int32)) hx hb d_Model_enter_81 (by decide) ?_
        refine lv_irem hx hb d_Model_enter_83 (by decide) ?_
        refine lv_iconst (v := (1 : Int32)) hx hb d_Model_enter_84 (by decide) ?_
        refine lv_iadd hx hb d_Model_enter_85 ?_
        refine lv_iload hx hb d_Model_enter_86 (lv_at hl 5 rfl) ?_
        refine lv_iadd hx hb d_Model_enter_88 ?_
        refine lv_aload_n hx hb d_Model_enter_89 rfl (lv_at hl 0 rfl) ?_
        refine va_get (D := (dC, dI)) (ci := 5) (v := .ref (gr 4)) (C := R_Model) (T := T_Model) (N := 12) hx hb htb uin_Model hown hK hP 0 rfl rfl 10 (by decide) (htb _ tw600) (fun _ h9 => h9) rfl d_Model_enter_90 ?_
        refine lv_iload hx hb d_Model_enter_93 (lv_at hl 5 rfl) ?_
        obtain ⟨h10, hJ⟩ := j_g hJ
        refine va_bald hx hb hK hP 4 0 rfl rfl (j_in h10) d_Model_enter_95 ?_
        obtain ⟨x11, e11, hJ⟩ := j_bind hJ
        refine va_callv (va_runV (As := [.int v5, .int (((v3 - v3 / (64 : Int32) * (64 : Int32)) + (1 : Int32)) + v6), .int ((r_N σ) v6.toNatClampNeg).toInt32]) (rest := []) ⟨hx, hb, hml, hown, htb⟩ (c_Model_set (l := l) (dC := dC) (dI := dI) hDa e11) (xcV 3 htb tw747 tw7 tw744 tw746 ts_Model_set rfl rfl hd_Model_set ⟨Nat.le_of_ble_eq_true rfl, Nat.le_of_ble_eq_true rfl⟩) (kW_V hP hK (va_recv (q0 := 0) (ci := 5) hK hP rfl rfl)) rfl rfl hl.1 rfl (lv_room (Nat.le_of_ble_eq_true rfl)) d_Model_enter_96 ⟨Nat.le_of_ble_eq_true rfl, Nat.le_of_ble_eq_true rfl⟩) hS (fun q _ h => h) (fun q h => h) (fun u t H locs ht hvm hw hB _ _ hS => ?_)
        have hP := kW_P hB ht
        refine lv_iinc (k := 5) (v := (v6 + (1 : Int32))) hx hb d_Model_enter_99 hl rfl rfl (Nat.le_of_ble_eq_true rfl) rfl (fun ls hl => ?_)
        have hl : lv_has ls 7 [(6, .int (v6 + (1 : Int32))), (0, .ref (gr 0)), (1, .int v1), (3, .int v3), (4, .int v4), (5, .int v5)] := hl
        refine lv_goto (tgt := 70) hx hb d_Model_enter_102 (by decide) ?_
        exact hk _ _ _ _ _ _ _ _ _ hJ (lv_sub hl [1, 2, 3, 4, 5, 0] rfl) hP hS
  have blk43 : ∀ (σ : RS) (v1 : Int32) (v2 : Int32) (v3 : Int32) (v4 : Int32) (ls : Array Slot) (H : Heap) (locs : List Loc), J_Model_enter_43 σ v1 v2 v3 v4 = some res → lv_has ls 7 [(0, .ref (gr 0)), (1, .int v1), (2, .int v2), (3, .int v3), (4, .int v4)] → va_P (dC, dI) cls (wR gr cB cI σ) H → va_S A s.heap H locs → W p l e (headSpec (mw y_Model_enter b_Model_enter 7 none) rm_Model_enter).room s m [.ref (gr 0), .int a1, .int a2].toArray below meth c H locs 0 0 (MQ below (va_Qv (fun (_ : Unit) => True) (fun _ t => kW (dC, dI) (tC cB cI) (wR gr cB cI res) t) A) [.ref (gr 0), .int a1, .int a2].toArray s 0 0 A) (F0 m 43 ls []) := by
    intro σ v1 v2 v3 v4 ls H locs hJ hl hP hS
    unfold J_Model_enter_43 at hJ
    refine lv_aload_n hx hb d_Model_enter_43 rfl (lv_at hl 0 rfl) ?_
    refine lv_iload_n hx hb d_Model_enter_44 rfl (lv_at hl 1 rfl) ?_
    refine lv_iload_n hx hb d_Model_enter_45 rfl (lv_at hl 3 rfl) ?_
    refine lv_bipush (v := (64 : Int32)) hx hb d_Model_enter_46 (by decide) ?_
    refine lv_idiv hx hb d_Model_enter_48 (by decide) ?_
    obtain ⟨x5, e5, hJ⟩ := j_bind hJ
    refine va_calli (va_runV (As := [.int v1, .int (v3 / (64 : Int32))]) (rest := []) ⟨hx, hb, hml, hown, htb⟩ (c_Model_contentBlock (l := l) (dC := dC) (dI := dI) hDa e5) (xcV 2 htb tw712 tw7 tw709 tw711 ts_Model_contentBlock rfl rfl hd_Model_contentBlock ⟨Nat.le_of_ble_eq_true rfl, Nat.le_of_ble_eq_true rfl⟩) (kW_V hP hK (va_recv (q0 := 0) (ci := 5) hK hP rfl rfl)) rfl rfl hl.1 rfl (lv_room (Nat.le_of_ble_eq_true rfl)) d_Model_enter_49 ⟨Nat.le_of_ble_eq_true rfl, Nat.le_of_ble_eq_true rfl⟩) hS (fun q _ h => h) (fun q h => h) (fun r0 u t H locs ht hvm hw hB _ _ hS => ?_)
    subst r0
    have hP := kW_P hB ht
    refine lv_istore hx hb d_Model_enter_52 hl (Nat.le_of_ble_eq_true rfl) rfl (fun ls hl => ?_)
    have hl : lv_has ls 7 [(5, .int x5), (0, .ref (gr 0)), (1, .int v1), (2, .int v2), (3, .int v3), (4, .int v4)] := hl
    refine lv_aload_n hx hb d_Model_enter_54 rfl (lv_at hl 1 rfl) ?_
    refine lv_iload hx hb d_Model_enter_55 (lv_at hl 0 rfl) ?_
    refine lv_iload_n hx hb d_Model_enter_57 rfl (lv_at hl 4 rfl) ?_
    refine lv_bipush (v := (64 : Int32)) hx hb d_Model_enter_58 (by decide) ?_
    refine lv_irem hx hb d_Model_enter_60 (by decide) ?_
    refine lv_iload_n hx hb d_Model_enter_61 rfl (lv_at hl 3 rfl) ?_
    refine lv_iconst (v := (1 : Int32)) hx hb d_Model_enter_62 (by decide) ?_
    refine lv_iadd hx hb d_Model_enter_63 ?_
    obtain ⟨x6, e6, hJ⟩ := j_bind hJ
    refine va_callv (va_runV (As := [.int x5, .int (v3 - v3 / (64 : Int32) * (64 : Int32)), .int (v2 + (1 : Int32))]) (rest := []) ⟨hx, hb, hml, hown, htb⟩ (c_Model_set (l := l) (dC := dC) (dI := dI) hDa e6) (xcV 3 htb tw747 tw7 tw744 tw746 ts_Model_set rfl rfl hd_Model_set ⟨Nat.le_of_ble_eq_true rfl, Nat.le_of_ble_eq_true rfl⟩) (kW_V hP hK (va_recv (q0 := 0) (ci := 5) hK hP rfl rfl)) rfl rfl hl.1 rfl (lv_room (Nat.le_of_ble_eq_true rfl)) d_Model_enter_64 ⟨Nat.le_of_ble_eq_true rfl, Nat.le_of_ble_eq_true rfl⟩) hS (fun q _ h => h) (fun q h => h) (fun u t H locs ht hvm hw hB _ _ hS => ?_)
    have hP := kW_P hB ht
    refine lv_iconst (v := (0 : Int32)) hx hb d_Model_enter_67 (by decide) ?_
    refine lv_istore hx hb d_Model_enter_68 hl (Nat.le_of_ble_eq_true rfl) rfl (fun ls hl => ?_)
    have hl : lv_has ls 7 [(6, .int (0 : Int32)), (5, .int x5), (0, .ref (gr 0)), (1, .int v1), (2, .int v2), (3, .int v3), (4, .int v4)] := hl
    exact blk70 9000 _ _ _ _ _ _ _ _ _ hJ (lv_sub hl [2, 3, 5, 6, 1, 0] rfl) hP hS
  have blk20 : ∀ (σ : RS) (v1 : Int32) (v2 : Int32) (v3 : Int32) (t0 : Int32) (ls : Array Slot) (H : Heap) (locs : List Loc), J_Model_enter_20 σ v1 v2 v3 t0 = some res → lv_has ls 7 [(0, .ref (gr 0)), (1, .int v1), (2, .int v2), (3, .int v3)] → va_P (dC, dI) cls (wR gr cB cI σ) H → va_S A s.heap H locs → W p l e (headSpec (mw y_Model_enter b_Model_enter 7 none) rm_Model_enter).room s m [.ref (gr 0), .int a1, .int a2].toArray below meth c H locs 0 0 (MQ below (va_Qv (fun (_ : Unit) => True) (fun _ t => kW (dC, dI) (tC cB cI) (wR gr cB cI res) t) A) [.ref (gr 0), .int a1, .int a2].toArray s 0 0 A) (F0 m 20 ls [.int t0]) := by
    intro σ v1 v2 v3 t0 ls H locs hJ hl hP hS
    unfold J_Model_enter_20 at hJ
    refine lv_istore hx hb d_Model_enter_20 hl (Nat.le_of_ble_eq_true rfl) rfl (fun ls hl => ?_)
    have hl : lv_has ls 7 [(4, .int t0), (0, .ref (gr 0)), (1, .int v1), (2, .int v2), (3, .int v3)] := hl
    refine lv_iload hx hb d_Model_enter_22 (lv_at hl 0 rfl) ?_
    refine lv_if_eq (tgt := 43) hx hb d_Model_enter_24 (by decide) (fun h4 => ?_) (fun h4 => ?_)
    · have hJ := j_t hJ h4
      exact blk43 _ _ _ _ _ _ _ _ hJ (lv_sub hl [1, 2, 3, 4, 0] rfl) hP hS
    · have hJ := j_f hJ h4
      refine lv_iload_n hx hb d_Model_enter_27 rfl (lv_at hl 4 rfl) ?_
      refine lv_bipush (v := (64 : Int32)) hx hb d_Model_enter_28 (by decide) ?_
      refine lv_irem hx hb d_Model_enter_30 (by decide) ?_
      refine lv_if_ne (tgt := 43) hx hb d_Model_enter_31 (by decide) (fun h12 => ?_) (fun h12 => ?_)
      · have hJ := j_f hJ h12
        exact blk43 _ _ _ _ _ _ _ _ hJ (lv_sub hl [1, 2, 3, 4, 0] rfl) hP hS
      · have hJ := j_t hJ h12
        refine lv_aload_n hx hb d_Model_enter_34 rfl (lv_at hl 1 rfl) ?_
        refine lv_iload_n hx hb d_Model_enter_35 rfl (lv_at hl 2 rfl) ?_
        refine lv_iload_n hx hb d_Model_enter_36 rfl (lv_at hl 4 rfl) ?_
        refine lv_bipush (v := (64 : Int32)) hx hb d_Model_enter_37 (by decide) ?_
        refine lv_idiv hx hb d_Model_enter_39 (by decide) ?_
        obtain ⟨x13, e13, hJ⟩ := j_bind hJ
        refine va_callv (va_runV (As := [.int v1, .int (v3 / (64 : Int32))]) (rest := []) ⟨hx, hb, hml, hown, htb⟩ (c_Model_blockFor (l := l) (dC := dC) (dI := dI) hDa e13) (xcV 2 htb tw759 tw7 tw756 tw758 ts_Model_blockFor rfl rfl hd_Model_blockFor ⟨Nat.le_of_ble_eq_true rfl, Nat.le_of_ble_eq_true rfl⟩) (kW_V hP hK (va_recv (q0 := 0) (ci := 5) hK hP rfl rfl)) rfl rfl hl.1 rfl (lv_room (Nat.le_of_ble_eq_true rfl)) d_Model_enter_40 ⟨Nat.le_of_ble_eq_true rfl, Nat.le_of_ble_eq_true rfl⟩) hS (fun q _ h => h) (fun q h => h) (fun u t H locs ht hvm hw hB _ _ hS => ?_)
        have hP := kW_P hB ht
        exact blk43 _ _ _ _ _ _ _ _ hJ (lv_sub hl [1, 2, 3, 4, 0] rfl) hP hS
  unfold J_Model_enter at hJ
  refine lv_aload_n hx hb d_Model_enter_0 rfl (lv_at hl 0 rfl) ?_
  refine lv_iload_n hx hb d_Model_enter_1 rfl (lv_at hl 1 rfl) ?_
  obtain ⟨x1, e1, hJ⟩ := j_bind hJ
  refine va_calli (va_runV (As := [.int a1]) (rest := []) ⟨hx, hb, hml, hown, htb⟩ (c_Model_placeForEntry (l := l) (dC := dC) (dI := dI) hDa e1) (xcV 1 htb tw700 tw7 tw697 tw699 ts_Model_placeForEntry rfl rfl hd_Model_placeForEntry ⟨Nat.le_of_ble_eq_true rfl, Nat.le_of_ble_eq_true rfl⟩) (kW_V hP hK (va_recv (q0 := 0) (ci := 5) hK hP rfl rfl)) rfl rfl hl.1 rfl (lv_room (Nat.le_of_ble_eq_true rfl)) d_Model_enter_2 ⟨Nat.le_of_ble_eq_true rfl, Nat.le_of_ble_eq_true rfl⟩) hS (fun q _ h => h) (fun q h => h) (fun r0 u t H locs ht hvm hw hB _ _ hS => ?_)
  subst r0
  have hP := kW_P hB ht
  refine lv_istore_n hx hb d_Model_enter_5 rfl hl (Nat.le_of_ble_eq_true rfl) rfl (fun ls hl => ?_)
  have hl : lv_has ls 7 [(3, .int x1), (0, .ref (gr 0)), (1, .int a1), (2, .int a2)] := hl
  refine lv_iload_n hx hb d_Model_enter_6 rfl (lv_at hl 0 rfl) ?_
  refine lv_aload_n hx hb d_Model_enter_7 rfl (lv_at hl 1 rfl) ?_
  refine lv_iload_n hx hb d_Model_enter_8 rfl (lv_at hl 2 rfl) ?_
  obtain ⟨x2, e2, hJ⟩ := j_bind hJ
  refine va_calli (va_runV (As := [.int a1]) (rest := [.int x1]) ⟨hx, hb, hml, hown, htb⟩ (c_Model_sizeOf (l := l) (dC := dC) (dI := dI) hDa e2) (xcV 1 htb tw704 tw7 tw701 tw703 ts_Model_sizeOf rfl rfl hd_Model_sizeOf ⟨Nat.le_of_ble_eq_true rfl, Nat.le_of_ble_eq_true rfl⟩) (kW_V hP hK (va_recv (q0 := 0) (ci := 5) hK hP rfl rfl)) rfl rfl hl.1 rfl (lv_room (Nat.le_of_ble_eq_true rfl)) d_Model_enter_9 ⟨Nat.le_of_ble_eq_true rfl, Nat.le_of_ble_eq_true rfl⟩) hS (fun q _ h => h) (fun q h => h) (fun r0 u t H locs ht hvm hw hB _ _ hS => ?_)
  subst r0
  have hP := kW_P hB ht
  refine lv_icmp_ne (tgt := 19) hx hb d_Model_enter_12 (by decide) (fun h3 => ?_) (fun h3 => ?_)
  · have hJ := j_f hJ h3
    refine lv_iconst (v := (0 : Int32)) hx hb d_Model_enter_19 (by decide) ?_
    exact blk20 _ _ _ _ _ _ _ _ hJ (lv_sub hl [1, 2, 3, 0] rfl) hP hS
  · have hJ := j_t hJ h3
    refine lv_iconst (v := (1 : Int32)) hx hb d_Model_enter_15 (by decide) ?_
    refine lv_goto (tgt := 20) hx hb d_Model_enter_16 (by decide) ?_
    exact blk20 _ _ _ _ _ _ _ _ hJ (lv_sub hl [1, 2, 3, 0] rfl) hP hS
def J_Model_mayEnter_27 (σ : RS) (v1 : Int32) (t0 : Int32) : Option (Int32) :=
  (J_Model_findEntry σ v1).bind fun x5 => (if (0 : Int32) ≤ x5 then some (0 : Int32) else (if (1000 : Int32) < t0 then some (0 : Int32) else (J_Model_needs σ v1 t0).bind fun x8 => (J_Model_freeBlocks σ).bind fun x9 => (if x9 < x8 then some (0 : Int32) else some (1 : Int32))))
def J_Model_mayEnter (σ : RS) (a1 : Int32) : Option (Int32) :=
  (J_Model_placeForEntry σ a1).bind fun x1 => (J_Model_sizeOf σ a1).bind fun x2 => (if x1 = x2 then J_Model_mayEnter_27 σ a1 (x1 + (8 : Int32)) else (J_Model_sizeOf σ a1).bind fun x4 => J_Model_mayEnter_27 σ a1 x4)
abbrev rm_Model_mayEnter : Room := { frames := 5, cells := 0, slots := 0, locals := 113 }
set_option maxHeartbeats 4000000 in
set_option maxRecDepth 100000 in
theorem c_Model_mayEnter {l : Launch} {dC : Nat → ClassId} {dI : Nat → Nat → Nat} {gr : Nat → Nat} {cB cI : ClassId} {A : Nat → Prop} (hDa : ∀ σ, va_D A (wR gr cB cI σ)) {σ : RS} {a1 : Int32} {res : Int32} (hJ : J_Model_mayEnter σ a1 = some res) :
    Met l y_Model_mayEnter (mw y_Model_mayEnter b_Model_mayEnter 4 (some .boolean)) rm_Model_mayEnter (va_Pc [.ref (gr 0), .int a1] (kW (dC, dI) (tC cB cI) (wR gr cB cI σ))) (va_Qi (fun (x : Int32) (_ : Unit) => x = res) (fun _ t => kW (dC, dI) (tC cB cI) (wR gr cB cI σ) t) A) 0 0 A := by
  refine Met.ofW (cc := b_Model_mayEnter) (maxL := 4) (ret := (some .boolean)) (by decide) rfl ?_
  intro p e s m args below meth c s₁ B hml hv
  obtain ⟨rfl, hP, hK⟩ := hv
  have hx := B.exec
  have hb := B.bytes
  have hr := B.returns
  have hts := atoms_spec (ws := (mw y_Model_mayEnter b_Model_mayEnter 4 (some .boolean))) B.pre
  have htb : ∀ w ∈ tb, w.before [.ref (gr 0), .int a1].toArray s = true := fun w h => hts w (mwIn h)
  have hown : s.vm.findClass "LogFsModel" = some m.cls := findClass_of_methodNamed B.named
  have hlocks := B.notSynchronized
  have hS : va_S A s.heap s.heap [] := va_S.rf
  have hl := lv_entry ([.ref (gr 0), .int a1]) (n := 4) (Nat.le_of_ble_eq_true rfl)
  rw [lg_entry_eq]
  generalize (lg_sl ([.ref (gr 0), .int a1]) ++ List.replicate (4 - (lg_sl ([.ref (gr 0), .int a1])).length) Slot.unset).toArray = ls at hl ⊢
  have hl : lv_has ls 4 [(0, .ref (gr 0)), (1, .int a1)] := hl
  have blk27 : ∀ (v1 : Int32) (t0 : Int32) (ls : Array Slot) (H : Heap) (locs : List Loc), J_Model_mayEnter_27 σ v1 t0 = some res → lv_has ls 4 [(0, .ref (gr 0)), (1, .int v1)] → va_P (dC, dI) cls (wR gr cB cI σ) H → va_S A s.heap H locs → W p l e (headSpec (mw y_Model_mayEnter b_Model_mayEnter 4 (some .boolean)) rm_Model_mayEnter).room s m [.ref (gr 0), .int a1].toArray below meth c H locs 0 0 (MQ below (va_Qi (fun (x : Int32) (_ : Unit) => x = res) (fun _ t => kW (dC, dI) (tC cB cI) (wR gr cB cI σ) t) A) [.ref (gr 0), .int a1].toArray s 0 0 A) (F0 m 27 ls [.int t0]) := by
    intro v1 t0 ls H locs hJ hl hP hS
    unfold J_Model_mayEnter_27 at hJ
    refine lv_istore_n hx hb d_Model_mayEnter_27 rfl hl (Nat.le_of_ble_eq_true rfl) rfl (fun ls hl => ?_)
    have hl : lv_has ls 4 [(3, .int t0), (0, .ref (gr 0)), (1, .int v1)] := hl
    refine lv_aload_n hx hb d_Model_mayEnter_28 rfl (lv_at hl 1 rfl) ?_
    refine lv_iload_n hx hb d_Model_mayEnter_29 rfl (lv_at hl 2 rfl) ?_
    obtain ⟨x5, e5, hJ⟩ := j_bind hJ
    refine va_calli (va_runV (As := [.int v1]) (rest := []) ⟨hx, hb, hml, hown, htb⟩ (c_Model_findEntry (l := l) (dC := dC) (dI := dI) hDa e5) (xcV 1 htb tw716 tw7 tw713 tw715 ts_Model_findEntry rfl rfl hd_Model_findEntry ⟨Nat.le_of_ble_eq_true rfl, Nat.le_of_ble_eq_true rfl⟩) (kW_V hP hK (va_recv (q0 := 0) (ci := 5) hK hP rfl rfl)) rfl rfl hl.1 rfl (lv_room (Nat.le_of_ble_eq_true rfl)) d_Model_mayEnter_30 ⟨Nat.le_of_ble_eq_true rfl, Nat.le_of_ble_eq_true rfl⟩) hS (fun q _ h => h) (fun q h => h) (fun r0 u t H locs ht hvm hw hB _ _ hS => ?_)
    subst r0
    have hP := kW_P hB ht
    refine lv_if_ge (tgt := 60) hx hb d_Model_mayEnter_33 (by decide) (fun h6 => ?_) (fun h6 => ?_)
    · have hJ := j_t hJ h6
      refine lv_iconst (v := (0 : Int32)) hx hb d_Model_mayEnter_60 (by decide) ?_
      have hJ := Option.some.inj hJ
      exact W.zret (v := (0 : Int32)) (ty := .boolean) hx hb hr (by decide +kernel) (fun t ht hW => ⟨⟨_, (), rfl, hJ, kW_end hP hK ht hW rfl⟩, hS.F ht⟩) hS.2.2 d_Model_mayEnter_61
    · have hJ := j_f hJ h6
      refine lv_iload_n hx hb d_Model_mayEnter_36 rfl (lv_at hl 0 rfl) ?_
      refine lv_sipush (v := (1000 : Int32)) hx hb d_Model_mayEnter_37 (by decide) ?_
      refine lv_icmp_gt (tgt := 60) hx hb d_Model_mayEnter_40 (by decide) (fun h7 => ?_) (fun h7 => ?_)
      · have hJ := j_t hJ h7
        refine lv_iconst (v := (0 : Int32)) hx hb d_Model_mayEnter_60 (by decide) ?_
        have hJ := Option.some.inj hJ
        exact W.zret (v := (0 : Int32)) (ty := .boolean) hx hb hr (by decide +kernel) (fun t ht hW => ⟨⟨_, (), rfl, hJ, kW_end hP hK ht hW rfl⟩, hS.F ht⟩) hS.2.2 d_Model_mayEnter_61
      · have hJ := j_f hJ h7
        refine lv_aload_n hx hb d_Model_mayEnter_43 rfl (lv_at hl 1 rfl) ?_
        refine lv_iload_n hx hb d_Model_mayEnter_44 rfl (lv_at hl 2 rfl) ?_
        refine lv_iload_n hx hb d_Model_mayEnter_45 rfl (lv_at hl 0 rfl) ?_
        obtain ⟨x8, e8, hJ⟩ := j_bind hJ
        refine va_calli (va_runV (As := [.int v1, .int t0]) (rest := []) ⟨hx, hb, hml, hown, htb⟩ (c_Model_needs (l := l) (dC := dC) (dI := dI) hDa e8) (xcV 2 htb tw720 tw7 tw717 tw719 ts_Model_needs rfl rfl hd_Model_needs ⟨Nat.le_of_ble_eq_true rfl, Nat.le_of_ble_eq_true rfl⟩) (kW_V hP hK (va_recv (q0 := 0) (ci := 5) hK hP rfl rfl)) rfl rfl hl.1 rfl (lv_room (Nat.le_of_ble_eq_true rfl)) d_Model_mayEnter_46 ⟨Nat.le_of_ble_eq_true rfl, Nat.le_of_ble_eq_true rfl⟩) hS (fun q _ h => h) (fun q h => h) (fun r0 u t H locs ht hvm hw hB _ _ hS => ?_)
        subst r0
        have hP := kW_P hB ht
        refine lv_aload_n hx hb d_Model_mayEnter_49 rfl (lv_at hl 1 rfl) ?_
        obtain ⟨x9, e9, hJ⟩ := j_bind hJ
        refine va_calli (va_runV (As := []) (rest := [.int x8]) ⟨hx, hb, hml, hown, htb⟩ (c_Model_freeBlocks (l := l) (dC := dC) (dI := dI) hDa e9) (xcV 0 htb tw727 tw7 tw724 tw726 ts_Model_freeBlocks rfl rfl hd_Model_freeBlocks ⟨Nat.le_of_ble_eq_true rfl, Nat.le_of_ble_eq_true rfl⟩) (kW_V hP hK (va_recv (q0 := 0) (ci := 5) hK hP rfl rfl)) rfl rfl hl.1 rfl (lv_room (Nat.le_of_ble_eq_true rfl)) d_Model_mayEnter_50 ⟨Nat.le_of_ble_eq_true rfl, Nat.le_of_ble_eq_true rfl⟩) hS (fun q _ h => h) (fun q h => h) (fun r0 u t H locs ht hvm hw hB _ _ hS => ?_)
        subst r0
        have hP := kW_P hB ht
        refine lv_icmp_gt (tgt := 60) hx hb d_Model_mayEnter_53 (by decide) (fun h10 => ?_) (fun h10 => ?_)
        · have hJ := j_t hJ h10
          refine lv_iconst (v := (0 : Int32)) hx hb d_Model_mayEnter_60 (by decide) ?_
          have hJ := Option.some.inj hJ
          exact W.zret (v := (0 : Int32)) (ty := .boolean) hx hb hr (by decide +kernel) (fun t ht hW => ⟨⟨_, (), rfl, hJ, kW_end hP hK ht hW rfl⟩, hS.F ht⟩) hS.2.2 d_Model_mayEnter_61
        · have hJ := j_f hJ h10
          refine lv_iconst (v := (1 : Int32)) hx hb d_Model_mayEnter_56 (by decide) ?_
          refine lv_goto (tgt := 61) hx hb d_Model_mayEnter_57 (by decide) ?_
          have hJ := Option.some.inj hJ
          exact W.zret (v := (1 : Int32)) (ty := .boolean) hx hb hr (by decide +kernel) (fun t ht hW => ⟨⟨_, (), rfl, hJ, kW_end hP hK ht hW rfl⟩, hS.F ht⟩) hS.2.2 d_Model_mayEnter_61
  unfold J_Model_mayEnter at hJ
  refine lv_aload_n hx hb d_Model_mayEnter_0 rfl (lv_at hl 0 rfl) ?_
  refine lv_iload_n hx hb d_Model_mayEnter_1 rfl (lv_at hl 1 rfl) ?_
  obtain ⟨x1, e1, hJ⟩ := j_bind hJ
  refine va_calli (va_runV (As := [.int a1]) (rest := []) ⟨hx, hb, hml, hown, htb⟩ (c_Model_placeForEntry (l := l) (dC := dC) (dI := dI) hDa e1) (xcV 1 htb tw700 tw7 tw697 tw699 ts_Model_placeForEntry rfl rfl hd_Model_placeForEntry ⟨Nat.le_of_ble_eq_true rfl, Nat.le_of_ble_eq_true rfl⟩) (kW_V hP hK (va_recv (q0 := 0) (ci := 5) hK hP rfl rfl)) rfl rfl hl.1 rfl (lv_room (Nat.le_of_ble_eq_true rfl)) d_Model_mayEnter_2 ⟨Nat.le_of_ble_eq_true rfl, Nat.le_of_ble_eq_true rfl⟩) hS (fun q _ h => h) (fun q h => h) (fun r0 u t H locs ht hvm hw hB _ _ hS => ?_)
  subst r0
  have hP := kW_P hB ht
  refine lv_istore_n hx hb d_Model_mayEnter_5 rfl hl (Nat.le_of_ble_eq_true rfl) rfl (fun ls hl => ?_)
  have hl : lv_has ls 4 [(2, .int x1), (0, .ref (gr 0)), (1, .int a1)] := hl
  refine lv_iload_n hx hb d_Model_mayEnter_6 rfl (lv_at hl 0 rfl) ?_
  refine lv_aload_n hx hb d_Model_mayEnter_7 rfl (lv_at hl 1 rfl) ?_
  refine lv_iload_n hx hb d_Model_mayEnter_8 rfl (lv_at hl 2 rfl) ?_
  obtain ⟨x2, e2, hJ⟩ := j_bind hJ
  refine va_calli (va_runV (As := [.int a1]) (rest := [.int x1]) ⟨hx, hb, hml, hown, htb⟩ (c_Model_sizeOf (l := l) (dC := dC) (dI := dI) hDa e2) (xcV 1 htb tw704 tw7 tw701 tw703 ts_Model_sizeOf rfl rfl hd_Model_sizeOf ⟨Nat.le_of_ble_eq_true rfl, Nat.le_of_ble_eq_true rfl⟩) (kW_V hP hK (va_recv (q0 := 0) (ci := 5) hK hP rfl rfl)) rfl rfl hl.1 rfl (lv_room (Nat.le_of_ble_eq_true rfl)) d_Model_mayEnter_9 ⟨Nat.le_of_ble_eq_true rfl, Nat.le_of_ble_eq_true rfl⟩) hS (fun q _ h => h) (fun q h => h) (fun r0 u t H locs ht hvm hw hB _ _ hS => ?_)
  subst r0
  have hP := kW_P hB ht
  refine lv_icmp_ne (tgt := 22) hx hb d_Model_mayEnter_12 (by decide) (fun h3 => ?_) (fun h3 => ?_)
  · have hJ := j_f hJ h3
    refine lv_aload_n hx hb d_Model_mayEnter_22 rfl (lv_at hl 1 rfl) ?_
    refine lv_iload_n hx hb d_Model_mayEnter_23 rfl (lv_at hl 2 rfl) ?_
    obtain ⟨x4, e4, hJ⟩ := j_bind hJ
    refine va_calli (va_runV (As := [.int a1]) (rest := []) ⟨hx, hb, hml, hown, htb⟩ (c_Model_sizeOf (l := l) (dC := dC) (dI := dI) hDa e4) (xcV 1 htb tw704 tw7 tw701 tw703 ts_Model_sizeOf rfl rfl hd_Model_sizeOf ⟨Nat.le_of_ble_eq_true rfl, Nat.le_of_ble_eq_true rfl⟩) (kW_V hP hK (va_recv (q0 := 0) (ci := 5) hK hP rfl rfl)) rfl rfl hl.1 rfl (lv_room (Nat.le_of_ble_eq_true rfl)) d_Model_mayEnter_24 ⟨Nat.le_of_ble_eq_true rfl, Nat.le_of_ble_eq_true rfl⟩) hS (fun q _ h => h) (fun q h => h) (fun r0 u t H locs ht hvm hw hB _ _ hS => ?_)
    subst r0
    have hP := kW_P hB ht
    exact blk27 _ _ _ _ _ hJ (lv_sub hl [1, 2] rfl) hP hS
  · have hJ := j_t hJ h3
    refine lv_iload_n hx hb d_Model_mayEnter_15 rfl (lv_at hl 0 rfl) ?_
    refine lv_bipush (v := (8 : Int32)) hx hb d_Model_mayEnter_16 (by decide) ?_
    refine lv_iadd hx hb d_Model_mayEnter_18 ?_
    refine lv_goto (tgt := 27) hx hb d_Model_mayEnter_19 (by decide) ?_
    exact blk27 _ _ _ _ _ hJ (lv_sub hl [1, 2] rfl) hP hS
def J_Model_make_72 (σ : RS) (v1 : Int32) (v5 : Int32) (t3 : Int32) (t2 : Int32) (t1 : Int32) : Option (Int32 × RS) :=
  (J_Model_setInode σ t1 t2 t3).bind fun x15 => (J_Model_setInode x15 v5 (1 : Int32) (1 : Int32)).bind fun x16 => (J_Model_enter x16 v1 v5).bind fun x17 => some (v5, x17)
def J_Model_make (σ : RS) (a1 : Int32) (a2 : Int64) (a3 : Int32) : Option (Int32 × RS) :=
  (J_Model_dead σ).bind fun x1 => (if x1.1 = (0 : Int32) then (J_Model_isName x1.2 a2).bind fun x3 => (if x3.1 = (0 : Int32) then some (((-1) : Int32), x3.2) else (J_Model_is x3.2 a1 (2 : Int32)).bind fun x5 => (if x5 = (0 : Int32) then some (((-1) : Int32), x3.2) else (J_Model_mayEnter x3.2 a1).bind fun x7 => (if x7 = (0 : Int32) then some (((-1) : Int32), x3.2) else (J_Model_freeInode x3.2).bind fun x9 => (if (0 : Int32) ≤ x9 then (J_Model_ready x3.2).bind fun x11 => (if x11.1 = (0 : Int32) then some ((0 : Int32), x11.2) else (J_Model_freeInode x11.2).bind fun x13 => (if a3 = (0 : Int32) then J_Model_make_72 x11.2 a1 x13 (1 : Int32) (0 : Int32) x13 else J_Model_make_72 x11.2 a1 x13 (2 : Int32) (0 : Int32) x13)) else some (((-1) : Int32), x3.2))))) else some ((0 : Int32), x1.2))
abbrev rm_Model_make : Room := { frames := 6, cells := 0, slots := 0, locals := 136 }
set_option maxHeartbeats 4000000 in
set_option maxRecDepth 100000 in
theorem c_Model_make {l : Launch} {dC : Nat → ClassId} {dI : Nat → Nat → Nat} {gr : Nat → Nat} {cB cI : ClassId} {A : Nat → Prop} (hDa : ∀ σ, va_D A (wR gr cB cI σ)) {σ : RS} {a1 : Int32} {a2 : Int64} {a3 : Int32} {res : Int32 × RS} (hJ : J_Model_make σ a1 a2 a3 = some res) :
    Met l y_Model_make (mw y_Model_make b_Model_make 6 (some .int)) rm_Model_make (va_Pc [.ref (gr 0), .int a1, .long a2, .int a3] (kW (dC, dI) (tC cB cI) (wR gr cB cI σ))) (va_Qi (fun (x : Int32) (_ : Unit) => x = res.1) (fun _ t => kW (dC, dI) (tC cB cI) (wR gr cB cI res.2) t) A) 0 0 A := by
  refine Met.ofW (cc := b_Model_make) (maxL := 6) (ret := (some .int)) (by decide) rfl ?_
  intro p e s m args below meth c s₁ B hml hv
  obtain ⟨rfl, hP, hK⟩ := hv
  have hx := B.exec
  have hb := B.bytes
  have hr := B.returns
  have hts := atoms_spec (ws := (mw y_Model_make b_Model_make 6 (some .int))) B.pre
  have htb : ∀ w ∈ tb, w.before [.ref (gr 0), .int a1, .long a2, .int a3].toArray s = true := fun w h => hts w (mwIn h)
  have hown : s.vm.findClass "LogFsModel" = some m.cls := findClass_of_methodNamed B.named
  have hlocks := B.notSynchronized
  have hS : va_S A s.heap s.heap [] := va_S.rf
  have hl := lv_entry ([.ref (gr 0), .int a1, .long a2, .int a3]) (n := 6) (Nat.le_of_ble_eq_true rfl)
  rw [lg_entry_eq]
  generalize (lg_sl ([.ref (gr 0), .int a1, .long a2, .int a3]) ++ List.replicate (6 - (lg_sl ([.ref (gr 0), .int a1, .long a2, .int a3])).length) Slot.unset).toArray = ls at hl ⊢
  have hl : lv_has ls 6 [(0, .ref (gr 0)), (1, .int a1), (2, .long a2), (4, .int a3)] := hl
  have blk72 : ∀ (σ : RS) (v1 : Int32) (v5 : Int32) (t3 : Int32) (t2 : Int32) (t1 : Int32) (ls : Array Slot) (H : Heap) (locs : List Loc), J_Model_make_72 σ v1 v5 t3 t2 t1 = some res → lv_has ls 6 [(0, .ref (gr 0)), (1, .int v1), (5, .int v5)] → va_P (dC, dI) cls (wR gr cB cI σ) H → va_S A s.heap H locs → W p l e (headSpec (mw y_Model_make b_Model_make 6 (some .int)) rm_Model_make).room s m [.ref (gr 0), .int a1, .long a2, .int a3].toArray below meth c H locs 0 0 (MQ below (va_Qi (fun (x : Int32) (_ : Unit) => x = res.1) (fun _ t => kW (dC, dI) (tC cB cI) (wR gr cB cI res.2) t) A) [.ref (gr 0), .int a1, .long a2, .int a3].toArray s 0 0 A) (F0 m 72 ls [.int t3, .int t2, .int t1, .ref (gr 0)]) := by
    intro σ v1 v5 t3 t2 t1 ls H locs hJ hl hP hS
    unfold J_Model_make_72 at hJ
    obtain ⟨x15, e15, hJ⟩ := j_bind hJ
    refine va_callv (va_runV (As := [.int t1, .int t2, .int t3]) (rest := []) ⟨hx, hb, hml, hown, htb⟩ (c_Model_setInode (l := l) (dC := dC) (dI := dI) hDa e15) (xcV 3 htb tw743 tw7 tw740 tw742 ts_Model_setInode rfl rfl hd_Model_setInode ⟨Nat.le_of_ble_eq_true rfl, Nat.le_of_ble_eq_true rfl⟩) (kW_V hP hK (va_recv (q0 := 0) (ci := 5) hK hP rfl rfl)) rfl rfl hl.1 rfl (lv_room (Nat.le_of_ble_eq_true rfl)) d_Model_make_72 ⟨Nat.le_of_ble_eq_true rfl, Nat.le_of_ble_eq_true rfl⟩) hS (fun q _ h => h) (fun q h => h) (fun u t H locs ht hvm hw hB _ _ hS => ?_)
    have hP := kW_P hB ht
    refine lv_aload_n hx hb d_Model_make_75 rfl (lv_at hl 0 rfl) ?_
    refine lv_iload hx hb d_Model_make_76 (lv_at hl 2 rfl) ?_
    refine lv_iconst (v := (1 : Int32)) hx hb d_Model_make_78 (by decide) ?_
    refine lv_iconst (v := (1 : Int32)) hx hb d_Model_make_79 (by decide) ?_
    obtain ⟨x16, e16, hJ⟩ := j_bind hJ
    refine va_callv (va_runV (As := [.int v5, .int (1 : Int32), .int (1 : Int32)]) (rest := []) ⟨hx, hb, hml, hown, htb⟩ (c_Model_setInode (l := l) (dC := dC) (dI := dI) hDa e16) (xcV 3 htb tw743 tw7 tw740 tw742 ts_Model_setInode rfl rfl hd_Model_setInode ⟨Nat.le_of_ble_eq_true rfl, Nat.le_of_ble_eq_true rfl⟩) (kW_V hP hK (va_recv (q0 := 0) (ci := 5) hK hP rfl rfl)) rfl rfl hl.1 rfl (lv_room (Nat.le_of_ble_eq_true rfl)) d_Model_make_80 ⟨Nat.le_of_ble_eq_true rfl, Nat.le_of_ble_eq_true rfl⟩) hS (fun q _ h => h) (fun q h => h) (fun u t H locs ht hvm hw hB _ _ hS => ?_)
    have hP := kW_P hB ht
    refine lv_aload_n hx hb d_Model_make_83 rfl (lv_at hl 0 rfl) ?_
    refine lv_iload_n hx hb d_Model_make_84 rfl (lv_at hl 1 rfl) ?_
    refine lv_iload hx hb d_Model_make_85 (lv_at hl 2 rfl) ?_
    obtain ⟨x17, e17, hJ⟩ := j_bind hJ
    refine va_callv (va_runV (As := [.int v1, .int v5]) (rest := []) ⟨hx, hb, hml, hown, htb⟩ (c_Model_enter (l := l) (dC := dC) (dI := dI) hDa e17) (xcV 2 htb tw755 tw7 tw752 tw754 ts_Model_enter rfl rfl hd_Model_enter ⟨Nat.le_of_ble_eq_true rfl, Nat.le_of_ble_eq_true rfl⟩) (kW_V hP hK (va_recv (q0 := 0) (ci := 5) hK hP rfl rfl)) rfl rfl hl.1 rfl (lv_room (Nat.le_of_ble_eq_true rfl)) d_Model_make_87 ⟨Nat.le_of_ble_eq_true rfl, Nat.le_of_ble_eq_true rfl⟩) hS (fun q _ h => h) (fun q h => h) (fun u t H locs ht hvm hw hB _ _ hS => ?_)
    have hP := kW_P hB ht
    refine lv_iload hx hb d_Model_make_90 (lv_at hl 2 rfl) ?_
    have hJ := Option.some.inj hJ
    exact W.iret (v := v5) hx hb hr (fun t ht hW => ⟨⟨_, (), rfl, (j_p1 hJ), kW_end hP hK ht hW (congrArg (fun z => wR gr cB cI z) (j_p2 hJ))⟩, hS.F ht⟩) hS.2.2 d_Model_make_92
  unfold J_Model_make at hJ
  refine lv_aload_n hx hb d_Model_make_0 rfl (lv_at hl 0 rfl) ?_
  obtain ⟨x1, e1, hJ⟩ := j_bind hJ
  refine va_calli (va_runV (As := []) (rest := []) ⟨hx, hb, hml, hown, htb⟩ (c_Model_dead (l := l) (dC := dC) (dI := dI) hDa e1) (xcV 0 htb tw638 tw7 tw635 tw637 ts_Model_dead rfl rfl hd_Model_dead ⟨Nat.le_of_ble_eq_true rfl, Nat.le_of_ble_eq_true rfl⟩) (kW_V hP hK (va_recv (q0 := 0) (ci := 5) hK hP rfl rfl)) rfl rfl hl.1 rfl (lv_room (Nat.le_of_ble_eq_true rfl)) d_Model_make_1 ⟨Nat.le_of_ble_eq_true rfl, Nat.le_of_ble_eq_true rfl⟩) hS (fun q _ h => h) (fun q h => h) (fun r0 u t H locs ht hvm hw hB _ _ hS => ?_)
  subst r0
  have hP := kW_P hB ht
  refine lv_if_eq (tgt := 9) hx hb d_Model_make_4 (by decide) (fun h2 => ?_) (fun h2 => ?_)
  · have hJ := j_t hJ h2
    refine lv_aload_n hx hb d_Model_make_9 rfl (lv_at hl 0 rfl) ?_
    refine lv_lload_n hx hb d_Model_make_10 rfl (lv_at hl 2 rfl) ?_
    obtain ⟨x3, e3, hJ⟩ := j_bind hJ
    refine va_calli (va_runV (As := [.long a2]) (rest := []) ⟨hx, hb, hml, hown, htb⟩ (c_Model_isName (l := l) (dC := dC) (dI := dI) hDa e3) (xcV 1 htb tw670 tw7 tw667 tw669 ts_Model_isName rfl rfl hd_Model_isName ⟨Nat.le_of_ble_eq_true rfl, Nat.le_of_ble_eq_true rfl⟩) (kW_V hP hK (va_recv (q0 := 0) (ci := 5) hK hP rfl rfl)) rfl rfl hl.1 rfl (lv_room (Nat.le_of_ble_eq_true rfl)) d_Model_make_11 ⟨Nat.le_of_ble_eq_true rfl, Nat.le_of_ble_eq_true rfl⟩) hS (fun q _ h => h) (fun q h => h) (fun r0 u t H locs ht hvm hw hB _ _ hS => ?_)
    subst r0
    have hP := kW_P hB ht
    refine lv_if_eq (tgt := 41) hx hb d_Model_make_14 (by decide) (fun h4 => ?_) (fun h4 => ?_)
    · have hJ := j_t hJ h4
      refine lv_iconst (v := ((-1) : Int32)) hx hb d_Model_make_41 (by decide) ?_
      have hJ := Option.some.inj hJ
      exact W.iret (v := ((-1) : Int32)) hx hb hr (fun t ht hW => ⟨⟨_, (), rfl, (j_p1 hJ), kW_end hP hK ht hW (congrArg (fun z => wR gr cB cI z) (j_p2 hJ))⟩, hS.F ht⟩) hS.2.2 d_Model_make_42
    · have hJ := j_f hJ h4
      refine lv_aload_n hx hb d_Model_make_17 rfl (lv_at hl 0 rfl) ?_
      refine lv_iload_n hx hb d_Model_make_18 rfl (lv_at hl 1 rfl) ?_
      refine lv_iconst (v := (2 : Int32)) hx hb d_Model_make_19 (by decide) ?_
      obtain ⟨x5, e5, hJ⟩ := j_bind hJ
      refine va_calli (va_runV (As := [.int a1, .int (2 : Int32)]) (rest := []) ⟨hx, hb, hml, hown, htb⟩ (c_Model_is (l := l) (dC := dC) (dI := dI) hDa e5) (xcV 2 htb tw675 tw7 tw672 tw674 ts_Model_is rfl rfl hd_Model_is ⟨Nat.le_of_ble_eq_true rfl, Nat.le_of_ble_eq_true rfl⟩) (kW_V hP hK (va_recv (q0 := 0) (ci := 5) hK hP rfl rfl)) rfl rfl hl.1 rfl (lv_room (Nat.le_of_ble_eq_true rfl)) d_Model_make_20 ⟨Nat.le_of_ble_eq_true rfl, Nat.le_of_ble_eq_true rfl⟩) hS (fun q _ h => h) (fun q h => h) (fun r0 u t H locs ht hvm hw hB _ _ hS => ?_)
      subst r0
      have hP := kW_P hB ht
      refine lv_if_eq (tgt := 41) hx hb d_Model_make_23 (by decide) (fun h6 => ?_) (fun h6 => ?_)
      · have hJ := j_t hJ h6
        refine lv_iconst (v := ((-1) : Int32)) hx hb d_Model_make_41 (by decide) ?_
        have hJ := Option.some.inj hJ
        exact W.iret (v := ((-1) : Int32)) hx hb hr (fun t ht hW => ⟨⟨_, (), rfl, (j_p1 hJ), kW_end hP hK ht hW (congrArg (fun z => wR gr cB cI z) (j_p2 hJ))⟩, hS.F ht⟩) hS.2.2 d_Model_make_42
      · have hJ := j_f hJ h6
        refine lv_aload_n hx hb d_Model_make_26 rfl (lv_at hl 0 rfl) ?_
        refine lv_iload_n hx hb d_Model_make_27 rfl (lv_at hl 1 rfl) ?_
        obtain ⟨x7, e7, hJ⟩ := j_bind hJ
        refine va_calli (va_runV (As := [.int a1]) (rest := []) ⟨hx, hb, hml, hown, htb⟩ (c_Model_mayEnter (l := l) (dC := dC) (dI := dI) hDa e7) (xcV 1 htb tw696 tw7 tw693 tw695 ts_Model_mayEnter rfl rfl hd_Model_mayEnter ⟨Nat.le_of_ble_eq_true rfl, Nat.le_of_ble_eq_true rfl⟩) (kW_V hP hK (va_recv (q0 := 0) (ci := 5) hK hP rfl rfl)) rfl rfl hl.1 rfl (lv_room (Nat.le_of_ble_eq_true rfl)) d_Model_make_28 ⟨Nat.le_of_ble_eq_true rfl, Nat.le_of_ble_eq_true rfl⟩) hS (fun q _ h => h) (fun q h => h) (fun r0 u t H locs ht hvm hw hB _ _ hS => ?_)
        subst r0
        have hP := kW_P hB ht
        refine lv_if_eq (tgt := 41) hx hb d_Model_make_31 (by decide) (fun h8 => ?_) (fun h8 => ?_)
        · have hJ := j_t hJ h8
          refine lv_iconst (v := ((-1) : Int32)) hx hb d_Model_make_41 (by decide) ?_
          have hJ := Option.some.inj hJ
          exact W.iret (v := ((-1) : Int32)) hx hb hr (fun t ht hW => ⟨⟨_, (), rfl, (j_p1 hJ), kW_end hP hK ht hW (congrArg (fun z => wR gr cB cI z) (j_p2 hJ))⟩, hS.F ht⟩) hS.2.2 d_Model_make_42
        · have hJ := j_f hJ h8
          refine lv_aload_n hx hb d_Model_make_34 rfl (lv_at hl 0 rfl) ?_
          obtain ⟨x9, e9, hJ⟩ := j_bind hJ
          refine va_calli (va_runV (As := []) (rest := []) ⟨hx, hb, hml, hown, htb⟩ (c_Model_freeInode (l := l) (dC := dC) (dI := dI) hDa e9) (xcV 0 htb tw735 tw7 tw732 tw734 ts_Model_freeInode rfl rfl hd_Model_freeInode ⟨Nat.le_of_ble_eq_true rfl, Nat.le_of_ble_eq_true rfl⟩) (kW_V hP hK (va_recv (q0 := 0) (ci := 5) hK hP rfl rfl)) rfl rfl hl.1 rfl (lv_room (Nat.le_of_ble_eq_true rfl)) d_Model_make_35 ⟨Nat.le_of_ble_eq_true rfl, Nat.le_of_ble_eq_true rfl⟩) hS (fun q _ h => h) (fun q h => h) (fun r0 u t H locs ht hvm hw hB _ _ hS => ?_)
          subst r0
          have hP := kW_P hB ht
          refine lv_if_ge (tgt := 43) hx hb d_Model_make_38 (by decide) (fun h10 => ?_) (fun h10 => ?_)
          · have hJ := j_t hJ h10
            refine lv_aload_n hx hb d_Model_make_43 rfl (lv_at hl 0 rfl) ?_
            obtain ⟨x11, e11, hJ⟩ := j_bind hJ
            refine va_calli (va_runV (As := []) (rest := []) ⟨hx, hb, hml, hown, htb⟩ (c_Model_ready (l := l) (dC := dC) (dI := dI) hDa e11) (xcV 0 htb tw739 tw7 tw736 tw738 ts_Model_ready rfl rfl hd_Model_ready ⟨Nat.le_of_ble_eq_true rfl, Nat.le_of_ble_eq_true rfl⟩) (kW_V hP hK (va_recv (q0 := 0) (ci := 5) hK hP rfl rfl)) rfl rfl hl.1 rfl (lv_room (Nat.le_of_ble_eq_true rfl)) d_Model_make_44 ⟨Nat.le_of_ble_eq_true rfl, Nat.le_of_ble_eq_true rfl⟩) hS (fun q _ h => h) (fun q h => h) (fun r0 u t H locs ht hvm hw hB _ _ hS => ?_)
            subst r0
            have hP := kW_P hB ht
            refine lv_if_ne (tgt := 52) hx hb d_Model_make_47 (by decide) (fun h12 => ?_) (fun h12 => ?_)
            · have hJ := j_f hJ h12
              refine lv_aload_n hx hb d_Model_make_52 rfl (lv_at hl 0 rfl) ?_
              obtain ⟨x13, e13, hJ⟩ := j_bind hJ
              refine va_calli (va_runV (As := []) (rest := []) ⟨hx, hb, hml, hown, htb⟩ (c_Model_freeInode (l := l) (dC := dC) (dI := dI) hDa e13) (xcV 0 htb tw735 tw7 tw732 tw734 ts_Model_freeInode rfl rfl hd_Model_freeInode ⟨Nat.le_of_ble_eq_true rfl, Nat.le_of_ble_eq_true rfl⟩) (kW_V hP hK (va_recv (q0 := 0) (ci := 5) hK hP rfl rfl)) rfl rfl hl.1 rfl (lv_room (Nat.le_of_ble_eq_true rfl)) d_Model_make_53 ⟨Nat.le_of_ble_eq_true rfl, Nat.le_of_ble_eq_true rfl⟩) hS (fun q _ h => h) (fun q h => h) (fun r0 u t H locs ht hvm hw hB _ _ hS => ?_)
              subst r0
              have hP := kW_P hB ht
              refine lv_istore hx hb d_Model_make_56 hl (Nat.le_of_ble_eq_true rfl) rfl (fun ls hl => ?_)
              have hl : lv_has ls 6 [(5, .int x13), (0, .ref (gr 0)), (1, .int a1), (2, .long a2), (4, .int a3)] := hl
              refine lv_aload_n hx hb d_Model_make_58 rfl (lv_at hl 1 rfl) ?_
              refine lv_iload hx hb d_Model_make_59 (lv_at hl 0 rfl) ?_
              refine lv_iconst (v := (0 : Int32)) hx hb d_Model_make_61 (by decide) ?_
              refine lv_iload hx hb d_Model_make_62 (lv_at hl 4 rfl) ?_
              refine lv_if_eq (tgt := 71) hx hb d_Model_make_64 (by decide) (fun h14 => ?_) (fun h14 => ?_)
              · have hJ := j_t hJ h14
                refine lv_iconst (v := (1 : Int32)) hx hb d_Model_make_71 (by decide) ?_
                exact blk72 _ _ _ _ _ _ _ _ _ hJ (lv_sub hl [1, 2, 0] rfl) hP hS
              · have hJ := j_f hJ h14
                refine lv_iconst (v := (2 : Int32)) hx hb d_Model_make_67 (by decide) ?_
                refine lv_goto (tgt := 72) hx hb d_Model_make_68 (by decide) ?_
                exact blk72 _ _ _ _ _ _ _ _ _ hJ (lv_sub hl [1, 2, 0] rfl) hP hS
            · have hJ := j_t hJ h12
              refine lv_iconst (v := (0 : Int32)) hx hb d_Model_make_50 (by decide) ?_
              have hJ := Option.some.inj hJ
              exact W.iret (v := (0 : Int32)) hx hb hr (fun t ht hW => ⟨⟨_, (), rfl, (j_p1 hJ), kW_end hP hK ht hW (congrArg (fun z => wR gr cB cI z) (j_p2 hJ))⟩, hS.F ht⟩) hS.2.2 d_Model_make_51
          · have hJ := j_f hJ h10
            refine lv_iconst (v := ((-1) : Int32)) hx hb d_Model_make_41 (by decide) ?_
            have hJ := Option.some.inj hJ
            exact W.iret (v := ((-1) : Int32)) hx hb hr (fun t ht hW => ⟨⟨_, (), rfl, (j_p1 hJ), kW_end hP hK ht hW (congrArg (fun z => wR gr cB cI z) (j_p2 hJ))⟩, hS.F ht⟩) hS.2.2 d_Model_make_42
  · have hJ := j_f hJ h2
    refine lv_iconst (v := (0 : Int32)) hx hb d_Model_make_7 (by decide) ?_
    have hJ := Option.some.inj hJ
    exact W.iret (v := (0 : Int32)) hx hb hr (fun t ht hW => ⟨⟨_, (), rfl, (j_p1 hJ), kW_end hP hK ht hW (congrArg (fun z => wR gr cB cI z) (j_p2 hJ))⟩, hS.F ht⟩) hS.2.2 d_Model_make_8
def J_Model_link (σ : RS) (a1 : Int32) (a2 : Int64) (a3 : Int32) : Option (Int32 × RS) :=
  (J_Model_dead σ).bind fun x1 => (if x1.1 = (0 : Int32) then (J_Model_isName x1.2 a2).bind fun x3 => (if x3.1 = (0 : Int32) then some ((0 : Int32), x3.2) else (J_Model_is x3.2 a1 (2 : Int32)).bind fun x5 => (if x5 = (0 : Int32) then some ((0 : Int32), x3.2) else (J_Model_is x3.2 a3 (1 : Int32)).bind fun x7 => (if x7 = (0 : Int32) then some ((0 : Int32), x3.2) else (J_Model_mayEnter x3.2 a1).bind fun x9 => (if x9 = (0 : Int32) then some ((0 : Int32), x3.2) else (J_Model_inodeAt x3.2 a3 (1 : Int32)).bind fun x11 => (if x11 = (200 : Int32) then some ((0 : Int32), x3.2) else (J_Model_ready x3.2).bind fun x13 => (if x13.1 = (0 : Int32) then some ((0 : Int32), x13.2) else (J_Model_inodeAt x13.2 a3 (1 : Int32)).bind fun x15 => (J_Model_setInode x13.2 a3 (1 : Int32) (x15 + (1 : Int32))).bind fun x16 => (J_Model_enter x16 a1 a3).bind fun x17 => some ((1 : Int32), x17))))))) else some ((0 : Int32), x1.2))
abbrev rm_Model_link : Room := { frames := 6, cells := 0, slots := 0, locals := 136 }
set_option maxHeartbeats 4000000 in
set_option maxRecDepth 100000 in
theorem c_Model_link {l : Launch} {dC : Nat → ClassId} {dI : Nat → Nat → Nat} {gr : Nat → Nat} {cB cI : ClassId} {A : Nat → Prop} (hDa : ∀ σ, va_D A (wR gr cB cI σ)) {σ : RS} {a1 : Int32} {a2 : Int64} {a3 : Int32} {res : Int32 × RS} (hJ : J_Model_link σ a1 a2 a3 = some res) :
    Met l y_Model_link (mw y_Model_link b_Model_link 5 (some .boolean)) rm_Model_link (va_Pc [.ref (gr 0), .int a1, .long a2, .int a3] (kW (dC, dI) (tC cB cI) (wR gr cB cI σ))) (va_Qi (fun (x : Int32) (_ : Unit) => x = res.1) (fun _ t => kW (dC, dI) (tC cB cI) (wR gr cB cI res.2) t) A) 0 0 A := by
  refine Met.ofW (cc := b_Model_link) (maxL := 5) (ret := (some .boolean)) (by decide) rfl ?_
  intro p e s m args below meth c s₁ B hml hv
  obtain ⟨rfl, hP, hK⟩ := hv
  have hx := B.exec
  have hb := B.bytes
  have hr := B.returns
  have hts := atoms_spec (ws := (mw y_Model_link b_Model_link 5 (some .boolean))) B.pre
  have htb : ∀ w ∈ tb, w.before [.ref (gr 0), .int a1, .long a2, .int a3].toArray s = true := fun w h => hts w (mwIn h)
  have hown : s.vm.findClass "LogFsModel" = some m.cls := findClass_of_methodNamed B.named
  have hlocks := B.notSynchronized
  have hS : va_S A s.heap s.heap [] := va_S.rf
  have hl := lv_entry ([.ref (gr 0), .int a1, .long a2, .int a3]) (n := 5) (Nat.le_of_ble_eq_true rfl)
  rw [lg_entry_eq]
  generalize (lg_sl ([.ref (gr 0), .int a1, .long a2, .int a3]) ++ List.replicate (5 - (lg_sl ([.ref (gr 0), .int a1, .long a2, .int a3])).length) Slot.unset).toArray = ls at hl ⊢
  have hl : lv_has ls 5 [(0, .ref (gr 0)), (1, .int a1), (2, .long a2), (4, .int a3)] := hl
  unfold J_Model_link at hJ
  refine lv_aload_n hx hb d_Model_link_0 rfl (lv_at hl 0 rfl) ?_
  obtain ⟨x1, e1, hJ⟩ := j_bind hJ
  refine va_calli (va_runV (As := []) (rest := []) ⟨hx, hb, hml, hown, htb⟩ (c_Model_dead (l := l) (dC := dC) (dI := dI) hDa e1) (xcV 0 htb tw638 tw7 tw635 tw637 ts_Model_dead rfl rfl hd_Model_dead ⟨Nat.le_of_ble_eq_true rfl, Nat.le_of_ble_eq_true rfl⟩) (kW_V hP hK (va_recv (q0 := 0) (ci := 5) hK hP rfl rfl)) rfl rfl hl.1 rfl (lv_room (Nat.le_of_ble_eq_true rfl)) d_Model_link_1 ⟨Nat.le_of_ble_eq_true rfl, Nat.le_of_ble_eq_true rfl⟩) hS (fun q _ h => h) (fun q h => h) (fun r0 u t H locs ht hvm hw hB _ _ hS => ?_)
  subst r0
  have hP := kW_P hB ht
  refine lv_if_eq (tgt := 9) hx hb d_Model_link_4 (by decide) (fun h2 => ?_) (fun h2 => ?_)
  · have hJ := j_t hJ h2
    refine lv_aload_n hx hb d_Model_link_9 rfl (lv_at hl 0 rfl) ?_
    refine lv_lload_n hx hb d_Model_link_10 rfl (lv_at hl 2 rfl) ?_
    obtain ⟨x3, e3, hJ⟩ := j_bind hJ
    refine va_calli (va_runV (As := [.long a2]) (rest := []) ⟨hx, hb, hml, hown, htb⟩ (c_Model_isName (l := l) (dC := dC) (dI := dI) hDa e3) (xcV 1 htb tw670 tw7 tw667 tw669 ts_Model_isName rfl rfl hd_Model_isName ⟨Nat.le_of_ble_eq_true rfl, Nat.le_of_ble_eq_true rfl⟩) (kW_V hP hK (va_recv (q0 := 0) (ci := 5) hK hP rfl rfl)) rfl rfl hl.1 rfl (lv_room (Nat.le_of_ble_eq_true rfl)) d_Model_link_11 ⟨Nat.le_of_ble_eq_true rfl, Nat.le_of_ble_eq_true rfl⟩) hS (fun q _ h => h) (fun q h => h) (fun r0 u t H locs ht hvm hw hB _ _ hS => ?_)
    subst r0
    have hP := kW_P hB ht
    refine lv_if_eq (tgt := 57) hx hb d_Model_link_14 (by decide) (fun h4 => ?_) (fun h4 => ?_)
    · have hJ := j_t hJ h4
      refine lv_iconst (v := (0 : Int32)) hx hb d_Model_link_57 (by decide) ?_
      have hJ := Option.some.inj hJ
      exact W.zret (v := (0 : Int32)) (ty := .boolean) hx hb hr (by decide +kernel) (fun t ht hW => ⟨⟨_, (), rfl, (j_p1 hJ), kW_end hP hK ht hW (congrArg (fun z => wR gr cB cI z) (j_p2 hJ))⟩, hS.F ht⟩) hS.2.2 d_Model_link_58
    · have hJ := j_f hJ h4
      refine lv_aload_n hx hb d_Model_link_17 rfl (lv_at hl 0 rfl) ?_
      refine lv_iload_n hx hb d_Model_link_18 rfl (lv_at hl 1 rfl) ?_
      refine lv_iconst (v := (2 : Int32)) hx hb d_Model_link_19 (by decide) ?_
      obtain ⟨x5, e5, hJ⟩ := j_bind hJ
      refine va_calli (va_runV (As := [.int a1, .int (2 : Int32)]) (rest := []) ⟨hx, hb, hml, hown, htb⟩ (c_Model_is (l := l) (dC := dC) (dI := dI) hDa e5) (xcV 2 htb tw675 tw7 tw672 tw674 ts_Model_is rfl rfl hd_Model_is ⟨Nat.le_of_ble_eq_true rfl, Nat.le_of_ble_eq_true rfl⟩) (kW_V hP hK (va_recv (q0 := 0) (ci := 5) hK hP rfl rfl)) rfl rfl hl.1 rfl (lv_room (Nat.le_of_ble_eq_true rfl)) d_Model_link_20 ⟨Nat.le_of_ble_eq_true rfl, Nat.le_of_ble_eq_true rfl⟩) hS (fun q _ h => h) (fun q h => h) (fun r0 u t H locs ht hvm hw hB _ _ hS => ?_)
      subst r0
      have hP := kW_P hB ht
      refine lv_if_eq (tgt := 57) hx hb d_Model_link_23 (by decide) (fun h6 => ?_) (fun h6 => ?_)
      · have hJ := j_t hJ h6
        refine lv_iconst (v := (0 : Int32)) hx hb d_Model_link_57 (by decide) ?_
        have hJ := Option.some.inj hJ
        exact W.zret (v := (0 : Int32)) (ty := .boolean) hx hb hr (by decide +kernel) (fun t ht hW => ⟨⟨_, (), rfl, (j_p1 hJ), kW_end hP hK ht hW (congrArg (fun z => wR gr cB cI z) (j_p2 hJ))⟩, hS.F ht⟩) hS.2.2 d_Model_link_58
      · have hJ := j_f hJ h6
        refine lv_aload_n hx hb d_Model_link_26 rfl (lv_at hl 0 rfl) ?_
        refine lv_iload hx hb d_Model_link_27 (lv_at hl 3 rfl) ?_
        refine lv_iconst (v := (1 : Int32)) hx hb d_Model_link_29 (by decide) ?_
        obtain ⟨x7, e7, hJ⟩ := j_bind hJ
        refine va_calli (va_runV (As := [.int a3, .int (1 : Int32)]) (rest := []) ⟨hx, hb, hml, hown, htb⟩ (c_Model_is (l := l) (dC := dC) (dI := dI) hDa e7) (xcV 2 htb tw675 tw7 tw672 tw674 ts_Model_is rfl rfl hd_Model_is ⟨Nat.le_of_ble_eq_true rfl, Nat.le_of_ble_eq_true rfl⟩) (kW_V hP hK (va_recv (q0 := 0) (ci := 5) hK hP rfl rfl)) rfl rfl hl.1 rfl (lv_room (Nat.le_of_ble_eq_true rfl)) d_Model_link_30 ⟨Nat.le_of_ble_eq_true rfl, Nat.le_of_ble_eq_true rfl⟩) hS (fun q _ h => h) (fun q h => h) (fun r0 u t H locs ht hvm hw hB _ _ hS => ?_)
        subst r0
        have hP := kW_P hB ht
        refine lv_if_eq (tgt := 57) hx hb d_Model_link_33 (by decide) (fun h8 => ?_) (fun h8 => ?_)
        · have hJ := j_t hJ h8
          refine lv_iconst (v := (0 : Int32)) hx hb d_Model_link_57 (by decide) ?_
          have hJ := Option.some.inj hJ
          exact W.zret (v := (0 : Int32)) (ty := .boolean) hx hb hr (by decide +kernel) (fun t ht hW => ⟨⟨_, (), rfl, (j_p1 hJ), kW_end hP hK ht hW (congrArg (fun z => wR gr cB cI z) (j_p2 hJ))⟩, hS.F ht⟩) hS.2.2 d_Model_link_58
        · have hJ := j_f hJ h8
          refine lv_aload_n hx hb d_Model_link_36 rfl (lv_at hl 0 rfl) ?_
          refine lv_iload_n hx hb d_Model_link_37 rfl (lv_at hl 1 rfl) ?_
          obtain ⟨x9, e9, hJ⟩ := j_bind hJ
          refine va_calli (va_runV (As := [.int a1]) (rest := []) ⟨hx, hb, hml, hown, htb⟩ (c_Model_mayEnter (l := l) (dC := dC) (dI := dI) hDa e9) (xcV 1 htb tw696 tw7 tw693 tw695 ts_Model_mayEnter rfl rfl hd_Model_mayEnter ⟨Nat.le_of_ble_eq_true rfl, Nat.le_of_ble_eq_true rfl⟩) (kW_V hP hK (va_recv (q0 := 0) (ci := 5) hK hP rfl rfl)) rfl rfl hl.1 rfl (lv_room (Nat.le_of_ble_eq_true rfl)) d_Model_link_38 ⟨Nat.le_of_ble_eq_true rfl, Nat.le_of_ble_eq_true rfl⟩) hS (fun q _ h => h) (fun q h => h) (fun r0 u t H locs ht hvm hw hB _ _ hS => ?_)
          subst r0
          have hP := kW_P hB ht
          refine lv_if_eq (tgt := 57) hx hb d_Model_link_41 (by decide) (fun h10 => ?_) (fun h10 => ?_)
          · have hJ := j_t hJ h10
            refine lv_iconst (v := (0 : Int32)) hx hb d_Model_link_57 (by decide) ?_
            have hJ := Option.some.inj hJ
            exact W.zret (v := (0 : Int32)) (ty := .boolean) hx hb hr (by decide +kernel) (fun t ht hW => ⟨⟨_, (), rfl, (j_p1 hJ), kW_end hP hK ht hW (congrArg (fun z => wR gr cB cI z) (j_p2 hJ))⟩, hS.F ht⟩) hS.2.2 d_Model_link_58
          · have hJ := j_f hJ h10
            refine lv_aload_n hx hb d_Model_link_44 rfl (lv_at hl 0 rfl) ?_
            refine lv_iload hx hb d_Model_link_45 (lv_at hl 3 rfl) ?_
            refine lv_iconst (v := (1 : Int32)) hx hb d_Model_link_47 (by decide) ?_
            obtain ⟨x11, e11, hJ⟩ := j_bind hJ
            refine va_calli (va_runV (As := [.int a3, .int (1 : Int32)]) (rest := []) ⟨hx, hb, hml, hown, htb⟩ (c_Model_inodeAt (l := l) (dC := dC) (dI := dI) hDa e11) (xcV 2 htb tw682 tw7 tw679 tw681 ts_Model_inodeAt rfl rfl hd_Model_inodeAt ⟨Nat.le_of_ble_eq_true rfl, Nat.le_of_ble_eq_true rfl⟩) (kW_V hP hK (va_recv (q0 := 0) (ci := 5) hK hP rfl rfl)) rfl rfl hl.1 rfl (lv_room (Nat.le_of_ble_eq_true rfl)) d_Model_link_48 ⟨Nat.le_of_ble_eq_true rfl, Nat.le_of_ble_eq_true rfl⟩) hS (fun q _ h => h) (fun q h => h) (fun r0 u t H locs ht hvm hw hB _ _ hS => ?_)
            subst r0
            have hP := kW_P hB ht
            refine lv_sipush (v := (200 : Int32)) hx hb d_Model_link_51 (by decide) ?_
            refine lv_icmp_ne (tgt := 59) hx hb d_Model_link_54 (by decide) (fun h12 => ?_) (fun h12 => ?_)
            · have hJ := j_f hJ h12
              refine lv_aload_n hx hb d_Model_link_59 rfl (lv_at hl 0 rfl) ?_
              obtain ⟨x13, e13, hJ⟩ := j_bind hJ
              refine va_calli (va_runV (As := []) (rest := []) ⟨hx, hb, hml, hown, htb⟩ (c_Model_ready (l := l) (dC := dC) (dI := dI) hDa e13) (xcV 0 htb tw739 tw7 tw736 tw738 ts_Model_ready rfl rfl hd_Model_ready ⟨Nat.le_of_ble_eq_true rfl, Nat.le_of_ble_eq_true rfl⟩) (kW_V hP hK (va_recv (q0 := 0) (ci := 5) hK hP rfl rfl)) rfl rfl hl.1 rfl (lv_room (Nat.le_of_ble_eq_true rfl)) d_Model_link_60 ⟨Nat.le_of_ble_eq_true rfl, Nat.le_of_ble_eq_true rfl⟩) hS (fun q _ h => h) (fun q h => h) (fun r0 u t H locs ht hvm hw hB _ _ hS => ?_)
              subst r0
              have hP := kW_P hB ht
              refine lv_if_ne (tgt := 68) hx hb d_Model_link_63 (by decide) (fun h14 => ?_) (fun h14 => ?_)
              · have hJ := j_f hJ h14
                refine lv_aload_n hx hb d_Model_link_68 rfl (lv_at hl 0 rfl) ?_
                refine lv_iload hx hb d_Model_link_69 (lv_at hl 3 rfl) ?_
                refine lv_iconst (v := (1 : Int32)) hx hb d_Model_link_71 (by decide) ?_
                refine lv_aload_n hx hb d_Model_link_72 rfl (lv_at hl 0 rfl) ?_
                refine lv_iload hx hb d_Model_link_73 (lv_at hl 3 rfl) ?_
                refine lv_iconst (v := (1 : Int32)) hx hb d_Model_link_75 (by decide) ?_
                obtain ⟨x15, e15, hJ⟩ := j_bind hJ
                refine va_calli (va_runV (As := [.int a3, .int (1 : Int32)]) (rest := [.int (1 : Int32), .int a3, .ref (gr 0)]) ⟨hx, hb, hml, hown, htb⟩ (c_Model_inodeAt (l := l) (dC := dC) (dI := dI) hDa e15) (xcV 2 htb tw682 tw7 tw679 tw681 ts_Model_inodeAt rfl rfl hd_Model_inodeAt ⟨Nat.le_of_ble_eq_true rfl, Nat.le_of_ble_eq_true rfl⟩) (kW_V hP hK (va_recv (q0 := 0) (ci := 5) hK hP rfl rfl)) rfl rfl hl.1 rfl (lv_room (Nat.le_of_ble_eq_true rfl)) d_Model_link_76 ⟨Nat.le_of_ble_eq_true rfl, Nat.le_of_ble_eq_true rfl⟩) hS (fun q _ h => h) (fun q h => h) (fun r0 u t H locs ht hvm hw hB _ _ hS => ?_)
                subst r0
                have hP := kW_P hB ht
                refine lv_iconst (v := (1 : Int32)) hx hb d_Model_link_79 (by decide) ?_
                refine lv_iadd hx hb d_Model_link_80 ?_
                obtain ⟨x16, e16, hJ⟩ := j_bind hJ
                refine va_callv (va_runV (As := [.int a3, .int (1 : Int32), .int (x15 + (1 : Int32))]) (rest := []) ⟨hx, hb, hml, hown, htb⟩ (c_Model_setInode (l := l) (dC := dC) (dI := dI) hDa e16) (xcV 3 htb tw743 tw7 tw740 tw742 ts_Model_setInode rfl rfl hd_Model_setInode ⟨Nat.le_of_ble_eq_true rfl, Nat.le_of_ble_eq_true rfl⟩) (kW_V hP hK (va_recv (q0 := 0) (ci := 5) hK hP rfl rfl)) rfl rfl hl.1 rfl (lv_room (Nat.le_of_ble_eq_true rfl)) d_Model_link_81 ⟨Nat.le_of_ble_eq_true rfl, Nat.le_of_ble_eq_true rfl⟩) hS (fun q _ h => h) (fun q h => h) (fun u t H locs ht hvm hw hB _ _ hS => ?_)
                have hP := kW_P hB ht
                refine lv_aload_n hx hb d_Model_link_84 rfl (lv_at hl 0 rfl) ?_
                refine lv_iload_n hx hb d_Model_link_85 rfl (lv_at hl 1 rfl) ?_
                refine lv_iload hx hb d_Model_link_86 (lv_at hl 3 rfl) ?_
                obtain ⟨x17, e17, hJ⟩ := j_bind hJ
                refine va_callv (va_runV (As := [.int a1, .int a3]) (rest := []) ⟨hx, hb, hml, hown, htb⟩ (c_Model_enter (l := l) (dC := dC) (dI := dI) hDa e17) (xcV 2 htb tw755 tw7 tw752 tw754 ts_Model_enter rfl rfl hd_Model_enter ⟨Nat.le_of_ble_eq_true rfl, Nat.le_of_ble_eq_true rfl⟩) (kW_V hP hK (va_recv (q0 := 0) (ci := 5) hK hP rfl rfl)) rfl rfl hl.1 rfl (lv_room (Nat.le_of_ble_eq_true rfl)) d_Model_link_88 ⟨Nat.le_of_ble_eq_true rfl, Nat.le_of_ble_eq_true rfl⟩) hS (fun q _ h => h) (fun q h => h) (fun u t H locs ht hvm hw hB _ _ hS => ?_)
                have hP := kW_P hB ht
                refine lv_iconst (v := (1 : Int32)) hx hb d_Model_link_91 (by decide) ?_
                have hJ := Option.some.inj hJ
                exact W.zret (v := (1 : Int32)) (ty := .boolean) hx hb hr (by decide +kernel) (fun t ht hW => ⟨⟨_, (), rfl, (j_p1 hJ), kW_end hP hK ht hW (congrArg (fun z => wR gr cB cI z) (j_p2 hJ))⟩, hS.F ht⟩) hS.2.2 d_Model_link_92
              · have hJ := j_t hJ h14
                refine lv_iconst (v := (0 : Int32)) hx hb d_Model_link_66 (by decide) ?_
                have hJ := Option.some.inj hJ
                exact W.zret (v := (0 : Int32)) (ty := .boolean) hx hb hr (by decide +kernel) (fun t ht hW => ⟨⟨_, (), rfl, (j_p1 hJ), kW_end hP hK ht hW (congrArg (fun z => wR gr cB cI z) (j_p2 hJ))⟩, hS.F ht⟩) hS.2.2 d_Model_link_67
            · have hJ := j_t hJ h12
              refine lv_iconst (v := (0 : Int32)) hx hb d_Model_link_57 (by decide) ?_
              have hJ := Option.some.inj hJ
              exact W.zret (v := (0 : Int32)) (ty := .boolean) hx hb hr (by decide +kernel) (fun t ht hW => ⟨⟨_, (), rfl, (j_p1 hJ), kW_end hP hK ht hW (congrArg (fun z => wR gr cB cI z) (j_p2 hJ))⟩, hS.F ht⟩) hS.2.2 d_Model_link_58
  · have hJ := j_f hJ h2
    refine lv_iconst (v := (0 : Int32)) hx hb d_Model_link_7 (by decide) ?_
    have hJ := Option.some.inj hJ
    exact W.zret (v := (0 : Int32)) (ty := .boolean) hx hb hr (by decide +kernel) (fun t ht hW => ⟨⟨_, (), rfl, (j_p1 hJ), kW_end hP hK ht hW (congrArg (fun z => wR gr cB cI z) (j_p2 hJ))⟩, hS.F ht⟩) hS.2.2 d_Model_link_8
def J_Model_free (σ : RS) (a1 : Int32) : Option (RS) :=
  (J_Model_at σ (25 : Int32) (a1 / (8 : Int32))).bind fun x1 => (J_Model_set σ (25 : Int32) (a1 / (8 : Int32)) (x1 &&& (((1 : Int32) <<< ((a1 - a1 / (8 : Int32) * (8 : Int32)) &&& 31)) ^^^ ((-1) : Int32)))).bind fun x2 => some x2
abbrev rm_Model_free : Room := { frames := 2, cells := 0, slots := 0, locals := 46 }
set_option maxHeartbeats 4000000 in
set_option maxRecDepth 100000 in
theorem c_Model_free {l : Launch} {dC : Nat → ClassId} {dI : Nat → Nat → Nat} {gr : Nat → Nat} {cB cI : ClassId} {A : Nat → Prop} (hDa : ∀ σ, va_D A (wR gr cB cI σ)) {σ : RS} {a1 : Int32} {res : RS} (hJ : J_Model_free σ a1 = some res) :
    Met l y_Model_free (mw y_Model_free b_Model_free 2 none) rm_Model_free (va_Pc [.ref (gr 0), .int a1] (kW (dC, dI) (tC cB cI) (wR gr cB cI σ))) (va_Qv (fun (_ : Unit) => True) (fun _ t => kW (dC, dI) (tC cB cI) (wR gr cB cI res) t) A) 0 0 A := by
  refine Met.ofW (cc := b_Model_free) (maxL := 2) (ret := none) (by decide) rfl ?_
  intro p e s m args below meth c s₁ B hml hv
  obtain ⟨rfl, hP, hK⟩ := hv
  have hx := B.exec
  have hb := B.bytes
  have hr := B.returns
  have hts := atoms_spec (ws := (mw y_Model_free b_Model_free 2 none)) B.pre
  have htb : ∀ w ∈ tb, w.before [.ref (gr 0), .int a1].toArray s = true := fun w h => hts w (mwIn h)
  have hown : s.vm.findClass "LogFsModel" = some m.cls := findClass_of_methodNamed B.named
  have hlocks := B.notSynchronized
  have hS : va_S A s.heap s.heap [] := va_S.rf
  have hl := lv_entry ([.ref (gr 0), .int a1]) (n := 2) (Nat.le_of_ble_eq_true rfl)
  rw [lg_entry_eq]
  generalize (lg_sl ([.ref (gr 0), .int a1]) ++ List.replicate (2 - (lg_sl ([.ref (gr 0), .int a1])).length) Slot.unset).toArray = ls at hl ⊢
  have hl : lv_has ls 2 [(0, .ref (gr 0)), (1, .int a1)] := hl
  unfold J_Model_free at hJ
  refine lv_aload_n hx hb d_Model_free_0 rfl (lv_at hl 0 rfl) ?_
  refine lv_bipush (v := (25 : Int32)) hx hb d_Model_free_1 (by decide) ?_
  refine lv_iload_n hx hb d_Model_free_3 rfl (lv_at hl 1 rfl) ?_
  refine lv_bipush (v := (8 : Int32)) hx hb d_Model_free_4 (by decide) ?_
  refine lv_idiv hx hb d_Model_free_6 (by decide) ?_
  refine lv_aload_n hx hb d_Model_free_7 rfl (lv_at hl 0 rfl) ?_
  refine lv_bipush (v := (25 : Int32)) hx hb d_Model_free_8 (by decide) ?_
  refine lv_iload_n hx hb d_Model_free_10 rfl (lv_at hl 1 rfl) ?_
  refine lv_bipush (v := (8 : Int32)) hx hb d_Model_free_11 (by decide) ?_
  refine lv_idiv hx hb d_Model_free_13 (by decide) ?_
  obtain ⟨x1, e1, hJ⟩ := j_bind hJ
  refine va_calli (va_runV (As := [.int (25 : Int32), .int (a1 / (8 : Int32))]) (rest := [.int (a1 / (8 : Int32)), .int (25 : Int32), .ref (gr 0)]) ⟨hx, hb, hml, hown, htb⟩ (c_Model_at (l := l) (dC := dC) (dI := dI) hDa e1) (xcV 2 htb tw692 tw7 tw689 tw691 ts_Model_at rfl rfl hd_Model_at ⟨Nat.le_of_ble_eq_true rfl, Nat.le_of_ble_eq_true rfl⟩) (kW_V hP hK (va_recv (q0 := 0) (ci := 5) hK hP rfl rfl)) rfl rfl hl.1 rfl (lv_room (Nat.le_of_ble_eq_true rfl)) d_Model_free_14 ⟨Nat.le_of_ble_eq_true rfl, Nat.le_of_ble_eq_true rfl⟩) hS (fun q _ h => h) (fun q h => h) (fun r0 u t H locs ht hvm hw hB _ _ hS => ?_)
  subst r0
  have hP := kW_P hB ht
  refine lv_iconst (v := (1 : Int32)) hx hb d_Model_free_17 (by decide) ?_
  refine lv_iload_n hx hb d_Model_free_18 rfl (lv_at hl 1 rfl) ?_
  refine lv_bipush (v := (8 : Int32)) hx hb d_Model_free_19 (by decide) ?_
  refine lv_irem hx hb d_Model_free_21 (by decide) ?_
  refine lv_ishl hx hb d_Model_free_22 ?_
  refine lv_iconst (v := ((-1) : Int32)) hx hb d_Model_free_23 (by decide) ?_
  refine lv_ixor hx hb d_Model_free_24 ?_
  refine lv_iand hx hb d_Model_free_25 ?_
  obtain ⟨x2, e2, hJ⟩ := j_bind hJ
  refine va_callv (va_runV (As := [.int (25 : Int32), .int (a1 / (8 : Int32)), .int (x1 &&& (((1 : Int32) <<< ((a1 - a1 / (8 : Int32) * (8 : Int32)) &&& 31)) ^^^ ((-1) : Int32)))]) (rest := []) ⟨hx, hb, hml, hown, htb⟩ (c_Model_set (l := l) (dC := dC) (dI := dI) hDa e2) (xcV 3 htb tw747 tw7 tw744 tw746 ts_Model_set rfl rfl hd_Model_set ⟨Nat.le_of_ble_eq_true rfl, Nat.le_of_ble_eq_true rfl⟩) (kW_V hP hK (va_recv (q0 := 0) (ci := 5) hK hP rfl rfl)) rfl rfl hl.1 rfl (lv_room (Nat.le_of_ble_eq_true rfl)) d_Model_free_26 ⟨Nat.le_of_ble_eq_true rfl, Nat.le_of_ble_eq_true rfl⟩) hS (fun q _ h => h) (fun q h => h) (fun u t H locs ht hvm hw hB _ _ hS => ?_)
  have hP := kW_P hB ht
  have hJ := Option.some.inj hJ
  exact W.vret hx hb hr (fun t ht hW => ⟨⟨(), rfl, trivial, kW_end hP hK ht hW (congrArg (fun z => wR gr cB cI z) hJ)⟩, hS.F ht⟩) hS.2.2 d_Model_free_29
def J_Model_release_11_b (k : RS → Int32 → Int32 → Int32 → Option (RS)) (σ : RS) (v1 : Int32) (v2 : Int32) (v3 : Int32) : Option (RS) :=
  (if v2 ≤ v3 then (if v2 ≤ (10 : Int32) then some σ else (J_Model_inodeAt σ v1 (14 : Int32)).bind fun x5 => (J_Model_free σ x5).bind fun x6 => some x6) else (J_Model_contentBlock σ v1 v3).bind fun x7 => (J_Model_free σ x7).bind fun x8 => k x8 v1 v2 (v3 + (1 : Int32)))
def J_Model_release_11 : Nat → RS → Int32 → Int32 → Int32 → Option (RS)
  | 0, _, _, _, _ => none
  | n + 1, σ, v1, v2, v3 => J_Model_release_11_b (J_Model_release_11 n) σ v1 v2 v3
def J_Model_release (σ : RS) (a1 : Int32) : Option (RS) :=
  (J_Model_sizeOf σ a1).bind fun x1 => (J_Model_blocksFor x1).bind fun x2 => J_Model_release_11 9000 σ a1 x2 (0 : Int32)
abbrev rm_Model_release : Room := { frames := 3, cells := 0, slots := 0, locals := 67 }
set_option maxHeartbeats 4000000 in
set_option maxRecDepth 100000 in
theorem c_Model_release {l : Launch} {dC : Nat → ClassId} {dI : Nat → Nat → Nat} {gr : Nat → Nat} {cB cI : ClassId} {A : Nat → Prop} (hDa : ∀ σ, va_D A (wR gr cB cI σ)) {σ : RS} {a1 : Int32} {res : RS} (hJ : J_Model_release σ a1 = some res) :
    Met l y_Model_release (mw y_Model_release b_Model_release 4 none) rm_Model_release (va_Pc [.ref (gr 0), .int a1] (kW (dC, dI) (tC cB cI) (wR gr cB cI σ))) (va_Qv (fun (_ : Unit) => True) (fun _ t => kW (dC, dI) (tC cB cI) (wR gr cB cI res) t) A) 0 0 A := by
  refine Met.ofW (cc := b_Model_release) (maxL := 4) (ret := none) (by decide) rfl ?_
  intro p e s m args below meth c s₁ B hml hv
  obtain ⟨rfl, hP, hK⟩ := hv
  have hx := B.exec
  have hb := B.bytes
  have hr := B.returns
  have hts := atoms_spec (ws := (mw y_Model_release b_Model_release 4 none)) B.pre
  have htb : ∀ w ∈ tb, w.before [.ref (gr 0), .int a1].toArray s = true := fun w h => hts w (mwIn h)
  have hown : s.vm.findClass "LogFsModel" = some m.cls := findClass_of_methodNamed B.named
  have hlocks := B.notSynchronized
  have hS : va_S A s.heap s.heap [] := va_S.rf
  have hl := lv_entry ([.ref (gr 0), .int a1]) (n := 4) (Nat.le_of_ble_eq_true rfl)
  rw [lg_entry_eq]
  generalize (lg_sl ([.ref (gr 0), .int a1]) ++ List.replicate (4 - (lg_sl ([.ref (gr 0), .int a1])).length) Slot.unset).toArray = ls at hl ⊢
  have hl : lv_has ls 4 [(0, .ref (gr 0)), (1, .int a1)] := hl
  have blk11 : ∀ (n : Nat) (σ : RS) (v1 : Int32) (v2 : Int32) (v3 : Int32) (ls : Array Slot) (H : Heap) (locs : List Loc), J_Model_release_11 n σ v1 v2 v3 = some res → lv_has ls 4 [(0, .ref (gr 0)), (1, .int v1), (2, .int v2), (3, .int v3)] → va_P (dC, dI) cls (wR gr cB cI σ) H → va_S A s.heap H locs → W p l e (headSpec (mw y_Model_release b_Model_release 4 none) rm_Model_release).room s m [.ref (gr 0), .int a1].toArray below meth c H locs 0 0 (MQ below (va_Qv (fun (_ : Unit) => True) (fun _ t => kW (dC, dI) (tC cB cI) (wR gr cB cI res) t) A) [.ref (gr 0), .int a1].toArray s 0 0 A) (F0 m 11 ls []) := by
    intro n
    induction n with
    | zero => intro σ v1 v2 v3 ls H locs hJ; exact j_none hJ
    | succ n hk =>
      intro σ v1 v2 v3 ls H locs hJ hl hP hS
      have hJ : J_Model_release_11_b (J_Model_release_11 n) σ v1 v2 v3 = some res := hJ
      unfold J_Model_release_11_b at hJ
      refine lv_iload_n hx hb d_Model_release_11 rfl (lv_at hl 3 rfl) ?_
      refine lv_iload_n hx hb d_Model_release_12 rfl (lv_at hl 2 rfl) ?_
      refine lv_icmp_ge (tgt := 32) hx hb d_Model_release_13 (by decide) (fun h3 => ?_) (fun h3 => ?_)
      · have hJ := j_t hJ h3
        refine lv_iload_n hx hb d_Model_release_32 rfl (lv_at hl 2 rfl) ?_
        refine lv_bipush (v := (10 : Int32)) hx hb d_Model_release_33 (by decide) ?_
        refine lv_icmp_le (tgt := 49) hx hb d_Model_release_35 (by decide) (fun h4 => ?_) (fun h4 => ?_)
        · have hJ := j_t hJ h4
          have hJ := Option.some.inj hJ
          exact W.vret hx hb hr (fun t ht hW => ⟨⟨(), rfl, trivial, kW_end hP hK ht hW (congrArg (fun z => wR gr cB cI z) hJ)⟩, hS.F ht⟩) hS.2.2 d_Model_release_49
        · have hJ := j_f hJ h4
          refine lv_aload_n hx hb d_Model_release_38 rfl (lv_at hl 0 rfl) ?_
          refine lv_aload_n hx hb d_Model_release_39 rfl (lv_at hl 0 rfl) ?_
          refine lv_iload_n hx hb d_Model_release_40 rfl (lv_at hl 1 rfl) ?_
          refine lv_bipush (v := (14 : Int32)) hx hb d_Model_release_41 (by decide) ?_
          obtain ⟨x5, e5, hJ⟩ := j_bind hJ
          refine va_calli (va_runV (As := [.int v1, .int (14 : Int32)]) (rest := [.ref (gr 0)]) ⟨hx, hb, hml, hown, htb⟩ (c_Model_inodeAt (l := l) (dC := dC) (dI := dI) hDa e5) (xcV 2 htb tw682 tw7 tw679 tw681 ts_Model_inodeAt rfl rfl hd_Model_inodeAt ⟨Nat.le_of_ble_eq_true rfl, Nat.le_of_ble_eq_true rfl⟩) (kW_V hP hK (va_recv (q0 := 0) (ci := 5) hK hP rfl rfl)) rfl rfl hl.1 rfl (lv_room (Nat.le_of_ble_eq_true rfl)) d_Model_release_43 ⟨Nat.le_of_ble_eq_true rfl, Nat.le_of_ble_eq_true rfl⟩) hS (fun q _ h => h) (fun q h => h) (fun r0 u t H locs ht hvm hw hB _ _ hS => ?_)
          subst r0
          have hP := kW_P hB ht
          obtain ⟨x6, e6, hJ⟩ := j_bind hJ
          refine va_callv (va_runV (As := [.int x5]) (rest := []) ⟨hx, hb, hml, hown, htb⟩ (c_Model_free (l := l) (dC := dC) (dI := dI) hDa e6) (xcV 1 htb tw787 tw7 tw784 tw786 ts_Model_free rfl rfl hd_Model_free ⟨Nat.le_of_ble_eq_true rfl, Nat.le_of_ble_eq_true rfl⟩) (kW_V hP hK (va_recv (q0 := 0) (ci := 5) hK hP rfl rfl)) rfl rfl hl.1 rfl (lv_room (Nat.le_of_ble_eq_true rfl)) d_Model_release_46 ⟨Nat.le_of_ble_eq_true rfl, Nat.le_of_ble_eq_true rfl⟩) hS (fun q _ h => h) (fun q h => h) (fun u t H locs ht hvm hw hB _ _ hS => ?_)
          have hP := kW_P hB ht
          have hJ := Option.some.inj hJ
          exact W.vret hx hb hr (fun t ht hW => ⟨⟨(), rfl, trivial, kW_end hP hK ht hW (congrArg (fun z => wR gr cB cI z) hJ)⟩, hS.F ht⟩) hS.2.2 d_Model_release_49
      · have hJ := j_f hJ h3
        refine lv_aload_n hx hb d_Model_release_16 rfl (lv_at hl 0 rfl) ?_
        refine lv_aload_n hx hb d_Model_release_17 rfl (lv_at hl 0 rfl) ?_
        refine lv_iload_n hx hb d_Model_release_18 rfl (lv_at hl 1 rfl) ?_
        refine lv_iload_n hx hb d_Model_release_19 rfl (lv_at hl 3 rfl) ?_
        obtain ⟨x7, e7, hJ⟩ := j_bind hJ
        refine va_calli (va_runV (As := [.int v1, .int v3]) (rest := [.ref (gr 0)]) ⟨hx, hb, hml, hown, htb⟩ (c_Model_contentBlock (l := l) (dC := dC) (dI := dI) hDa e7) (xcV 2 htb tw712 tw7 tw709 tw711 ts_Model_contentBlock rfl rfl hd_Model_contentBlock ⟨Nat.le_of_ble_eq_true rfl, Nat.le_of_ble_eq_true rfl⟩) (kW_V hP hK (va_recv (q0 := 0) (ci := 5) hK hP rfl rfl)) rfl rfl hl.1 rfl (lv_room (Nat.le_of_ble_eq_true rfl)) d_Model_release_20 ⟨Nat.le_of_ble_eq_true rfl, Nat.le_of_ble_eq_true rfl⟩) hS (fun q _ h => h) (fun q h => h) (fun r0 u t H locs ht hvm hw hB _ _ hS => ?_)
        subst r0
        have hP := kW_P hB ht
        obtain ⟨x8, e8, hJ⟩ := j_bind hJ
        refine va_callv (va_runV (As := [.int x7]) (rest := []) ⟨hx, hb, hml, hown, htb⟩ (c_Model_free (l := l) (dC := dC) (dI := dI) hDa e8) (xcV 1 htb tw787 tw7 tw784 tw786 ts_Model_free rfl rfl hd_Model_free ⟨Nat.le_of_ble_eq_true rfl, Nat.le_of_ble_eq_true rfl⟩) (kW_V hP hK (va_recv (q0 := 0) (ci := 5) hK hP rfl rfl)) rfl rfl hl.1 rfl (lv_room (Nat.le_of_ble_eq_true rfl)) d_Model_release_23 ⟨Nat.le_of_ble_eq_true rfl, Nat.le_of_ble_eq_true rfl⟩) hS (fun q _ h => h) (fun q h => h) (fun u t H locs ht hvm hw hB _ _ hS => ?_)
        have hP := kW_P hB ht
        refine lv_iinc (k := 3) (v := (v3 + (1 : Int32))) hx hb d_Model_release_26 hl rfl rfl (Nat.le_of_ble_eq_true rfl) rfl (fun ls hl => ?_)
        have hl : lv_has ls 4 [(3, .int (v3 + (1 : Int32))), (0, .ref (gr 0)), (1, .int v1), (2, .int v2)] := hl
        refine lv_goto (tgt := 11) hx hb d_Model_release_29 (by decide) ?_
        exact hk _ _ _ _ _ _ _ hJ (lv_sub hl [1, 2, 3, 0] rfl) hP hS
  unfold J_Model_release at hJ
  refine lv_aload_n hx hb d_Model_release_0 rfl (lv_at hl 0 rfl) ?_
  refine lv_iload_n hx hb d_Model_release_1 rfl (lv_at hl 1 rfl) ?_
  obtain ⟨x1, e1, hJ⟩ := j_bind hJ
  refine va_calli (va_runV (As := [.int a1]) (rest := []) ⟨hx, hb, hml, hown, htb⟩ (c_Model_sizeOf (l := l) (dC := dC) (dI := dI) hDa e1) (xcV 1 htb tw704 tw7 tw701 tw703 ts_Model_sizeOf rfl rfl hd_Model_sizeOf ⟨Nat.le_of_ble_eq_true rfl, Nat.le_of_ble_eq_true rfl⟩) (kW_V hP hK (va_recv (q0 := 0) (ci := 5) hK hP rfl rfl)) rfl rfl hl.1 rfl (lv_room (Nat.le_of_ble_eq_true rfl)) d_Model_release_2 ⟨Nat.le_of_ble_eq_true rfl, Nat.le_of_ble_eq_true rfl⟩) hS (fun q _ h => h) (fun q h => h) (fun r0 u t H locs ht hvm hw hB _ _ hS => ?_)
  subst r0
  have hP := kW_P hB ht
  obtain ⟨x2, e2, hJ⟩ := j_bind hJ
  refine va_calli (va_runS (As := [.int x1]) (rest := []) ⟨hx, hb, hml, hown, htb⟩ (c_Model_blocksFor (l := l) (dC := dC) (dI := dI) (σ := σ) hDa e2) (xcS 1 htb tw723 tw7 tw721 tw722 rfl rfl hd_Model_blocksFor ⟨Nat.le_of_ble_eq_true rfl, Nat.le_of_ble_eq_true rfl⟩) (kW_S hP hK) rfl rfl hl.1 rfl (lv_room (Nat.le_of_ble_eq_true rfl)) d_Model_release_5 ⟨Nat.le_of_ble_eq_true rfl, Nat.le_of_ble_eq_true rfl⟩) hS (fun q _ h => h) (fun q h => h) (fun r0 u t H locs ht hvm hw hB _ _ hS => ?_)
  subst r0
  have hP := kW_P hB ht
  refine lv_istore_n hx hb d_Model_release_8 rfl hl (Nat.le_of_ble_eq_true rfl) rfl (fun ls hl => ?_)
  have hl : lv_has ls 4 [(2, .int x2), (0, .ref (gr 0)), (1, .int a1)] := hl
  refine lv_iconst (v := (0 : Int32)) hx hb d_Model_release_9 (by decide) ?_
  refine lv_istore_n hx hb d_Model_release_10 rfl hl (Nat.le_of_ble_eq_true rfl) rfl (fun ls hl => ?_)
  have hl : lv_has ls 4 [(3, .int (0 : Int32)), (2, .int x2), (0, .ref (gr 0)), (1, .int a1)] := hl
  exact blk11 9000 _ _ _ _ _ _ _ hJ (lv_sub hl [2, 3, 1, 0] rfl) hP hS
def J_Model_clear_2_b (k : RS → Int32 → Int32 → Option (RS)) (σ : RS) (v1 : Int32) (v3 : Int32) : Option (RS) :=
  (if (16 : Int32) ≤ v3 then some σ else (J_Model_setInode σ v1 v3 (0 : Int32)).bind fun x2 => k x2 v1 (v3 + (1 : Int32)))
def J_Model_clear_2 : Nat → RS → Int32 → Int32 → Option (RS)
  | 0, _, _, _ => none
  | n + 1, σ, v1, v3 => J_Model_clear_2_b (J_Model_clear_2 n) σ v1 v3
def J_Model_clear (σ : RS) (a1 : Int32) (a2 : Int32) : Option (RS) :=
  J_Model_clear_2 9000 σ a1 a2
abbrev rm_Model_clear : Room := { frames := 3, cells := 0, slots := 0, locals := 69 }
set_option maxHeartbeats 4000000 in
set_option maxRecDepth 100000 in
theorem c_Model_clear {l : Launch} {dC : Nat → ClassId} {dI : Nat → Nat → Nat} {gr : Nat → Nat} {cB cI : ClassId} {A : Nat → Prop} (hDa : ∀ σ, va_D A (wR gr cB cI σ)) {σ : RS} {a1 : Int32} {a2 : Int32} {res : RS} (hJ : J_Model_clear σ a1 a2 = some res) :
    Met l y_Model_clear (mw y_Model_clear b_Model_clear 4 none) rm_Model_clear (va_Pc [.ref (gr 0), .int a1, .int a2] (kW (dC, dI) (tC cB cI) (wR gr cB cI σ))) (va_Qv (fun (_ : Unit) => True) (fun _ t => kW (dC, dI) (tC cB cI) (wR gr cB cI res) t) A) 0 0 A := by
  refine Met.ofW (cc := b_Model_clear) (maxL := 4) (ret := none) (by decide) rfl ?_
  intro p e s m args below meth c s₁ B hml hv
  obtain ⟨rfl, hP, hK⟩ := hv
  have hx := B.exec
  have hb := B.bytes
  have hr := B.returns
  have hts := atoms_spec (ws := (mw y_Model_clear b_Model_clear 4 none)) B.pre
  have htb : ∀ w ∈ tb, w.before [.ref (gr 0), .int a1, .int a2].toArray s = true := fun w h => hts w (mwIn h)
  have hown : s.vm.findClass "LogFsModel" = some m.cls := findClass_of_methodNamed B.named
  have hlocks := B.notSynchronized
  have hS : va_S A s.heap s.heap [] := va_S.rf
  have hl := lv_entry ([.ref (gr 0), .int a1, .int a2]) (n := 4) (Nat.le_of_ble_eq_true rfl)
  rw [lg_entry_eq]
  generalize (lg_sl ([.ref (gr 0), .int a1, .int a2]) ++ List.replicate (4 - (lg_sl ([.ref (gr 0), .int a1, .int a2])).length) Slot.unset).toArray = ls at hl ⊢
  have hl : lv_has ls 4 [(0, .ref (gr 0)), (1, .int a1), (2, .int a2)] := hl
  have blk2 : ∀ (n : Nat) (σ : RS) (v1 : Int32) (v3 : Int32) (ls : Array Slot) (H : Heap) (locs : List Loc), J_Model_clear_2 n σ v1 v3 = some res → lv_has ls 4 [(0, .ref (gr 0)), (1, .int v1), (3, .int v3)] → va_P (dC, dI) cls (wR gr cB cI σ) H → va_S A s.heap H locs → W p l e (headSpec (mw y_Model_clear b_Model_clear 4 none) rm_Model_clear).room s m [.ref (gr 0), .int a1, .int a2].toArray below meth c H locs 0 0 (MQ below (va_Qv (fun (_ : Unit) => True) (fun _ t => kW (dC, dI) (tC cB cI) (wR gr cB cI res) t) A) [.ref (gr 0), .int a1, .int a2].toArray s 0 0 A) (F0 m 2 ls []) := by
    intro n
    induction n with
    | zero => intro σ v1 v3 ls H locs hJ; exact j_none hJ
    | succ n hk =>
      intro σ v1 v3 ls H locs hJ hl hP hS
      have hJ : J_Model_clear_2_b (J_Model_clear_2 n) σ v1 v3 = some res := hJ
      unfold J_Model_clear_2_b at hJ
      refine lv_iload_n hx hb d_Model_clear_2 rfl (lv_at hl 2 rfl) ?_
      refine lv_bipush (v := (16 : Int32)) hx hb d_Model_clear_3 (by decide) ?_
      refine lv_icmp_ge (tgt := 21) hx hb d_Model_clear_5 (by decide) (fun h1 => ?_) (fun h1 => ?_)
      · have hJ := j_t hJ h1
        have hJ := Option.some.inj hJ
        exact W.vret hx hb hr (fun t ht hW => ⟨⟨(), rfl, trivial, kW_end hP hK ht hW (congrArg (fun z => wR gr cB cI z) hJ)⟩, hS.F ht⟩) hS.2.2 d_Model_clear_21
      · have hJ := j_f hJ h1
        refine lv_aload_n hx hb d_Model_clear_8 rfl (lv_at hl 0 rfl) ?_
        refine lv_iload_n hx hb d_Model_clear_9 rfl (lv_at hl 1 rfl) ?_
        refine lv_iload_n hx hb d_Model_clear_10 rfl (lv_at hl 2 rfl) ?_
        refine lv_iconst (v := (0 : Int32)) hx hb d_Model_clear_11 (by decide) ?_
        obtain ⟨x2, e2, hJ⟩ := j_bind hJ
        refine va_callv (va_runV (As := [.int v1, .int v3, .int (0 : Int32)]) (rest := []) ⟨hx, hb, hml, hown, htb⟩ (c_Model_setInode (l := l) (dC := dC) (dI := dI) hDa e2) (xcV 3 htb tw743 tw7 tw740 tw742 ts_Model_setInode rfl rfl hd_Model_setInode ⟨Nat.le_of_ble_eq_true rfl, Nat.le_of_ble_eq_true rfl⟩) (kW_V hP hK (va_recv (q0 := 0) (ci := 5) hK hP rfl rfl)) rfl rfl hl.1 rfl (lv_room (Nat.le_of_ble_eq_true rfl)) d_Model_clear_12 ⟨Nat.le_of_ble_eq_true rfl, Nat.le_of_ble_eq_true rfl⟩) hS (fun q _ h => h) (fun q h => h) (fun u t H locs ht hvm hw hB _ _ hS => ?_)
        have hP := kW_P hB ht
        refine lv_iinc (k := 2) (v := (v3 + (1 : Int32))) hx hb d_Model_clear_15 hl rfl rfl (Nat.le_of_ble_eq_true rfl) rfl (fun ls hl => ?_)
        have hl : lv_has ls 4 [(3, .int (v3 + (1 : Int32))), (0, .ref (gr 0)), (1, .int v1)] := hl
        refine lv_goto (tgt := 2) hx hb d_Model_clear_18 (by decide) ?_
        exact hk _ _ _ _ _ _ hJ (lv_sub hl [1, 2, 0] rfl) hP hS
  unfold J_Model_clear at hJ
  refine lv_iload_n hx hb d_Model_clear_0 rfl (lv_at hl 2 rfl) ?_
  refine lv_istore_n hx hb d_Model_clear_1 rfl hl (Nat.le_of_ble_eq_true rfl) rfl (fun ls hl => ?_)
  have hl : lv_has ls 4 [(3, .int a2), (0, .ref (gr 0)), (1, .int a1), (2, .int a2)] := hl
  exact blk2 9000 _ _ _ _ _ _ hJ (lv_sub hl [1, 2, 0] rfl) hP hS
