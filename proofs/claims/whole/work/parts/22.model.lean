/-! The reference, third part. Written by wip/gen/classes.py. -/
def J_Model_unlink_96_b (k : RS → Int32 → Int32 → Int32 → Int32 → Option (Int32 × RS)) (σ : RS) (v4 : Int32) (v5 : Int32) (v6 : Int32) (v7 : Int32) : Option (Int32 × RS) :=
  (if (8 : Int32) ≤ v7 then (J_Model_inodeAt σ v5 (1 : Int32)).bind fun x16 => (if x16 ≤ (1 : Int32) then (J_Model_release σ v5).bind fun x18 => (J_Model_clear x18 v5 (0 : Int32)).bind fun x19 => some ((1 : Int32), x19) else (J_Model_inodeAt σ v5 (1 : Int32)).bind fun x20 => (J_Model_setInode σ v5 (1 : Int32) (x20 - (1 : Int32))).bind fun x21 => some ((1 : Int32), x21)) else (J_Model_set σ v6 ((v4 - v4 / (64 : Int32) * (64 : Int32)) + v7) (0 : Int32)).bind fun x22 => k x22 v4 v5 v6 (v7 + (1 : Int32)))
def J_Model_unlink_96 : Nat → RS → Int32 → Int32 → Int32 → Int32 → Option (Int32 × RS)
  | 0, _, _, _, _, _ => none
  | n + 1, σ, v4, v5, v6, v7 => J_Model_unlink_96_b (J_Model_unlink_96 n) σ v4 v5 v6 v7
def J_Model_unlink_72 (σ : RS) (v1 : Int32) (v4 : Int32) (v5 : Int32) : Option (Int32 × RS) :=
  (J_Model_ready σ).bind fun x12 => (if x12.1 = (0 : Int32) then some ((0 : Int32), x12.2) else (J_Model_contentBlock x12.2 v1 (v4 / (64 : Int32))).bind fun x14 => J_Model_unlink_96 9000 x12.2 v4 v5 x14 (0 : Int32))
def J_Model_unlink (σ : RS) (a1 : Int32) (a2 : Int64) : Option (Int32 × RS) :=
  (J_Model_dead σ).bind fun x1 => (if x1.1 = (0 : Int32) then (J_Model_isName x1.2 a2).bind fun x3 => (if x3.1 = (0 : Int32) then some ((0 : Int32), x3.2) else (J_Model_is x3.2 a1 (2 : Int32)).bind fun x5 => (if x5 = (0 : Int32) then some ((0 : Int32), x3.2) else (J_Model_findEntry x3.2 a1).bind fun x7 => (if (0 : Int32) ≤ x7 then (J_Model_contentAt x3.2 a1 x7).bind fun x9 => (J_Model_is x3.2 (x9 - (1 : Int32)) (2 : Int32)).bind fun x10 => (if x10 = (0 : Int32) then J_Model_unlink_72 x3.2 a1 x7 (x9 - (1 : Int32)) else (J_Model_entries x3.2 (x9 - (1 : Int32))).bind fun x23 => (if (0 : Int32) < x23 then some ((0 : Int32), x3.2) else J_Model_unlink_72 x3.2 a1 x7 (x9 - (1 : Int32)))) else some ((0 : Int32), x3.2)))) else some ((0 : Int32), x1.2))
abbrev rm_Model_unlink : Room := { frames := 5, cells := 0, slots := 0, locals := 113 }
set_option maxHeartbeats 4000000 in
set_option maxRecDepth 100000 in
theorem c_Model_unlink {l : Launch} {dC : Nat → ClassId} {dI : Nat → Nat → Nat} {gr : Nat → Nat} {cB cI : ClassId} {A : Nat → Prop} (hDa : ∀ σ, va_D A (wR gr cB cI σ)) {σ : RS} {a1 : Int32} {a2 : Int64} {res : Int32 × RS} (hJ : J_Model_unlink σ a1 a2 = some res) :
    Met l y_Model_unlink (mw y_Model_unlink b_Model_unlink 8 (some .boolean)) rm_Model_unlink (va_Pc [.ref (gr 0), .int a1, .long a2] (kW (dC, dI) (tC cB cI) (wR gr cB cI σ))) (va_Qi (fun (x : Int32) (_ : Unit) => x = res.1) (fun _ t => kW (dC, dI) (tC cB cI) (wR gr cB cI res.2) t) A) 0 0 A := by
  refine Met.ofW (cc := b_Model_unlink) (maxL := 8) (ret := (some .boolean)) (by decide) rfl ?_
  intro p e s m args below meth c s₁ B hml hv
  obtain ⟨rfl, hP, hK⟩ := hv
  have hx := B.exec
  have hb := B.bytes
  have hr := B.returns
  have hts := atoms_spec (ws := (mw y_Model_unlink b_Model_unlink 8 (some .boolean))) B.pre
  have htb : ∀ w ∈ tb, w.before [.ref (gr 0), .int a1, .long a2].toArray s = true := fun w h => hts w (mwIn h)
  have hown : s.vm.findClass "LogFsModel" = some m.cls := findClass_of_methodNamed B.named
  have hlocks := B.notSynchronized
  have hS : va_S A s.heap s.heap [] := va_S.rf
  have hl := lv_entry ([.ref (gr 0), .int a1, .long a2]) (n := 8) (Nat.le_of_ble_eq_true rfl)
  rw [lg_entry_eq]
  generalize (lg_sl ([.ref (gr 0), .int a1, .long a2]) ++ List.replicate (8 - (lg_sl ([.ref (gr 0), .int a1, .long a2])).length) Slot.unset).toArray = ls at hl ⊢
  have hl : lv_has ls 8 [(0, .ref (gr 0)), (1, .int a1), (2, .long a2)] := hl
  have blk96 : ∀ (n : Nat) (σ : RS) (v4 : Int32) (v5 : Int32) (v6 : Int32) (v7 : Int32) (ls : Array Slot) (H : Heap) (locs : List Loc), J_Model_unlink_96 n σ v4 v5 v6 v7 = some res → lv_has ls 8 [(0, .ref (gr 0)), (4, .int v4), (5, .int v5), (6, .int v6), (7, .int v7)] → va_P (dC, dI) cls (wR gr cB cI σ) H → va_S A s.heap H locs → W p l e (headSpec (mw y_Model_unlink b_Model_unlink 8 (some .boolean)) rm_Model_unlink).room s m [.ref (gr 0), .int a1, .long a2].toArray below meth c H locs 0 0 (MQ below (va_Qi (fun (x : Int32) (_ : Unit) => x = res.1) (fun _ t => kW (dC, dI) (tC cB cI) (wR gr cB cI res.2) t) A) [.ref (gr 0), .int a1, .long a2].toArray s 0 0 A) (F0 m 96 ls []) := by
    intro n
    induction n with
    | zero => intro σ v4 v5 v6 v7 ls H locs hJ; exact j_none hJ
    | succ n hk =>
      intro σ v4 v5 v6 v7 ls H locs hJ hl hP hS
      have hJ : J_Model_unlink_96_b (J_Model_unlink_96 n) σ v4 v5 v6 v7 = some res := hJ
      unfold J_Model_unlink_96_b at hJ
      refine lv_iload hx hb d_Model_unlink_96 (lv_at hl 4 rfl) ?_
      refine lv_bipush (v := (8 : Int32)) hx hb d_Model_unlink_98 (by decide) ?_
      refine lv_icmp_ge (tgt := 124) hx hb d_Model_unlink_100 (by decide) (fun h15 => ?_) (fun h15 => ?_)
      · have hJ := j_t hJ h15
        refine lv_aload_n hx hb d_Model_unlink_124 rfl (lv_at hl 0 rfl) ?_
        refine lv_iload hx hb d_Model_unlink_125 (lv_at hl 2 rfl) ?_
        refine lv_iconst (v := (1 : Int32)) hx hb d_Model_unlink_127 (by decide) ?_
        obtain ⟨x16, e16, hJ⟩ := j_bind hJ
        refine va_calli (va_runV (As := [.int v5, .int (1 : Int32)]) (rest := []) ⟨hx, hb, hml, hown, htb⟩ (c_Model_inodeAt (l := l) (dC := dC) (dI := dI) hDa e16) (xcV 2 htb tw682 tw7 tw679 tw681 ts_Model_inodeAt rfl rfl hd_Model_inodeAt ⟨Nat.le_of_ble_eq_true rfl, Nat.le_of_ble_eq_true rfl⟩) (kW_V hP hK (va_recv (q0 := 0) (ci := 5) hK hP rfl rfl)) rfl rfl hl.1 rfl (lv_room (Nat.le_of_ble_eq_true rfl)) d_Model_unlink_128 ⟨Nat.le_of_ble_eq_true rfl, Nat.le_of_ble_eq_true rfl⟩) hS (fun q _ h => h) (fun q h => h) (fun r0 u t H locs ht hvm hw hB _ _ hS => ?_)
        subst r0
        have hP := kW_P hB ht
        refine lv_iconst (v := (1 : Int32)) hx hb d_Model_unlink_131 (by decide) ?_
        refine lv_icmp_le (tgt := 154) hx hb d_Model_unlink_132 (by decide) (fun h17 => ?_) (fun h17 => ?_)
        · have hJ := j_t hJ h17
          refine lv_aload_n hx hb d_Model_unlink_154 rfl (lv_at hl 0 rfl) ?_
          refine lv_iload hx hb d_Model_unlink_155 (lv_at hl 2 rfl) ?_
          obtain ⟨x18, e18, hJ⟩ := j_bind hJ
          refine va_callv (va_runV (As := [.int v5]) (rest := []) ⟨hx, hb, hml, hown, htb⟩ (c_Model_release (l := l) (dC := dC) (dI := dI) hDa e18) (xcV 1 htb tw783 tw7 tw780 tw782 ts_Model_release rfl rfl hd_Model_release ⟨Nat.le_of_ble_eq_true rfl, Nat.le_of_ble_eq_true rfl⟩) (kW_V hP hK (va_recv (q0 := 0) (ci := 5) hK hP rfl rfl)) rfl rfl hl.1 rfl (lv_room (Nat.le_of_ble_eq_true rfl)) d_Model_unlink_157 ⟨Nat.le_of_ble_eq_true rfl, Nat.le_of_ble_eq_true rfl⟩) hS (fun q _ h => h) (fun q h => h) (fun u t H locs ht hvm hw hB _ _ hS => ?_)
          have hP := kW_P hB ht
          refine lv_aload_n hx hb d_Model_unlink_160 rfl (lv_at hl 0 rfl) ?_
          refine lv_iload hx hb d_Model_unlink_161 (lv_at hl 2 rfl) ?_
          refine lv_iconst (v := (0 : Int32)) hx hb d_Model_unlink_163 (by decide) ?_
          obtain ⟨x19, e19, hJ⟩ := j_bind hJ
          refine va_callv (va_runV (As := [.int v5, .int (0 : Int32)]) (rest := []) ⟨hx, hb, hml, hown, htb⟩ (c_Model_clear (l := l) (dC := dC) (dI := dI) hDa e19) (xcV 2 htb tw791 tw7 tw788 tw790 ts_Model_clear rfl rfl hd_Model_clear ⟨Nat.le_of_ble_eq_true rfl, Nat.le_of_ble_eq_true rfl⟩) (kW_V hP hK (va_recv (q0 := 0) (ci := 5) hK hP rfl rfl)) rfl rfl hl.1 rfl (lv_room (Nat.le_of_ble_eq_true rfl)) d_Model_unlink_164 ⟨Nat.le_of_ble_eq_true rfl, Nat.le_of_ble_eq_true rfl⟩) hS (fun q _ h => h) (fun q h => h) (fun u t H locs ht hvm hw hB _ _ hS => ?_)
          have hP := kW_P hB ht
          refine lv_iconst (v := (1 : Int32)) hx hb d_Model_unlink_167 (by decide) ?_
          have hJ := Option.some.inj hJ
          exact W.zret (v := (1 : Int32)) (ty := .boolean) hx hb hr (by decide +kernel) (fun t ht hW => ⟨⟨_, (), rfl, (j_p1 hJ), kW_end hP hK ht hW (congrArg (fun z => wR gr cB cI z) (j_p2 hJ))⟩, hS.F ht⟩) hS.2.2 d_Model_unlink_168
        · have hJ := j_f hJ h17
          refine lv_aload_n hx hb d_Model_unlink_135 rfl (lv_at hl 0 rfl) ?_
          refine lv_iload hx hb d_Model_unlink_136 (lv_at hl 2 rfl) ?_
          refine lv_iconst (v := (1 : Int32)) hx hb d_Model_unlink_138 (by decide) ?_
          refine lv_aload_n hx hb d_Model_unlink_139 rfl (lv_at hl 0 rfl) ?_
          refine lv_iload hx hb d_Model_unlink_140 (lv_at hl 2 rfl) ?_
          refine lv_iconst (v := (1 : Int32)) hx hb d_Model_unlink_142 (by decide) ?_
          obtain ⟨x20, e20, hJ⟩ := j_bind hJ
          refine va_calli (va_runV (As := [.int v5, .int (1 : Int32)]) (rest := [.int (1 : Int32), .int v5, .ref (gr 0)]) ⟨hx, hb, hml, hown, htb⟩ (c_Model_inodeAt (l := l) (dC := dC) (dI := dI) hDa e20) (xcV 2 htb tw682 tw7 tw679 tw681 ts_Model_inodeAt rfl rfl hd_Model_inodeAt ⟨Nat.le_of_ble_eq_true rfl, Nat.le_of_ble_eq_true rfl⟩) (kW_V hP hK (va_recv (q0 := 0) (ci := 5) hK hP rfl rfl)) rfl rfl hl.1 rfl (lv_room (Nat.le_of_ble_eq_true rfl)) d_Model_unlink_143 ⟨Nat.le_of_ble_eq_true rfl, Nat.le_of_ble_eq_true rfl⟩) hS (fun q _ h => h) (fun q h => h) (fun r0 u t H locs ht hvm hw hB _ _ hS => ?_)
          subst r0
          have hP := kW_P hB ht
          refine lv_iconst (v := (1 : Int32)) hx hb d_Model_unlink_146 (by decide) ?_
          refine lv_isub hx hb d_Model_unlink_147 ?_
          obtain ⟨x21, e21, hJ⟩ := j_bind hJ
          refine va_callv (va_runV (As := [.int v5, .int (1 : Int32), .int (x20 - (1 : Int32))]) (rest := []) ⟨hx, hb, hml, hown, htb⟩ (c_Model_setInode (l := l) (dC := dC) (dI := dI) hDa e21) (xcV 3 htb tw743 tw7 tw740 tw742 ts_Model_setInode rfl rfl hd_Model_setInode ⟨Nat.le_of_ble_eq_true rfl, Nat.le_of_ble_eq_true rfl⟩) (kW_V hP hK (va_recv (q0 := 0) (ci := 5) hK hP rfl rfl)) rfl rfl hl.1 rfl (lv_room (Nat.le_of_ble_eq_true rfl)) d_Model_unlink_148 ⟨Nat.le_of_ble_eq_true rfl, Nat.le_of_ble_eq_true rfl⟩) hS (fun q _ h => h) (fun q h => h) (fun u t H locs ht hvm hw hB _ _ hS => ?_)
          have hP := kW_P hB ht
          refine lv_goto (tgt := 167) hx hb d_Model_unlink_151 (by decide) ?_
          refine lv_iconst (v := (1 : Int32)) hx hb d_Model_unlink_167 (by decide) ?_
          have hJ := Option.some.inj hJ
          exact W.zret (v := (1 : Int32)) (ty := .boolean) hx hb hr (by decide +kernel) (fun t ht hW => ⟨⟨_, (), rfl, (j_p1 hJ), kW_end hP hK ht hW (congrArg (fun z => wR gr cB cI z) (j_p2 hJ))⟩, hS.F ht⟩) hS.2.2 d_Model_unlink_168
      · have hJ := j_f hJ h15
        refine lv_aload_n hx hb d_Model_unlink_103 rfl (lv_at hl 0 rfl) ?_
        refine lv_iload hx hb d_Model_unlink_104 (lv_at hl 3 rfl) ?_
        refine lv_iload hx hb d_Model_unlink_106 (lv_at hl 1 rfl) ?_
        refine lv_bipush (v := (64 : Int32)) hx hb d_Model_unlink_108 (by decide) ?_
        refine lv_irem hx hb d_Model_unlink_110 (by decide) ?_
        refine lv_iload hx hb d_Model_unlink_111 (lv_at hl 4 rfl) ?_
        refine lv_iadd hx hb d_Model_unlink_113 ?_
        refine lv_iconst (v := (0 : Int32)) hx hb d_Model_unlink_114 (by decide) ?_
        obtain ⟨x22, e22, hJ⟩ := j_bind hJ
        refine va_callv (va_runV (As := [.int v6, .int ((v4 - v4 / (64 : Int32) * (64 : Int32)) + v7), .int (0 : Int32)]) (rest := []) ⟨hx, hb, hml, hown, htb⟩ (c_Model_set (l := l) (dC := dC) (dI := dI) hDa e22) (xcV 3 htb tw747 tw7 tw744 tw746 ts_Model_set rfl rfl hd_Model_set ⟨Nat.le_of_ble_eq_true rfl, Nat.le_of_ble_eq_true rfl⟩) (kW_V hP hK (va_recv (q0 := 0) (ci := 5) hK hP rfl rfl)) rfl rfl hl.1 rfl (lv_room (Nat.le_of_ble_eq_true rfl)) d_Model_unlink_115 ⟨Nat.le_of_ble_eq_true rfl, Nat.le_of_ble_eq_true rfl⟩) hS (fun q _ h => h) (fun q h => h) (fun u t H locs ht hvm hw hB _ _ hS => ?_)
        have hP := kW_P hB ht
        refine lv_iinc (k := 4) (v := (v7 + (1 : Int32))) hx hb d_Model_unlink_118 hl rfl rfl (Nat.le_of_ble_eq_true rfl) rfl (fun ls hl => ?_)
        have hl : lv_has ls 8 [(7, .int (v7 + (1 : Int32))), (0, .ref (gr 0)), (4, .int v4), (5, .int v5), (6, .int v6)] := hl
        refine lv_goto (tgt := 96) hx hb d_Model_unlink_121 (by decide) ?_
        exact hk _ _ _ _ _ _ _ _ hJ (lv_sub hl [1, 2, 3, 4, 0] rfl) hP hS
  have blk72 : ∀ (σ : RS) (v1 : Int32) (v4 : Int32) (v5 : Int32) (ls : Array Slot) (H : Heap) (locs : List Loc), J_Model_unlink_72 σ v1 v4 v5 = some res → lv_has ls 8 [(0, .ref (gr 0)), (1, .int v1), (4, .int v4), (5, .int v5)] → va_P (dC, dI) cls (wR gr cB cI σ) H → va_S A s.heap H locs → W p l e (headSpec (mw y_Model_unlink b_Model_unlink 8 (some .boolean)) rm_Model_unlink).room s m [.ref (gr 0), .int a1, .long a2].toArray below meth c H locs 0 0 (MQ below (va_Qi (fun (x : Int32) (_ : Unit) => x = res.1) (fun _ t => kW (dC, dI) (tC cB cI) (wR gr cB cI res.2) t) A) [.ref (gr 0), .int a1, .long a2].toArray s 0 0 A) (F0 m 72 ls []) := by
    intro σ v1 v4 v5 ls H locs hJ hl hP hS
    unfold J_Model_unlink_72 at hJ
    refine lv_aload_n hx hb d_Model_unlink_72 rfl (lv_at hl 0 rfl) ?_
    obtain ⟨x12, e12, hJ⟩ := j_bind hJ
    refine va_calli (va_runV (As := []) (rest := []) ⟨hx, hb, hml, hown, htb⟩ (c_Model_ready (l := l) (dC := dC) (dI := dI) hDa e12) (xcV 0 htb tw739 tw7 tw736 tw738 ts_Model_ready rfl rfl hd_Model_ready ⟨Nat.le_of_ble_eq_true rfl, Nat.le_of_ble_eq_true rfl⟩) (kW_V hP hK (va_recv (q0 := 0) (ci := 5) hK hP rfl rfl)) rfl rfl hl.1 rfl (lv_room (Nat.le_of_ble_eq_true rfl)) d_Model_unlink_73 ⟨Nat.le_of_ble_eq_true rfl, Nat.le_of_ble_eq_true rfl⟩) hS (fun q _ h => h) (fun q h => h) (fun r0 u t H locs ht hvm hw hB _ _ hS => ?_)
    subst r0
    have hP := kW_P hB ht
    refine lv_if_ne (tgt := 81) hx hb d_Model_unlink_76 (by decide) (fun h13 => ?_) (fun h13 => ?_)
    · have hJ := j_f hJ h13
      refine lv_aload_n hx hb d_Model_unlink_81 rfl (lv_at hl 0 rfl) ?_
      refine lv_iload_n hx hb d_Model_unlink_82 rfl (lv_at hl 1 rfl) ?_
      refine lv_iload hx hb d_Model_unlink_83 (lv_at hl 2 rfl) ?_
      refine lv_bipush (v := (64 : Int32)) hx hb d_Model_unlink_85 (by decide) ?_
      refine lv_idiv hx hb d_Model_unlink_87 (by decide) ?_
      obtain ⟨x14, e14, hJ⟩ := j_bind hJ
      refine va_calli (va_runV (As := [.int v1, .int (v4 / (64 : Int32))]) (rest := []) ⟨hx, hb, hml, hown, htb⟩ (c_Model_contentBlock (l := l) (dC := dC) (dI := dI) hDa e14) (xcV 2 htb tw712 tw7 tw709 tw711 ts_Model_contentBlock rfl rfl hd_Model_contentBlock ⟨Nat.le_of_ble_eq_true rfl, Nat.le_of_ble_eq_true rfl⟩) (kW_V hP hK (va_recv (q0 := 0) (ci := 5) hK hP rfl rfl)) rfl rfl hl.1 rfl (lv_room (Nat.le_of_ble_eq_true rfl)) d_Model_unlink_88 ⟨Nat.le_of_ble_eq_true rfl, Nat.le_of_ble_eq_true rfl⟩) hS (fun q _ h => h) (fun q h => h) (fun r0 u t H locs ht hvm hw hB _ _ hS => ?_)
      subst r0
      have hP := kW_P hB ht
      refine lv_istore hx hb d_Model_unlink_91 hl (Nat.le_of_ble_eq_true rfl) rfl (fun ls hl => ?_)
      have hl : lv_has ls 8 [(6, .int x14), (0, .ref (gr 0)), (1, .int v1), (4, .int v4), (5, .int v5)] := hl
      refine lv_iconst (v := (0 : Int32)) hx hb d_Model_unlink_93 (by decide) ?_
      refine lv_istore hx hb d_Model_unlink_94 hl (Nat.le_of_ble_eq_true rfl) rfl (fun ls hl => ?_)
      have hl : lv_has ls 8 [(7, .int (0 : Int32)), (6, .int x14), (0, .ref (gr 0)), (1, .int v1), (4, .int v4), (5, .int v5)] := hl
      exact blk96 9000 _ _ _ _ _ _ _ _ hJ (lv_sub hl [2, 4, 5, 1, 0] rfl) hP hS
    · have hJ := j_t hJ h13
      refine lv_iconst (v := (0 : Int32)) hx hb d_Model_unlink_79 (by decide) ?_
      have hJ := Option.some.inj hJ
      exact W.zret (v := (0 : Int32)) (ty := .boolean) hx hb hr (by decide +kernel) (fun t ht hW => ⟨⟨_, (), rfl, (j_p1 hJ), kW_end hP hK ht hW (congrArg (fun z => wR gr cB cI z) (j_p2 hJ))⟩, hS.F ht⟩) hS.2.2 d_Model_unlink_80
  unfold J_Model_unlink at hJ
  refine lv_aload_n hx hb d_Model_unlink_0 rfl (lv_at hl 0 rfl) ?_
  obtain ⟨x1, e1, hJ⟩ := j_bind hJ
  refine va_calli (va_runV (As := []) (rest := []) ⟨hx, hb, hml, hown, htb⟩ (c_Model_dead (l := l) (dC := dC) (dI := dI) hDa e1) (xcV 0 htb tw638 tw7 tw635 tw637 ts_Model_dead rfl rfl hd_Model_dead ⟨Nat.le_of_ble_eq_true rfl, Nat.le_of_ble_eq_true rfl⟩) (kW_V hP hK (va_recv (q0 := 0) (ci := 5) hK hP rfl rfl)) rfl rfl hl.1 rfl (lv_room (Nat.le_of_ble_eq_true rfl)) d_Model_unlink_1 ⟨Nat.le_of_ble_eq_true rfl, Nat.le_of_ble_eq_true rfl⟩) hS (fun q _ h => h) (fun q h => h) (fun r0 u t H locs ht hvm hw hB _ _ hS => ?_)
  subst r0
  have hP := kW_P hB ht
  refine lv_if_eq (tgt := 9) hx hb d_Model_unlink_4 (by decide) (fun h2 => ?_) (fun h2 => ?_)
  · have hJ := j_t hJ h2
    refine lv_aload_n hx hb d_Model_unlink_9 rfl (lv_at hl 0 rfl) ?_
    refine lv_lload_n hx hb d_Model_unlink_10 rfl (lv_at hl 2 rfl) ?_
    obtain ⟨x3, e3, hJ⟩ := j_bind hJ
    refine va_calli (va_runV (As := [.long a2]) (rest := []) ⟨hx, hb, hml, hown, htb⟩ (c_Model_isName (l := l) (dC := dC) (dI := dI) hDa e3) (xcV 1 htb tw670 tw7 tw667 tw669 ts_Model_isName rfl rfl hd_Model_isName ⟨Nat.le_of_ble_eq_true rfl, Nat.le_of_ble_eq_true rfl⟩) (kW_V hP hK (va_recv (q0 := 0) (ci := 5) hK hP rfl rfl)) rfl rfl hl.1 rfl (lv_room (Nat.le_of_ble_eq_true rfl)) d_Model_unlink_11 ⟨Nat.le_of_ble_eq_true rfl, Nat.le_of_ble_eq_true rfl⟩) hS (fun q _ h => h) (fun q h => h) (fun r0 u t H locs ht hvm hw hB _ _ hS => ?_)
    subst r0
    have hP := kW_P hB ht
    refine lv_if_eq (tgt := 26) hx hb d_Model_unlink_14 (by decide) (fun h4 => ?_) (fun h4 => ?_)
    · have hJ := j_t hJ h4
      refine lv_iconst (v := (0 : Int32)) hx hb d_Model_unlink_26 (by decide) ?_
      have hJ := Option.some.inj hJ
      exact W.zret (v := (0 : Int32)) (ty := .boolean) hx hb hr (by decide +kernel) (fun t ht hW => ⟨⟨_, (), rfl, (j_p1 hJ), kW_end hP hK ht hW (congrArg (fun z => wR gr cB cI z) (j_p2 hJ))⟩, hS.F ht⟩) hS.2.2 d_Model_unlink_27
    · have hJ := j_f hJ h4
      refine lv_aload_n hx hb d_Model_unlink_17 rfl (lv_at hl 0 rfl) ?_
      refine lv_iload_n hx hb d_Model_unlink_18 rfl (lv_at hl 1 rfl) ?_
      refine lv_iconst (v := (2 : Int32)) hx hb d_Model_unlink_19 (by decide) ?_
      obtain ⟨x5, e5, hJ⟩ := j_bind hJ
      refine va_calli (va_runV (As := [.int a1, .int (2 : Int32)]) (rest := []) ⟨hx, hb, hml, hown, htb⟩ (c_Model_is (l := l) (dC := dC) (dI := dI) hDa e5) (xcV 2 htb tw675 tw7 tw672 tw674 ts_Model_is rfl rfl hd_Model_is ⟨Nat.le_of_ble_eq_true rfl, Nat.le_of_ble_eq_true rfl⟩) (kW_V hP hK (va_recv (q0 := 0) (ci := 5) hK hP rfl rfl)) rfl rfl hl.1 rfl (lv_room (Nat.le_of_ble_eq_true rfl)) d_Model_unlink_20 ⟨Nat.le_of_ble_eq_true rfl, Nat.le_of_ble_eq_true rfl⟩) hS (fun q _ h => h) (fun q h => h) (fun r0 u t H locs ht hvm hw hB _ _ hS => ?_)
      subst r0
      have hP := kW_P hB ht
      refine lv_if_ne (tgt := 28) hx hb d_Model_unlink_23 (by decide) (fun h6 => ?_) (fun h6 => ?_)
      · have hJ := j_f hJ h6
        refine lv_aload_n hx hb d_Model_unlink_28 rfl (lv_at hl 0 rfl) ?_
        refine lv_iload_n hx hb d_Model_unlink_29 rfl (lv_at hl 1 rfl) ?_
        obtain ⟨x7, e7, hJ⟩ := j_bind hJ
        refine va_calli (va_runV (As := [.int a1]) (rest := []) ⟨hx, hb, hml, hown, htb⟩ (c_Model_findEntry (l := l) (dC := dC) (dI := dI) hDa e7) (xcV 1 htb tw716 tw7 tw713 tw715 ts_Model_findEntry rfl rfl hd_Model_findEntry ⟨Nat.le_of_ble_eq_true rfl, Nat.le_of_ble_eq_true rfl⟩) (kW_V hP hK (va_recv (q0 := 0) (ci := 5) hK hP rfl rfl)) rfl rfl hl.1 rfl (lv_room (Nat.le_of_ble_eq_true rfl)) d_Model_unlink_30 ⟨Nat.le_of_ble_eq_true rfl, Nat.le_of_ble_eq_true rfl⟩) hS (fun q _ h => h) (fun q h => h) (fun r0 u t H locs ht hvm hw hB _ _ hS => ?_)
        subst r0
        have hP := kW_P hB ht
        refine lv_istore hx hb d_Model_unlink_33 hl (Nat.le_of_ble_eq_true rfl) rfl (fun ls hl => ?_)
        have hl : lv_has ls 8 [(4, .int x7), (0, .ref (gr 0)), (1, .int a1), (2, .long a2)] := hl
        refine lv_iload hx hb d_Model_unlink_35 (lv_at hl 0 rfl) ?_
        refine lv_if_ge (tgt := 42) hx hb d_Model_unlink_37 (by decide) (fun h8 => ?_) (fun h8 => ?_)
        · have hJ := j_t hJ h8
          refine lv_aload_n hx hb d_Model_unlink_42 rfl (lv_at hl 1 rfl) ?_
          refine lv_iload_n hx hb d_Model_unlink_43 rfl (lv_at hl 2 rfl) ?_
          refine lv_iload hx hb d_Model_unlink_44 (lv_at hl 0 rfl) ?_
          obtain ⟨x9, e9, hJ⟩ := j_bind hJ
          refine va_calli (va_runV (As := [.int a1, .int x7]) (rest := []) ⟨hx, hb, hml, hown, htb⟩ (c_Model_contentAt (l := l) (dC := dC) (dI := dI) hDa e9) (xcV 2 htb tw708 tw7 tw705 tw707 ts_Model_contentAt rfl rfl hd_Model_contentAt ⟨Nat.le_of_ble_eq_true rfl, Nat.le_of_ble_eq_true rfl⟩) (kW_V hP hK (va_recv (q0 := 0) (ci := 5) hK hP rfl rfl)) rfl rfl hl.1 rfl (lv_room (Nat.le_of_ble_eq_true rfl)) d_Model_unlink_46 ⟨Nat.le_of_ble_eq_true rfl, Nat.le_of_ble_eq_true rfl⟩) hS (fun q _ h => h) (fun q h => h) (fun r0 u t H locs ht hvm hw hB _ _ hS => ?_)
          subst r0
          have hP := kW_P hB ht
          refine lv_iconst (v := (1 : Int32)) hx hb d_Model_unlink_49 (by decide) ?_
          refine lv_isub hx hb d_Model_unlink_50 ?_
          refine lv_istore hx hb d_Model_unlink_51 hl (Nat.le_of_ble_eq_true rfl) rfl (fun ls hl => ?_)
          have hl : lv_has ls 8 [(5, .int (x9 - (1 : Int32))), (4, .int x7), (0, .ref (gr 0)), (1, .int a1), (2, .long a2)] := hl
          refine lv_aload_n hx hb d_Model_unlink_53 rfl (lv_at hl 2 rfl) ?_
          refine lv_iload hx hb d_Model_unlink_54 (lv_at hl 0 rfl) ?_
          refine lv_iconst (v := (2 : Int32)) hx hb d_Model_unlink_56 (by decide) ?_
          obtain ⟨x10, e10, hJ⟩ := j_bind hJ
          refine va_calli (va_runV (As := [.int (x9 - (1 : Int32)), .int (2 : Int32)]) (rest := []) ⟨hx, hb, hml, hown, htb⟩ (c_Model_is (l := l) (dC := dC) (dI := dI) hDa e10) (xcV 2 htb tw675 tw7 tw672 tw674 ts_Model_is rfl rfl hd_Model_is ⟨Nat.le_of_ble_eq_true rfl, Nat.le_of_ble_eq_true rfl⟩) (kW_V hP hK (va_recv (q0 := 0) (ci := 5) hK hP rfl rfl)) rfl rfl hl.1 rfl (lv_room (Nat.le_of_ble_eq_true rfl)) d_Model_unlink_57 ⟨Nat.le_of_ble_eq_true rfl, Nat.le_of_ble_eq_true rfl⟩) hS (fun q _ h => h) (fun q h => h) (fun r0 u t H locs ht hvm hw hB _ _ hS => ?_)
          subst r0
          have hP := kW_P hB ht
          refine lv_if_eq (tgt := 72) hx hb d_Model_unlink_60 (by decide) (fun h11 => ?_) (fun h11 => ?_)
          · have hJ := j_t hJ h11
            exact blk72 _ _ _ _ _ _ _ hJ (lv_sub hl [2, 3, 1, 0] rfl) hP hS
          · have hJ := j_f hJ h11
            refine lv_aload_n hx hb d_Model_unlink_63 rfl (lv_at hl 2 rfl) ?_
            refine lv_iload hx hb d_Model_unlink_64 (lv_at hl 0 rfl) ?_
            obtain ⟨x23, e23, hJ⟩ := j_bind hJ
            refine va_calli (va_runV (As := [.int (x9 - (1 : Int32))]) (rest := []) ⟨hx, hb, hml, hown, htb⟩ (c_Model_entries (l := l) (dC := dC) (dI := dI) hDa e23) (xcV 1 htb tw779 tw7 tw776 tw778 ts_Model_entries rfl rfl hd_Model_entries ⟨Nat.le_of_ble_eq_true rfl, Nat.le_of_ble_eq_true rfl⟩) (kW_V hP hK (va_recv (q0 := 0) (ci := 5) hK hP rfl rfl)) rfl rfl hl.1 rfl (lv_room (Nat.le_of_ble_eq_true rfl)) d_Model_unlink_66 ⟨Nat.le_of_ble_eq_true rfl, Nat.le_of_ble_eq_true rfl⟩) hS (fun q _ h => h) (fun q h => h) (fun r0 u t H locs ht hvm hw hB _ _ hS => ?_)
            subst r0
            have hP := kW_P hB ht
            refine lv_if_gt (tgt := 79) hx hb d_Model_unlink_69 (by decide) (fun h24 => ?_) (fun h24 => ?_)
            · have hJ := j_t hJ h24
              refine lv_iconst (v := (0 : Int32)) hx hb d_Model_unlink_79 (by decide) ?_
              have hJ := Option.some.inj hJ
              exact W.zret (v := (0 : Int32)) (ty := .boolean) hx hb hr (by decide +kernel) (fun t ht hW => ⟨⟨_, (), rfl, (j_p1 hJ), kW_end hP hK ht hW (congrArg (fun z => wR gr cB cI z) (j_p2 hJ))⟩, hS.F ht⟩) hS.2.2 d_Model_unlink_80
            · have hJ := j_f hJ h24
              exact blk72 _ _ _ _ _ _ _ hJ (lv_sub hl [2, 3, 1, 0] rfl) hP hS
        · have hJ := j_f hJ h8
          refine lv_iconst (v := (0 : Int32)) hx hb d_Model_unlink_40 (by decide) ?_
          have hJ := Option.some.inj hJ
          exact W.zret (v := (0 : Int32)) (ty := .boolean) hx hb hr (by decide +kernel) (fun t ht hW => ⟨⟨_, (), rfl, (j_p1 hJ), kW_end hP hK ht hW (congrArg (fun z => wR gr cB cI z) (j_p2 hJ))⟩, hS.F ht⟩) hS.2.2 d_Model_unlink_41
      · have hJ := j_t hJ h6
        refine lv_iconst (v := (0 : Int32)) hx hb d_Model_unlink_26 (by decide) ?_
        have hJ := Option.some.inj hJ
        exact W.zret (v := (0 : Int32)) (ty := .boolean) hx hb hr (by decide +kernel) (fun t ht hW => ⟨⟨_, (), rfl, (j_p1 hJ), kW_end hP hK ht hW (congrArg (fun z => wR gr cB cI z) (j_p2 hJ))⟩, hS.F ht⟩) hS.2.2 d_Model_unlink_27
  · have hJ := j_f hJ h2
    refine lv_iconst (v := (0 : Int32)) hx hb d_Model_unlink_7 (by decide) ?_
    have hJ := Option.some.inj hJ
    exact W.zret (v := (0 : Int32)) (ty := .boolean) hx hb hr (by decide +kernel) (fun t ht hW => ⟨⟨_, (), rfl, (j_p1 hJ), kW_end hP hK ht hW (congrArg (fun z => wR gr cB cI z) (j_p2 hJ))⟩, hS.F ht⟩) hS.2.2 d_Model_unlink_8
def J_Model_mayWrite (σ : RS) (a1 : Int32) (a2 : Int32) (a3 : Int32) : Option (Int32) :=
  (J_Model_is σ a1 (1 : Int32)).bind fun x1 => (if x1 = (0 : Int32) then some (0 : Int32) else (if a2 < (0 : Int32) then some (0 : Int32) else (J_Model_sizeOf σ a1).bind fun x4 => (if x4 < a2 then some (0 : Int32) else (if (1000 : Int32) < (a2 + a3) then some (0 : Int32) else (J_Model_needs σ a1 (a2 + a3)).bind fun x7 => (J_Model_freeBlocks σ).bind fun x8 => (if x8 < x7 then some (0 : Int32) else some (1 : Int32))))))
abbrev rm_Model_mayWrite : Room := { frames := 4, cells := 0, slots := 0, locals := 89 }
set_option maxHeartbeats 4000000 in
set_option maxRecDepth 100000 in
theorem c_Model_mayWrite {l : Launch} {dC : Nat → ClassId} {dI : Nat → Nat → Nat} {gr : Nat → Nat} {cB cI : ClassId} {A : Nat → Prop} (hDa : ∀ σ, va_D A (wR gr cB cI σ)) {σ : RS} {a1 : Int32} {a2 : Int32} {a3 : Int32} {res : Int32} (hJ : J_Model_mayWrite σ a1 a2 a3 = some res) :
    Met l y_Model_mayWrite (mw y_Model_mayWrite b_Model_mayWrite 4 (some .boolean)) rm_Model_mayWrite (va_Pc [.ref (gr 0), .int a1, .int a2, .int a3] (kW (dC, dI) (tC cB cI) (wR gr cB cI σ))) (va_Qi (fun (x : Int32) (_ : Unit) => x = res) (fun _ t => kW (dC, dI) (tC cB cI) (wR gr cB cI σ) t) A) 0 0 A := by
  refine Met.ofW (cc := b_Model_mayWrite) (maxL := 4) (ret := (some .boolean)) (by decide) rfl ?_
  intro p e s m args below meth c s₁ B hml hv
  obtain ⟨rfl, hP, hK⟩ := hv
  have hx := B.exec
  have hb := B.bytes
  have hr := B.returns
  have hts := atoms_spec (ws := (mw y_Model_mayWrite b_Model_mayWrite 4 (some .boolean))) B.pre
  have htb : ∀ w ∈ tb, w.before [.ref (gr 0), .int a1, .int a2, .int a3].toArray s = true := fun w h => hts w (mwIn h)
  have hown : s.vm.findClass "LogFsModel" = some m.cls := findClass_of_methodNamed B.named
  have hlocks := B.notSynchronized
  have hS : va_S A s.heap s.heap [] := va_S.rf
  have hl := lv_entry ([.ref (gr 0), .int a1, .int a2, .int a3]) (n := 4) (Nat.le_of_ble_eq_true rfl)
  rw [lg_entry_eq]
  generalize (lg_sl ([.ref (gr 0), .int a1, .int a2, .int a3]) ++ List.replicate (4 - (lg_sl ([.ref (gr 0), .int a1, .int a2, .int a3])).length) Slot.unset).toArray = ls at hl ⊢
  have hl : lv_has ls 4 [(0, .ref (gr 0)), (1, .int a1), (2, .int a2), (3, .int a3)] := hl
  unfold J_Model_mayWrite at hJ
  refine lv_aload_n hx hb d_Model_mayWrite_0 rfl (lv_at hl 0 rfl) ?_
  refine lv_iload_n hx hb d_Model_mayWrite_1 rfl (lv_at hl 1 rfl) ?_
  refine lv_iconst (v := (1 : Int32)) hx hb d_Model_mayWrite_2 (by decide) ?_
  obtain ⟨x1, e1, hJ⟩ := j_bind hJ
  refine va_calli (va_runV (As := [.int a1, .int (1 : Int32)]) (rest := []) ⟨hx, hb, hml, hown, htb⟩ (c_Model_is (l := l) (dC := dC) (dI := dI) hDa e1) (xcV 2 htb tw675 tw7 tw672 tw674 ts_Model_is rfl rfl hd_Model_is ⟨Nat.le_of_ble_eq_true rfl, Nat.le_of_ble_eq_true rfl⟩) (kW_V hP hK (va_recv (q0 := 0) (ci := 5) hK hP rfl rfl)) rfl rfl hl.1 rfl (lv_room (Nat.le_of_ble_eq_true rfl)) d_Model_mayWrite_3 ⟨Nat.le_of_ble_eq_true rfl, Nat.le_of_ble_eq_true rfl⟩) hS (fun q _ h => h) (fun q h => h) (fun r0 u t H locs ht hvm hw hB _ _ hS => ?_)
  subst r0
  have hP := kW_P hB ht
  refine lv_if_eq (tgt := 50) hx hb d_Model_mayWrite_6 (by decide) (fun h2 => ?_) (fun h2 => ?_)
  · have hJ := j_t hJ h2
    refine lv_iconst (v := (0 : Int32)) hx hb d_Model_mayWrite_50 (by decide) ?_
    have hJ := Option.some.inj hJ
    exact W.zret (v := (0 : Int32)) (ty := .boolean) hx hb hr (by decide +kernel) (fun t ht hW => ⟨⟨_, (), rfl, hJ, kW_end hP hK ht hW rfl⟩, hS.F ht⟩) hS.2.2 d_Model_mayWrite_51
  · have hJ := j_f hJ h2
    refine lv_iload_n hx hb d_Model_mayWrite_9 rfl (lv_at hl 2 rfl) ?_
    refine lv_if_lt (tgt := 50) hx hb d_Model_mayWrite_10 (by decide) (fun h3 => ?_) (fun h3 => ?_)
    · have hJ := j_t hJ h3
      refine lv_iconst (v := (0 : Int32)) hx hb d_Model_mayWrite_50 (by decide) ?_
      have hJ := Option.some.inj hJ
      exact W.zret (v := (0 : Int32)) (ty := .boolean) hx hb hr (by decide +kernel) (fun t ht hW => ⟨⟨_, (), rfl, hJ, kW_end hP hK ht hW rfl⟩, hS.F ht⟩) hS.2.2 d_Model_mayWrite_51
    · have hJ := j_f hJ h3
      refine lv_iload_n hx hb d_Model_mayWrite_13 rfl (lv_at hl 2 rfl) ?_
      refine lv_aload_n hx hb d_Model_mayWrite_14 rfl (lv_at hl 0 rfl) ?_
      refine lv_iload_n hx hb d_Model_mayWrite_15 rfl (lv_at hl 1 rfl) ?_
      obtain ⟨x4, e4, hJ⟩ := j_bind hJ
      refine va_calli (va_runV (As := [.int a1]) (rest := [.int a2]) ⟨hx, hb, hml, hown, htb⟩ (c_Model_sizeOf (l := l) (dC := dC) (dI := dI) hDa e4) (xcV 1 htb tw704 tw7 tw701 tw703 ts_Model_sizeOf rfl rfl hd_Model_sizeOf ⟨Nat.le_of_ble_eq_true rfl, Nat.le_of_ble_eq_true rfl⟩) (kW_V hP hK (va_recv (q0 := 0) (ci := 5) hK hP rfl rfl)) rfl rfl hl.1 rfl (lv_room (Nat.le_of_ble_eq_true rfl)) d_Model_mayWrite_16 ⟨Nat.le_of_ble_eq_true rfl, Nat.le_of_ble_eq_true rfl⟩) hS (fun q _ h => h) (fun q h => h) (fun r0 u t H locs ht hvm hw hB _ _ hS => ?_)
      subst r0
      have hP := kW_P hB ht
      refine lv_icmp_gt (tgt := 50) hx hb d_Model_mayWrite_19 (by decide) (fun h5 => ?_) (fun h5 => ?_)
      · have hJ := j_t hJ h5
        refine lv_iconst (v := (0 : Int32)) hx hb d_Model_mayWrite_50 (by decide) ?_
        have hJ := Option.some.inj hJ
        exact W.zret (v := (0 : Int32)) (ty := .boolean) hx hb hr (by decide +kernel) (fun t ht hW => ⟨⟨_, (), rfl, hJ, kW_end hP hK ht hW rfl⟩, hS.F ht⟩) hS.2.2 d_Model_mayWrite_51
      · have hJ := j_f hJ h5
        refine lv_iload_n hx hb d_Model_mayWrite_22 rfl (lv_at hl 2 rfl) ?_
        refine lv_iload_n hx hb d_Model_mayWrite_23 rfl (lv_at hl 3 rfl) ?_
        refine lv_iadd hx hb d_Model_mayWrite_24 ?_
        refine lv_sipush (v := (1000 : Int32)) hx hb d_Model_mayWrite_25 (by decide) ?_
        refine lv_icmp_gt (tgt := 50) hx hb d_Model_mayWrite_28 (by decide) (fun h6 => ?_) (fun h6 => ?_)
        · have hJ := j_t hJ h6
          refine lv_iconst (v := (0 : Int32)) hx hb d_Model_mayWrite_50 (by decide) ?_
          have hJ := Option.some.inj hJ
          exact W.zret (v := (0 : Int32)) (ty := .boolean) hx hb hr (by decide +kernel) (fun t ht hW => ⟨⟨_, (), rfl, hJ, kW_end hP hK ht hW rfl⟩, hS.F ht⟩) hS.2.2 d_Model_mayWrite_51
        · have hJ := j_f hJ h6
          refine lv_aload_n hx hb d_Model_mayWrite_31 rfl (lv_at hl 0 rfl) ?_
          refine lv_iload_n hx hb d_Model_mayWrite_32 rfl (lv_at hl 1 rfl) ?_
          refine lv_iload_n hx hb d_Model_mayWrite_33 rfl (lv_at hl 2 rfl) ?_
          refine lv_iload_n hx hb d_Model_mayWrite_34 rfl (lv_at hl 3 rfl) ?_
          refine lv_iadd hx hb d_Model_mayWrite_35 ?_
          obtain ⟨x7, e7, hJ⟩ := j_bind hJ
          refine va_calli (va_runV (As := [.int a1, .int (a2 + a3)]) (rest := []) ⟨hx, hb, hml, hown, htb⟩ (c_Model_needs (l := l) (dC := dC) (dI := dI) hDa e7) (xcV 2 htb tw720 tw7 tw717 tw719 ts_Model_needs rfl rfl hd_Model_needs ⟨Nat.le_of_ble_eq_true rfl, Nat.le_of_ble_eq_true rfl⟩) (kW_V hP hK (va_recv (q0 := 0) (ci := 5) hK hP rfl rfl)) rfl rfl hl.1 rfl (lv_room (Nat.le_of_ble_eq_true rfl)) d_Model_mayWrite_36 ⟨Nat.le_of_ble_eq_true rfl, Nat.le_of_ble_eq_true rfl⟩) hS (fun q _ h => h) (fun q h => h) (fun r0 u t H locs ht hvm hw hB _ _ hS => ?_)
          subst r0
          have hP := kW_P hB ht
          refine lv_aload_n hx hb d_Model_mayWrite_39 rfl (lv_at hl 0 rfl) ?_
          obtain ⟨x8, e8, hJ⟩ := j_bind hJ
          refine va_calli (va_runV (As := []) (rest := [.int x7]) ⟨hx, hb, hml, hown, htb⟩ (c_Model_freeBlocks (l := l) (dC := dC) (dI := dI) hDa e8) (xcV 0 htb tw727 tw7 tw724 tw726 ts_Model_freeBlocks rfl rfl hd_Model_freeBlocks ⟨Nat.le_of_ble_eq_true rfl, Nat.le_of_ble_eq_true rfl⟩) (kW_V hP hK (va_recv (q0 := 0) (ci := 5) hK hP rfl rfl)) rfl rfl hl.1 rfl (lv_room (Nat.le_of_ble_eq_true rfl)) d_Model_mayWrite_40 ⟨Nat.le_of_ble_eq_true rfl, Nat.le_of_ble_eq_true rfl⟩) hS (fun q _ h => h) (fun q h => h) (fun r0 u t H locs ht hvm hw hB _ _ hS => ?_)
          subst r0
          have hP := kW_P hB ht
          refine lv_icmp_gt (tgt := 50) hx hb d_Model_mayWrite_43 (by decide) (fun h9 => ?_) (fun h9 => ?_)
          · have hJ := j_t hJ h9
            refine lv_iconst (v := (0 : Int32)) hx hb d_Model_mayWrite_50 (by decide) ?_
            have hJ := Option.some.inj hJ
            exact W.zret (v := (0 : Int32)) (ty := .boolean) hx hb hr (by decide +kernel) (fun t ht hW => ⟨⟨_, (), rfl, hJ, kW_end hP hK ht hW rfl⟩, hS.F ht⟩) hS.2.2 d_Model_mayWrite_51
          · have hJ := j_f hJ h9
            refine lv_iconst (v := (1 : Int32)) hx hb d_Model_mayWrite_46 (by decide) ?_
            refine lv_goto (tgt := 51) hx hb d_Model_mayWrite_47 (by decide) ?_
            have hJ := Option.some.inj hJ
            exact W.zret (v := (1 : Int32)) (ty := .boolean) hx hb hr (by decide +kernel) (fun t ht hW => ⟨⟨_, (), rfl, hJ, kW_end hP hK ht hW rfl⟩, hS.F ht⟩) hS.2.2 d_Model_mayWrite_51
def J_Model_writes_108 (σ : RS) (v1 : Int32) : Option (Int32 × RS) :=
  (J_Model_sizeOf σ v1).bind fun x6 => some (x6, σ)
def J_Model_writes_55 (k : RS → Int32 → Int32 → Int32 → Int32 → Int32 → Option (Int32 × RS)) (σ : RS) (v1 : Int32) (v2 : Int32) (v3 : Int32) (v4 : Int32) (v5 : Int32) : Option (Int32 × RS) :=
  (J_Model_contentBlock σ v1 (v5 / (64 : Int32))).bind fun x9 => (if jin (v5 - v2) 64 = true then (J_Model_set σ x9 (v5 - v5 / (64 : Int32) * (64 : Int32)) ((r_G σ) (v5 - v2).toNatClampNeg).toInt32).bind fun x11 => k x11 v1 v2 v3 v4 (v5 + (1 : Int32)) else none)
def J_Model_writes_45 (k : RS → Int32 → Int32 → Int32 → Int32 → Int32 → Option (Int32 × RS)) (σ : RS) (v1 : Int32) (v2 : Int32) (v3 : Int32) (v4 : Int32) (v5 : Int32) : Option (Int32 × RS) :=
  (J_Model_blockFor σ v1 (v5 / (64 : Int32))).bind fun x13 => J_Model_writes_55 k x13 v1 v2 v3 v4 v5
def J_Model_writes_13_b (k : RS → Int32 → Int32 → Int32 → Int32 → Int32 → Option (Int32 × RS)) (σ : RS) (v1 : Int32) (v2 : Int32) (v3 : Int32) (v4 : Int32) (v5 : Int32) : Option (Int32 × RS) :=
  (if (v2 + v3) ≤ v5 then (J_Model_sizeOf σ v1).bind fun x4 => (if (v2 + v3) ≤ x4 then J_Model_writes_108 σ v1 else (J_Model_setSize σ v1 (v2 + v3)).bind fun x7 => J_Model_writes_108 x7 v1) else (if (v5 / (64 : Int32)) < v4 then J_Model_writes_55 k σ v1 v2 v3 v4 v5 else (if v5 = v2 then J_Model_writes_45 k σ v1 v2 v3 v4 v5 else (if (v5 - v5 / (64 : Int32) * (64 : Int32)) = (0 : Int32) then J_Model_writes_45 k σ v1 v2 v3 v4 v5 else J_Model_writes_55 k σ v1 v2 v3 v4 v5))))
def J_Model_writes_13 : Nat → RS → Int32 → Int32 → Int32 → Int32 → Int32 → Option (Int32 × RS)
  | 0, _, _, _, _, _, _ => none
  | n + 1, σ, v1, v2, v3, v4, v5 => J_Model_writes_13_b (J_Model_writes_13 n) σ v1 v2 v3 v4 v5
def J_Model_writes (σ : RS) (a1 : Int32) (a2 : Int32) (a3 : Int32) : Option (Int32 × RS) :=
  (J_Model_sizeOf σ a1).bind fun x1 => (J_Model_blocksFor x1).bind fun x2 => J_Model_writes_13 9000 σ a1 a2 a3 x2 a2
abbrev rm_Model_writes : Room := { frames := 4, cells := 0, slots := 0, locals := 92 }
set_option maxHeartbeats 4000000 in
set_option maxRecDepth 100000 in
theorem c_Model_writes {l : Launch} {dC : Nat → ClassId} {dI : Nat → Nat → Nat} {gr : Nat → Nat} {cB cI : ClassId} {A : Nat → Prop} (hDa : ∀ σ, va_D A (wR gr cB cI σ)) {σ : RS} {a1 : Int32} {a2 : Int32} {a3 : Int32} {res : Int32 × RS} (hJ : J_Model_writes σ a1 a2 a3 = some res) :
    Met l y_Model_writes (mw y_Model_writes b_Model_writes 6 (some .int)) rm_Model_writes (va_Pc [.ref (gr 0), .int a1, .int a2, .int a3] (kW (dC, dI) (tC cB cI) (wR gr cB cI σ))) (va_Qi (fun (x : Int32) (_ : Unit) => x = res.1) (fun _ t => kW (dC, dI) (tC cB cI) (wR gr cB cI res.2) t) A) 0 0 A := by
  refine Met.ofW (cc := b_Model_writes) (maxL := 6) (ret := (some .int)) (by decide) rfl ?_
  intro p e s m args below meth c s₁ B hml hv
  obtain ⟨rfl, hP, hK⟩ := hv
  have hx := B.exec
  have hb := B.bytes
  have hr := B.returns
  have hts := atoms_spec (ws := (mw y_Model_writes b_Model_writes 6 (some .int))) B.pre
  have htb : ∀ w ∈ tb, w.before [.ref (gr 0), .int a1, .int a2, .int a3].toArray s = true := fun w h => hts w (mwIn h)
  have hown : s.vm.findClass "LogFsModel" = some m.cls := findClass_of_methodNamed B.named
  have hlocks := B.notSynchronized
  have hS : va_S A s.heap s.heap [] := va_S.rf
  have hl := lv_entry ([.ref (gr 0), .int a1, .int a2, .int a3]) (n := 6) (Nat.le_of_ble_eq_true rfl)
  rw [lg_entry_eq]
  generalize (lg_sl ([.ref (gr 0), .int a1, .int a2, .int a3]) ++ List.replicate (6 - (lg_sl ([.ref (gr 0), .int a1, .int a2, .int a3])).length) Slot.unset).toArray = ls at hl ⊢
  have hl : lv_has ls 6 [(0, .ref (gr 0)), (1, .int a1), (2, .int a2), (3, .int a3)] := hl
  have blk108 : ∀ (σ : RS) (v1 : Int32) (ls : Array Slot) (H : Heap) (locs : List Loc), J_Model_writes_108 σ v1 = some res → lv_has ls 6 [(0, .ref (gr 0)), (1, .int v1)] → va_P (dC, dI) cls (wR gr cB cI σ) H → va_S A s.heap H locs → W p l e (headSpec (mw y_Model_writes b_Model_writes 6 (some .int)) rm_Model_writes).room s m [.ref (gr 0), .int a1, .int a2, .int a3].toArray below meth c H locs 0 0 (MQ below (va_Qi (fun (x : Int32) (_ : Unit) => x = res.1) (fun _ t => kW (dC, dI) (tC cB cI) (wR gr cB cI res.2) t) A) [.ref (gr 0), .int a1, .int a2, .int a3].toArray s 0 0 A) (F0 m 108 ls []) := by
    intro σ v1 ls H locs hJ hl hP hS
    unfold J_Model_writes_108 at hJ
    refine lv_aload_n hx hb d_Model_writes_108 rfl (lv_at hl 0 rfl) ?_
    refine lv_iload_n hx hb d_Model_writes_109 rfl (lv_at hl 1 rfl) ?_
    obtain ⟨x6, e6, hJ⟩ := j_bind hJ
    refine va_calli (va_runV (As := [.int v1]) (rest := []) ⟨hx, hb, hml, hown, htb⟩ (c_Model_sizeOf (l := l) (dC := dC) (dI := dI) hDa e6) (xcV 1 htb tw704 tw7 tw701 tw703 ts_Model_sizeOf rfl rfl hd_Model_sizeOf ⟨Nat.le_of_ble_eq_true rfl, Nat.le_of_ble_eq_true rfl⟩) (kW_V hP hK (va_recv (q0 := 0) (ci := 5) hK hP rfl rfl)) rfl rfl hl.1 rfl (lv_room (Nat.le_of_ble_eq_true rfl)) d_Model_writes_110 ⟨Nat.le_of_ble_eq_true rfl, Nat.le_of_ble_eq_true rfl⟩) hS (fun q _ h => h) (fun q h => h) (fun r0 u t H locs ht hvm hw hB _ _ hS => ?_)
    subst r0
    have hP := kW_P hB ht
    have hJ := Option.some.inj hJ
    exact W.iret (v := x6) hx hb hr (fun t ht hW => ⟨⟨_, (), rfl, (j_p1 hJ), kW_end hP hK ht hW (congrArg (fun z => wR gr cB cI z) (j_p2 hJ))⟩, hS.F ht⟩) hS.2.2 d_Model_writes_113
  have blk55 : ∀ (k : RS → Int32 → Int32 → Int32 → Int32 → Int32 → Option (Int32 × RS)) (hk : ∀ (σ : RS) (v1 : Int32) (v2 : Int32) (v3 : Int32) (v4 : Int32) (v5 : Int32) (ls : Array Slot) (H : Heap) (locs : List Loc), k σ v1 v2 v3 v4 v5 = some res → lv_has ls 6 [(0, .ref (gr 0)), (1, .int v1), (2, .int v2), (3, .int v3), (4, .int v4), (5, .int v5)] → va_P (dC, dI) cls (wR gr cB cI σ) H → va_S A s.heap H locs → W p l e (headSpec (mw y_Model_writes b_Model_writes 6 (some .int)) rm_Model_writes).room s m [.ref (gr 0), .int a1, .int a2, .int a3].toArray below meth c H locs 0 0 (MQ below (va_Qi (fun (x : Int32) (_ : Unit) => x = res.1) (fun _ t => kW (dC, dI) (tC cB cI) (wR gr cB cI res.2) t) A) [.ref (gr 0), .int a1, .int a2, .int a3].toArray s 0 0 A) (F0 m 13 ls [])) (σ : RS) (v1 : Int32) (v2 : Int32) (v3 : Int32) (v4 : Int32) (v5 : Int32) (ls : Array Slot) (H : Heap) (locs : List Loc), J_Model_writes_55 k σ v1 v2 v3 v4 v5 = some res → lv_has ls 6 [(0, .ref (gr 0)), (1, .int v1), (2, .int v2), (3, .int v3), (4, .int v4), (5, .int v5)] → va_P (dC, dI) cls (wR gr cB cI σ) H → va_S A s.heap H locs → W p l e (headSpec (mw y_Model_writes b_Model_writes 6 (some .int)) rm_Model_writes).room s m [.ref (gr 0), .int a1, .int a2, .int a3].toArray below meth c H locs 0 0 (MQ below (va_Qi (fun (x : Int32) (_ : Unit) => x = res.1) (fun _ t => kW (dC, dI) (tC cB cI) (wR gr cB cI res.2) t) A) [.ref (gr 0), .int a1, .int a2, .int a3].toArray s 0 0 A) (F0 m 55 ls []) := by
    intro k hk σ v1 v2 v3 v4 v5 ls H locs hJ hl hP hS
    unfold J_Model_writes_55 at hJ
    refine lv_aload_n hx hb d_Model_writes_55 rfl (lv_at hl 0 rfl) ?_
    refine lv_aload_n hx hb d_Model_writes_56 rfl (lv_at hl 0 rfl) ?_
    refine lv_iload_n hx hb d_Model_writes_57 rfl (lv_at hl 1 rfl) ?_
    refine lv_iload hx hb d_Model_writes_58 (lv_at hl 5 rfl) ?_
    refine lv_bipush (v := (64 : Int32)) hx hb d_Model_writes_60 (by decide) ?_
    refine lv_idiv hx hb d_Model_writes_62 (by decide) ?_
    obtain ⟨x9, e9, hJ⟩ := j_bind hJ
    refine va_calli (va_runV (As := [.int v1, .int (v5 / (64 : Int32))]) (rest := [.ref (gr 0)]) ⟨hx, hb, hml, hown, htb⟩ (c_Model_contentBlock (l := l) (dC := dC) (dI := dI) hDa e9) (xcV 2 htb tw712 tw7 tw709 tw711 ts_Model_contentBlock rfl rfl hd_Model_contentBlock ⟨Nat.le_of_ble_eq_true rfl, Nat.le_of_ble_eq_true rfl⟩) (kW_V hP hK (va_recv (q0 := 0) (ci := 5) hK hP rfl rfl)) rfl rfl hl.1 rfl (lv_room (Nat.le_of_ble_eq_true rfl)) d_Model_writes_63 ⟨Nat.le_of_ble_eq_true rfl, Nat.le_of_ble_eq_true rfl⟩) hS (fun q _ h => h) (fun q h => h) (fun r0 u t H locs ht hvm hw hB _ _ hS => ?_)
    subst r0
    have hP := kW_P hB ht
    refine lv_iload hx hb d_Model_writes_66 (lv_at hl 5 rfl) ?_
    refine lv_bipush (v := (64 : Int32)) hx hb d_Model_writes_68 (by decide) ?_
    refine lv_irem hx hb d_Model_writes_70 (by decide) ?_
    refine lv_aload_n hx hb d_Model_writes_71 rfl (lv_at hl 0 rfl) ?_
    refine va_get (D := (dC, dI)) (ci := 5) (v := .ref (gr 5)) (C := R_Model) (T := T_Model) (N := 12) hx hb htb uin_Model hown hK hP 0 rfl rfl 11 (by decide) (htb _ tw601) (fun _ h9 => h9) rfl d_Model_writes_72 ?_
    refine lv_iload hx hb d_Model_writes_75 (lv_at hl 5 rfl) ?_
    refine lv_iload_n hx hb d_Model_writes_77 rfl (lv_at hl 2 rfl) ?_
    refine lv_isub hx hb d_Model_writes_78 ?_
    obtain ⟨h10, hJ⟩ := j_g hJ
    refine va_bald hx hb hK hP 5 0 rfl rfl (j_in h10) d_Model_writes_79 ?_
    obtain ⟨x11, e11, hJ⟩ := j_bind hJ
    refine va_callv (va_runV (As := [.int x9, .int (v5 - v5 / (64 : Int32) * (64 : Int32)), .int ((r_G σ) (v5 - v2).toNatClampNeg).toInt32]) (rest := []) ⟨hx, hb, hml, hown, htb⟩ (c_Model_set (l := l) (dC := dC) (dI := dI) hDa e11) (xcV 3 htb tw747 tw7 tw744 tw746 ts_Model_set rfl rfl hd_Model_set ⟨Nat.le_of_ble_eq_true rfl, Nat.le_of_ble_eq_true rfl⟩) (kW_V hP hK (va_recv (q0 := 0) (ci := 5) hK hP rfl rfl)) rfl rfl hl.1 rfl (lv_room (Nat.le_of_ble_eq_true rfl)) d_Model_writes_80 ⟨Nat.le_of_ble_eq_true rfl, Nat.le_of_ble_eq_true rfl⟩) hS (fun q _ h => h) (fun q h => h) (fun u t H locs ht hvm hw hB _ _ hS => ?_)
    have hP := kW_P hB ht
    refine lv_iinc (k := 5) (v := (v5 + (1 : Int32))) hx hb d_Model_writes_83 hl rfl rfl (Nat.le_of_ble_eq_true rfl) rfl (fun ls hl => ?_)
    have hl : lv_has ls 6 [(5, .int (v5 + (1 : Int32))), (0, .ref (gr 0)), (1, .int v1), (2, .int v2), (3, .int v3), (4, .int v4)] := hl
    refine lv_goto (tgt := 13) hx hb d_Model_writes_86 (by decide) ?_
    exact hk _ _ _ _ _ _ _ _ _ hJ (lv_sub hl [1, 2, 3, 4, 5, 0] rfl) hP hS
  have blk45 : ∀ (k : RS → Int32 → Int32 → Int32 → Int32 → Int32 → Option (Int32 × RS)) (hk : ∀ (σ : RS) (v1 : Int32) (v2 : Int32) (v3 : Int32) (v4 : Int32) (v5 : Int32) (ls : Array Slot) (H : Heap) (locs : List Loc), k σ v1 v2 v3 v4 v5 = some res → lv_has ls 6 [(0, .ref (gr 0)), (1, .int v1), (2, .int v2), (3, .int v3), (4, .int v4), (5, .int v5)] → va_P (dC, dI) cls (wR gr cB cI σ) H → va_S A s.heap H locs → W p l e (headSpec (mw y_Model_writes b_Model_writes 6 (some .int)) rm_Model_writes).room s m [.ref (gr 0), .int a1, .int a2, .int a3].toArray below meth c H locs 0 0 (MQ below (va_Qi (fun (x : Int32) (_ : Unit) => x = res.1) (fun _ t => kW (dC, dI) (tC cB cI) (wR gr cB cI res.2) t) A) [.ref (gr 0), .int a1, .int a2, .int a3].toArray s 0 0 A) (F0 m 13 ls [])) (σ : RS) (v1 : Int32) (v2 : Int32) (v3 : Int32) (v4 : Int32) (v5 : Int32) (ls : Array Slot) (H : Heap) (locs : List Loc), J_Model_writes_45 k σ v1 v2 v3 v4 v5 = some res → lv_has ls 6 [(0, .ref (gr 0)), (1, .int v1), (2, .int v2), (3, .int v3), (4, .int v4), (5, .int v5)] → va_P (dC, dI) cls (wR gr cB cI σ) H → va_S A s.heap H locs → W p l e (headSpec (mw y_Model_writes b_Model_writes 6 (some .int)) rm_Model_writes).room s m [.ref (gr 0), .int a1, .int a2, .int a3].toArray below meth c H locs 0 0 (MQ below (va_Qi (fun (x : Int32) (_ : Unit) => x = res.1) (fun _ t => kW (dC, dI) (tC cB cI) (wR gr cB cI res.2) t) A) [.ref (gr 0), .int a1, .int a2, .int a3].toArray s 0 0 A) (F0 m 45 ls []) := by
    intro k hk σ v1 v2 v3 v4 v5 ls H locs hJ hl hP hS
    unfold J_Model_writes_45 at hJ
    refine lv_aload_n hx hb d_Model_writes_45 rfl (lv_at hl 0 rfl) ?_
    refine lv_iload_n hx hb d_Model_writes_46 rfl (lv_at hl 1 rfl) ?_
    refine lv_iload hx hb d_Model_writes_47 (lv_at hl 5 rfl) ?_
    refine lv_bipush (v := (64 : Int32)) hx hb d_Model_writes_49 (by decide) ?_
    refine lv_idiv hx hb d_Model_writes_51 (by decide) ?_
    obtain ⟨x13, e13, hJ⟩ := j_bind hJ
    refine va_callv (va_runV (As := [.int v1, .int (v5 / (64 : Int32))]) (rest := []) ⟨hx, hb, hml, hown, htb⟩ (c_Model_blockFor (l := l) (dC := dC) (dI := dI) hDa e13) (xcV 2 htb tw759 tw7 tw756 tw758 ts_Model_blockFor rfl rfl hd_Model_blockFor ⟨Nat.le_of_ble_eq_true rfl, Nat.le_of_ble_eq_true rfl⟩) (kW_V hP hK (va_recv (q0 := 0) (ci := 5) hK hP rfl rfl)) rfl rfl hl.1 rfl (lv_room (Nat.le_of_ble_eq_true rfl)) d_Model_writes_52 ⟨Nat.le_of_ble_eq_true rfl, Nat.le_of_ble_eq_true rfl⟩) hS (fun q _ h => h) (fun q h => h) (fun u t H locs ht hvm hw hB _ _ hS => ?_)
    have hP := kW_P hB ht
    exact blk55 _ hk _ _ _ _ _ _ _ _ _ hJ (lv_sub hl [0, 1, 2, 3, 4, 5] rfl) hP hS
  have blk13 : ∀ (n : Nat) (σ : RS) (v1 : Int32) (v2 : Int32) (v3 : Int32) (v4 : Int32) (v5 : Int32) (ls : Array Slot) (H : Heap) (locs : List Loc), J_Model_writes_13 n σ v1 v2 v3 v4 v5 = some res → lv_has ls 6 [(0, .ref (gr 0)), (1, .int v1), (2, .int v2), (3, .int v3), (4, .int v4), (5, .int v5)] → va_P (dC, dI) cls (wR gr cB cI σ) H → va_S A s.heap H locs → W p l e (headSpec (mw y_Model_writes b_Model_writes 6 (some .int)) rm_Model_writes).room s m [.ref (gr 0), .int a1, .int a2, .int a3].toArray below meth c H locs 0 0 (MQ below (va_Qi (fun (x : Int32) (_ : Unit) => x = res.1) (fun _ t => kW (dC, dI) (tC cB cI) (wR gr cB cI res.2) t) A) [.ref (gr 0), .int a1, .int a2, .int a3].toArray s 0 0 A) (F0 m 13 ls []) := by
    intro n
    induction n with
    | zero => intro σ v1 v2 v3 v4 v5 ls H locs hJ; exact j_none hJ
    | succ n hk =>
      intro σ v1 v2 v3 v4 v5 ls H locs hJ hl hP hS
      have hJ : J_Model_writes_13_b (J_Model_writes_13 n) σ v1 v2 v3 v4 v5 = some res := hJ
      unfold J_Model_writes_13_b at hJ
      refine lv_iload hx hb d_Model_writes_13 (lv_at hl 5 rfl) ?_
      refine lv_iload_n hx hb d_Model_writes_15 rfl (lv_at hl 2 rfl) ?_
      refine lv_iload_n hx hb d_Model_writes_16 rfl (lv_at hl 3 rfl) ?_
      refine lv_iadd hx hb d_Model_writes_17 ?_
      refine lv_icmp_ge (tgt := 89) hx hb d_Model_writes_18 (by decide) (fun h3 => ?_) (fun h3 => ?_)
      · have hJ := j_t hJ h3
        refine lv_iload_n hx hb d_Model_writes_89 rfl (lv_at hl 2 rfl) ?_
        refine lv_iload_n hx hb d_Model_writes_90 rfl (lv_at hl 3 rfl) ?_
        refine lv_iadd hx hb d_Model_writes_91 ?_
        refine lv_aload_n hx hb d_Model_writes_92 rfl (lv_at hl 0 rfl) ?_
        refine lv_iload_n hx hb d_Model_writes_93 rfl (lv_at hl 1 rfl) ?_
        obtain ⟨x4, e4, hJ⟩ := j_bind hJ
        refine va_calli (va_runV (As := [.int v1]) (rest := [.int (v2 + v3)]) ⟨hx, hb, hml, hown, htb⟩ (c_Model_sizeOf (l := l) (dC := dC) (dI := dI) hDa e4) (xcV 1 htb tw704 tw7 tw701 tw703 ts_Model_sizeOf rfl rfl hd_Model_sizeOf ⟨Nat.le_of_ble_eq_true rfl, Nat.le_of_ble_eq_true rfl⟩) (kW_V hP hK (va_recv (q0 := 0) (ci := 5) hK hP rfl rfl)) rfl rfl hl.1 rfl (lv_room (Nat.le_of_ble_eq_true rfl)) d_Model_writes_94 ⟨Nat.le_of_ble_eq_true rfl, Nat.le_of_ble_eq_true rfl⟩) hS (fun q _ h => h) (fun q h => h) (fun r0 u t H locs ht hvm hw hB _ _ hS => ?_)
        subst r0
        have hP := kW_P hB ht
        refine lv_icmp_le (tgt := 108) hx hb d_Model_writes_97 (by decide) (fun h5 => ?_) (fun h5 => ?_)
        · have hJ := j_t hJ h5
          exact blk108 _ _ _ _ _ hJ (lv_sub hl [0, 1] rfl) hP hS
        · have hJ := j_f hJ h5
          refine lv_aload_n hx hb d_Model_writes_100 rfl (lv_at hl 0 rfl) ?_
          refine lv_iload_n hx hb d_Model_writes_101 rfl (lv_at hl 1 rfl) ?_
          refine lv_iload_n hx hb d_Model_writes_102 rfl (lv_at hl 2 rfl) ?_
          refine lv_iload_n hx hb d_Model_writes_103 rfl (lv_at hl 3 rfl) ?_
          refine lv_iadd hx hb d_Model_writes_104 ?_
          obtain ⟨x7, e7, hJ⟩ := j_bind hJ
          refine va_callv (va_runV (As := [.int v1, .int (v2 + v3)]) (rest := []) ⟨hx, hb, hml, hown, htb⟩ (c_Model_setSize (l := l) (dC := dC) (dI := dI) hDa e7) (xcV 2 htb tw767 tw7 tw764 tw766 ts_Model_setSize rfl rfl hd_Model_setSize ⟨Nat.le_of_ble_eq_true rfl, Nat.le_of_ble_eq_true rfl⟩) (kW_V hP hK (va_recv (q0 := 0) (ci := 5) hK hP rfl rfl)) rfl rfl hl.1 rfl (lv_room (Nat.le_of_ble_eq_true rfl)) d_Model_writes_105 ⟨Nat.le_of_ble_eq_true rfl, Nat.le_of_ble_eq_true rfl⟩) hS (fun q _ h => h) (fun q h => h) (fun u t H locs ht hvm hw hB _ _ hS => ?_)
          have hP := kW_P hB ht
          exact blk108 _ _ _ _ _ hJ (lv_sub hl [0, 1] rfl) hP hS
      · have hJ := j_f hJ h3
        refine lv_iload hx hb d_Model_writes_21 (lv_at hl 5 rfl) ?_
        refine lv_bipush (v := (64 : Int32)) hx hb d_Model_writes_23 (by decide) ?_
        refine lv_idiv hx hb d_Model_writes_25 (by decide) ?_
        refine lv_iload hx hb d_Model_writes_26 (lv_at hl 4 rfl) ?_
        refine lv_icmp_lt (tgt := 55) hx hb d_Model_writes_28 (by decide) (fun h8 => ?_) (fun h8 => ?_)
        · have hJ := j_t hJ h8
          exact blk55 _ hk _ _ _ _ _ _ _ _ _ hJ (lv_sub hl [0, 1, 2, 3, 4, 5] rfl) hP hS
        · have hJ := j_f hJ h8
          refine lv_iload hx hb d_Model_writes_31 (lv_at hl 5 rfl) ?_
          refine lv_iload_n hx hb d_Model_writes_33 rfl (lv_at hl 2 rfl) ?_
          refine lv_icmp_eq (tgt := 45) hx hb d_Model_writes_34 (by decide) (fun h12 => ?_) (fun h12 => ?_)
          · have hJ := j_t hJ h12
            exact blk45 _ hk _ _ _ _ _ _ _ _ _ hJ (lv_sub hl [0, 1, 2, 3, 4, 5] rfl) hP hS
          · have hJ := j_f hJ h12
            refine lv_iload hx hb d_Model_writes_37 (lv_at hl 5 rfl) ?_
            refine lv_bipush (v := (64 : Int32)) hx hb d_Model_writes_39 (by decide) ?_
            refine lv_irem hx hb d_Model_writes_41 (by decide) ?_
            refine lv_if_ne (tgt := 55) hx hb d_Model_writes_42 (by decide) (fun h14 => ?_) (fun h14 => ?_)
            · have hJ := j_f hJ h14
              exact blk55 _ hk _ _ _ _ _ _ _ _ _ hJ (lv_sub hl [0, 1, 2, 3, 4, 5] rfl) hP hS
            · have hJ := j_t hJ h14
              exact blk45 _ hk _ _ _ _ _ _ _ _ _ hJ (lv_sub hl [0, 1, 2, 3, 4, 5] rfl) hP hS
  unfold J_Model_writes at hJ
  refine lv_aload_n hx hb d_Model_writes_0 rfl (lv_at hl 0 rfl) ?_
  refine lv_iload_n hx hb d_Model_writes_1 rfl (lv_at hl 1 rfl) ?_
  obtain ⟨x1, e1, hJ⟩ := j_bind hJ
  refine va_calli (va_runV (As := [.int a1]) (rest := []) ⟨hx, hb, hml, hown, htb⟩ (c_Model_sizeOf (l := l) (dC := dC) (dI := dI) hDa e1) (xcV 1 htb tw704 tw7 tw701 tw703 ts_Model_sizeOf rfl rfl hd_Model_sizeOf ⟨Nat.le_of_ble_eq_true rfl, Nat.le_of_ble_eq_true rfl⟩) (kW_V hP hK (va_recv (q0 := 0) (ci := 5) hK hP rfl rfl)) rfl rfl hl.1 rfl (lv_room (Nat.le_of_ble_eq_true rfl)) d_Model_writes_2 ⟨Nat.le_of_ble_eq_true rfl, Nat.le_of_ble_eq_true rfl⟩) hS (fun q _ h => h) (fun q h => h) (fun r0 u t H locs ht hvm hw hB _ _ hS => ?_)
  subst r0
  have hP := kW_P hB ht
  obtain ⟨x2, e2, hJ⟩ := j_bind hJ
  refine va_calli (va_runS (As := [.int x1]) (rest := []) ⟨hx, hb, hml, hown, htb⟩ (c_Model_blocksFor (l := l) (dC := dC) (dI := dI) (σ := σ) hDa e2) (xcS 1 htb tw723 tw7 tw721 tw722 rfl rfl hd_Model_blocksFor ⟨Nat.le_of_ble_eq_true rfl, Nat.le_of_ble_eq_true rfl⟩) (kW_S hP hK) rfl rfl hl.1 rfl (lv_room (Nat.le_of_ble_eq_true rfl)) d_Model_writes_5 ⟨Nat.le_of_ble_eq_true rfl, Nat.le_of_ble_eq_true rfl⟩) hS (fun q _ h => h) (fun q h => h) (fun r0 u t H locs ht hvm hw hB _ _ hS => ?_)
  subst r0
  have hP := kW_P hB ht
  refine lv_istore hx hb d_Model_writes_8 hl (Nat.le_of_ble_eq_true rfl) rfl (fun ls hl => ?_)
  have hl : lv_has ls 6 [(4, .int x2), (0, .ref (gr 0)), (1, .int a1), (2, .int a2), (3, .int a3)] := hl
  refine lv_iload_n hx hb d_Model_writes_10 rfl (lv_at hl 3 rfl) ?_
  refine lv_istore hx hb d_Model_writes_11 hl (Nat.le_of_ble_eq_true rfl) rfl (fun ls hl => ?_)
  have hl : lv_has ls 6 [(5, .int a2), (4, .int x2), (0, .ref (gr 0)), (1, .int a1), (2, .int a2), (3, .int a3)] := hl
  exact blk13 9000 _ _ _ _ _ _ _ _ _ hJ (lv_sub hl [2, 3, 4, 5, 1, 0] rfl) hP hS
def J_Model_write_47_b (k : RS → Int32 → Int32 → Int64 → Int32 → Int32 → Option (Int32 × RS)) (σ : RS) (v1 : Int32) (v2 : Int32) (v3 : Int64) (v5 : Int32) (v6 : Int32) : Option (Int32 × RS) :=
  (if v5 ≤ v6 then (J_Model_writes σ v1 v2 v5).bind fun x10 => some (x10.1, x10.2) else (if jin v6 64 = true then k (q_G σ (va_up (r_G σ) v6.toNatClampNeg (v3 >>> (((56 : Int32) - ((8 : Int32) * v6)).toInt64 &&& 63)).toInt32.toInt8.toInt32.toInt8)) v1 v2 v3 v5 (v6 + (1 : Int32)) else none))
def J_Model_write_47 : Nat → RS → Int32 → Int32 → Int64 → Int32 → Int32 → Option (Int32 × RS)
  | 0, _, _, _, _, _, _ => none
  | n + 1, σ, v1, v2, v3, v5, v6 => J_Model_write_47_b (J_Model_write_47 n) σ v1 v2 v3 v5 v6
def J_Model_write (σ : RS) (a1 : Int32) (a2 : Int32) (a3 : Int64) (a4 : Int32) : Option (Int32 × RS) :=
  (J_Model_dead σ).bind fun x1 => (if x1.1 = (0 : Int32) then (if a4 < (1 : Int32) then some (((-1) : Int32), x1.2) else (if (8 : Int32) < a4 then some (((-1) : Int32), x1.2) else (J_Model_mayWrite x1.2 a1 a2 a4).bind fun x5 => (if x5 = (0 : Int32) then some (((-1) : Int32), x1.2) else (J_Model_ready x1.2).bind fun x7 => (if x7.1 = (0 : Int32) then some ((0 : Int32), x7.2) else J_Model_write_47 9000 x7.2 a1 a2 a3 a4 (0 : Int32))))) else some ((0 : Int32), x1.2))
abbrev rm_Model_write : Room := { frames := 5, cells := 0, slots := 0, locals := 117 }
set_option maxHeartbeats 4000000 in
set_option maxRecDepth 100000 in
theorem c_Model_write {l : Launch} {dC : Nat → ClassId} {dI : Nat → Nat → Nat} {gr : Nat → Nat} {cB cI : ClassId} {A : Nat → Prop} (hDa : ∀ σ, va_D A (wR gr cB cI σ)) {σ : RS} {a1 : Int32} {a2 : Int32} {a3 : Int64} {a4 : Int32} {res : Int32 × RS} (hJ : J_Model_write σ a1 a2 a3 a4 = some res) :
    Met l y_Model_write (mw y_Model_write b_Model_write 7 (some .int)) rm_Model_write (va_Pc [.ref (gr 0), .int a1, .int a2, .long a3, .int a4] (kW (dC, dI) (tC cB cI) (wR gr cB cI σ))) (va_Qi (fun (x : Int32) (_ : Unit) => x = res.1) (fun _ t => kW (dC, dI) (tC cB cI) (wR gr cB cI res.2) t) A) 0 0 A := by
  refine Met.ofW (cc := b_Model_write) (maxL := 7) (ret := (some .int)) (by decide) rfl ?_
  intro p e s m args below meth c s₁ B hml hv
  obtain ⟨rfl, hP, hK⟩ := hv
  have hx := B.exec
  have hb := B.bytes
  have hr := B.returns
  have hts := atoms_spec (ws := (mw y_Model_write b_Model_write 7 (some .int))) B.pre
  have htb : ∀ w ∈ tb, w.before [.ref (gr 0), .int a1, .int a2, .long a3, .int a4].toArray s = true := fun w h => hts w (mwIn h)
  have hown : s.vm.findClass "LogFsModel" = some m.cls := findClass_of_methodNamed B.named
  have hlocks := B.notSynchronized
  have hS : va_S A s.heap s.heap [] := va_S.rf
  have hl := lv_entry ([.ref (gr 0), .int a1, .int a2, .long a3, .int a4]) (n := 7) (Nat.le_of_ble_eq_true rfl)
  rw [lg_entry_eq]
  generalize (lg_sl ([.ref (gr 0), .int a1, .int a2, .long a3, .int a4]) ++ List.replicate (7 - (lg_sl ([.ref (gr 0), .int a1, .int a2, .long a3, .int a4])).length) Slot.unset).toArray = ls at hl ⊢
  have hl : lv_has ls 7 [(0, .ref (gr 0)), (1, .int a1), (2, .int a2), (3, .long a3), (5, .int a4)] := hl
  have blk47 : ∀ (n : Nat) (σ : RS) (v1 : Int32) (v2 : Int32) (v3 : Int64) (v5 : Int32) (v6 : Int32) (ls : Array Slot) (H : Heap) (locs : List Loc), J_Model_write_47 n σ v1 v2 v3 v5 v6 = some res → lv_has ls 7 [(0, .ref (gr 0)), (1, .int v1), (2, .int v2), (3, .long v3), (5, .int v5), (6, .int v6)] → va_P (dC, dI) cls (wR gr cB cI σ) H → va_S A s.heap H locs → W p l e (headSpec (mw y_Model_write b_Model_write 7 (some .int)) rm_Model_write).room s m [.ref (gr 0), .int a1, .int a2, .long a3, .int a4].toArray below meth c H locs 0 0 (MQ below (va_Qi (fun (x : Int32) (_ : Unit) => x = res.1) (fun _ t => kW (dC, dI) (tC cB cI) (wR gr cB cI res.2) t) A) [.ref (gr 0), .int a1, .int a2, .long a3, .int a4].toArray s 0 0 A) (F0 m 47 ls []) := by
    intro n
    induction n with
    | zero => intro σ v1 v2 v3 v5 v6 ls H locs hJ; exact j_none hJ
    | succ n hk =>
      intro σ v1 v2 v3 v5 v6 ls H locs hJ hl hP hS
      have hJ : J_Model_write_47_b (J_Model_write_47 n) σ v1 v2 v3 v5 v6 = some res := hJ
      unfold J_Model_write_47_b at hJ
      refine lv_iload hx hb d_Model_write_47 (lv_at hl 5 rfl) ?_
      refine lv_iload hx hb d_Model_write_49 (lv_at hl 4 rfl) ?_
      refine lv_icmp_ge (tgt := 79) hx hb d_Model_write_51 (by decide) (fun h9 => ?_) (fun h9 => ?_)
      · have hJ := j_t hJ h9
        refine lv_aload_n hx hb d_Model_write_79 rfl (lv_at hl 0 rfl) ?_
        refine lv_iload_n hx hb d_Model_write_80 rfl (lv_at hl 1 rfl) ?_
        refine lv_iload_n hx hb d_Model_write_81 rfl (lv_at hl 2 rfl) ?_
        refine lv_iload hx hb d_Model_write_82 (lv_at hl 4 rfl) ?_
        obtain ⟨x10, e10, hJ⟩ := j_bind hJ
        refine va_calli (va_runV (As := [.int v1, .int v2, .int v5]) (rest := []) ⟨hx, hb, hml, hown, htb⟩ (c_Model_writes (l := l) (dC := dC) (dI := dI) hDa e10) (xcV 3 htb tw803 tw7 tw800 tw802 ts_Model_writes rfl rfl hd_Model_writes ⟨Nat.le_of_ble_eq_true rfl, Nat.le_of_ble_eq_true rfl⟩) (kW_V hP hK (va_recv (q0 := 0) (ci := 5) hK hP rfl rfl)) rfl rfl hl.1 rfl (lv_room (Nat.le_of_ble_eq_true rfl)) d_Model_write_84 ⟨Nat.le_of_ble_eq_true rfl, Nat.le_of_ble_eq_true rfl⟩) hS (fun q _ h => h) (fun q h => h) (fun r0 u t H locs ht hvm hw hB _ _ hS => ?_)
        subst r0
        have hP := kW_P hB ht
        have hJ := Option.some.inj hJ
        exact W.iret (v := x10.1) hx hb hr (fun t ht hW => ⟨⟨_, (), rfl, (j_p1 hJ), kW_end hP hK ht hW (congrArg (fun z => wR gr cB cI z) (j_p2 hJ))⟩, hS.F ht⟩) hS.2.2 d_Model_write_87
      · have hJ := j_f hJ h9
        refine lv_aload_n hx hb d_Model_write_54 rfl (lv_at hl 0 rfl) ?_
        refine va_get (D := (dC, dI)) (ci := 5) (v := .ref (gr 5)) (C := R_Model) (T := T_Model) (N := 12) hx hb htb uin_Model hown hK hP 0 rfl rfl 11 (by decide) (htb _ tw601) (fun _ h9 => h9) rfl d_Model_write_55 ?_
        refine lv_iload hx hb d_Model_write_58 (lv_at hl 5 rfl) ?_
        refine lv_lload_n hx hb d_Model_write_60 rfl (lv_at hl 3 rfl) ?_
        refine lv_bipush (v := (56 : Int32)) hx hb d_Model_write_61 (by decide) ?_
        refine lv_bipush (v := (8 : Int32)) hx hb d_Model_write_63 (by decide) ?_
        refine lv_iload hx hb d_Model_write_65 (lv_at hl 5 rfl) ?_
        refine lv_imul hx hb d_Model_write_67 ?_
        refine lv_isub hx hb d_Model_write_68 ?_
        refine lv_lshr hx hb d_Model_write_69 rfl ?_
        refine lv_l2i hx hb d_Model_write_70 rfl ?_
        refine lv_i2b hx hb d_Model_write_71 rfl ?_
        obtain ⟨h11, hJ⟩ := j_g hJ
        refine va_bast hx hb hK hP (hDa _) hS 5 0 rfl rfl (j_in h11) d_Model_write_72 (fun H locs hP _ hS => ?_)
        rw [by_upd] at hP
        have hP : va_P (dC, dI) cls (wR gr cB cI (q_G σ (va_up (r_G σ) v6.toNatClampNeg (v3 >>> (((56 : Int32) - ((8 : Int32) * v6)).toInt64 &&& 63)).toInt32.toInt8.toInt32.toInt8))) H := hP
        refine lv_iinc (k := 5) (v := (v6 + (1 : Int32))) hx hb d_Model_write_73 hl rfl rfl (Nat.le_of_ble_eq_true rfl) rfl (fun ls hl => ?_)
        have hl : lv_has ls 7 [(6, .int (v6 + (1 : Int32))), (0, .ref (gr 0)), (1, .int v1), (2, .int v2), (3, .long v3), (5, .int v5)] := hl
        refine lv_goto (tgt := 47) hx hb d_Model_write_76 (by decide) ?_
        exact hk _ _ _ _ _ _ _ _ _ hJ (lv_sub hl [1, 2, 3, 4, 5, 0] rfl) hP hS
  unfold J_Model_write at hJ
  refine lv_aload_n hx hb d_Model_write_0 rfl (lv_at hl 0 rfl) ?_
  obtain ⟨x1, e1, hJ⟩ := j_bind hJ
  refine va_calli (va_runV (As := []) (rest := []) ⟨hx, hb, hml, hown, htb⟩ (c_Model_dead (l := l) (dC := dC) (dI := dI) hDa e1) (xcV 0 htb tw638 tw7 tw635 tw637 ts_Model_dead rfl rfl hd_Model_dead ⟨Nat.le_of_ble_eq_true rfl, Nat.le_of_ble_eq_true rfl⟩) (kW_V hP hK (va_recv (q0 := 0) (ci := 5) hK hP rfl rfl)) rfl rfl hl.1 rfl (lv_room (Nat.le_of_ble_eq_true rfl)) d_Model_write_1 ⟨Nat.le_of_ble_eq_true rfl, Nat.le_of_ble_eq_true rfl⟩) hS (fun q _ h => h) (fun q h => h) (fun r0 u t H locs ht hvm hw hB _ _ hS => ?_)
  subst r0
  have hP := kW_P hB ht
  refine lv_if_eq (tgt := 9) hx hb d_Model_write_4 (by decide) (fun h2 => ?_) (fun h2 => ?_)
  · have hJ := j_t hJ h2
    refine lv_iload hx hb d_Model_write_9 (lv_at hl 4 rfl) ?_
    refine lv_iconst (v := (1 : Int32)) hx hb d_Model_write_11 (by decide) ?_
    refine lv_icmp_lt (tgt := 33) hx hb d_Model_write_12 (by decide) (fun h3 => ?_) (fun h3 => ?_)
    · have hJ := j_t hJ h3
      refine lv_iconst (v := ((-1) : Int32)) hx hb d_Model_write_33 (by decide) ?_
      have hJ := Option.some.inj hJ
      exact W.iret (v := ((-1) : Int32)) hx hb hr (fun t ht hW => ⟨⟨_, (), rfl, (j_p1 hJ), kW_end hP hK ht hW (congrArg (fun z => wR gr cB cI z) (j_p2 hJ))⟩, hS.F ht⟩) hS.2.2 d_Model_write_34
    · have hJ := j_f hJ h3
      refine lv_iload hx hb d_Model_write_15 (lv_at hl 4 rfl) ?_
      refine lv_bipush (v := (8 : Int32)) hx hb d_Model_write_17 (by decide) ?_
      refine lv_icmp_gt (tgt := 33) hx hb d_Model_write_19 (by decide) (fun h4 => ?_) (fun h4 => ?_)
      · have hJ := j_t hJ h4
        refine lv_iconst (v := ((-1) : Int32)) hx hb d_Model_write_33 (by decide) ?_
        have hJ := Option.some.inj hJ
        exact W.iret (v := ((-1) : Int32)) hx hb hr (fun t ht hW => ⟨⟨_, (), rfl, (j_p1 hJ), kW_end hP hK ht hW (congrArg (fun z => wR gr cB cI z) (j_p2 hJ))⟩, hS.F ht⟩) hS.2.2 d_Model_write_34
      · have hJ := j_f hJ h4
        refine lv_aload_n hx hb d_Model_write_22 rfl (lv_at hl 0 rfl) ?_
        refine lv_iload_n hx hb d_Model_write_23 rfl (lv_at hl 1 rfl) ?_
        refine lv_iload_n hx hb d_Model_write_24 rfl (lv_at hl 2 rfl) ?_
        refine lv_iload hx hb d_Model_write_25 (lv_at hl 4 rfl) ?_
        obtain ⟨x5, e5, hJ⟩ := j_bind hJ
        refine va_calli (va_runV (As := [.int a1, .int a2, .int a4]) (rest := []) ⟨hx, hb, hml, hown, htb⟩ (c_Model_mayWrite (l := l) (dC := dC) (dI := dI) hDa e5) (xcV 3 htb tw799 tw7 tw796 tw798 ts_Model_mayWrite rfl rfl hd_Model_mayWrite ⟨Nat.le_of_ble_eq_true rfl, Nat.le_of_ble_eq_true rfl⟩) (kW_V hP hK (va_recv (q0 := 0) (ci := 5) hK hP rfl rfl)) rfl rfl hl.1 rfl (lv_room (Nat.le_of_ble_eq_true rfl)) d_Model_write_27 ⟨Nat.le_of_ble_eq_true rfl, Nat.le_of_ble_eq_true rfl⟩) hS (fun q _ h => h) (fun q h => h) (fun r0 u t H locs ht hvm hw hB _ _ hS => ?_)
        subst r0
        have hP := kW_P hB ht
        refine lv_if_ne (tgt := 35) hx hb d_Model_write_30 (by decide) (fun h6 => ?_) (fun h6 => ?_)
        · have hJ := j_f hJ h6
          refine lv_aload_n hx hb d_Model_write_35 rfl (lv_at hl 0 rfl) ?_
          obtain ⟨x7, e7, hJ⟩ := j_bind hJ
          refine va_calli (va_runV (As := []) (rest := []) ⟨hx, hb, hml, hown, htb⟩ (c_Model_ready (l := l) (dC := dC) (dI := dI) hDa e7) (xcV 0 htb tw739 tw7 tw736 tw738 ts_Model_ready rfl rfl hd_Model_ready ⟨Nat.le_of_ble_eq_true rfl, Nat.le_of_ble_eq_true rfl⟩) (kW_V hP hK (va_recv (q0 := 0) (ci := 5) hK hP rfl rfl)) rfl rfl hl.1 rfl (lv_room (Nat.le_of_ble_eq_true rfl)) d_Model_write_36 ⟨Nat.le_of_ble_eq_true rfl, Nat.le_of_ble_eq_true rfl⟩) hS (fun q _ h => h) (fun q h => h) (fun r0 u t H locs ht hvm hw hB _ _ hS => ?_)
          subst r0
          have hP := kW_P hB ht
          refine lv_if_ne (tgt := 44) hx hb d_Model_write_39 (by decide) (fun h8 => ?_) (fun h8 => ?_)
          · have hJ := j_f hJ h8
            refine lv_iconst (v := (0 : Int32)) hx hb d_Model_write_44 (by decide) ?_
            refine lv_istore hx hb d_Model_write_45 hl (Nat.le_of_ble_eq_true rfl) rfl (fun ls hl => ?_)
            have hl : lv_has ls 7 [(6, .int (0 : Int32)), (0, .ref (gr 0)), (1, .int a1), (2, .int a2), (3, .long a3), (5, .int a4)] := hl
            exact blk47 9000 _ _ _ _ _ _ _ _ _ hJ (lv_sub hl [1, 2, 3, 4, 5, 0] rfl) hP hS
          · have hJ := j_t hJ h8
            refine lv_iconst (v := (0 : Int32)) hx hb d_Model_write_42 (by decide) ?_
            have hJ := Option.some.inj hJ
            exact W.iret (v := (0 : Int32)) hx hb hr (fun t ht hW => ⟨⟨_, (), rfl, (j_p1 hJ), kW_end hP hK ht hW (congrArg (fun z => wR gr cB cI z) (j_p2 hJ))⟩, hS.F ht⟩) hS.2.2 d_Model_write_43
        · have hJ := j_t hJ h6
          refine lv_iconst (v := ((-1) : Int32)) hx hb d_Model_write_33 (by decide) ?_
          have hJ := Option.some.inj hJ
          exact W.iret (v := ((-1) : Int32)) hx hb hr (fun t ht hW => ⟨⟨_, (), rfl, (j_p1 hJ), kW_end hP hK ht hW (congrArg (fun z => wR gr cB cI z) (j_p2 hJ))⟩, hS.F ht⟩) hS.2.2 d_Model_write_34
  · have hJ := j_f hJ h2
    refine lv_iconst (v := (0 : Int32)) hx hb d_Model_write_7 (by decide) ?_
    have hJ := Option.some.inj hJ
    exact W.iret (v := (0 : Int32)) hx hb hr (fun t ht hW => ⟨⟨_, (), rfl, (j_p1 hJ), kW_end hP hK ht hW (congrArg (fun z => wR gr cB cI z) (j_p2 hJ))⟩, hS.F ht⟩) hS.2.2 d_Model_write_8
def J_Model_fill_58_b (k : RS → Int32 → Int32 → Int32 → Int32 → Int32 → Option (Int32 × RS)) (σ : RS) (v1 : Int32) (v2 : Int32) (v3 : Int32) (v4 : Int32) (v5 : Int32) : Option (Int32 × RS) :=
  (if v4 ≤ v5 then (J_Model_writes σ v1 v2 v4).bind fun x12 => some (x12.1, x12.2) else (if jin v5 64 = true then k (q_G σ (va_up (r_G σ) v5.toNatClampNeg v3.toInt8.toInt32.toInt8)) v1 v2 v3 v4 (v5 + (1 : Int32)) else none))
def J_Model_fill_58 : Nat → RS → Int32 → Int32 → Int32 → Int32 → Int32 → Option (Int32 × RS)
  | 0, _, _, _, _, _, _ => none
  | n + 1, σ, v1, v2, v3, v4, v5 => J_Model_fill_58_b (J_Model_fill_58 n) σ v1 v2 v3 v4 v5
def J_Model_fill (σ : RS) (a1 : Int32) (a2 : Int32) (a3 : Int32) (a4 : Int32) : Option (Int32 × RS) :=
  (J_Model_dead σ).bind fun x1 => (if x1.1 = (0 : Int32) then (if a4 < (1 : Int32) then some (((-1) : Int32), x1.2) else (if (64 : Int32) < a4 then some (((-1) : Int32), x1.2) else (if a3 < (0 : Int32) then some (((-1) : Int32), x1.2) else (if (255 : Int32) < a3 then some (((-1) : Int32), x1.2) else (J_Model_mayWrite x1.2 a1 a2 a4).bind fun x7 => (if x7 = (0 : Int32) then some (((-1) : Int32), x1.2) else (J_Model_ready x1.2).bind fun x9 => (if x9.1 = (0 : Int32) then some ((0 : Int32), x9.2) else J_Model_fill_58 9000 x9.2 a1 a2 a3 a4 (0 : Int32))))))) else some ((0 : Int32), x1.2))
abbrev rm_Model_fill : Room := { frames := 5, cells := 0, slots := 0, locals := 117 }
set_option maxHeartbeats 4000000 in
set_option maxRecDepth 100000 in
theorem c_Model_fill {l : Launch} {dC : Nat → ClassId} {dI : Nat → Nat → Nat} {gr : Nat → Nat} {cB cI : ClassId} {A : Nat → Prop} (hDa : ∀ σ, va_D A (wR gr cB cI σ)) {σ : RS} {a1 : Int32} {a2 : Int32} {a3 : Int32} {a4 : Int32} {res : Int32 × RS} (hJ : J_Model_fill σ a1 a2 a3 a4 = some res) :
    Met l y_Model_fill (mw y_Model_fill b_Model_fill 6 (some .int)) rm_Model_fill (va_Pc [.ref (gr 0), .int a1, .int a2, .int a3, .int a4] (kW (dC, dI) (tC cB cI) (wR gr cB cI σ))) (va_Qi (fun (x : Int32) (_ : Unit) => x = res.1) (fun _ t => kW (dC, dI) (tC cB cI) (wR gr cB cI res.2) t) A) 0 0 A := by
  refine Met.ofW (cc := b_Model_fill) (maxL := 6) (ret := (some .int)) (by decide) rfl ?_
  intro p e s m args below meth c s₁ B hml hv
  obtain ⟨rfl, hP, hK⟩ := hv
  have hx := B.exec
  have hb := B.bytes
  have hr := B.returns
  have hts := atoms_spec (ws := (mw y_Model_fill b_Model_fill 6 (some .int))) B.pre
  have htb : ∀ w ∈ tb, w.before [.ref (gr 0), .int a1, .int a2, .int a3, .int a4].toArray s = true := fun w h => hts w (mwIn h)
  have hown : s.vm.findClass "LogFsModel" = some m.cls := findClass_of_methodNamed B.named
  have hlocks := B.notSynchronized
  have hS : va_S A s.heap s.heap [] := va_S.rf
  have hl := lv_entry ([.ref (gr 0), .int a1, .int a2, .int a3, .int a4]) (n := 6) (Nat.le_of_ble_eq_true rfl)
  rw [lg_entry_eq]
  generalize (lg_sl ([.ref (gr 0), .int a1, .int a2, .int a3, .int a4]) ++ List.replicate (6 - (lg_sl ([.ref (gr 0), .int a1, .int a2, .int a3, .int a4])).length) Slot.unset).toArray = ls at hl ⊢
  have hl : lv_has ls 6 [(0, .ref (gr 0)), (1, .int a1), (2, .int a2), (3, .int a3), (4, .int a4)] := hl
  have blk58 : ∀ (n : Nat) (σ : RS) (v1 : Int32) (v2 : Int32) (v3 : Int32) (v4 : Int32) (v5 : Int32) (ls : Array Slot) (H : Heap) (locs : List Loc), J_Model_fill_58 n σ v1 v2 v3 v4 v5 = some res → lv_has ls 6 [(0, .ref (gr 0)), (1, .int v1), (2, .int v2), (3, .int v3), (4, .int v4), (5, .int v5)] → va_P (dC, dI) cls (wR gr cB cI σ) H → va_S A s.heap H locs → W p l e (headSpec (mw y_Model_fill b_Model_fill 6 (some .int)) rm_Model_fill).room s m [.ref (gr 0), .int a1, .int a2, .int a3, .int a4].toArray below meth c H locs 0 0 (MQ below (va_Qi (fun (x : Int32) (_ : Unit) => x = res.1) (fun _ t => kW (dC, dI) (tC cB cI) (wR gr cB cI res.2) t) A) [.ref (gr 0), .int a1, .int a2, .int a3, .int a4].toArray s 0 0 A) (F0 m 58 ls []) := by
    intro n
    induction n with
    | zero => intro σ v1 v2 v3 v4 v5 ls H locs hJ; exact j_none hJ
    | succ n hk =>
      intro σ v1 v2 v3 v4 v5 ls H locs hJ hl hP hS
      have hJ : J_Model_fill_58_b (J_Model_fill_58 n) σ v1 v2 v3 v4 v5 = some res := hJ
      unfold J_Model_fill_58_b at hJ
      refine lv_iload hx hb d_Model_fill_58 (lv_at hl 5 rfl) ?_
      refine lv_iload hx hb d_Model_fill_60 (lv_at hl 4 rfl) ?_
      refine lv_icmp_ge (tgt := 80) hx hb d_Model_fill_62 (by decide) (fun h11 => ?_) (fun h11 => ?_)
      · have hJ := j_t hJ h11
        refine lv_aload_n hx hb d_Model_fill_80 rfl (lv_at hl 0 rfl) ?_
        refine lv_iload_n hx hb d_Model_fill_81 rfl (lv_at hl 1 rfl) ?_
        refine lv_iload_n hx hb d_Model_fill_82 rfl (lv_at hl 2 rfl) ?_
        refine lv_iload hx hb d_Model_fill_83 (lv_at hl 4 rfl) ?_
        obtain ⟨x12, e12, hJ⟩ := j_bind hJ
        refine va_calli (va_runV (As := [.int v1, .int v2, .int v4]) (rest := []) ⟨hx, hb, hml, hown, htb⟩ (c_Model_writes (l := l) (dC := dC) (dI := dI) hDa e12) (xcV 3 htb tw803 tw7 tw800 tw802 ts_Model_writes rfl rfl hd_Model_writes ⟨Nat.le_of_ble_eq_true rfl, Nat.le_of_ble_eq_true rfl⟩) (kW_V hP hK (va_recv (q0 := 0) (ci := 5) hK hP rfl rfl)) rfl rfl hl.1 rfl (lv_room (Nat.le_of_ble_eq_true rfl)) d_Model_fill_85 ⟨Nat.le_of_ble_eq_true rfl, Nat.le_of_ble_eq_true rfl⟩) hS (fun q _ h => h) (fun q h => h) (fun r0 u t H locs ht hvm hw hB _ _ hS => ?_)
        subst r0
        have hP := kW_P hB ht
        have hJ := Option.some.inj hJ
        exact W.iret (v := x12.1) hx hb hr (fun t ht hW => ⟨⟨_, (), rfl, (j_p1 hJ), kW_end hP hK ht hW (congrArg (fun z => wR gr cB cI z) (j_p2 hJ))⟩, hS.F ht⟩) hS.2.2 d_Model_fill_88
      · have hJ := j_f hJ h11
        refine lv_aload_n hx hb d_Model_fill_65 rfl (lv_at hl 0 rfl) ?_
        refine va_get (D := (dC, dI)) (ci := 5) (v := .ref (gr 5)) (C := R_Model) (T := T_Model) (N := 12) hx hb htb uin_Model hown hK hP 0 rfl rfl 11 (by decide) (htb _ tw601) (fun _ h9 => h9) rfl d_Model_fill_66 ?_
        refine lv_iload hx hb d_Model_fill_69 (lv_at hl 5 rfl) ?_
        refine lv_iload_n hx hb d_Model_fill_71 rfl (lv_at hl 3 rfl) ?_
        refine lv_i2b hx hb d_Model_fill_72 rfl ?_
        obtain ⟨h13, hJ⟩ := j_g hJ
        refine va_bast hx hb hK hP (hDa _) hS 5 0 rfl rfl (j_in h13) d_Model_fill_73 (fun H locs hP _ hS => ?_)
        rw [by_upd] at hP
        have hP : va_P (dC, dI) cls (wR gr cB cI (q_G σ (va_up (r_G σ) v5.toNatClampNeg v3.toInt8.toInt32.toInt8))) H := hP
        refine lv_iinc (k := 5) (v := (v5 + (1 : Int32))) hx hb d_Model_fill_74 hl rfl rfl (Nat.le_of_ble_eq_true rfl) rfl (fun ls hl => ?_)
        have hl : lv_has ls 6 [(5, .int (v5 + (1 : Int32))), (0, .ref (gr 0)), (1, .int v1), (2, .int v2), (3, .int v3), (4, .int v4)] := hl
        refine lv_goto (tgt := 58) hx hb d_Model_fill_77 (by decide) ?_
        exact hk _ _ _ _ _ _ _ _ _ hJ (lv_sub hl [1, 2, 3, 4, 5, 0] rfl) hP hS
  unfold J_Model_fill at hJ
  refine lv_aload_n hx hb d_Model_fill_0 rfl (lv_at hl 0 rfl) ?_
  obtain ⟨x1, e1, hJ⟩ := j_bind hJ
  refine va_calli (va_runV (As := []) (rest := []) ⟨hx, hb, hml, hown, htb⟩ (c_Model_dead (l := l) (dC := dC) (dI := dI) hDa e1) (xcV 0 htb tw638 tw7 tw635 tw637 ts_Model_dead rfl rfl hd_Model_dead ⟨Nat.le_of_ble_eq_true rfl, Nat.le_of_ble_eq_true rfl⟩) (kW_V hP hK (va_recv (q0 := 0) (ci := 5) hK hP rfl rfl)) rfl rfl hl.1 rfl (lv_room (Nat.le_of_ble_eq_true rfl)) d_Model_fill_1 ⟨Nat.le_of_ble_eq_true rfl, Nat.le_of_ble_eq_true rfl⟩) hS (fun q _ h => h) (fun q h => h) (fun r0 u t H locs ht hvm hw hB _ _ hS => ?_)
  subst r0
  have hP := kW_P hB ht
  refine lv_if_eq (tgt := 9) hx hb d_Model_fill_4 (by decide) (fun h2 => ?_) (fun h2 => ?_)
  · have hJ := j_t hJ h2
    refine lv_iload hx hb d_Model_fill_9 (lv_at hl 4 rfl) ?_
    refine lv_iconst (v := (1 : Int32)) hx hb d_Model_fill_11 (by decide) ?_
    refine lv_icmp_lt (tgt := 44) hx hb d_Model_fill_12 (by decide) (fun h3 => ?_) (fun h3 => ?_)
    · have hJ := j_t hJ h3
      refine lv_iconst (v := ((-1) : Int32)) hx hb d_Model_fill_44 (by decide) ?_
      have hJ := Option.some.inj hJ
      exact W.iret (v := ((-1) : Int32)) hx hb hr (fun t ht hW => ⟨⟨_, (), rfl, (j_p1 hJ), kW_end hP hK ht hW (congrArg (fun z => wR gr cB cI z) (j_p2 hJ))⟩, hS.F ht⟩) hS.2.2 d_Model_fill_45
    · have hJ := j_f hJ h3
      refine lv_iload hx hb d_Model_fill_15 (lv_at hl 4 rfl) ?_
      refine lv_bipush (v := (64 : Int32)) hx hb d_Model_fill_17 (by decide) ?_
      refine lv_icmp_gt (tgt := 44) hx hb d_Model_fill_19 (by decide) (fun h4 => ?_) (fun h4 => ?_)
      · have hJ := j_t hJ h4
        refine lv_iconst (v := ((-1) : Int32)) hx hb d_Model_fill_44 (by decide) ?_
        have hJ := Option.some.inj hJ
        exact W.iret (v := ((-1) : Int32)) hx hb hr (fun t ht hW => ⟨⟨_, (), rfl, (j_p1 hJ), kW_end hP hK ht hW (congrArg (fun z => wR gr cB cI z) (j_p2 hJ))⟩, hS.F ht⟩) hS.2.2 d_Model_fill_45
      · have hJ := j_f hJ h4
        refine lv_iload_n hx hb d_Model_fill_22 rfl (lv_at hl 3 rfl) ?_
        refine lv_if_lt (tgt := 44) hx hb d_Model_fill_23 (by decide) (fun h5 => ?_) (fun h5 => ?_)
        · have hJ := j_t hJ h5
          refine lv_iconst (v := ((-1) : Int32)) hx hb d_Model_fill_44 (by decide) ?_
          have hJ := Option.some.inj hJ
          exact W.iret (v := ((-1) : Int32)) hx hb hr (fun t ht hW => ⟨⟨_, (), rfl, (j_p1 hJ), kW_end hP hK ht hW (congrArg (fun z => wR gr cB cI z) (j_p2 hJ))⟩, hS.F ht⟩) hS.2.2 d_Model_fill_45
        · have hJ := j_f hJ h5
          refine lv_iload_n hx hb d_Model_fill_26 rfl (lv_at hl 3 rfl) ?_
          refine lv_sipush (v := (255 : Int32)) hx hb d_Model_fill_27 (by decide) ?_
          refine lv_icmp_gt (tgt := 44) hx hb d_Model_fill_30 (by decide) (fun h6 => ?_) (fun h6 => ?_)
          · have hJ := j_t hJ h6
            refine lv_iconst (v := ((-1) : Int32)) hx hb d_Model_fill_44 (by decide) ?_
            have hJ := Option.some.inj hJ
            exact W.iret (v := ((-1) : Int32)) hx hb hr (fun t ht hW => ⟨⟨_, (), rfl, (j_p1 hJ), kW_end hP hK ht hW (congrArg (fun z => wR gr cB cI z) (j_p2 hJ))⟩, hS.F ht⟩) hS.2.2 d_Model_fill_45
          · have hJ := j_f hJ h6
            refine lv_aload_n hx hb d_Model_fill_33 rfl (lv_at hl 0 rfl) ?_
            refine lv_iload_n hx hb d_Model_fill_34 rfl (lv_at hl 1 rfl) ?_
            refine lv_iload_n hx hb d_Model_fill_35 rfl (lv_at hl 2 rfl) ?_
            refine lv_iload hx hb d_Model_fill_36 (lv_at hl 4 rfl) ?_
            obtain ⟨x7, e7, hJ⟩ := j_bind hJ
            refine va_calli (va_runV (As := [.int a1, .int a2, .int a4]) (rest := []) ⟨hx, hb, hml, hown, htb⟩ (c_Model_mayWrite (l := l) (dC := dC) (dI := dI) hDa e7) (xcV 3 htb tw799 tw7 tw796 tw798 ts_Model_mayWrite rfl rfl hd_Model_mayWrite ⟨Nat.le_of_ble_eq_true rfl, Nat.le_of_ble_eq_true rfl⟩) (kW_V hP hK (va_recv (q0 := 0) (ci := 5) hK hP rfl rfl)) rfl rfl hl.1 rfl (lv_room (Nat.le_of_ble_eq_true rfl)) d_Model_fill_38 ⟨Nat.le_of_ble_eq_true rfl, Nat.le_of_ble_eq_true rfl⟩) hS (fun q _ h => h) (fun q h => h) (fun r0 u t H locs ht hvm hw hB _ _ hS => ?_)
            subst r0
            have hP := kW_P hB ht
            refine lv_if_ne (tgt := 46) hx hb d_Model_fill_41 (by decide) (fun h8 => ?_) (fun h8 => ?_)
            · have hJ := j_f hJ h8
              refine lv_aload_n hx hb d_Model_fill_46 rfl (lv_at hl 0 rfl) ?_
              obtain ⟨x9, e9, hJ⟩ := j_bind hJ
              refine va_calli (va_runV (As := []) (rest := []) ⟨hx, hb, hml, hown, htb⟩ (c_Model_ready (l := l) (dC := dC) (dI := dI) hDa e9) (xcV 0 htb tw739 tw7 tw736 tw738 ts_Model_ready rfl rfl hd_Model_ready ⟨Nat.le_of_ble_eq_true rfl, Nat.le_of_ble_eq_true rfl⟩) (kW_V hP hK (va_recv (q0 := 0) (ci := 5) hK hP rfl rfl)) rfl rfl hl.1 rfl (lv_room (Nat.le_of_ble_eq_true rfl)) d_Model_fill_47 ⟨Nat.le_of_ble_eq_true rfl, Nat.le_of_ble_eq_true rfl⟩) hS (fun q _ h => h) (fun q h => h) (fun r0 u t H locs ht hvm hw hB _ _ hS => ?_)
              subst r0
              have hP := kW_P hB ht
              refine lv_if_ne (tgt := 55) hx hb d_Model_fill_50 (by decide) (fun h10 => ?_) (fun h10 => ?_)
              · have hJ := j_f hJ h10
                refine lv_iconst (v := (0 : Int32)) hx hb d_Model_fill_55 (by decide) ?_
                refine lv_istore hx hb d_Model_fill_56 hl (Nat.le_of_ble_eq_true rfl) rfl (fun ls hl => ?_)
                have hl : lv_has ls 6 [(5, .int (0 : Int32)), (0, .ref (gr 0)), (1, .int a1), (2, .int a2), (3, .int a3), (4, .int a4)] := hl
                exact blk58 9000 _ _ _ _ _ _ _ _ _ hJ (lv_sub hl [1, 2, 3, 4, 5, 0] rfl) hP hS
              · have hJ := j_t hJ h10
                refine lv_iconst (v := (0 : Int32)) hx hb d_Model_fill_53 (by decide) ?_
                have hJ := Option.some.inj hJ
                exact W.iret (v := (0 : Int32)) hx hb hr (fun t ht hW => ⟨⟨_, (), rfl, (j_p1 hJ), kW_end hP hK ht hW (congrArg (fun z => wR gr cB cI z) (j_p2 hJ))⟩, hS.F ht⟩) hS.2.2 d_Model_fill_54
            · have hJ := j_t hJ h8
              refine lv_iconst (v := ((-1) : Int32)) hx hb d_Model_fill_44 (by decide) ?_
              have hJ := Option.some.inj hJ
              exact W.iret (v := ((-1) : Int32)) hx hb hr (fun t ht hW => ⟨⟨_, (), rfl, (j_p1 hJ), kW_end hP hK ht hW (congrArg (fun z => wR gr cB cI z) (j_p2 hJ))⟩, hS.F ht⟩) hS.2.2 d_Model_fill_45
  · have hJ := j_f hJ h2
    refine lv_iconst (v := (0 : Int32)) hx hb d_Model_fill_7 (by decide) ?_
    have hJ := Option.some.inj hJ
    exact W.iret (v := (0 : Int32)) hx hb hr (fun t ht hW => ⟨⟨_, (), rfl, (j_p1 hJ), kW_end hP hK ht hW (congrArg (fun z => wR gr cB cI z) (j_p2 hJ))⟩, hS.F ht⟩) hS.2.2 d_Model_fill_8
def J_Model_truncate (σ : RS) (a1 : Int32) : Option (Int32 × RS) :=
  (J_Model_dead σ).bind fun x1 => (if x1.1 = (0 : Int32) then (J_Model_is x1.2 a1 (1 : Int32)).bind fun x3 => (if x3 = (0 : Int32) then some ((0 : Int32), x1.2) else (J_Model_sizeOf x1.2 a1).bind fun x5 => (if x5 = (0 : Int32) then some ((0 : Int32), x1.2) else (J_Model_ready x1.2).bind fun x7 => (if x7.1 = (0 : Int32) then some ((0 : Int32), x7.2) else (J_Model_release x7.2 a1).bind fun x9 => (J_Model_clear x9 a1 (2 : Int32)).bind fun x10 => some ((1 : Int32), x10)))) else some ((0 : Int32), x1.2))
abbrev rm_Model_truncate : Room := { frames := 4, cells := 0, slots := 0, locals := 92 }
set_option maxHeartbeats 4000000 in
set_option maxRecDepth 100000 in
theorem c_Model_truncate {l : Launch} {dC : Nat → ClassId} {dI : Nat → Nat → Nat} {gr : Nat → Nat} {cB cI : ClassId} {A : Nat → Prop} (hDa : ∀ σ, va_D A (wR gr cB cI σ)) {σ : RS} {a1 : Int32} {res : Int32 × RS} (hJ : J_Model_truncate σ a1 = some res) :
    Met l y_Model_truncate (mw y_Model_truncate b_Model_truncate 2 (some .boolean)) rm_Model_truncate (va_Pc [.ref (gr 0), .int a1] (kW (dC, dI) (tC cB cI) (wR gr cB cI σ))) (va_Qi (fun (x : Int32) (_ : Unit) => x = res.1) (fun _ t => kW (dC, dI) (tC cB cI) (wR gr cB cI res.2) t) A) 0 0 A := by
  refine Met.ofW (cc := b_Model_truncate) (maxL := 2) (ret := (some .boolean)) (by decide) rfl ?_
  intro p e s m args below meth c s₁ B hml hv
  obtain ⟨rfl, hP, hK⟩ := hv
  have hx := B.exec
  have hb := B.bytes
  have hr := B.returns
  have hts := atoms_spec (ws := (mw y_Model_truncate b_Model_truncate 2 (some .boolean))) B.pre
  have htb : ∀ w ∈ tb, w.before [.ref (gr 0), .int a1].toArray s = true := fun w h => hts w (mwIn h)
  have hown : s.vm.findClass "LogFsModel" = some m.cls := findClass_of_methodNamed B.named
  have hlocks := B.notSynchronized
  have hS : va_S A s.heap s.heap [] := va_S.rf
  have hl := lv_entry ([.ref (gr 0), .int a1]) (n := 2) (Nat.le_of_ble_eq_true rfl)
  rw [lg_entry_eq]
  generalize (lg_sl ([.ref (gr 0), .int a1]) ++ List.replicate (2 - (lg_sl ([.ref (gr 0), .int a1])).length) Slot.unset).toArray = ls at hl ⊢
  have hl : lv_has ls 2 [(0, .ref (gr 0)), (1, .int a1)] := hl
  unfold J_Model_truncate at hJ
  refine lv_aload_n hx hb d_Model_truncate_0 rfl (lv_at hl 0 rfl) ?_
  obtain ⟨x1, e1, hJ⟩ := j_bind hJ
  refine va_calli (va_runV (As := []) (rest := []) ⟨hx, hb, hml, hown, htb⟩ (c_Model_dead (l := l) (dC := dC) (dI := dI) hDa e1) (xcV 0 htb tw638 tw7 tw635 tw637 ts_Model_dead rfl rfl hd_Model_dead ⟨Nat.le_of_ble_eq_true rfl, Nat.le_of_ble_eq_true rfl⟩) (kW_V hP hK (va_recv (q0 := 0) (ci := 5) hK hP rfl rfl)) rfl rfl hl.1 rfl (lv_room (Nat.le_of_ble_eq_true rfl)) d_Model_truncate_1 ⟨Nat.le_of_ble_eq_true rfl, Nat.le_of_ble_eq_true rfl⟩) hS (fun q _ h => h) (fun q h => h) (fun r0 u t H locs ht hvm hw hB _ _ hS => ?_)
  subst r0
  have hP := kW_P hB ht
  refine lv_if_eq (tgt := 9) hx hb d_Model_truncate_4 (by decide) (fun h2 => ?_) (fun h2 => ?_)
  · have hJ := j_t hJ h2
    refine lv_aload_n hx hb d_Model_truncate_9 rfl (lv_at hl 0 rfl) ?_
    refine lv_iload_n hx hb d_Model_truncate_10 rfl (lv_at hl 1 rfl) ?_
    refine lv_iconst (v := (1 : Int32)) hx hb d_Model_truncate_11 (by decide) ?_
    obtain ⟨x3, e3, hJ⟩ := j_bind hJ
    refine va_calli (va_runV (As := [.int a1, .int (1 : Int32)]) (rest := []) ⟨hx, hb, hml, hown, htb⟩ (c_Model_is (l := l) (dC := dC) (dI := dI) hDa e3) (xcV 2 htb tw675 tw7 tw672 tw674 ts_Model_is rfl rfl hd_Model_is ⟨Nat.le_of_ble_eq_true rfl, Nat.le_of_ble_eq_true rfl⟩) (kW_V hP hK (va_recv (q0 := 0) (ci := 5) hK hP rfl rfl)) rfl rfl hl.1 rfl (lv_room (Nat.le_of_ble_eq_true rfl)) d_Model_truncate_12 ⟨Nat.le_of_ble_eq_true rfl, Nat.le_of_ble_eq_true rfl⟩) hS (fun q _ h => h) (fun q h => h) (fun r0 u t H locs ht hvm hw hB _ _ hS => ?_)
    subst r0
    have hP := kW_P hB ht
    refine lv_if_eq (tgt := 33) hx hb d_Model_truncate_15 (by decide) (fun h4 => ?_) (fun h4 => ?_)
    · have hJ := j_t hJ h4
      refine lv_iconst (v := (0 : Int32)) hx hb d_Model_truncate_33 (by decide) ?_
      have hJ := Option.some.inj hJ
      exact W.zret (v := (0 : Int32)) (ty := .boolean) hx hb hr (by decide +kernel) (fun t ht hW => ⟨⟨_, (), rfl, (j_p1 hJ), kW_end hP hK ht hW (congrArg (fun z => wR gr cB cI z) (j_p2 hJ))⟩, hS.F ht⟩) hS.2.2 d_Model_truncate_34
    · have hJ := j_f hJ h4
      refine lv_aload_n hx hb d_Model_truncate_18 rfl (lv_at hl 0 rfl) ?_
      refine lv_iload_n hx hb d_Model_truncate_19 rfl (lv_at hl 1 rfl) ?_
      obtain ⟨x5, e5, hJ⟩ := j_bind hJ
      refine va_calli (va_runV (As := [.int a1]) (rest := []) ⟨hx, hb, hml, hown, htb⟩ (c_Model_sizeOf (l := l) (dC := dC) (dI := dI) hDa e5) (xcV 1 htb tw704 tw7 tw701 tw703 ts_Model_sizeOf rfl rfl hd_Model_sizeOf ⟨Nat.le_of_ble_eq_true rfl, Nat.le_of_ble_eq_true rfl⟩) (kW_V hP hK (va_recv (q0 := 0) (ci := 5) hK hP rfl rfl)) rfl rfl hl.1 rfl (lv_room (Nat.le_of_ble_eq_true rfl)) d_Model_truncate_20 ⟨Nat.le_of_ble_eq_true rfl, Nat.le_of_ble_eq_true rfl⟩) hS (fun q _ h => h) (fun q h => h) (fun r0 u t H locs ht hvm hw hB _ _ hS => ?_)
      subst r0
      have hP := kW_P hB ht
      refine lv_if_eq (tgt := 33) hx hb d_Model_truncate_23 (by decide) (fun h6 => ?_) (fun h6 => ?_)
      · have hJ := j_t hJ h6
        refine lv_iconst (v := (0 : Int32)) hx hb d_Model_truncate_33 (by decide) ?_
        have hJ := Option.some.inj hJ
        exact W.zret (v := (0 : Int32)) (ty := .boolean) hx hb hr (by decide +kernel) (fun t ht hW => ⟨⟨_, (), rfl, (j_p1 hJ), kW_end hP hK ht hW (congrArg (fun z => wR gr cB cI z) (j_p2 hJ))⟩, hS.F ht⟩) hS.2.2 d_Model_truncate_34
      · have hJ := j_f hJ h6
        refine lv_aload_n hx hb d_Model_truncate_26 rfl (lv_at hl 0 rfl) ?_
        obtain ⟨x7, e7, hJ⟩ := j_bind hJ
        refine va_calli (va_runV (As := []) (rest := []) ⟨hx, hb, hml, hown, htb⟩ (c_Model_ready (l := l) (dC := dC) (dI := dI) hDa e7) (xcV 0 htb tw739 tw7 tw736 tw738 ts_Model_ready rfl rfl hd_Model_ready ⟨Nat.le_of_ble_eq_true rfl, Nat.le_of_ble_eq_true rfl⟩) (kW_V hP hK (va_recv (q0 := 0) (ci := 5) hK hP rfl rfl)) rfl rfl hl.1 rfl (lv_room (Nat.le_of_ble_eq_true rfl)) d_Model_truncate_27 ⟨Nat.le_of_ble_eq_true rfl, Nat.le_of_ble_eq_true rfl⟩) hS (fun q _ h => h) (fun q h => h) (fun r0 u t H locs ht hvm hw hB _ _ hS => ?_)
        subst r0
        have hP := kW_P hB ht
        refine lv_if_ne (tgt := 35) hx hb d_Model_truncate_30 (by decide) (fun h8 => ?_) (fun h8 => ?_)
        · have hJ := j_f hJ h8
          refine lv_aload_n hx hb d_Model_truncate_35 rfl (lv_at hl 0 rfl) ?_
          refine lv_iload_n hx hb d_Model_truncate_36 rfl (lv_at hl 1 rfl) ?_
          obtain ⟨x9, e9, hJ⟩ := j_bind hJ
          refine va_callv (va_runV (As := [.int a1]) (rest := []) ⟨hx, hb, hml, hown, htb⟩ (c_Model_release (l := l) (dC := dC) (dI := dI) hDa e9) (xcV 1 htb tw783 tw7 tw780 tw782 ts_Model_release rfl rfl hd_Model_release ⟨Nat.le_of_ble_eq_true rfl, Nat.le_of_ble_eq_true rfl⟩) (kW_V hP hK (va_recv (q0 := 0) (ci := 5) hK hP rfl rfl)) rfl rfl hl.1 rfl (lv_room (Nat.le_of_ble_eq_true rfl)) d_Model_truncate_37 ⟨Nat.le_of_ble_eq_true rfl, Nat.le_of_ble_eq_true rfl⟩) hS (fun q _ h => h) (fun q h => h) (fun u t H locs ht hvm hw hB _ _ hS => ?_)
          have hP := kW_P hB ht
          refine lv_aload_n hx hb d_Model_truncate_40 rfl (lv_at hl 0 rfl) ?_
          refine lv_iload_n hx hb d_Model_truncate_41 rfl (lv_at hl 1 rfl) ?_
          refine lv_iconst (v := (2 : Int32)) hx hb d_Model_truncate_42 (by decide) ?_
          obtain ⟨x10, e10, hJ⟩ := j_bind hJ
          refine va_callv (va_runV (As := [.int a1, .int (2 : Int32)]) (rest := []) ⟨hx, hb, hml, hown, htb⟩ (c_Model_clear (l := l) (dC := dC) (dI := dI) hDa e10) (xcV 2 htb tw791 tw7 tw788 tw790 ts_Model_clear rfl rfl hd_Model_clear ⟨Nat.le_of_ble_eq_true rfl, Nat.le_of_ble_eq_true rfl⟩) (kW_V hP hK (va_recv (q0 := 0) (ci := 5) hK hP rfl rfl)) rfl rfl hl.1 rfl (lv_room (Nat.le_of_ble_eq_true rfl)) d_Model_truncate_43 ⟨Nat.le_of_ble_eq_true rfl, Nat.le_of_ble_eq_true rfl⟩) hS (fun q _ h => h) (fun q h => h) (fun u t H locs ht hvm hw hB _ _ hS => ?_)
          have hP := kW_P hB ht
          refine lv_iconst (v := (1 : Int32)) hx hb d_Model_truncate_46 (by decide) ?_
          have hJ := Option.some.inj hJ
          exact W.zret (v := (1 : Int32)) (ty := .boolean) hx hb hr (by decide +kernel) (fun t ht hW => ⟨⟨_, (), rfl, (j_p1 hJ), kW_end hP hK ht hW (congrArg (fun z => wR gr cB cI z) (j_p2 hJ))⟩, hS.F ht⟩) hS.2.2 d_Model_truncate_47
        · have hJ := j_t hJ h8
          refine lv_iconst (v := (0 : Int32)) hx hb d_Model_truncate_33 (by decide) ?_
          have hJ := Option.some.inj hJ
          exact W.zret (v := (0 : Int32)) (ty := .boolean) hx hb hr (by decide +kernel) (fun t ht hW => ⟨⟨_, (), rfl, (j_p1 hJ), kW_end hP hK ht hW (congrArg (fun z => wR gr cB cI z) (j_p2 hJ))⟩, hS.F ht⟩) hS.2.2 d_Model_truncate_34
  · have hJ := j_f hJ h2
    refine lv_iconst (v := (0 : Int32)) hx hb d_Model_truncate_7 (by decide) ?_
    have hJ := Option.some.inj hJ
    exact W.zret (v := (0 : Int32)) (ty := .boolean) hx hb hr (by decide +kernel) (fun t ht hW => ⟨⟨_, (), rfl, (j_p1 hJ), kW_end hP hK ht hW (congrArg (fun z => wR gr cB cI z) (j_p2 hJ))⟩, hS.F ht⟩) hS.2.2 d_Model_truncate_8
def J_Model_find (σ : RS) (a1 : Int32) (a2 : Int64) : Option (Int32 × RS) :=
  (J_Model_dead σ).bind fun x1 => (if x1.1 = (0 : Int32) then (J_Model_isName x1.2 a2).bind fun x3 => (if x3.1 = (0 : Int32) then some (((-1) : Int32), x3.2) else (J_Model_is x3.2 a1 (2 : Int32)).bind fun x5 => (if x5 = (0 : Int32) then some (((-1) : Int32), x3.2) else (J_Model_findEntry x3.2 a1).bind fun x7 => (if (0 : Int32) ≤ x7 then (J_Model_contentAt x3.2 a1 x7).bind fun x9 => some ((x9 - (1 : Int32)), x3.2) else some (((-1) : Int32), x3.2)))) else some ((0 : Int32), x1.2))
abbrev rm_Model_find : Room := { frames := 5, cells := 0, slots := 0, locals := 113 }
set_option maxHeartbeats 4000000 in
set_option maxRecDepth 100000 in
theorem c_Model_find {l : Launch} {dC : Nat → ClassId} {dI : Nat → Nat → Nat} {gr : Nat → Nat} {cB cI : ClassId} {A : Nat → Prop} (hDa : ∀ σ, va_D A (wR gr cB cI σ)) {σ : RS} {a1 : Int32} {a2 : Int64} {res : Int32 × RS} (hJ : J_Model_find σ a1 a2 = some res) :
    Met l y_Model_find (mw y_Model_find b_Model_find 5 (some .int)) rm_Model_find (va_Pc [.ref (gr 0), .int a1, .long a2] (kW (dC, dI) (tC cB cI) (wR gr cB cI σ))) (va_Qi (fun (x : Int32) (_ : Unit) => x = res.1) (fun _ t => kW (dC, dI) (tC cB cI) (wR gr cB cI res.2) t) A) 0 0 A := by
  refine Met.ofW (cc := b_Model_find) (maxL := 5) (ret := (some .int)) (by decide) rfl ?_
  intro p e s m args below meth c s₁ B hml hv
  obtain ⟨rfl, hP, hK⟩ := hv
  have hx := B.exec
  have hb := B.bytes
  have hr := B.returns
  have hts := atoms_spec (ws := (mw y_Model_find b_Model_find 5 (some .int))) B.pre
  have htb : ∀ w ∈ tb, w.before [.ref (gr 0), .int a1, .long a2].toArray s = true := fun w h => hts w (mwIn h)
  have hown : s.vm.findClass "LogFsModel" = some m.cls := findClass_of_methodNamed B.named
  have hlocks := B.notSynchronized
  have hS : va_S A s.heap s.heap [] := va_S.rf
  have hl := lv_entry ([.ref (gr 0), .int a1, .long a2]) (n := 5) (Nat.le_of_ble_eq_true rfl)
  rw [lg_entry_eq]
  generalize (lg_sl ([.ref (gr 0), .int a1, .long a2]) ++ List.replicate (5 - (lg_sl ([.ref (gr 0), .int a1, .long a2])).length) Slot.unset).toArray = ls at hl ⊢
  have hl : lv_has ls 5 [(0, .ref (gr 0)), (1, .int a1), (2, .long a2)] := hl
  unfold J_Model_find at hJ
  refine lv_aload_n hx hb d_Model_find_0 rfl (lv_at hl 0 rfl) ?_
  obtain ⟨x1, e1, hJ⟩ := j_bind hJ
  refine va_calli (va_runV (As := []) (rest := []) ⟨hx, hb, hml, hown, htb⟩ (c_Model_dead (l := l) (dC := dC) (dI := dI) hDa e1) (xcV 0 htb tw638 tw7 tw635 tw637 ts_Model_dead rfl rfl hd_Model_dead ⟨Nat.le_of_ble_eq_true rfl, Nat.le_of_ble_eq_true rfl⟩) (kW_V hP hK (va_recv (q0 := 0) (ci := 5) hK hP rfl rfl)) rfl rfl hl.1 rfl (lv_room (Nat.le_of_ble_eq_true rfl)) d_Model_find_1 ⟨Nat.le_of_ble_eq_true rfl, Nat.le_of_ble_eq_true rfl⟩) hS (fun q _ h => h) (fun q h => h) (fun r0 u t H locs ht hvm hw hB _ _ hS => ?_)
  subst r0
  have hP := kW_P hB ht
  refine lv_if_eq (tgt := 9) hx hb d_Model_find_4 (by decide) (fun h2 => ?_) (fun h2 => ?_)
  · have hJ := j_t hJ h2
    refine lv_aload_n hx hb d_Model_find_9 rfl (lv_at hl 0 rfl) ?_
    refine lv_lload_n hx hb d_Model_find_10 rfl (lv_at hl 2 rfl) ?_
    obtain ⟨x3, e3, hJ⟩ := j_bind hJ
    refine va_calli (va_runV (As := [.long a2]) (rest := []) ⟨hx, hb, hml, hown, htb⟩ (c_Model_isName (l := l) (dC := dC) (dI := dI) hDa e3) (xcV 1 htb tw670 tw7 tw667 tw669 ts_Model_isName rfl rfl hd_Model_isName ⟨Nat.le_of_ble_eq_true rfl, Nat.le_of_ble_eq_true rfl⟩) (kW_V hP hK (va_recv (q0 := 0) (ci := 5) hK hP rfl rfl)) rfl rfl hl.1 rfl (lv_room (Nat.le_of_ble_eq_true rfl)) d_Model_find_11 ⟨Nat.le_of_ble_eq_true rfl, Nat.le_of_ble_eq_true rfl⟩) hS (fun q _ h => h) (fun q h => h) (fun r0 u t H locs ht hvm hw hB _ _ hS => ?_)
    subst r0
    have hP := kW_P hB ht
    refine lv_if_eq (tgt := 26) hx hb d_Model_find_14 (by decide) (fun h4 => ?_) (fun h4 => ?_)
    · have hJ := j_t hJ h4
      refine lv_iconst (v := ((-1) : Int32)) hx hb d_Model_find_26 (by decide) ?_
      have hJ := Option.some.inj hJ
      exact W.iret (v := ((-1) : Int32)) hx hb hr (fun t ht hW => ⟨⟨_, (), rfl, (j_p1 hJ), kW_end hP hK ht hW (congrArg (fun z => wR gr cB cI z) (j_p2 hJ))⟩, hS.F ht⟩) hS.2.2 d_Model_find_27
    · have hJ := j_f hJ h4
      refine lv_aload_n hx hb d_Model_find_17 rfl (lv_at hl 0 rfl) ?_
      refine lv_iload_n hx hb d_Model_find_18 rfl (lv_at hl 1 rfl) ?_
      refine lv_iconst (v := (2 : Int32)) hx hb d_Model_find_19 (by decide) ?_
      obtain ⟨x5, e5, hJ⟩ := j_bind hJ
      refine va_calli (va_runV (As := [.int a1, .int (2 : Int32)]) (rest := []) ⟨hx, hb, hml, hown, htb⟩ (c_Model_is (l := l) (dC := dC) (dI := dI) hDa e5) (xcV 2 htb tw675 tw7 tw672 tw674 ts_Model_is rfl rfl hd_Model_is ⟨Nat.le_of_ble_eq_true rfl, Nat.le_of_ble_eq_true rfl⟩) (kW_V hP hK (va_recv (q0 := 0) (ci := 5) hK hP rfl rfl)) rfl rfl hl.1 rfl (lv_room (Nat.le_of_ble_eq_true rfl)) d_Model_find_20 ⟨Nat.le_of_ble_eq_true rfl, Nat.le_of_ble_eq_true rfl⟩) hS (fun q _ h => h) (fun q h => h) (fun r0 u t H locs ht hvm hw hB _ _ hS => ?_)
      subst r0
      have hP := kW_P hB ht
      refine lv_if_ne (tgt := 28) hx hb d_Model_find_23 (by decide) (fun h6 => ?_) (fun h6 => ?_)
      · have hJ := j_f hJ h6
        refine lv_aload_n hx hb d_Model_find_28 rfl (lv_at hl 0 rfl) ?_
        refine lv_iload_n hx hb d_Model_find_29 rfl (lv_at hl 1 rfl) ?_
        obtain ⟨x7, e7, hJ⟩ := j_bind hJ
        refine va_calli (va_runV (As := [.int a1]) (rest := []) ⟨hx, hb, hml, hown, htb⟩ (c_Model_findEntry (l := l) (dC := dC) (dI := dI) hDa e7) (xcV 1 htb tw716 tw7 tw713 tw715 ts_Model_findEntry rfl rfl hd_Model_findEntry ⟨Nat.le_of_ble_eq_true rfl, Nat.le_of_ble_eq_true rfl⟩) (kW_V hP hK (va_recv (q0 := 0) (ci := 5) hK hP rfl rfl)) rfl rfl hl.1 rfl (lv_room (Nat.le_of_ble_eq_true rfl)) d_Model_find_30 ⟨Nat.le_of_ble_eq_true rfl, Nat.le_of_ble_eq_true rfl⟩) hS (fun q _ h => h) (fun q h => h) (fun r0 u t H locs ht hvm hw hB _ _ hS => ?_)
        subst r0
        have hP := kW_P hB ht
        refine lv_istore hx hb d_Model_find_33 hl (Nat.le_of_ble_eq_true rfl) rfl (fun ls hl => ?_)
        have hl : lv_has ls 5 [(4, .int x7), (0, .ref (gr 0)), (1, .int a1), (2, .long a2)] := hl
        refine lv_iload hx hb d_Model_find_35 (lv_at hl 0 rfl) ?_
        refine lv_if_ge (tgt := 44) hx hb d_Model_find_37 (by decide) (fun h8 => ?_) (fun h8 => ?_)
        · have hJ := j_t hJ h8
          refine lv_aload_n hx hb d_Model_find_44 rfl (lv_at hl 1 rfl) ?_
          refine lv_iload_n hx hb d_Model_find_45 rfl (lv_at hl 2 rfl) ?_
          refine lv_iload hx hb d_Model_find_46 (lv_at hl 0 rfl) ?_
          obtain ⟨x9, e9, hJ⟩ := j_bind hJ
          refine va_calli (va_runV (As := [.int a1, .int x7]) (rest := []) ⟨hx, hb, hml, hown, htb⟩ (c_Model_contentAt (l := l) (dC := dC) (dI := dI) hDa e9) (xcV 2 htb tw708 tw7 tw705 tw707 ts_Model_contentAt rfl rfl hd_Model_contentAt ⟨Nat.le_of_ble_eq_true rfl, Nat.le_of_ble_eq_true rfl⟩) (kW_V hP hK (va_recv (q0 := 0) (ci := 5) hK hP rfl rfl)) rfl rfl hl.1 rfl (lv_room (Nat.le_of_ble_eq_true rfl)) d_Model_find_48 ⟨Nat.le_of_ble_eq_true rfl, Nat.le_of_ble_eq_true rfl⟩) hS (fun q _ h => h) (fun q h => h) (fun r0 u t H locs ht hvm hw hB _ _ hS => ?_)
          subst r0
          have hP := kW_P hB ht
          refine lv_iconst (v := (1 : Int32)) hx hb d_Model_find_51 (by decide) ?_
          refine lv_isub hx hb d_Model_find_52 ?_
          have hJ := Option.some.inj hJ
          exact W.iret (v := (x9 - (1 : Int32))) hx hb hr (fun t ht hW => ⟨⟨_, (), rfl, (j_p1 hJ), kW_end hP hK ht hW (congrArg (fun z => wR gr cB cI z) (j_p2 hJ))⟩, hS.F ht⟩) hS.2.2 d_Model_find_53
        · have hJ := j_f hJ h8
          refine lv_iconst (v := ((-1) : Int32)) hx hb d_Model_find_40 (by decide) ?_
          refine lv_goto (tgt := 53) hx hb d_Model_find_41 (by decide) ?_
          have hJ := Option.some.inj hJ
          exact W.iret (v := ((-1) : Int32)) hx hb hr (fun t ht hW => ⟨⟨_, (), rfl, (j_p1 hJ), kW_end hP hK ht hW (congrArg (fun z => wR gr cB cI z) (j_p2 hJ))⟩, hS.F ht⟩) hS.2.2 d_Model_find_53
      · have hJ := j_t hJ h6
        refine lv_iconst (v := ((-1) : Int32)) hx hb d_Model_find_26 (by decide) ?_
        have hJ := Option.some.inj hJ
        exact W.iret (v := ((-1) : Int32)) hx hb hr (fun t ht hW => ⟨⟨_, (), rfl, (j_p1 hJ), kW_end hP hK ht hW (congrArg (fun z => wR gr cB cI z) (j_p2 hJ))⟩, hS.F ht⟩) hS.2.2 d_Model_find_27
  · have hJ := j_f hJ h2
    refine lv_iconst (v := (0 : Int32)) hx hb d_Model_find_7 (by decide) ?_
    have hJ := Option.some.inj hJ
    exact W.iret (v := (0 : Int32)) hx hb hr (fun t ht hW => ⟨⟨_, (), rfl, (j_p1 hJ), kW_end hP hK ht hW (congrArg (fun z => wR gr cB cI z) (j_p2 hJ))⟩, hS.F ht⟩) hS.2.2 d_Model_find_8
def J_Model_read_46 (σ : RS) (v1 : Int32) (v2 : Int32) (t1 : Int32) : Option (Int32 × RS) :=
  (if (r_t (q_t σ t1)) ≤ (0 : Int32) then (J_Model_contentAt (q_t σ t1) v1 v2).bind fun x6 => some (x6, (q_t σ t1)) else some ((0 : Int32), (q_t σ t1)))
def J_Model_read_45 (σ : RS) (v1 : Int32) (v2 : Int32) : Option (Int32 × RS) :=
  J_Model_read_46 σ v1 v2 (2 : Int32)
def J_Model_read_35 (σ : RS) (v1 : Int32) (v2 : Int32) (t3 : Int32) (t1 : Int32) : Option (Int32 × RS) :=
  (J_Model_sizeOf σ t3).bind fun x10 => (if x10 ≤ t1 then J_Model_read_45 σ v1 v2 else J_Model_read_46 σ v1 v2 (0 : Int32))
def J_Model_read (σ : RS) (a1 : Int32) (a2 : Int32) : Option (Int32 × RS) :=
  (J_Model_dead σ).bind fun x1 => (if x1.1 = (0 : Int32) then (J_Model_isInode a1).bind fun x3 => (if x3 = (0 : Int32) then J_Model_read_45 x1.2 a1 a2 else (if a2 < (0 : Int32) then J_Model_read_45 x1.2 a1 a2 else (J_Model_isInode a1).bind fun x8 => (if x8 = (0 : Int32) then J_Model_read_35 x1.2 a1 a2 (0 : Int32) a2 else J_Model_read_35 x1.2 a1 a2 a1 a2))) else some ((0 : Int32), x1.2))
abbrev rm_Model_read : Room := { frames := 4, cells := 0, slots := 0, locals := 88 }
set_option maxHeartbeats 4000000 in
set_option maxRecDepth 100000 in
theorem c_Model_read {l : Launch} {dC : Nat → ClassId} {dI : Nat → Nat → Nat} {gr : Nat → Nat} {cB cI : ClassId} {A : Nat → Prop} (hDa : ∀ σ, va_D A (wR gr cB cI σ)) {σ : RS} {a1 : Int32} {a2 : Int32} {res : Int32 × RS} (hJ : J_Model_read σ a1 a2 = some res) :
    Met l y_Model_read (mw y_Model_read b_Model_read 3 (some .int)) rm_Model_read (va_Pc [.ref (gr 0), .int a1, .int a2] (kW (dC, dI) (tC cB cI) (wR gr cB cI σ))) (va_Qi (fun (x : Int32) (_ : Unit) => x = res.1) (fun _ t => kW (dC, dI) (tC cB cI) (wR gr cB cI res.2) t) A) 0 0 A := by
  refine Met.ofW (cc := b_Model_read) (maxL := 3) (ret := (some .int)) (by decide) rfl ?_
  intro p e s m args below meth c s₁ B hml hv
  obtain ⟨rfl, hP, hK⟩ := hv
  have hx := B.exec
  have hb := B.bytes
  have hr := B.returns
  have hts := atoms_spec (ws := (mw y_Model_read b_Model_read 3 (some .int))) B.pre
  have htb : ∀ w ∈ tb, w.before [.ref (gr 0), .int a1, .int a2].toArray s = true := fun w h => hts w (mwIn h)
  have hown : s.vm.findClass "LogFsModel" = some m.cls := findClass_of_methodNamed B.named
  have hlocks := B.notSynchronized
  have hS : va_S A s.heap s.heap [] := va_S.rf
  have hl := lv_entry ([.ref (gr 0), .int a1, .int a2]) (n := 3) (Nat.le_of_ble_eq_true rfl)
  rw [lg_entry_eq]
  generalize (lg_sl ([.ref (gr 0), .int a1, .int a2]) ++ List.replicate (3 - (lg_sl ([.ref (gr 0), .int a1, .int a2])).length) Slot.unset).toArray = ls at hl ⊢
  have hl : lv_has ls 3 [(0, .ref (gr 0)), (1, .int a1), (2, .int a2)] := hl
  have blk46 : ∀ (σ : RS) (v1 : Int32) (v2 : Int32) (t1 : Int32) (ls : Array Slot) (H : Heap) (locs : List Loc), J_Model_read_46 σ v1 v2 t1 = some res → lv_has ls 3 [(0, .ref (gr 0)), (1, .int v1), (2, .int v2)] → va_P (dC, dI) cls (wR gr cB cI σ) H → va_S A s.heap H locs → W p l e (headSpec (mw y_Model_read b_Model_read 3 (some .int)) rm_Model_read).room s m [.ref (gr 0), .int a1, .int a2].toArray below meth c H locs 0 0 (MQ below (va_Qi (fun (x : Int32) (_ : Unit) => x = res.1) (fun _ t => kW (dC, dI) (tC cB cI) (wR gr cB cI res.2) t) A) [.ref (gr 0), .int a1, .int a2].toArray s 0 0 A) (F0 m 46 ls [.int t1, .ref (gr 0)]) := by
    intro σ v1 v2 t1 ls H locs hJ hl hP hS
    unfold J_Model_read_46 at hJ
    refine va_put (D := (dC, dI)) (ci := 5) (v := .int t1) (ty := .int) (C := R_Model) (T := T_Model) (N := 12) hx hb htb uin_Model t_Model t_Model_ok n_Model hown hK hP (hDa _) hS 0 rfl rfl 0 (by decide) (htb _ tw590) (fun _ h9 => h9) rfl (by decide +kernel) rfl rfl (Nat.le_of_ble_eq_true rfl) d_Model_read_46 (fun H locs hP _ hS => ?_)
    have hP : va_P (dC, dI) cls (wR gr cB cI (q_t σ t1)) H := hP
    refine lv_aload_n hx hb d_Model_read_49 rfl (lv_at hl 0 rfl) ?_
    refine va_get (D := (dC, dI)) (ci := 5) (v := .int (r_t (q_t σ t1))) (C := R_Model) (T := T_Model) (N := 12) hx hb htb uin_Model hown hK hP 0 rfl rfl 0 (by decide) (htb _ tw590) (fun _ h9 => h9) rfl d_Model_read_50 ?_
    refine lv_if_le (tgt := 60) hx hb d_Model_read_53 (by decide) (fun h5 => ?_) (fun h5 => ?_)
    · have hJ := j_t hJ h5
      refine lv_aload_n hx hb d_Model_read_60 rfl (lv_at hl 0 rfl) ?_
      refine lv_iload_n hx hb d_Model_read_61 rfl (lv_at hl 1 rfl) ?_
      refine lv_iload_n hx hb d_Model_read_62 rfl (lv_at hl 2 rfl) ?_
      obtain ⟨x6, e6, hJ⟩ := j_bind hJ
      refine va_calli (va_runV (As := [.int v1, .int v2]) (rest := []) ⟨hx, hb, hml, hown, htb⟩ (c_Model_contentAt (l := l) (dC := dC) (dI := dI) hDa e6) (xcV 2 htb tw708 tw7 tw705 tw707 ts_Model_contentAt rfl rfl hd_Model_contentAt ⟨Nat.le_of_ble_eq_true rfl, Nat.le_of_ble_eq_true rfl⟩) (kW_V hP hK (va_recv (q0 := 0) (ci := 5) hK hP rfl rfl)) rfl rfl hl.1 rfl (lv_room (Nat.le_of_ble_eq_true rfl)) d_Model_read_63 ⟨Nat.le_of_ble_eq_true rfl, Nat.le_of_ble_eq_true rfl⟩) hS (fun q _ h => h) (fun q h => h) (fun r0 u t H locs ht hvm hw hB _ _ hS => ?_)
      subst r0
      have hP := kW_P hB ht
      have hJ := Option.some.inj hJ
      exact W.iret (v := x6) hx hb hr (fun t ht hW => ⟨⟨_, (), rfl, (j_p1 hJ), kW_end hP hK ht hW (congrArg (fun z => wR gr cB cI z) (j_p2 hJ))⟩, hS.F ht⟩) hS.2.2 d_Model_read_66
    · have hJ := j_f hJ h5
      refine lv_iconst (v := (0 : Int32)) hx hb d_Model_read_56 (by decide) ?_
      refine lv_goto (tgt := 66) hx hb d_Model_read_57 (by decide) ?_
      have hJ := Option.some.inj hJ
      exact W.iret (v := (0 : Int32)) hx hb hr (fun t ht hW => ⟨⟨_, (), rfl, (j_p1 hJ), kW_end hP hK ht hW (congrArg (fun z => wR gr cB cI z) (j_p2 hJ))⟩, hS.F ht⟩) hS.2.2 d_Model_read_66
  have blk45 : ∀ (σ : RS) (v1 : Int32) (v2 : Int32) (ls : Array Slot) (H : Heap) (locs : List Loc), J_Model_read_45 σ v1 v2 = some res → lv_has ls 3 [(0, .ref (gr 0)), (1, .int v1), (2, .int v2)] → va_P (dC, dI) cls (wR gr cB cI σ) H → va_S A s.heap H locs → W p l e (headSpec (mw y_Model_read b_Model_read 3 (some .int)) rm_Model_read).room s m [.ref (gr 0), .int a1, .int a2].toArray below meth c H locs 0 0 (MQ below (va_Qi (fun (x : Int32) (_ : Unit) => x = res.1) (fun _ t => kW (dC, dI) (tC cB cI) (wR gr cB cI res.2) t) A) [.ref (gr 0), .int a1, .int a2].toArray s 0 0 A) (F0 m 45 ls [.ref (gr 0)]) := by
    intro σ v1 v2 ls H locs hJ hl hP hS
    unfold J_Model_read_45 at hJ
    refine lv_iconst (v := (2 : Int32)) hx hb d_Model_read_45 (by decide) ?_
    exact blk46 _ _ _ _ _ _ _ hJ (lv_sub hl [0, 1, 2] rfl) hP hS
  have blk35 : ∀ (σ : RS) (v1 : Int32) (v2 : Int32) (t3 : Int32) (t1 : Int32) (ls : Array Slot) (H : Heap) (locs : List Loc), J_Model_read_35 σ v1 v2 t3 t1 = some res → lv_has ls 3 [(0, .ref (gr 0)), (1, .int v1), (2, .int v2)] → va_P (dC, dI) cls (wR gr cB cI σ) H → va_S A s.heap H locs → W p l e (headSpec (mw y_Model_read b_Model_read 3 (some .int)) rm_Model_read).room s m [.ref (gr 0), .int a1, .int a2].toArray below meth c H locs 0 0 (MQ below (va_Qi (fun (x : Int32) (_ : Unit) => x = res.1) (fun _ t => kW (dC, dI) (tC cB cI) (wR gr cB cI res.2) t) A) [.ref (gr 0), .int a1, .int a2].toArray s 0 0 A) (F0 m 35 ls [.int t3, .ref (gr 0), .int t1, .ref (gr 0)]) := by
    intro σ v1 v2 t3 t1 ls H locs hJ hl hP hS
    unfold J_Model_read_35 at hJ
    obtain ⟨x10, e10, hJ⟩ := j_bind hJ
    refine va_calli (va_runV (As := [.int t3]) (rest := [.int t1, .ref (gr 0)]) ⟨hx, hb, hml, hown, htb⟩ (c_Model_sizeOf (l := l) (dC := dC) (dI := dI) hDa e10) (xcV 1 htb tw704 tw7 tw701 tw703 ts_Model_sizeOf rfl rfl hd_Model_sizeOf ⟨Nat.le_of_ble_eq_true rfl, Nat.le_of_ble_eq_true rfl⟩) (kW_V hP hK (va_recv (q0 := 0) (ci := 5) hK hP rfl rfl)) rfl rfl hl.1 rfl (lv_room (Nat.le_of_ble_eq_true rfl)) d_Model_read_35 ⟨Nat.le_of_ble_eq_true rfl, Nat.le_of_ble_eq_true rfl⟩) hS (fun q _ h => h) (fun q h => h) (fun r0 u t H locs ht hvm hw hB _ _ hS => ?_)
    subst r0
    have hP := kW_P hB ht
    refine lv_icmp_ge (tgt := 45) hx hb d_Model_read_38 (by decide) (fun h11 => ?_) (fun h11 => ?_)
    · have hJ := j_t hJ h11
      exact blk45 _ _ _ _ _ _ hJ (lv_sub hl [0, 1, 2] rfl) hP hS
    · have hJ := j_f hJ h11
      refine lv_iconst (v := (0 : Int32)) hx hb d_Model_read_41 (by decide) ?_
      refine lv_goto (tgt := 46) hx hb d_Model_read_42 (by decide) ?_
      exact blk46 _ _ _ _ _ _ _ hJ (lv_sub hl [0, 1, 2] rfl) hP hS
  unfold J_Model_read at hJ
  refine lv_aload_n hx hb d_Model_read_0 rfl (lv_at hl 0 rfl) ?_
  obtain ⟨x1, e1, hJ⟩ := j_bind hJ
  refine va_calli (va_runV (As := []) (rest := []) ⟨hx, hb, hml, hown, htb⟩ (c_Model_dead (l := l) (dC := dC) (dI := dI) hDa e1) (xcV 0 htb tw638 tw7 tw635 tw637 ts_Model_dead rfl rfl hd_Model_dead ⟨Nat.le_of_ble_eq_true rfl, Nat.le_of_ble_eq_true rfl⟩) (kW_V hP hK (va_recv (q0 := 0) (ci := 5) hK hP rfl rfl)) rfl rfl hl.1 rfl (lv_room (Nat.le_of_ble_eq_true rfl)) d_Model_read_1 ⟨Nat.le_of_ble_eq_true rfl, Nat.le_of_ble_eq_true rfl⟩) hS (fun q _ h => h) (fun q h => h) (fun r0 u t H locs ht hvm hw hB _ _ hS => ?_)
  subst r0
  have hP := kW_P hB ht
  refine lv_if_eq (tgt := 9) hx hb d_Model_read_4 (by decide) (fun h2 => ?_) (fun h2 => ?_)
  · have hJ := j_t hJ h2
    refine lv_aload_n hx hb d_Model_read_9 rfl (lv_at hl 0 rfl) ?_
    refine lv_iload_n hx hb d_Model_read_10 rfl (lv_at hl 1 rfl) ?_
    obtain ⟨x3, e3, hJ⟩ := j_bind hJ
    refine va_calli (va_runS (As := [.int a1]) (rest := [.ref (gr 0)]) ⟨hx, hb, hml, hown, htb⟩ (c_Model_isInode (l := l) (dC := dC) (dI := dI) (σ := x1.2) hDa e3) (xcS 1 htb tw678 tw7 tw676 tw677 rfl rfl hd_Model_isInode ⟨Nat.le_of_ble_eq_true rfl, Nat.le_of_ble_eq_true rfl⟩) (kW_S hP hK) rfl rfl hl.1 rfl (lv_room (Nat.le_of_ble_eq_true rfl)) d_Model_read_11 ⟨Nat.le_of_ble_eq_true rfl, Nat.le_of_ble_eq_true rfl⟩) hS (fun q _ h => h) (fun q h => h) (fun r0 u t H locs ht hvm hw hB _ _ hS => ?_)
    subst r0
    have hP := kW_P hB ht
    refine lv_if_eq (tgt := 45) hx hb d_Model_read_14 (by decide) (fun h4 => ?_) (fun h4 => ?_)
    · have hJ := j_t hJ h4
      exact blk45 _ _ _ _ _ _ hJ (lv_sub hl [0, 1, 2] rfl) hP hS
    · have hJ := j_f hJ h4
      refine lv_iload_n hx hb d_Model_read_17 rfl (lv_at hl 2 rfl) ?_
      refine lv_if_lt (tgt := 45) hx hb d_Model_read_18 (by decide) (fun h7 => ?_) (fun h7 => ?_)
      · have hJ := j_t hJ h7
        exact blk45 _ _ _ _ _ _ hJ (lv_sub hl [0, 1, 2] rfl) hP hS
      · have hJ := j_f hJ h7
        refine lv_iload_n hx hb d_Model_read_21 rfl (lv_at hl 2 rfl) ?_
        refine lv_aload_n hx hb d_Model_read_22 rfl (lv_at hl 0 rfl) ?_
        refine lv_iload_n hx hb d_Model_read_23 rfl (lv_at hl 1 rfl) ?_
        obtain ⟨x8, e8, hJ⟩ := j_bind hJ
        refine va_calli (va_runS (As := [.int a1]) (rest := [.ref (gr 0), .int a2, .ref (gr 0)]) ⟨hx, hb, hml, hown, htb⟩ (c_Model_isInode (l := l) (dC := dC) (dI := dI) (σ := x1.2) hDa e8) (xcS 1 htb tw678 tw7 tw676 tw677 rfl rfl hd_Model_isInode ⟨Nat.le_of_ble_eq_true rfl, Nat.le_of_ble_eq_true rfl⟩) (kW_S hP hK) rfl rfl hl.1 rfl (lv_room (Nat.le_of_ble_eq_true rfl)) d_Model_read_24 ⟨Nat.le_of_ble_eq_true rfl, Nat.le_of_ble_eq_true rfl⟩) hS (fun q _ h => h) (fun q h => h) (fun r0 u t H locs ht hvm hw hB _ _ hS => ?_)
        subst r0
        have hP := kW_P hB ht
        refine lv_if_eq (tgt := 34) hx hb d_Model_read_27 (by decide) (fun h9 => ?_) (fun h9 => ?_)
        · have hJ := j_t hJ h9
          refine lv_iconst (v := (0 : Int32)) hx hb d_Model_read_34 (by decide) ?_
          exact blk35 _ _ _ _ _ _ _ _ hJ (lv_sub hl [0, 1, 2] rfl) hP hS
        · have hJ := j_f hJ h9
          refine lv_iload_n hx hb d_Model_read_30 rfl (lv_at hl 1 rfl) ?_
          refine lv_goto (tgt := 35) hx hb d_Model_read_31 (by decide) ?_
          exact blk35 _ _ _ _ _ _ _ _ hJ (lv_sub hl [0, 1, 2] rfl) hP hS
  · have hJ := j_f hJ h2
    refine lv_iconst (v := (0 : Int32)) hx hb d_Model_read_7 (by decide) ?_
    have hJ := Option.some.inj hJ
    exact W.iret (v := (0 : Int32)) hx hb hr (fun t ht hW => ⟨⟨_, (), rfl, (j_p1 hJ), kW_end hP hK ht hW (congrArg (fun z => wR gr cB cI z) (j_p2 hJ))⟩, hS.F ht⟩) hS.2.2 d_Model_read_8
def J_Model_look_31 (σ : RS) (v1 : Int32) (v2 : Int32) (t1 : Int32) : Option (Int32 × RS) :=
  (if (r_t (q_t σ t1)) ≤ (0 : Int32) then (if v2 = (0 : Int32) then (J_Model_inodeAt (q_t σ t1) v1 (0 : Int32)).bind fun x7 => some (x7, (q_t σ t1)) else (if v2 = (1 : Int32) then (J_Model_inodeAt (q_t σ t1) v1 (1 : Int32)).bind fun x9 => some (x9, (q_t σ t1)) else (if v2 = (2 : Int32) then (J_Model_sizeOf (q_t σ t1) v1).bind fun x11 => some (x11, (q_t σ t1)) else (if v2 = (3 : Int32) then (J_Model_sizeOf (q_t σ t1) v1).bind fun x13 => (J_Model_blocksFor x13).bind fun x14 => some (x14, (q_t σ t1)) else (J_Model_is (q_t σ t1) v1 (2 : Int32)).bind fun x15 => (if x15 = (0 : Int32) then some ((0 : Int32), (q_t σ t1)) else (J_Model_entries (q_t σ t1) v1).bind fun x17 => some (x17, (q_t σ t1))))))) else some ((0 : Int32), (q_t σ t1)))
def J_Model_look_30 (σ : RS) (v1 : Int32) (v2 : Int32) : Option (Int32 × RS) :=
  J_Model_look_31 σ v1 v2 (2 : Int32)
def J_Model_look (σ : RS) (a1 : Int32) (a2 : Int32) : Option (Int32 × RS) :=
  (J_Model_dead σ).bind fun x1 => (if x1.1 = (0 : Int32) then (J_Model_isInode a1).bind fun x3 => (if x3 = (0 : Int32) then J_Model_look_30 x1.2 a1 a2 else (if a2 < (0 : Int32) then J_Model_look_30 x1.2 a1 a2 else (if (5 : Int32) ≤ a2 then J_Model_look_30 x1.2 a1 a2 else J_Model_look_31 x1.2 a1 a2 (0 : Int32)))) else some ((0 : Int32), x1.2))
abbrev rm_Model_look : Room := { frames := 5, cells := 0, slots := 0, locals := 111 }
set_option maxHeartbeats 4000000 in
set_option maxRecDepth 100000 in
theorem c_Model_look {l : Launch} {dC : Nat → ClassId} {dI : Nat → Nat → Nat} {gr : Nat → Nat} {cB cI : ClassId} {A : Nat → Prop} (hDa : ∀ σ, va_D A (wR gr cB cI σ)) {σ : RS} {a1 : Int32} {a2 : Int32} {res : Int32 × RS} (hJ : J_Model_look σ a1 a2 = some res) :
    Met l y_Model_look (mw y_Model_look b_Model_look 3 (some .int)) rm_Model_look (va_Pc [.ref (gr 0), .int a1, .int a2] (kW (dC, dI) (tC cB cI) (wR gr cB cI σ))) (va_Qi (fun (x : Int32) (_ : Unit) => x = res.1) (fun _ t => kW (dC, dI) (tC cB cI) (wR gr cB cI res.2) t) A) 0 0 A := by
  refine Met.ofW (cc := b_Model_look) (maxL := 3) (ret := (some .int)) (by decide) rfl ?_
  intro p e s m args below meth c s₁ B hml hv
  obtain ⟨rfl, hP, hK⟩ := hv
  have hx := B.exec
  have hb := B.bytes
  have hr := B.returns
  have hts := atoms_spec (ws := (mw y_Model_look b_Model_look 3 (some .int))) B.pre
  have htb : ∀ w ∈ tb, w.before [.ref (gr 0), .int a1, .int a2].toArray s = true := fun w h => hts w (mwIn h)
  have hown : s.vm.findClass "LogFsModel" = some m.cls := findClass_of_methodNamed B.named
  have hlocks := B.notSynchronized
  have hS : va_S A s.heap s.heap [] := va_S.rf
  have hl := lv_entry ([.ref (gr 0), .int a1, .int a2]) (n := 3) (Nat.le_of_ble_eq_true rfl)
  rw [lg_entry_eq]
  generalize (lg_sl ([.ref (gr 0), .int a1, .int a2]) ++ List.replicate (3 - (lg_sl ([.ref (gr 0), .int a1, .int a2])).length) Slot.unset).toArray = ls at hl ⊢
  have hl : lv_has ls 3 [(0, .ref (gr 0)), (1, .int a1), (2, .int a2)] := hl
  have blk31 : ∀ (σ : RS) (v1 : Int32) (v2 : Int32) (t1 : Int32) (ls : Array Slot) (H : Heap) (locs : List Loc), J_Model_look_31 σ v1 v2 t1 = some res → lv_has ls 3 [(0, .ref (gr 0)), (1, .int v1), (2, .int v2)] → va_P (dC, dI) cls (wR gr cB cI σ) H → va_S A s.heap H locs → W p l e (headSpec (mw y_Model_look b_Model_look 3 (some .int)) rm_Model_look).room s m [.ref (gr 0), .int a1, .int a2].toArray below meth c H locs 0 0 (MQ below (va_Qi (fun (x : Int32) (_ : Unit) => x = res.1) (fun _ t => kW (dC, dI) (tC cB cI) (wR gr cB cI res.2) t) A) [.ref (gr 0), .int a1, .int a2].toArray s 0 0 A) (F0 m 31 ls [.int t1, .ref (gr 0)]) := by
    intro σ v1 v2 t1 ls H locs hJ hl hP hS
    unfold J_Model_look_31 at hJ
    refine va_put (D := (dC, dI)) (ci := 5) (v := .int t1) (ty := .int) (C := R_Model) (T := T_Model) (N := 12) hx hb htb uin_Model t_Model t_Model_ok n_Model hown hK hP (hDa _) hS 0 rfl rfl 0 (by decide) (htb _ tw590) (fun _ h9 => h9) rfl (by decide +kernel) rfl rfl (Nat.le_of_ble_eq_true rfl) d_Model_look_31 (fun H locs hP _ hS => ?_)
    have hP : va_P (dC, dI) cls (wR gr cB cI (q_t σ t1)) H := hP
    refine lv_aload_n hx hb d_Model_look_34 rfl (lv_at hl 0 rfl) ?_
    refine va_get (D := (dC, dI)) (ci := 5) (v := .int (r_t (q_t σ t1))) (C := R_Model) (T := T_Model) (N := 12) hx hb htb uin_Model hown hK hP 0 rfl rfl 0 (by decide) (htb _ tw590) (fun _ h9 => h9) rfl d_Model_look_35 ?_
    refine lv_if_le (tgt := 43) hx hb d_Model_look_38 (by decide) (fun h5 => ?_) (fun h5 => ?_)
    · have hJ := j_t hJ h5
      refine lv_iload_n hx hb d_Model_look_43 rfl (lv_at hl 2 rfl) ?_
      by_cases h6 : v2 = (0 : Int32)
      · have hJ := j_t hJ h6
        refine lv_tableIn (tgt := 76) (off := 32) hx hb d_Model_look_44 (by rw [h6]; decide) (by rw [h6]; decide) (by rw [h6]; rfl) (by decide) ?_
        refine lv_aload_n hx hb d_Model_look_76 rfl (lv_at hl 0 rfl) ?_
        refine lv_iload_n hx hb d_Model_look_77 rfl (lv_at hl 1 rfl) ?_
        refine lv_iconst (v := (0 : Int32)) hx hb d_Model_look_78 (by decide) ?_
        obtain ⟨x7, e7, hJ⟩ := j_bind hJ
        refine va_calli (va_runV (As := [.int v1, .int (0 : Int32)]) (rest := []) ⟨hx, hb, hml, hown, htb⟩ (c_Model_inodeAt (l := l) (dC := dC) (dI := dI) hDa e7) (xcV 2 htb tw682 tw7 tw679 tw681 ts_Model_inodeAt rfl rfl hd_Model_inodeAt ⟨Nat.le_of_ble_eq_true rfl, Nat.le_of_ble_eq_true rfl⟩) (kW_V hP hK (va_recv (q0 := 0) (ci := 5) hK hP rfl rfl)) rfl rfl hl.1 rfl (lv_room (Nat.le_of_ble_eq_true rfl)) d_Model_look_79 ⟨Nat.le_of_ble_eq_true rfl, Nat.le_of_ble_eq_true rfl⟩) hS (fun q _ h => h) (fun q h => h) (fun r0 u t H locs ht hvm hw hB _ _ hS => ?_)
        subst r0
        have hP := kW_P hB ht
        have hJ := Option.some.inj hJ
        exact W.iret (v := x7) hx hb hr (fun t ht hW => ⟨⟨_, (), rfl, (j_p1 hJ), kW_end hP hK ht hW (congrArg (fun z => wR gr cB cI z) (j_p2 hJ))⟩, hS.F ht⟩) hS.2.2 d_Model_look_82
      · have hJ := j_f hJ h6
        by_cases h8 : v2 = (1 : Int32)
        · have hJ := j_t hJ h8
          refine lv_tableIn (tgt := 83) (off := 39) hx hb d_Model_look_44 (by rw [h8]; decide) (by rw [h8]; decide) (by rw [h8]; rfl) (by decide) ?_
          refine lv_aload_n hx hb d_Model_look_83 rfl (lv_at hl 0 rfl) ?_
          refine lv_iload_n hx hb d_Model_look_84 rfl (lv_at hl 1 rfl) ?_
          refine lv_iconst (v := (1 : Int32)) hx hb d_Model_look_85 (by decide) ?_
          obtain ⟨x9, e9, hJ⟩ := j_bind hJ
          refine va_calli (va_runV (As := [.int v1, .int (1 : Int32)]) (rest := []) ⟨hx, hb, hml, hown, htb⟩ (c_Model_inodeAt (l := l) (dC := dC) (dI := dI) hDa e9) (xcV 2 htb tw682 tw7 tw679 tw681 ts_Model_inodeAt rfl rfl hd_Model_inodeAt ⟨Nat.le_of_ble_eq_true rfl, Nat.le_of_ble_eq_true rfl⟩) (kW_V hP hK (va_recv (q0 := 0) (ci := 5) hK hP rfl rfl)) rfl rfl hl.1 rfl (lv_room (Nat.le_of_ble_eq_true rfl)) d_Model_look_86 ⟨Nat.le_of_ble_eq_true rfl, Nat.le_of_ble_eq_true rfl⟩) hS (fun q _ h => h) (fun q h => h) (fun r0 u t H locs ht hvm hw hB _ _ hS => ?_)
          subst r0
          have hP := kW_P hB ht
          have hJ := Option.some.inj hJ
          exact W.iret (v := x9) hx hb hr (fun t ht hW => ⟨⟨_, (), rfl, (j_p1 hJ), kW_end hP hK ht hW (congrArg (fun z => wR gr cB cI z) (j_p2 hJ))⟩, hS.F ht⟩) hS.2.2 d_Model_look_89
        · have hJ := j_f hJ h8
          by_cases h10 : v2 = (2 : Int32)
          · have hJ := j_t hJ h10
            refine lv_tableIn (tgt := 90) (off := 46) hx hb d_Model_look_44 (by rw [h10]; decide) (by rw [h10]; decide) (by rw [h10]; rfl) (by decide) ?_
            refine lv_aload_n hx hb d_Model_look_90 rfl (lv_at hl 0 rfl) ?_
            refine lv_iload_n hx hb d_Model_look_91 rfl (lv_at hl 1 rfl) ?_
            obtain ⟨x11, e11, hJ⟩ := j_bind hJ
            refine va_calli (va_runV (As := [.int v1]) (rest := []) ⟨hx, hb, hml, hown, htb⟩ (c_Model_sizeOf (l := l) (dC := dC) (dI := dI) hDa e11) (xcV 1 htb tw704 tw7 tw701 tw703 ts_Model_sizeOf rfl rfl hd_Model_sizeOf ⟨Nat.le_of_ble_eq_true rfl, Nat.le_of_ble_eq_true rfl⟩) (kW_V hP hK (va_recv (q0 := 0) (ci := 5) hK hP rfl rfl)) rfl rfl hl.1 rfl (lv_room (Nat.le_of_ble_eq_true rfl)) d_Model_look_92 ⟨Nat.le_of_ble_eq_true rfl, Nat.le_of_ble_eq_true rfl⟩) hS (fun q _ h => h) (fun q h => h) (fun r0 u t H locs ht hvm hw hB _ _ hS => ?_)
            subst r0
            have hP := kW_P hB ht
            have hJ := Option.some.inj hJ
            exact W.iret (v := x11) hx hb hr (fun t ht hW => ⟨⟨_, (), rfl, (j_p1 hJ), kW_end hP hK ht hW (congrArg (fun z => wR gr cB cI z) (j_p2 hJ))⟩, hS.F ht⟩) hS.2.2 d_Model_look_95
          · have hJ := j_f hJ h10
            by_cases h12 : v2 = (3 : Int32)
            · have hJ := j_t hJ h12
              refine lv_tableIn (tgt := 96) (off := 52) hx hb d_Model_look_44 (by rw [h12]; decide) (by rw [h12]; decide) (by rw [h12]; rfl) (by decide) ?_
              refine lv_aload_n hx hb d_Model_look_96 rfl (lv_at hl 0 rfl) ?_
              refine lv_iload_n hx hb d_Model_look_97 rfl (lv_at hl 1 rfl) ?_
              obtain ⟨x13, e13, hJ⟩ := j_bind hJ
              refine va_calli (va_runV (As := [.int v1]) (rest := []) ⟨hx, hb, hml, hown, htb⟩ (c_Model_sizeOf (l := l) (dC := dC) (dI := dI) hDa e13) (xcV 1 htb tw704 tw7 tw701 tw703 ts_Model_sizeOf rfl rfl hd_Model_sizeOf ⟨Nat.le_of_ble_eq_true rfl, Nat.le_of_ble_eq_true rfl⟩) (kW_V hP hK (va_recv (q0 := 0) (ci := 5) hK hP rfl rfl)) rfl rfl hl.1 rfl (lv_room (Nat.le_of_ble_eq_true rfl)) d_Model_look_98 ⟨Nat.le_of_ble_eq_true rfl, Nat.le_of_ble_eq_true rfl⟩) hS (fun q _ h => h) (fun q h => h) (fun r0 u t H locs ht hvm hw hB _ _ hS => ?_)
              subst r0
              have hP := kW_P hB ht
              obtain ⟨x14, e14, hJ⟩ := j_bind hJ
              refine va_calli (va_runS (As := [.int x13]) (rest := []) ⟨hx, hb, hml, hown, htb⟩ (c_Model_blocksFor (l := l) (dC := dC) (dI := dI) (σ := (q_t σ t1)) hDa e14) (xcS 1 htb tw723 tw7 tw721 tw722 rfl rfl hd_Model_blocksFor ⟨Nat.le_of_ble_eq_true rfl, Nat.le_of_ble_eq_true rfl⟩) (kW_S hP hK) rfl rfl hl.1 rfl (lv_room (Nat.le_of_ble_eq_true rfl)) d_Model_look_101 ⟨Nat.le_of_ble_eq_true rfl, Nat.le_of_ble_eq_true rfl⟩) hS (fun q _ h => h) (fun q h => h) (fun r0 u t H locs ht hvm hw hB _ _ hS => ?_)
              subst r0
              have hP := kW_P hB ht
              have hJ := Option.some.inj hJ
              exact W.iret (v := x14) hx hb hr (fun t ht hW => ⟨⟨_, (), rfl, (j_p1 hJ), kW_end hP hK ht hW (congrArg (fun z => wR gr cB cI z) (j_p2 hJ))⟩, hS.F ht⟩) hS.2.2 d_Model_look_104
            · have hJ := j_f hJ h12
              refine lv_tableOut (tgt := 105) hx hb d_Model_look_44 (by have := lv_neT h6 (show ((0 : Int32) : Int32).toInt = 0 by decide); have := lv_neT h8 (show ((1 : Int32) : Int32).toInt = 1 by decide); have := lv_neT h10 (show ((2 : Int32) : Int32).toInt = 2 by decide); have := lv_neT h12 (show ((3 : Int32) : Int32).toInt = 3 by decide); omega) (by decide) ?_
              refine lv_aload_n hx hb d_Model_look_105 rfl (lv_at hl 0 rfl) ?_
              refine lv_iload_n hx hb d_Model_look_106 rfl (lv_at hl 1 rfl) ?_
              refine lv_iconst (v := (2 : Int32)) hx hb d_Model_look_107 (by decide) ?_
              obtain ⟨x15, e15, hJ⟩ := j_bind hJ
              refine va_calli (va_runV (As := [.int v1, .int (2 : Int32)]) (rest := []) ⟨hx, hb, hml, hown, htb⟩ (c_Model_is (l := l) (dC := dC) (dI := dI) hDa e15) (xcV 2 htb tw675 tw7 tw672 tw674 ts_Model_is rfl rfl hd_Model_is ⟨Nat.le_of_ble_eq_true rfl, Nat.le_of_ble_eq_true rfl⟩) (kW_V hP hK (va_recv (q0 := 0) (ci := 5) hK hP rfl rfl)) rfl rfl hl.1 rfl (lv_room (Nat.le_of_ble_eq_true rfl)) d_Model_look_108 ⟨Nat.le_of_ble_eq_true rfl, Nat.le_of_ble_eq_true rfl⟩) hS (fun q _ h => h) (fun q h => h) (fun r0 u t H locs ht hvm hw hB _ _ hS => ?_)
              subst r0
              have hP := kW_P hB ht
              refine lv_if_eq (tgt := 122) hx hb d_Model_look_111 (by decide) (fun h16 => ?_) (fun h16 => ?_)
              · have hJ := j_t hJ h16
                refine lv_iconst (v := (0 : Int32)) hx hb d_Model_look_122 (by decide) ?_
                have hJ := Option.some.inj hJ
                exact W.iret (v := (0 : Int32)) hx hb hr (fun t ht hW => ⟨⟨_, (), rfl, (j_p1 hJ), kW_end hP hK ht hW (congrArg (fun z => wR gr cB cI z) (j_p2 hJ))⟩, hS.F ht⟩) hS.2.2 d_Model_look_123
              · have hJ := j_f hJ h16
                refine lv_aload_n hx hb d_Model_look_114 rfl (lv_at hl 0 rfl) ?_
                refine lv_iload_n hx hb d_Model_look_115 rfl (lv_at hl 1 rfl) ?_
                obtain ⟨x17, e17, hJ⟩ := j_bind hJ
                refine va_calli (va_runV (As := [.int v1]) (rest := []) ⟨hx, hb, hml, hown, htb⟩ (c_Model_entries (l := l) (dC := dC) (dI := dI) hDa e17) (xcV 1 htb tw779 tw7 tw776 tw778 ts_Model_entries rfl rfl hd_Model_entries ⟨Nat.le_of_ble_eq_true rfl, Nat.le_of_ble_eq_true rfl⟩) (kW_V hP hK (va_recv (q0 := 0) (ci := 5) hK hP rfl rfl)) rfl rfl hl.1 rfl (lv_room (Nat.le_of_ble_eq_true rfl)) d_Model_look_116 ⟨Nat.le_of_ble_eq_true rfl, Nat.le_of_ble_eq_true rfl⟩) hS (fun q _ h => h) (fun q h => h) (fun r0 u t H locs ht hvm hw hB _ _ hS => ?_)
                subst r0
                have hP := kW_P hB ht
                refine lv_goto (tgt := 123) hx hb d_Model_look_119 (by decide) ?_
                have hJ := Option.some.inj hJ
                exact W.iret (v := x17) hx hb hr (fun t ht hW => ⟨⟨_, (), rfl, (j_p1 hJ), kW_end hP hK ht hW (congrArg (fun z => wR gr cB cI z) (j_p2 hJ))⟩, hS.F ht⟩) hS.2.2 d_Model_look_123
    · have hJ := j_f hJ h5
      refine lv_iconst (v := (0 : Int32)) hx hb d_Model_look_41 (by decide) ?_
      have hJ := Option.some.inj hJ
      exact W.iret (v := (0 : Int32)) hx hb hr (fun t ht hW => ⟨⟨_, (), rfl, (j_p1 hJ), kW_end hP hK ht hW (congrArg (fun z => wR gr cB cI z) (j_p2 hJ))⟩, hS.F ht⟩) hS.2.2 d_Model_look_42
  have blk30 : ∀ (σ : RS) (v1 : Int32) (v2 : Int32) (ls : Array Slot) (H : Heap) (locs : List Loc), J_Model_look_30 σ v1 v2 = some res → lv_has ls 3 [(0, .ref (gr 0)), (1, .int v1), (2, .int v2)] → va_P (dC, dI) cls (wR gr cB cI σ) H → va_S A s.heap H locs → W p l e (headSpec (mw y_Model_look b_Model_look 3 (some .int)) rm_Model_look).room s m [.ref (gr 0), .int a1, .int a2].toArray below meth c H locs 0 0 (MQ below (va_Qi (fun (x : Int32) (_ : Unit) => x = res.1) (fun _ t => kW (dC, dI) (tC cB cI) (wR gr cB cI res.2) t) A) [.ref (gr 0), .int a1, .int a2].toArray s 0 0 A) (F0 m 30 ls [.ref (gr 0)]) := by
    intro σ v1 v2 ls H locs hJ hl hP hS
    unfold J_Model_look_30 at hJ
    refine lv_iconst (v := (2 : Int32)) hx hb d_Model_look_30 (by decide) ?_
    exact blk31 _ _ _ _ _ _ _ hJ (lv_sub hl [0, 1, 2] rfl) hP hS
  unfold J_Model_look at hJ
  refine lv_aload_n hx hb d_Model_look_0 rfl (lv_at hl 0 rfl) ?_
  obtain ⟨x1, e1, hJ⟩ := j_bind hJ
  refine va_calli (va_runV (As := []) (rest := []) ⟨hx, hb, hml, hown, htb⟩ (c_Model_dead (l := l) (dC := dC) (dI := dI) hDa e1) (xcV 0 htb tw638 tw7 tw635 tw637 ts_Model_dead rfl rfl hd_Model_dead ⟨Nat.le_of_ble_eq_true rfl, Nat.le_of_ble_eq_true rfl⟩) (kW_V hP hK (va_recv (q0 := 0) (ci := 5) hK hP rfl rfl)) rfl rfl hl.1 rfl (lv_room (Nat.le_of_ble_eq_true rfl)) d_Model_look_1 ⟨Nat.le_of_ble_eq_true rfl, Nat.le_of_ble_eq_true rfl⟩) hS (fun q _ h => h) (fun q h => h) (fun r0 u t H locs ht hvm hw hB _ _ hS => ?_)
  subst r0
  have hP := kW_P hB ht
  refine lv_if_eq (tgt := 9) hx hb d_Model_look_4 (by decide) (fun h2 => ?_) (fun h2 => ?_)
  · have hJ := j_t hJ h2
    refine lv_aload_n hx hb d_Model_look_9 rfl (lv_at hl 0 rfl) ?_
    refine lv_iload_n hx hb d_Model_look_10 rfl (lv_at hl 1 rfl) ?_
    obtain ⟨x3, e3, hJ⟩ := j_bind hJ
    refine va_calli (va_runS (As := [.int a1]) (rest := [.ref (gr 0)]) ⟨hx, hb, hml, hown, htb⟩ (c_Model_isInode (l := l) (dC := dC) (dI := dI) (σ := x1.2) hDa e3) (xcS 1 htb tw678 tw7 tw676 tw677 rfl rfl hd_Model_isInode ⟨Nat.le_of_ble_eq_true rfl, Nat.le_of_ble_eq_true rfl⟩) (kW_S hP hK) rfl rfl hl.1 rfl (lv_room (Nat.le_of_ble_eq_true rfl)) d_Model_look_11 ⟨Nat.le_of_ble_eq_true rfl, Nat.le_of_ble_eq_true rfl⟩) hS (fun q _ h => h) (fun q h => h) (fun r0 u t H locs ht hvm hw hB _ _ hS => ?_)
    subst r0
    have hP := kW_P hB ht
    refine lv_if_eq (tgt := 30) hx hb d_Model_look_14 (by decide) (fun h4 => ?_) (fun h4 => ?_)
    · have hJ := j_t hJ h4
      exact blk30 _ _ _ _ _ _ hJ (lv_sub hl [0, 1, 2] rfl) hP hS
    · have hJ := j_f hJ h4
      refine lv_iload_n hx hb d_Model_look_17 rfl (lv_at hl 2 rfl) ?_
      refine lv_if_lt (tgt := 30) hx hb d_Model_look_18 (by decide) (fun h18 => ?_) (fun h18 => ?_)
      · have hJ := j_t hJ h18
        exact blk30 _ _ _ _ _ _ hJ (lv_sub hl [0, 1, 2] rfl) hP hS
      · have hJ := j_f hJ h18
        refine lv_iload_n hx hb d_Model_look_21 rfl (lv_at hl 2 rfl) ?_
        refine lv_iconst (v := (5 : Int32)) hx hb d_Model_look_22 (by decide) ?_
        refine lv_icmp_ge (tgt := 30) hx hb d_Model_look_23 (by decide) (fun h19 => ?_) (fun h19 => ?_)
        · have hJ := j_t hJ h19
          exact blk30 _ _ _ _ _ _ hJ (lv_sub hl [0, 1, 2] rfl) hP hS
        · have hJ := j_f hJ h19
          refine lv_iconst (v := (0 : Int32)) hx hb d_Model_look_26 (by decide) ?_
          refine lv_goto (tgt := 31) hx hb d_Model_look_27 (by decide) ?_
          exact blk31 _ _ _ _ _ _ _ hJ (lv_sub hl [0, 1, 2] rfl) hP hS
  · have hJ := j_f hJ h2
    refine lv_iconst (v := (0 : Int32)) hx hb d_Model_look_7 (by decide) ?_
    have hJ := Option.some.inj hJ
    exact W.iret (v := (0 : Int32)) hx hb hr (fun t ht hW => ⟨⟨_, (), rfl, (j_p1 hJ), kW_end hP hK ht hW (congrArg (fun z => wR gr cB cI z) (j_p2 hJ))⟩, hS.F ht⟩) hS.2.2 d_Model_look_8
def J_Model_disk_14 (σ : RS) (v1 : Int32) (v2 : Int32) (t1 : Int32) : Option (Int32 × RS) :=
  (if (r_t (q_t σ t1)) ≤ (0 : Int32) then (if jin (((64 : Int32) * v1) + v2) 8192 = true then some ((((r_D (q_t σ t1)) (((64 : Int32) * v1) + v2).toNatClampNeg).toInt32 &&& (255 : Int32)), (q_t σ t1)) else none) else some ((0 : Int32), (q_t σ t1)))
def J_Model_disk (σ : RS) (a1 : Int32) (a2 : Int32) : Option (Int32 × RS) :=
  (J_Model_isByte a1 a2).bind fun x1 => (if x1 = (0 : Int32) then J_Model_disk_14 σ a1 a2 (1 : Int32) else J_Model_disk_14 σ a1 a2 (0 : Int32))
abbrev rm_Model_disk : Room := { frames := 1, cells := 0, slots := 0, locals := 21 }
set_option maxHeartbeats 4000000 in
set_option maxRecDepth 100000 in
theorem c_Model_disk {l : Launch} {dC : Nat → ClassId} {dI : Nat → Nat → Nat} {gr : Nat → Nat} {cB cI : ClassId} {A : Nat → Prop} (hDa : ∀ σ, va_D A (wR gr cB cI σ)) {σ : RS} {a1 : Int32} {a2 : Int32} {res : Int32 × RS} (hJ : J_Model_disk σ a1 a2 = some res) :
    Met l y_Model_disk (mw y_Model_disk b_Model_disk 3 (some .int)) rm_Model_disk (va_Pc [.ref (gr 0), .int a1, .int a2] (kW (dC, dI) (tC cB cI) (wR gr cB cI σ))) (va_Qi (fun (x : Int32) (_ : Unit) => x = res.1) (fun _ t => kW (dC, dI) (tC cB cI) (wR gr cB cI res.2) t) A) 0 0 A := by
  refine Met.ofW (cc := b_Model_disk) (maxL := 3) (ret := (some .int)) (by decide) rfl ?_
  intro p e s m args below meth c s₁ B hml hv
  obtain ⟨rfl, hP, hK⟩ := hv
  have hx := B.exec
  have hb := B.bytes
  have hr := B.returns
  have hts := atoms_spec (ws := (mw y_Model_disk b_Model_disk 3 (some .int))) B.pre
  have htb : ∀ w ∈ tb, w.before [.ref (gr 0), .int a1, .int a2].toArray s = true := fun w h => hts w (mwIn h)
  have hown : s.vm.findClass "LogFsModel" = some m.cls := findClass_of_methodNamed B.named
  have hlocks := B.notSynchronized
  have hS : va_S A s.heap s.heap [] := va_S.rf
  have hl := lv_entry ([.ref (gr 0), .int a1, .int a2]) (n := 3) (Nat.le_of_ble_eq_true rfl)
  rw [lg_entry_eq]
  generalize (lg_sl ([.ref (gr 0), .int a1, .int a2]) ++ List.replicate (3 - (lg_sl ([.ref (gr 0), .int a1, .int a2])).length) Slot.unset).toArray = ls at hl ⊢
  have hl : lv_has ls 3 [(0, .ref (gr 0)), (1, .int a1), (2, .int a2)] := hl
  have blk14 : ∀ (σ : RS) (v1 : Int32) (v2 : Int32) (t1 : Int32) (ls : Array Slot) (H : Heap) (locs : List Loc), J_Model_disk_14 σ v1 v2 t1 = some res → lv_has ls 3 [(0, .ref (gr 0)), (1, .int v1), (2, .int v2)] → va_P (dC, dI) cls (wR gr cB cI σ) H → va_S A s.heap H locs → W p l e (headSpec (mw y_Model_disk b_Model_disk 3 (some .int)) rm_Model_disk).room s m [.ref (gr 0), .int a1, .int a2].toArray below meth c H locs 0 0 (MQ below (va_Qi (fun (x : Int32) (_ : Unit) => x = res.1) (fun _ t => kW (dC, dI) (tC cB cI) (wR gr cB cI res.2) t) A) [.ref (gr 0), .int a1, .int a2].toArray s 0 0 A) (F0 m 14 ls [.int t1, .ref (gr 0)]) := by
    intro σ v1 v2 t1 ls H locs hJ hl hP hS
    unfold J_Model_disk_14 at hJ
    refine va_put (D := (dC, dI)) (ci := 5) (v := .int t1) (ty := .int) (C := R_Model) (T := T_Model) (N := 12) hx hb htb uin_Model t_Model t_Model_ok n_Model hown hK hP (hDa _) hS 0 rfl rfl 0 (by decide) (htb _ tw590) (fun _ h9 => h9) rfl (by decide +kernel) rfl rfl (Nat.le_of_ble_eq_true rfl) d_Model_disk_14 (fun H locs hP _ hS => ?_)
    have hP : va_P (dC, dI) cls (wR gr cB cI (q_t σ t1)) H := hP
    refine lv_aload_n hx hb d_Model_disk_17 rfl (lv_at hl 0 rfl) ?_
    refine va_get (D := (dC, dI)) (ci := 5) (v := .int (r_t (q_t σ t1))) (C := R_Model) (T := T_Model) (N := 12) hx hb htb uin_Model hown hK hP 0 rfl rfl 0 (by decide) (htb _ tw590) (fun _ h9 => h9) rfl d_Model_disk_18 ?_
    refine lv_if_le (tgt := 28) hx hb d_Model_disk_21 (by decide) (fun h3 => ?_) (fun h3 => ?_)
    · have hJ := j_t hJ h3
      refine lv_aload_n hx hb d_Model_disk_28 rfl (lv_at hl 0 rfl) ?_
      refine va_get (D := (dC, dI)) (ci := 5) (v := .ref (gr 1)) (C := R_Model) (T := T_Model) (N := 12) hx hb htb uin_Model hown hK hP 0 rfl rfl 1 (by decide) (htb _ tw591) (fun _ h9 => h9) rfl d_Model_disk_29 ?_
      refine lv_bipush (v := (64 : Int32)) hx hb d_Model_disk_32 (by decide) ?_
      refine lv_iload_n hx hb d_Model_disk_34 rfl (lv_at hl 1 rfl) ?_
      refine lv_imul hx hb d_Model_disk_35 ?_
      refine lv_iload_n hx hb d_Model_disk_36 rfl (lv_at hl 2 rfl) ?_
      refine lv_iadd hx hb d_Model_disk_37 ?_
      obtain ⟨h4, hJ⟩ := j_g hJ
      refine va_bald hx hb hK hP 1 0 rfl rfl (j_in h4) d_Model_disk_38 ?_
      refine lv_sipush (v := (255 : Int32)) hx hb d_Model_disk_39 (by decide) ?_
      refine lv_iand hx hb d_Model_disk_42 ?_
      have hJ := Option.some.inj hJ
      exact W.iret (v := (((r_D (q_t σ t1)) (((64 : Int32) * v1) + v2).toNatClampNeg).toInt32 &&& (255 : Int32))) hx hb hr (fun t ht hW => ⟨⟨_, (), rfl, (j_p1 hJ), kW_end hP hK ht hW (congrArg (fun z => wR gr cB cI z) (j_p2 hJ))⟩, hS.F ht⟩) hS.2.2 d_Model_disk_43
    · have hJ := j_f hJ h3
      refine lv_iconst (v := (0 : Int32)) hx hb d_Model_disk_24 (by decide) ?_
      refine lv_goto (tgt := 43) hx hb d_Model_disk_25 (by decide) ?_
      have hJ := Option.some.inj hJ
      exact W.iret (v := (0 : Int32)) hx hb hr (fun t ht hW => ⟨⟨_, (), rfl, (j_p1 hJ), kW_end hP hK ht hW (congrArg (fun z => wR gr cB cI z) (j_p2 hJ))⟩, hS.F ht⟩) hS.2.2 d_Model_disk_43
  unfold J_Model_disk at hJ
  refine lv_aload_n hx hb d_Model_disk_0 rfl (lv_at hl 0 rfl) ?_
  refine lv_iload_n hx hb d_Model_disk_1 rfl (lv_at hl 1 rfl) ?_
  refine lv_iload_n hx hb d_Model_disk_2 rfl (lv_at hl 2 rfl) ?_
  obtain ⟨x1, e1, hJ⟩ := j_bind hJ
  refine va_calli (va_runS (As := [.int a1, .int a2]) (rest := [.ref (gr 0)]) ⟨hx, hb, hml, hown, htb⟩ (c_Model_isByte (l := l) (dC := dC) (dI := dI) (σ := σ) hDa e1) (xcS 2 htb tw830 tw7 tw828 tw829 rfl rfl hd_Model_isByte ⟨Nat.le_of_ble_eq_true rfl, Nat.le_of_ble_eq_true rfl⟩) (kW_S hP hK) rfl rfl hl.1 rfl (lv_room (Nat.le_of_ble_eq_true rfl)) d_Model_disk_3 ⟨Nat.le_of_ble_eq_true rfl, Nat.le_of_ble_eq_true rfl⟩) hS (fun q _ h => h) (fun q h => h) (fun r0 u t H locs ht hvm hw hB _ _ hS => ?_)
  subst r0
  have hP := kW_P hB ht
  refine lv_if_eq (tgt := 13) hx hb d_Model_disk_6 (by decide) (fun h2 => ?_) (fun h2 => ?_)
  · have hJ := j_t hJ h2
    refine lv_iconst (v := (1 : Int32)) hx hb d_Model_disk_13 (by decide) ?_
    exact blk14 _ _ _ _ _ _ _ hJ (lv_sub hl [0, 1, 2] rfl) hP hS
  · have hJ := j_f hJ h2
    refine lv_iconst (v := (0 : Int32)) hx hb d_Model_disk_9 (by decide) ?_
    refine lv_goto (tgt := 14) hx hb d_Model_disk_10 (by decide) ?_
    exact blk14 _ _ _ _ _ _ _ hJ (lv_sub hl [0, 1, 2] rfl) hP hS
def J_Model_memory_23 (σ : RS) (v1 : Int32) (v2 : Int32) (t1 : Int32) : Option (Int32 × RS) :=
  (if (r_t (q_t σ t1)) ≤ (0 : Int32) then (J_Model_at (q_t σ t1) v1 v2).bind fun x6 => some (x6, (q_t σ t1)) else some ((0 : Int32), (q_t σ t1)))
def J_Model_memory (σ : RS) (a1 : Int32) (a2 : Int32) : Option (Int32 × RS) :=
  (J_Model_dead σ).bind fun x1 => (if x1.1 = (0 : Int32) then (J_Model_isByte a1 a2).bind fun x3 => (if x3 = (0 : Int32) then J_Model_memory_23 x1.2 a1 a2 (2 : Int32) else J_Model_memory_23 x1.2 a1 a2 (0 : Int32)) else some ((0 : Int32), x1.2))
abbrev rm_Model_memory : Room := { frames := 1, cells := 0, slots := 0, locals := 22 }
set_option maxHeartbeats 4000000 in
set_option maxRecDepth 100000 in
theorem c_Model_memory {l : Launch} {dC : Nat → ClassId} {dI : Nat → Nat → Nat} {gr : Nat → Nat} {cB cI : ClassId} {A : Nat → Prop} (hDa : ∀ σ, va_D A (wR gr cB cI σ)) {σ : RS} {a1 : Int32} {a2 : Int32} {res : Int32 × RS} (hJ : J_Model_memory σ a1 a2 = some res) :
    Met l y_Model_memory (mw y_Model_memory b_Model_memory 3 (some .int)) rm_Model_memory (va_Pc [.ref (gr 0), .int a1, .int a2] (kW (dC, dI) (tC cB cI) (wR gr cB cI σ))) (va_Qi (fun (x : Int32) (_ : Unit) => x = res.1) (fun _ t => kW (dC, dI) (tC cB cI) (wR gr cB cI res.2) t) A) 0 0 A := by
  refine Met.ofW (cc := b_Model_memory) (maxL := 3) (ret := (some .int)) (by decide) rfl ?_
  intro p e s m args below meth c s₁ B hml hv
  obtain ⟨rfl, hP, hK⟩ := hv
  have hx := B.exec
  have hb := B.bytes
  have hr := B.returns
  have hts := atoms_spec (ws := (mw y_Model_memory b_Model_memory 3 (some .int))) B.pre
  have htb : ∀ w ∈ tb, w.before [.ref (gr 0), .int a1, .int a2].toArray s = true := fun w h => hts w (mwIn h)
  have hown : s.vm.findClass "LogFsModel" = some m.cls := findClass_of_methodNamed B.named
  have hlocks := B.notSynchronized
  have hS : va_S A s.heap s.heap [] := va_S.rf
  have hl := lv_entry ([.ref (gr 0), .int a1, .int a2]) (n := 3) (Nat.le_of_ble_eq_true rfl)
  rw [lg_entry_eq]
  generalize (lg_sl ([.ref (gr 0), .int a1, .int a2]) ++ List.replicate (3 - (lg_sl ([.ref (gr 0), .int a1, .int a2])).length) Slot.unset).toArray = ls at hl ⊢
  have hl : lv_has ls 3 [(0, .ref (gr 0)), (1, .int a1), (2, .int a2)] := hl
  have blk23 : ∀ (σ : RS) (v1 : Int32) (v2 : Int32) (t1 : Int32) (ls : Array Slot) (H : Heap) (locs : List Loc), J_Model_memory_23 σ v1 v2 t1 = some res → lv_has ls 3 [(0, .ref (gr 0)), (1, .int v1), (2, .int v2)] → va_P (dC, dI) cls (wR gr cB cI σ) H → va_S A s.heap H locs → W p l e (headSpec (mw y_Model_memory b_Model_memory 3 (some .int)) rm_Model_memory).room s m [.ref (gr 0), .int a1, .int a2].toArray below meth c H locs 0 0 (MQ below (va_Qi (fun (x : Int32) (_ : Unit) => x = res.1) (fun _ t => kW (dC, dI) (tC cB cI) (wR gr cB cI res.2) t) A) [.ref (gr 0), .int a1, .int a2].toArray s 0 0 A) (F0 m 23 ls [.int t1, .ref (gr 0)]) := by
    intro σ v1 v2 t1 ls H locs hJ hl hP hS
    unfold J_Model_memory_23 at hJ
    refine va_put (D := (dC, dI)) (ci := 5) (v := .int t1) (ty := .int) (C := R_Model) (T := T_Model) (N := 12) hx hb htb uin_Model t_Model t_Model_ok n_Model hown hK hP (hDa _) hS 0 rfl rfl 0 (by decide) (htb _ tw590) (fun _ h9 => h9) rfl (by decide +kernel) rfl rfl (Nat.le_of_ble_eq_true rfl) d_Model_memory_23 (fun H locs hP _ hS => ?_)
    have hP : va_P (dC, dI) cls (wR gr cB cI (q_t σ t1)) H := hP
    refine lv_aload_n hx hb d_Model_memory_26 rfl (lv_at hl 0 rfl) ?_
    refine va_get (D := (dC, dI)) (ci := 5) (v := .int (r_t (q_t σ t1))) (C := R_Model) (T := T_Model) (N := 12) hx hb htb uin_Model hown hK hP 0 rfl rfl 0 (by decide) (htb _ tw590) (fun _ h9 => h9) rfl d_Model_memory_27 ?_
    refine lv_if_le (tgt := 37) hx hb d_Model_memory_30 (by decide) (fun h5 => ?_) (fun h5 => ?_)
    · have hJ := j_t hJ h5
      refine lv_aload_n hx hb d_Model_memory_37 rfl (lv_at hl 0 rfl) ?_
      refine lv_iload_n hx hb d_Model_memory_38 rfl (lv_at hl 1 rfl) ?_
      refine lv_iload_n hx hb d_Model_memory_39 rfl (lv_at hl 2 rfl) ?_
      obtain ⟨x6, e6, hJ⟩ := j_bind hJ
      refine va_calli (va_runV (As := [.int v1, .int v2]) (rest := []) ⟨hx, hb, hml, hown, htb⟩ (c_Model_at (l := l) (dC := dC) (dI := dI) hDa e6) (xcV 2 htb tw692 tw7 tw689 tw691 ts_Model_at rfl rfl hd_Model_at ⟨Nat.le_of_ble_eq_true rfl, Nat.le_of_ble_eq_true rfl⟩) (kW_V hP hK (va_recv (q0 := 0) (ci := 5) hK hP rfl rfl)) rfl rfl hl.1 rfl (lv_room (Nat.le_of_ble_eq_true rfl)) d_Model_memory_40 ⟨Nat.le_of_ble_eq_true rfl, Nat.le_of_ble_eq_true rfl⟩) hS (fun q _ h => h) (fun q h => h) (fun r0 u t H locs ht hvm hw hB _ _ hS => ?_)
      subst r0
      have hP := kW_P hB ht
      have hJ := Option.some.inj hJ
      exact W.iret (v := x6) hx hb hr (fun t ht hW => ⟨⟨_, (), rfl, (j_p1 hJ), kW_end hP hK ht hW (congrArg (fun z => wR gr cB cI z) (j_p2 hJ))⟩, hS.F ht⟩) hS.2.2 d_Model_memory_43
    · have hJ := j_f hJ h5
      refine lv_iconst (v := (0 : Int32)) hx hb d_Model_memory_33 (by decide) ?_
      refine lv_goto (tgt := 43) hx hb d_Model_memory_34 (by decide) ?_
      have hJ := Option.some.inj hJ
      exact W.iret (v := (0 : Int32)) hx hb hr (fun t ht hW => ⟨⟨_, (), rfl, (j_p1 hJ), kW_end hP hK ht hW (congrArg (fun z => wR gr cB cI z) (j_p2 hJ))⟩, hS.F ht⟩) hS.2.2 d_Model_memory_43
  unfold J_Model_memory at hJ
  refine lv_aload_n hx hb d_Model_memory_0 rfl (lv_at hl 0 rfl) ?_
  obtain ⟨x1, e1, hJ⟩ := j_bind hJ
  refine va_calli (va_runV (As := []) (rest := []) ⟨hx, hb, hml, hown, htb⟩ (c_Model_dead (l := l) (dC := dC) (dI := dI) hDa e1) (xcV 0 htb tw638 tw7 tw635 tw637 ts_Model_dead rfl rfl hd_Model_dead ⟨Nat.le_of_ble_eq_true rfl, Nat.le_of_ble_eq_true rfl⟩) (kW_V hP hK (va_recv (q0 := 0) (ci := 5) hK hP rfl rfl)) rfl rfl hl.1 rfl (lv_room (Nat.le_of_ble_eq_true rfl)) d_Model_memory_1 ⟨Nat.le_of_ble_eq_true rfl, Nat.le_of_ble_eq_true rfl⟩) hS (fun q _ h => h) (fun q h => h) (fun r0 u t H locs ht hvm hw hB _ _ hS => ?_)
  subst r0
  have hP := kW_P hB ht
  refine lv_if_eq (tgt := 9) hx hb d_Model_memory_4 (by decide) (fun h2 => ?_) (fun h2 => ?_)
  · have hJ := j_t hJ h2
    refine lv_aload_n hx hb d_Model_memory_9 rfl (lv_at hl 0 rfl) ?_
    refine lv_iload_n hx hb d_Model_memory_10 rfl (lv_at hl 1 rfl) ?_
    refine lv_iload_n hx hb d_Model_memory_11 rfl (lv_at hl 2 rfl) ?_
    obtain ⟨x3, e3, hJ⟩ := j_bind hJ
    refine va_calli (va_runS (As := [.int a1, .int a2]) (rest := [.ref (gr 0)]) ⟨hx, hb, hml, hown, htb⟩ (c_Model_isByte (l := l) (dC := dC) (dI := dI) (σ := x1.2) hDa e3) (xcS 2 htb tw830 tw7 tw828 tw829 rfl rfl hd_Model_isByte ⟨Nat.le_of_ble_eq_true rfl, Nat.le_of_ble_eq_true rfl⟩) (kW_S hP hK) rfl rfl hl.1 rfl (lv_room (Nat.le_of_ble_eq_true rfl)) d_Model_memory_12 ⟨Nat.le_of_ble_eq_true rfl, Nat.le_of_ble_eq_true rfl⟩) hS (fun q _ h => h) (fun q h => h) (fun r0 u t H locs ht hvm hw hB _ _ hS => ?_)
    subst r0
    have hP := kW_P hB ht
    refine lv_if_eq (tgt := 22) hx hb d_Model_memory_15 (by decide) (fun h4 => ?_) (fun h4 => ?_)
    · have hJ := j_t hJ h4
      refine lv_iconst (v := (2 : Int32)) hx hb d_Model_memory_22 (by decide) ?_
      exact blk23 _ _ _ _ _ _ _ hJ (lv_sub hl [0, 1, 2] rfl) hP hS
    · have hJ := j_f hJ h4
      refine lv_iconst (v := (0 : Int32)) hx hb d_Model_memory_18 (by decide) ?_
      refine lv_goto (tgt := 23) hx hb d_Model_memory_19 (by decide) ?_
      exact blk23 _ _ _ _ _ _ _ hJ (lv_sub hl [0, 1, 2] rfl) hP hS
  · have hJ := j_f hJ h2
    refine lv_iconst (v := (0 : Int32)) hx hb d_Model_memory_7 (by decide) ?_
    have hJ := Option.some.inj hJ
    exact W.iret (v := (0 : Int32)) hx hb hr (fun t ht hW => ⟨⟨_, (), rfl, (j_p1 hJ), kW_end hP hK ht hW (congrArg (fun z => wR gr cB cI z) (j_p2 hJ))⟩, hS.F ht⟩) hS.2.2 d_Model_memory_8
def J_Model_count_47_b (k : RS → Int32 → Int32 → Int32 → Option (Int32 × RS)) (σ : RS) (v1 : Int32) (v2 : Int32) (v3 : Int32) : Option (Int32 × RS) :=
  (if (32 : Int32) ≤ v3 then (if v1 = (0 : Int32) then (if (r_o σ) = (0 : Int32) then some ((r_n σ), σ) else some (((-1) : Int32), σ)) else (if v1 = (1 : Int32) then (if (r_o σ) = (0 : Int32) then (J_Model_freeBlocks σ).bind fun x7 => some (x7, σ) else some (((-1) : Int32), σ)) else (if v1 = (2 : Int32) then (if (r_o σ) = (0 : Int32) then some (v2, σ) else some (((-1) : Int32), σ)) else (if v1 = (3 : Int32) then some ((r_w σ), σ) else (if v1 = (4 : Int32) then some ((r_c σ), σ) else (if v1 = (5 : Int32) then (if (r_o σ) = (0 : Int32) then some ((0 : Int32), σ) else some ((1 : Int32), σ)) else some (((-1) : Int32), σ))))))) else (J_Model_inodeAt σ v3 (0 : Int32)).bind fun x14 => (if x14 = (0 : Int32) then k σ v1 (v2 + (1 : Int32)) (v3 + (1 : Int32)) else k σ v1 (v2 + (0 : Int32)) (v3 + (1 : Int32))))
def J_Model_count_47 : Nat → RS → Int32 → Int32 → Int32 → Option (Int32 × RS)
  | 0, _, _, _, _ => none
  | n + 1, σ, v1, v2, v3 => J_Model_count_47_b (J_Model_count_47 n) σ v1 v2 v3
def J_Model_count (σ : RS) (a1 : Int32) : Option (Int32 × RS) :=
  (if a1 < (8 : Int32) then J_Model_count_47 9000 (q_t σ (0 : Int32)) a1 (0 : Int32) (0 : Int32) else (if (r_o (q_t σ (0 : Int32))) = (0 : Int32) then (if (a1 - (8 : Int32)) < (r_n (q_t σ (0 : Int32))) then (if jin (a1 - (8 : Int32)) 128 = true then some (((r_P (q_t σ (0 : Int32))) (a1 - (8 : Int32)).toNatClampNeg), (q_t σ (0 : Int32))) else none) else some (((-1) : Int32), (q_t σ (0 : Int32)))) else some (((-1) : Int32), (q_t σ (0 : Int32)))))
abbrev rm_Model_count : Room := { frames := 3, cells := 0, slots := 0, locals := 65 }
set_option maxHeartbeats 4000000 in
set_option maxRecDepth 100000 in
theorem c_Model_count {l : Launch} {dC : Nat → ClassId} {dI : Nat → Nat → Nat} {gr : Nat → Nat} {cB cI : ClassId} {A : Nat → Prop} (hDa : ∀ σ, va_D A (wR gr cB cI σ)) {σ : RS} {a1 : Int32} {res : Int32 × RS} (hJ : J_Model_count σ a1 = some res) :
    Met l y_Model_count (mw y_Model_count b_Model_count 4 (some .int)) rm_Model_count (va_Pc [.ref (gr 0), .int a1] (kW (dC, dI) (tC cB cI) (wR gr cB cI σ))) (va_Qi (fun (x : Int32) (_ : Unit) => x = res.1) (fun _ t => kW (dC, dI) (tC cB cI) (wR gr cB cI res.2) t) A) 0 0 A := by
  refine Met.ofW (cc := b_Model_count) (maxL := 4) (ret := (some .int)) (by decide) rfl ?_
  intro p e s m args below meth c s₁ B hml hv
  obtain ⟨rfl, hP, hK⟩ := hv
  have hx := B.exec
  have hb := B.bytes
  have hr := B.returns
  have hts := atoms_spec (ws := (mw y_Model_count b_Model_count 4 (some .int))) B.pre
  have htb : ∀ w ∈ tb, w.before [.ref (gr 0), .int a1].toArray s = true := fun w h => hts w (mwIn h)
  have hown : s.vm.findClass "LogFsModel" = some m.cls := findClass_of_methodNamed B.named
  have hlocks := B.notSynchronized
  have hS : va_S A s.heap s.heap [] := va_S.rf
  have hl := lv_entry ([.ref (gr 0), .int a1]) (n := 4) (Nat.le_of_ble_eq_true rfl)
  rw [lg_entry_eq]
  generalize (lg_sl ([.ref (gr 0), .int a1]) ++ List.replicate (4 - (lg_sl ([.ref (gr 0), .int a1])).length) Slot.unset).toArray = ls at hl ⊢
  have hl : lv_has ls 4 [(0, .ref (gr 0)), (1, .int a1)] := hl
  have blk47 : ∀ (n : Nat) (σ : RS) (v1 : Int32) (v2 : Int32) (v3 : Int32) (ls : Array Slot) (H : Heap) (locs : List Loc), J_Model_count_47 n σ v1 v2 v3 = some res → lv_has ls 4 [(0, .ref (gr 0)), (1, .int v1), (2, .int v2), (3, .int v3)] → va_P (dC, dI) cls (wR gr cB cI σ) H → va_S A s.heap H locs → W p l e (headSpec (mw y_Model_count b_Model_count 4 (some .int)) rm_Model_count).room s m [.ref (gr 0), .int a1].toArray below meth c H locs 0 0 (MQ below (va_Qi (fun (x : Int32) (_ : Unit) => x = res.1) (fun _ t => kW (dC, dI) (tC cB cI) (wR gr cB cI res.2) t) A) [.ref (gr 0), .int a1].toArray s 0 0 A) (F0 m 47 ls []) := by
    intro n
    induction n with
    | zero => intro σ v1 v2 v3 ls H locs hJ; exact j_none hJ
    | succ n hk =>
      intro σ v1 v2 v3 ls H locs hJ hl hP hS
      have hJ : J_Model_count_47_b (J_Model_count_47 n) σ v1 v2 v3 = some res := hJ
      unfold J_Model_count_47_b at hJ
      refine lv_iload_n hx hb d_Model_count_47 rfl (lv_at hl 3 rfl) ?_
      refine lv_bipush (v := (32 : Int32)) hx hb d_Model_count_48 (by decide) ?_
      refine lv_icmp_ge (tgt := 76) hx hb d_Model_count_50 (by decide) (fun h2 => ?_) (fun h2 => ?_)
      · have hJ := j_t hJ h2
        refine lv_iload_n hx hb d_Model_count_76 rfl (lv_at hl 1 rfl) ?_
        by_cases h3 : v1 = (0 : Int32)
        · have hJ := j_t hJ h3
          refine lv_tableIn (tgt := 116) (off := 39) hx hb d_Model_count_77 (by rw [h3]; decide) (by rw [h3]; decide) (by rw [h3]; rfl) (by decide) ?_
          refine lv_aload_n hx hb d_Model_count_116 rfl (lv_at hl 0 rfl) ?_
          refine va_get (D := (dC, dI)) (ci := 5) (v := .int (r_o σ)) (C := R_Model) (T := T_Model) (N := 12) hx hb htb uin_Model hown hK hP 0 rfl rfl 8 (by decide) (htb _ tw598) (fun _ h9 => h9) rfl d_Model_count_117 ?_
          refine lv_if_eq (tgt := 127) hx hb d_Model_count_120 (by decide) (fun h4 => ?_) (fun h4 => ?_)
          · have hJ := j_t hJ h4
            refine lv_aload_n hx hb d_Model_count_127 rfl (lv_at hl 0 rfl) ?_
            refine va_get (D := (dC, dI)) (ci := 5) (v := .int (r_n σ)) (C := R_Model) (T := T_Model) (N := 12) hx hb htb uin_Model hown hK hP 0 rfl rfl 4 (by decide) (htb _ tw594) (fun _ h9 => h9) rfl d_Model_count_128 ?_
            have hJ := Option.some.inj hJ
            exact W.iret (v := (r_n σ)) hx hb hr (fun t ht hW => ⟨⟨_, (), rfl, (j_p1 hJ), kW_end hP hK ht hW (congrArg (fun z => wR gr cB cI z) (j_p2 hJ))⟩, hS.F ht⟩) hS.2.2 d_Model_count_131
          · have hJ := j_f hJ h4
            refine lv_iconst (v := ((-1) : Int32)) hx hb d_Model_count_123 (by decide) ?_
            refine lv_goto (tgt := 131) hx hb d_Model_count_124 (by decide) ?_
            have hJ := Option.some.inj hJ
            exact W.iret (v := ((-1) : Int32)) hx hb hr (fun t ht hW => ⟨⟨_, (), rfl, (j_p1 hJ), kW_end hP hK ht hW (congrArg (fun z => wR gr cB cI z) (j_p2 hJ))⟩, hS.F ht⟩) hS.2.2 d_Model_count_131
        · have hJ := j_f hJ h3
          by_cases h5 : v1 = (1 : Int32)
          · have hJ := j_t hJ h5
            refine lv_tableIn (tgt := 132) (off := 55) hx hb d_Model_count_77 (by rw [h5]; decide) (by rw [h5]; decide) (by rw [h5]; rfl) (by decide) ?_
            refine lv_aload_n hx hb d_Model_count_132 rfl (lv_at hl 0 rfl) ?_
            refine va_get (D := (dC, dI)) (ci := 5) (v := .int (r_o σ)) (C := R_Model) (T := T_Model) (N := 12) hx hb htb uin_Model hown hK hP 0 rfl rfl 8 (by decide) (htb _ tw598) (fun _ h9 => h9) rfl d_Model_count_133 ?_
            refine lv_if_eq (tgt := 143) hx hb d_Model_count_136 (by decide) (fun h6 => ?_) (fun h6 => ?_)
            · have hJ := j_t hJ h6
              refine lv_aload_n hx hb d_Model_count_143 rfl (lv_at hl 0 rfl) ?_
              obtain ⟨x7, e7, hJ⟩ := j_bind hJ
              refine va_calli (va_runV (As := []) (rest := []) ⟨hx, hb, hml, hown, htb⟩ (c_Model_freeBlocks (l := l) (dC := dC) (dI := dI) hDa e7) (xcV 0 htb tw727 tw7 tw724 tw726 ts_Model_freeBlocks rfl rfl hd_Model_freeBlocks ⟨Nat.le_of_ble_eq_true rfl, Nat.le_of_ble_eq_true rfl⟩) (kW_V hP hK (va_recv (q0 := 0) (ci := 5) hK hP rfl rfl)) rfl rfl hl.1 rfl (lv_room (Nat.le_of_ble_eq_true rfl)) d_Model_count_144 ⟨Nat.le_of_ble_eq_true rfl, Nat.le_of_ble_eq_true rfl⟩) hS (fun q _ h => h) (fun q h => h) (fun r0 u t H locs ht hvm hw hB _ _ hS => ?_)
              subst r0
              have hP := kW_P hB ht
              have hJ := Option.some.inj hJ
              exact W.iret (v := x7) hx hb hr (fun t ht hW => ⟨⟨_, (), rfl, (j_p1 hJ), kW_end hP hK ht hW (congrArg (fun z => wR gr cB cI z) (j_p2 hJ))⟩, hS.F ht⟩) hS.2.2 d_Model_count_147
            · have hJ := j_f hJ h6
              refine lv_iconst (v := ((-1) : Int32)) hx hb d_Model_count_139 (by decide) ?_
              refine lv_goto (tgt := 147) hx hb d_Model_count_140 (by decide) ?_
              have hJ := Option.some.inj hJ
              exact W.iret (v := ((-1) : Int32)) hx hb hr (fun t ht hW => ⟨⟨_, (), rfl, (j_p1 hJ), kW_end hP hK ht hW (congrArg (fun z => wR gr cB cI z) (j_p2 hJ))⟩, hS.F ht⟩) hS.2.2 d_Model_count_147
          · have hJ := j_f hJ h5
            by_cases h8 : v1 = (2 : Int32)
            · have hJ := j_t hJ h8
              refine lv_tableIn (tgt := 148) (off := 71) hx hb d_Model_count_77 (by rw [h8]; decide) (by rw [h8]; decide) (by rw [h8]; rfl) (by decide) ?_
              refine lv_aload_n hx hb d_Model_count_148 rfl (lv_at hl 0 rfl) ?_
              refine va_get (D := (dC, dI)) (ci := 5) (v := .int (r_o σ)) (C := R_Model) (T := T_Model) (N := 12) hx hb htb uin_Model hown hK hP 0 rfl rfl 8 (by decide) (htb _ tw598) (fun _ h9 => h9) rfl d_Model_count_149 ?_
              refine lv_if_eq (tgt := 159) hx hb d_Model_count_152 (by decide) (fun h9 => ?_) (fun h9 => ?_)
              · have hJ := j_t hJ h9
                refine lv_iload_n hx hb d_Model_count_159 rfl (lv_at hl 2 rfl) ?_
                have hJ := Option.some.inj hJ
                exact W.iret (v := v2) hx hb hr (fun t ht hW => ⟨⟨_, (), rfl, (j_p1 hJ), kW_end hP hK ht hW (congrArg (fun z => wR gr cB cI z) (j_p2 hJ))⟩, hS.F ht⟩) hS.2.2 d_Model_count_160
              · have hJ := j_f hJ h9
                refine lv_iconst (v := ((-1) : Int32)) hx hb d_Model_count_155 (by decide) ?_
                refine lv_goto (tgt := 160) hx hb d_Model_count_156 (by decide) ?_
                have hJ := Option.some.inj hJ
                exact W.iret (v := ((-1) : Int32)) hx hb hr (fun t ht hW => ⟨⟨_, (), rfl, (j_p1 hJ), kW_end hP hK ht hW (congrArg (fun z => wR gr cB cI z) (j_p2 hJ))⟩, hS.F ht⟩) hS.2.2 d_Model_count_160
            · have hJ := j_f hJ h8
              by_cases h10 : v1 = (3 : Int32)
              · have hJ := j_t hJ h10
                refine lv_tableIn (tgt := 161) (off := 84) hx hb d_Model_count_77 (by rw [h10]; decide) (by rw [h10]; decide) (by rw [h10]; rfl) (by decide) ?_
                refine lv_aload_n hx hb d_Model_count_161 rfl (lv_at hl 0 rfl) ?_
                refine va_get (D := (dC, dI)) (ci := 5) (v := .int (r_w σ)) (C := R_Model) (T := T_Model) (N := 12) hx hb htb uin_Model hown hK hP 0 rfl rfl 5 (by decide) (htb _ tw595) (fun _ h9 => h9) rfl d_Model_count_162 ?_
                have hJ := Option.some.inj hJ
                exact W.iret (v := (r_w σ)) hx hb hr (fun t ht hW => ⟨⟨_, (), rfl, (j_p1 hJ), kW_end hP hK ht hW (congrArg (fun z => wR gr cB cI z) (j_p2 hJ))⟩, hS.F ht⟩) hS.2.2 d_Model_count_165
              · have hJ := j_f hJ h10
                by_cases h11 : v1 = (4 : Int32)
                · have hJ := j_t hJ h11
                  refine lv_tableIn (tgt := 166) (off := 89) hx hb d_Model_count_77 (by rw [h11]; decide) (by rw [h11]; decide) (by rw [h11]; rfl) (by decide) ?_
                  refine lv_aload_n hx hb d_Model_count_166 rfl (lv_at hl 0 rfl) ?_
                  refine va_get (D := (dC, dI)) (ci := 5) (v := .int (r_c σ)) (C := R_Model) (T := T_Model) (N := 12) hx hb htb uin_Model hown hK hP 0 rfl rfl 6 (by decide) (htb _ tw596) (fun _ h9 => h9) rfl d_Model_count_167 ?_
                  have hJ := Option.some.inj hJ
                  exact W.iret (v := (r_c σ)) hx hb hr (fun t ht hW => ⟨⟨_, (), rfl, (j_p1 hJ), kW_end hP hK ht hW (congrArg (fun z => wR gr cB cI z) (j_p2 hJ))⟩, hS.F ht⟩) hS.2.2 d_Model_count_170
                · have hJ := j_f hJ h11
                  by_cases h12 : v1 = (5 : Int32)
                  · have hJ := j_t hJ h12
                    refine lv_tableIn (tgt := 171) (off := 94) hx hb d_Model_count_77 (by rw [h12]; decide) (by rw [h12]; decide) (by rw [h12]; rfl) (by decide) ?_
                    refine lv_aload_n hx hb d_Model_count_171 rfl (lv_at hl 0 rfl) ?_
                    refine va_get (D := (dC, dI)) (ci := 5) (v := .int (r_o σ)) (C := R_Model) (T := T_Model) (N := 12) hx hb htb uin_Model hown hK hP 0 rfl rfl 8 (by decide) (htb _ tw598) (fun _ h9 => h9) rfl d_Model_count_172 ?_
                    refine lv_if_eq (tgt := 182) hx hb d_Model_count_175 (by decide) (fun h13 => ?_) (fun h13 => ?_)
                    · have hJ := j_t hJ h13
                      refine lv_iconst (v := (0 : Int32)) hx hb d_Model_count_182 (by decide) ?_
                      have hJ := Option.some.inj hJ
                      exact W.iret (v := (0 : Int32)) hx hb hr (fun t ht hW => ⟨⟨_, (), rfl, (j_p1 hJ), kW_end hP hK ht hW (congrArg (fun z => wR gr cB cI z) (j_p2 hJ))⟩, hS.F ht⟩) hS.2.2 d_Model_count_183
                    · have hJ := j_f hJ h13
                      refine lv_iconst (v := (1 : Int32)) hx hb d_Model_count_178 (by decide) ?_
                      refine lv_goto (tgt := 183) hx hb d_Model_count_179 (by decide) ?_
                      have hJ := Option.some.inj hJ
                      exact W.iret (v := (1 : Int32)) hx hb hr (fun t ht hW => ⟨⟨_, (), rfl, (j_p1 hJ), kW_end hP hK ht hW (congrArg (fun z => wR gr cB cI z) (j_p2 hJ))⟩, hS.F ht⟩) hS.2.2 d_Model_count_183
                  · have hJ := j_f hJ h12
                    refine lv_tableOut (tgt := 184) hx hb d_Model_count_77 (by have := lv_neT h3 (show ((0 : Int32) : Int32).toInt = 0 by decide); have := lv_neT h5 (show ((1 : Int32) : Int32).toInt = 1 by decide); have := lv_neT h8 (show ((2 : Int32) : Int32).toInt = 2 by decide); have := lv_neT h10 (show ((3 : Int32) : Int32).toInt = 3 by decide); have := lv_neT h11 (show ((4 : Int32) : Int32).toInt = 4 by decide); have := lv_neT h12 (show ((5 : Int32) : Int32).toInt = 5 by decide); omega) (by decide) ?_
                    refine lv_iconst (v := ((-1) : Int32)) hx hb d_Model_count_184 (by decide) ?_
                    have hJ := Option.some.inj hJ
                    exact W.iret (v := ((-1) : Int32)) hx hb hr (fun t ht hW => ⟨⟨_, (), rfl, (j_p1 hJ), kW_end hP hK ht hW (congrArg (fun z => wR gr cB cI z) (j_p2 hJ))⟩, hS.F ht⟩) hS.2.2 d_Model_count_185
      · have hJ := j_f hJ h2
        refine lv_iload_n hx hb d_Model_count_53 rfl (lv_at hl 2 rfl) ?_
        refine lv_aload_n hx hb d_Model_count_54 rfl (lv_at hl 0 rfl) ?_
        refine lv_iload_n hx hb d_Model_count_55 rfl (lv_at hl 3 rfl) ?_
        refine lv_iconst (v := (0 : Int32)) hx hb d_Model_count_56 (by decide) ?_
        obtain ⟨x14, e14, hJ⟩ := j_bind hJ
        refine va_calli (va_runV (As := [.int v3, .int (0 : Int32)]) (rest := [.int v2]) ⟨hx, hb, hml, hown, htb⟩ (c_Model_inodeAt (l := l) (dC := dC) (dI := dI) hDa e14) (xcV 2 htb tw682 tw7 tw679 tw681 ts_Model_inodeAt rfl rfl hd_Model_inodeAt ⟨Nat.le_of_ble_eq_true rfl, Nat.le_of_ble_eq_true rfl⟩) (kW_V hP hK (va_recv (q0 := 0) (ci := 5) hK hP rfl rfl)) rfl rfl hl.1 rfl (lv_room (Nat.le_of_ble_eq_true rfl)) d_Model_count_57 ⟨Nat.le_of_ble_eq_true rfl, Nat.le_of_ble_eq_true rfl⟩) hS (fun q _ h => h) (fun q h => h) (fun r0 u t H locs ht hvm hw hB _ _ hS => ?_)
        subst r0
        have hP := kW_P hB ht
        refine lv_if_ne (tgt := 67) hx hb d_Model_count_60 (by decide) (fun h15 => ?_) (fun h15 => ?_)
        · have hJ := j_f hJ h15
          refine lv_iconst (v := (0 : Int32)) hx hb d_Model_count_67 (by decide) ?_
          refine lv_iadd hx hb d_Model_count_68 ?_
          refine lv_istore_n hx hb d_Model_count_69 rfl hl (Nat.le_of_ble_eq_true rfl) rfl (fun ls hl => ?_)
          have hl : lv_has ls 4 [(2, .int (v2 + (0 : Int32))), (0, .ref (gr 0)), (1, .int v1), (3, .int v3)] := hl
          refine lv_iinc (k := 3) (v := (v3 + (1 : Int32))) hx hb d_Model_count_70 hl rfl rfl (Nat.le_of_ble_eq_true rfl) rfl (fun ls hl => ?_)
          have hl : lv_has ls 4 [(3, .int (v3 + (1 : Int32))), (2, .int (v2 + (0 : Int32))), (0, .ref (gr 0)), (1, .int v1)] := hl
          refine lv_goto (tgt := 47) hx hb d_Model_count_73 (by decide) ?_
          exact hk _ _ _ _ _ _ _ hJ (lv_sub hl [2, 3, 1, 0] rfl) hP hS
        · have hJ := j_t hJ h15
          refine lv_iconst (v := (1 : Int32)) hx hb d_Model_count_63 (by decide) ?_
          refine lv_goto (tgt := 68) hx hb d_Model_count_64 (by decide) ?_
          refine lv_iadd hx hb d_Model_count_68 ?_
          refine lv_istore_n hx hb d_Model_count_69 rfl hl (Nat.le_of_ble_eq_true rfl) rfl (fun ls hl => ?_)
          have hl : lv_has ls 4 [(2, .int (v2 + (1 : Int32))), (0, .ref (gr 0)), (1, .int v1), (3, .int v3)] := hl
          refine lv_iinc (k := 3) (v := (v3 + (1 : Int32))) hx hb d_Model_count_70 hl rfl rfl (Nat.le_of_ble_eq_true rfl) rfl (fun ls hl => ?_)
          have hl : lv_has ls 4 [(3, .int (v3 + (1 : Int32))), (2, .int (v2 + (1 : Int32))), (0, .ref (gr 0)), (1, .int v1)] := hl
          refine lv_goto (tgt := 47) hx hb d_Model_count_73 (by decide) ?_
          exact hk _ _ _ _ _ _ _ hJ (lv_sub hl [2, 3, 1, 0] rfl) hP hS
  unfold J_Model_count at hJ
  refine lv_aload_n hx hb d_Model_count_0 rfl (lv_at hl 0 rfl) ?_
  refine lv_iconst (v := (0 : Int32)) hx hb d_Model_count_1 (by decide) ?_
  refine va_put (D := (dC, dI)) (ci := 5) (v := .int (0 : Int32)) (ty := .int) (C := R_Model) (T := T_Model) (N := 12) hx hb htb uin_Model t_Model t_Model_ok n_Model hown hK hP (hDa _) hS 0 rfl rfl 0 (by decide) (htb _ tw590) (fun _ h9 => h9) rfl (by decide +kernel) rfl rfl (Nat.le_of_ble_eq_true rfl) d_Model_count_2 (fun H locs hP _ hS => ?_)
  have hP : va_P (dC, dI) cls (wR gr cB cI (q_t σ (0 : Int32))) H := hP
  refine lv_iload_n hx hb d_Model_count_5 rfl (lv_at hl 1 rfl) ?_
  refine lv_bipush (v := (8 : Int32)) hx hb d_Model_count_6 (by decide) ?_
  refine lv_icmp_lt (tgt := 43) hx hb d_Model_count_8 (by decide) (fun h1 => ?_) (fun h1 => ?_)
  · have hJ := j_t hJ h1
    refine lv_iconst (v := (0 : Int32)) hx hb d_Model_count_43 (by decide) ?_
    refine lv_istore_n hx hb d_Model_count_44 rfl hl (Nat.le_of_ble_eq_true rfl) rfl (fun ls hl => ?_)
    have hl : lv_has ls 4 [(2, .int (0 : Int32)), (0, .ref (gr 0)), (1, .int a1)] := hl
    refine lv_iconst (v := (0 : Int32)) hx hb d_Model_count_45 (by decide) ?_
    refine lv_istore_n hx hb d_Model_count_46 rfl hl (Nat.le_of_ble_eq_true rfl) rfl (fun ls hl => ?_)
    have hl : lv_has ls 4 [(3, .int (0 : Int32)), (2, .int (0 : Int32)), (0, .ref (gr 0)), (1, .int a1)] := hl
    exact blk47 9000 _ _ _ _ _ _ _ hJ (lv_sub hl [2, 3, 1, 0] rfl) hP hS
  · have hJ := j_f hJ h1
    refine lv_aload_n hx hb d_Model_count_11 rfl (lv_at hl 0 rfl) ?_
    refine va_get (D := (dC, dI)) (ci := 5) (v := .int (r_o (q_t σ (0 : Int32)))) (C := R_Model) (T := T_Model) (N := 12) hx hb htb uin_Model hown hK hP 0 rfl rfl 8 (by decide) (htb _ tw598) (fun _ h9 => h9) rfl d_Model_count_12 ?_
    refine lv_if_ne (tgt := 29) hx hb d_Model_count_15 (by decide) (fun h16 => ?_) (fun h16 => ?_)
    · have hJ := j_f hJ h16
      refine lv_iconst (v := ((-1) : Int32)) hx hb d_Model_count_29 (by decide) ?_
      refine lv_goto (tgt := 42) hx hb d_Model_count_30 (by decide) ?_
      have hJ := Option.some.inj hJ
      exact W.iret (v := ((-1) : Int32)) hx hb hr (fun t ht hW => ⟨⟨_, (), rfl, (j_p1 hJ), kW_end hP hK ht hW (congrArg (fun z => wR gr cB cI z) (j_p2 hJ))⟩, hS.F ht⟩) hS.2.2 d_Model_count_42
    · have hJ := j_t hJ h16
      refine lv_iload_n hx hb d_Model_count_18 rfl (lv_at hl 1 rfl) ?_
      refine lv_bipush (v := (8 : Int32)) hx hb d_Model_count_19 (by decide) ?_
      refine lv_isub hx hb d_Model_count_21 ?_
      refine lv_aload_n hx hb d_Model_count_22 rfl (lv_at hl 0 rfl) ?_
      refine va_get (D := (dC, dI)) (ci := 5) (v := .int (r_n (q_t σ (0 : Int32)))) (C := R_Model) (T := T_Model) (N := 12) hx hb htb uin_Model hown hK hP 0 rfl rfl 4 (by decide) (htb _ tw594) (fun _ h9 => h9) rfl d_Model_count_23 ?_
      refine lv_icmp_lt (tgt := 33) hx hb d_Model_count_26 (by decide) (fun h17 => ?_) (fun h17 => ?_)
      · have hJ := j_t hJ h17
        refine lv_aload_n hx hb d_Model_count_33 rfl (lv_at hl 0 rfl) ?_
        refine va_get (D := (dC, dI)) (ci := 5) (v := .ref (gr 3)) (C := R_Model) (T := T_Model) (N := 12) hx hb htb uin_Model hown hK hP 0 rfl rfl 3 (by decide) (htb _ tw593) (fun _ h9 => h9) rfl d_Model_count_34 ?_
        refine lv_iload_n hx hb d_Model_count_37 rfl (lv_at hl 1 rfl) ?_
        refine lv_bipush (v := (8 : Int32)) hx hb d_Model_count_38 (by decide) ?_
        refine lv_isub hx hb d_Model_count_40 ?_
        obtain ⟨h18, hJ⟩ := j_g hJ
        refine va_iald hx hb hK hP 3 1 rfl rfl (j_in h18) d_Model_count_41 ?_
        have hJ := Option.some.inj hJ
        exact W.iret (v := ((r_P (q_t σ (0 : Int32))) (a1 - (8 : Int32)).toNatClampNeg)) hx hb hr (fun t ht hW => ⟨⟨_, (), rfl, (j_p1 hJ), kW_end hP hK ht hW (congrArg (fun z => wR gr cB cI z) (j_p2 hJ))⟩, hS.F ht⟩) hS.2.2 d_Model_count_42
      · have hJ := j_f hJ h17
        refine lv_iconst (v := ((-1) : Int32)) hx hb d_Model_count_29 (by decide) ?_
        refine lv_goto (tgt := 42) hx hb d_Model_count_30 (by decide) ?_
        have hJ := Option.some.inj hJ
        exact W.iret (v := ((-1) : Int32)) hx hb hr (fun t ht hW => ⟨⟨_, (), rfl, (j_p1 hJ), kW_end hP hK ht hW (congrArg (fun z => wR gr cB cI z) (j_p2 hJ))⟩, hS.F ht⟩) hS.2.2 d_Model_count_42
