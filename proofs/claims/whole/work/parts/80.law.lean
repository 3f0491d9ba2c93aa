/-! Each round of the law: both answer alike. Written by wip/pure/mk80.py. Own rows. -/
def St (xs : Nat → Int32) (L : Nat) (k : QS → Int32 → Option Unit) (v4 : Int32) (x : Option Unit) : Prop := ∃ τ : QS, IV τ.1.1 τ.2 ∧ x = k τ (v4 + (6 : Int32))
/-- what a helper gives, and the reference -/
def WA (x : Option (Int32 × LW)) (y : Option (Int32 × RS)) (f : Int32 → Int64) : Prop := ∃ v τ b υ, x = some (v, τ) ∧ y = some (b, υ) ∧ IV τ.1 υ ∧ r_t υ = v ∧ (v = (0 : Int32) → τ.2 0 = f b)
def fB (b : Int32) : Int64 := if b = (0 : Int32) then (0 : Int64) else (1 : Int64)
theorem W_g {x : Option (Nat × Int32 × CS)} {y : Option (Int32 × RS)} (O : Nat → Int64) (h : AG x y) : WA (x.bind fun x1 => (if x1.1 = 0 then (if jin (0 : Int32) 1 = true then some ((0 : Int32), (u_O (x1.2.2, O) (vp_updL (l_O (x1.2.2, O)) (0 : Int32).toNatClampNeg x1.2.1.toInt64))) else none) else (if x1.1 = 1 then some ((1 : Int32), (x1.2.2, O)) else (if x1.1 = 2 then some ((2 : Int32), (x1.2.2, O)) else none)))) y Int32.toInt64 := by
  obtain ⟨e, a, τ, b, υ, rfl, rfl, iv, c⟩ := h
  rcases c with ⟨rfl, ht, rfl⟩ | ⟨rfl, ht⟩ | ⟨rfl, ht⟩
  · exact ⟨0, (τ, vp_updL O 0 a.toInt64), a, υ, rfl, rfl, iv, ht, fun _ => rfl⟩
  · exact ⟨1, (τ, O), b, υ, rfl, rfl, iv, ht, fun z => absurd z (by decide)⟩
  · exact ⟨2, (τ, O), b, υ, rfl, rfl, iv, ht, fun z => absurd z (by decide)⟩
theorem W_b {x : Option (Nat × Int32 × CS)} {y : Option (Int32 × RS)} (O : Nat → Int64) (h : AG x y) : WA (x.bind fun x1 => (if x1.1 = 0 then (if x1.2.1 = (0 : Int32) then (if jin (0 : Int32) 1 = true then some ((0 : Int32), (u_O (x1.2.2, O) (vp_updL (l_O (x1.2.2, O)) (0 : Int32).toNatClampNeg (0 : Int64)))) else none) else (if jin (0 : Int32) 1 = true then some ((0 : Int32), (u_O (x1.2.2, O) (vp_updL (l_O (x1.2.2, O)) (0 : Int32).toNatClampNeg (1 : Int64)))) else none)) else (if x1.1 = 1 then some ((1 : Int32), (x1.2.2, O)) else (if x1.1 = 2 then some ((2 : Int32), (x1.2.2, O)) else none)))) y fB := by
  obtain ⟨e, a, τ, b, υ, rfl, rfl, iv, c⟩ := h
  rcases c with ⟨rfl, ht, rfl⟩ | ⟨rfl, ht⟩ | ⟨rfl, ht⟩
  · rw [nJ_bs, if_pos rfl]
    dsimp only
    by_cases q : a = (0 : Int32)
    · rw [if_pos q]
      refine ⟨0, (τ, vp_updL O 0 0), a, υ, rfl, rfl, iv, ht, fun _ => ?_⟩
      rw [fB, if_pos q]; rfl
    · rw [if_neg q]
      refine ⟨0, (τ, vp_updL O 0 1), a, υ, rfl, rfl, iv, ht, fun _ => ?_⟩
      rw [fB, if_neg q]; rfl
  · exact ⟨1, (τ, O), b, υ, rfl, rfl, iv, ht, fun z => absurd z (by decide)⟩
  · exact ⟨2, (τ, O), b, υ, rfl, rfl, iv, ht, fun z => absurd z (by decide)⟩
theorem W_m {σ : LW} {ρ : RS} (h : IV σ.1 ρ) : WA (J_Law_mount σ) (J_Model_mount ρ) Int32.toInt64 := by
  unfold J_Law_mount
  obtain ⟨e, a, τ, b, υ, e1, e2, iv, c⟩ := mount_both h
  rw [e1, e2]
  rcases c with ⟨rfl, ht, rfl⟩ | ⟨rfl, ht⟩
  · exact ⟨0, (τ, vp_updL σ.2 0 a.toInt64), a, υ, rfl, rfl, iv, ht, fun _ => rfl⟩
  · exact ⟨1, (τ, σ.2), b, υ, rfl, rfl, iv, ht, fun z => absurd z (by decide)⟩
theorem W_1 {x : Option (Nat × Int32)} {y : Option (Int32 × RS)} (σ : LW) (h : AQ x σ.1 y E1) : WA (x.bind fun x1 => (if x1.1 = 0 then (if jin (0 : Int32) 1 = true then some ((0 : Int32), (u_O σ (vp_updL (l_O σ) (0 : Int32).toNatClampNeg x1.2.toInt64))) else none) else (if x1.1 = 1 then some ((1 : Int32), σ) else none))) y Int32.toInt64 := by
  obtain ⟨e, a, b, υ, rfl, rfl, iv, c, d⟩ := h
  rcases c with ⟨rfl, ht⟩ | ⟨rfl, ht⟩
  · exact ⟨0, (σ.1, vp_updL σ.2 0 a.toInt64), b, υ, rfl, rfl, iv, ht, fun _ => by rw [← d rfl]; rfl⟩
  · exact ⟨1, σ, b, υ, rfl, rfl, iv, ht, fun z => absurd z (by decide)⟩
theorem W_3 {x : Option (Nat × Int32)} {y : Option (Int32 × RS)} (σ : LW) (h : AQ x σ.1 y E3) : WA (x.bind fun x1 => (if x1.1 = 0 then (if jin (0 : Int32) 1 = true then some ((0 : Int32), (u_O σ (vp_updL (l_O σ) (0 : Int32).toNatClampNeg x1.2.toInt64))) else none) else (if x1.1 = 1 then some ((1 : Int32), σ) else (if x1.1 = 3 then some ((2 : Int32), σ) else none)))) y Int32.toInt64 := by
  obtain ⟨e, a, b, υ, rfl, rfl, iv, c, d⟩ := h
  rcases c with ⟨rfl, ht⟩ | ⟨rfl, ht⟩ | ⟨rfl, ht⟩
  · exact ⟨0, (σ.1, vp_updL σ.2 0 a.toInt64), b, υ, rfl, rfl, iv, ht, fun _ => by rw [← d rfl]; rfl⟩
  · exact ⟨1, σ, b, υ, rfl, rfl, iv, ht, fun z => absurd z (by decide)⟩
  · exact ⟨2, σ, b, υ, rfl, rfl, iv, ht, fun z => absurd z (by decide)⟩
theorem W_D {x : Option (Nat × Int32)} {y : Option (Int32 × RS)} (σ : LW) (h : AQ x σ.1 y ED) : WA (x.bind fun x1 => (if x1.1 = 0 then (if jin (0 : Int32) 1 = true then some ((0 : Int32), (u_O σ (vp_updL (l_O σ) (0 : Int32).toNatClampNeg x1.2.toInt64))) else none) else (if x1.1 = 3 then some ((1 : Int32), σ) else none))) y Int32.toInt64 := by
  obtain ⟨e, a, b, υ, rfl, rfl, iv, c, d⟩ := h
  rcases c with ⟨rfl, ht⟩ | ⟨rfl, ht⟩
  · exact ⟨0, (σ.1, vp_updL σ.2 0 a.toInt64), b, υ, rfl, rfl, iv, ht, fun _ => by rw [← d rfl]; rfl⟩
  · exact ⟨1, σ, b, υ, rfl, rfl, iv, ht, fun z => absurd z (by decide)⟩
theorem cmp_rf (a : Int64) : lg_cmp a a = (0 : Int32) := (lg_cmp_eq a a).mpr rfl
theorem tl_g (xs : Nat → Int32) (L : Nat) {k : QS → Int32 → Option Unit} {τ : LW} {υ : RS} {b v v4 : Int32} (iv : IV τ.1 υ) (et : r_t υ = v) (ea : v = (0 : Int32) → τ.2 0 = b.toInt64) : St xs L k v4 ((J_Model_thrown υ).bind fun x16 => (if x16 = v then (if v = (0 : Int32) then (if jin (0 : Int32) 1 = true then (if (lg_cmp ((p_O (τ, υ)) (0 : Int32).toNatClampNeg) b.toInt64) = (0 : Int32) then k (τ, υ) (v4 + (6 : Int32)) else none) else none) else k (τ, υ) (v4 + (6 : Int32))) else none)) := by
  refine ⟨(τ, υ), iv, ?_⟩
  unfold J_Model_thrown
  rw [nJ_bs, if_pos et]
  by_cases q : v = (0 : Int32)
  · rw [if_pos q, if_pos (by decide), show p_O (τ, υ) (0 : Int32).toNatClampNeg = b.toInt64 from ea q, if_pos (cmp_rf _)]
  · rw [if_neg q]
theorem tl_b (xs : Nat → Int32) (L : Nat) {k : QS → Int32 → Option Unit} {τ : LW} {υ : RS} {b v v4 : Int32} (iv : IV τ.1 υ) (et : r_t υ = v) (ea : v = (0 : Int32) → τ.2 0 = fB b) {f : QS → Int32 → Int64 → Int64 → Option Unit} (hf : f = fun σ v4 t1 t0 => (if (lg_cmp t0 t1) = (0 : Int32) then k σ (v4 + (6 : Int32)) else none)) : St xs L k v4 ((J_Model_thrown υ).bind fun x16 => (if x16 = v then (if v = (0 : Int32) then (if jin (0 : Int32) 1 = true then (if b = (0 : Int32) then f (τ, υ) v4 (0 : Int64) ((p_O (τ, υ)) (0 : Int32).toNatClampNeg) else f (τ, υ) v4 (1 : Int64) ((p_O (τ, υ)) (0 : Int32).toNatClampNeg)) else none) else k (τ, υ) (v4 + (6 : Int32))) else none)) := by
  refine ⟨(τ, υ), iv, ?_⟩
  unfold J_Model_thrown
  rw [nJ_bs, if_pos et, hf]
  by_cases q : v = (0 : Int32)
  · rw [if_pos q, if_pos (by decide), show p_O (τ, υ) (0 : Int32).toNatClampNeg = fB b from ea q]
    unfold fB
    by_cases z : b = (0 : Int32)
    · rw [if_pos z, if_pos z]
      exact if_pos (cmp_rf _)
    · rw [if_neg z, if_neg z]
      exact if_pos (cmp_rf _)
  · rw [if_neg q]
theorem L_link (xs : Nat → Int32) (L : Nat) (k : QS → Int32 → Option Unit) {σ : QS} {v4 : Int32} (h : IV σ.1.1 σ.2) (j1 : jin (v4 + (1 : Int32)) L = true) (j2 : jin (v4 + (2 : Int32)) L = true) (j3 : jin (v4 + (3 : Int32)) L = true) (j4 : jin (v4 + (4 : Int32)) L = true) : St xs L k v4 (J_law_244 xs L k σ v4) := by
  unfold J_law_244
  unfold J_Law_link
  rw [if_pos j1, if_pos j2, if_pos j3, if_pos j4]
  obtain ⟨v, τ, b, υ, e1, e2, iv, et, ea⟩ := W_b σ.1.2 (AG_link h _ _ _)
  rw [e1, nJ_bs]
  dsimp only
  rw [if_pos j1, if_pos j2, if_pos j3, if_pos j4]
  rw [e2, nJ_bs]
  exact tl_b xs L iv et ea (f := J_law_354 xs L k) rfl
theorem L_unlink (xs : Nat → Int32) (L : Nat) (k : QS → Int32 → Option Unit) {σ : QS} {v4 : Int32} (h : IV σ.1.1 σ.2) (j1 : jin (v4 + (1 : Int32)) L = true) (j2 : jin (v4 + (2 : Int32)) L = true) (j3 : jin (v4 + (3 : Int32)) L = true) : St xs L k v4 (J_law_363 xs L k σ v4) := by
  unfold J_law_363
  unfold J_Law_unlink
  rw [if_pos j1, if_pos j2, if_pos j3]
  obtain ⟨v, τ, b, υ, e1, e2, iv, et, ea⟩ := W_b σ.1.2 (AG_unlink h _ _)
  rw [e1, nJ_bs]
  dsimp only
  rw [if_pos j1, if_pos j2, if_pos j3]
  rw [e2, nJ_bs]
  exact tl_b xs L iv et ea (f := J_law_461 xs L k) rfl
theorem L_write (xs : Nat → Int32) (L : Nat) (k : QS → Int32 → Option Unit) {σ : QS} {v4 : Int32} (h : IV σ.1.1 σ.2) (j1 : jin (v4 + (1 : Int32)) L = true) (j2 : jin (v4 + (2 : Int32)) L = true) (j3 : jin (v4 + (3 : Int32)) L = true) (j4 : jin (v4 + (4 : Int32)) L = true) (j5 : jin (v4 + (5 : Int32)) L = true) : St xs L k v4 (J_law_470 xs L k σ v4) := by
  unfold J_law_470
  unfold J_Law_write
  rw [if_pos j1, if_pos j2, if_pos j3, if_pos j4, if_pos j5]
  obtain ⟨v, τ, b, υ, e1, e2, iv, et, ea⟩ := W_g σ.1.2 (AG_write h _ _ _ _)
  rw [e1, nJ_bs]
  dsimp only
  rw [if_pos j1, if_pos j2, if_pos j3, if_pos j4, if_pos j5]
  rw [e2, nJ_bs]
  exact tl_g xs L iv et ea
theorem L_fill (xs : Nat → Int32) (L : Nat) (k : QS → Int32 → Option Unit) {σ : QS} {v4 : Int32} (h : IV σ.1.1 σ.2) (j1 : jin (v4 + (1 : Int32)) L = true) (j2 : jin (v4 + (2 : Int32)) L = true) (j3 : jin (v4 + (3 : Int32)) L = true) (j4 : jin (v4 + (4 : Int32)) L = true) : St xs L k v4 (J_law_594 xs L k σ v4) := by
  unfold J_law_594
  unfold J_Law_fill
  rw [if_pos j1, if_pos j2, if_pos j3, if_pos j4]
  obtain ⟨v, τ, b, υ, e1, e2, iv, et, ea⟩ := W_g σ.1.2 (AG_fill h _ _ _ _)
  rw [e1, nJ_bs]
  dsimp only
  rw [if_pos j1, if_pos j2, if_pos j3, if_pos j4]
  rw [e2, nJ_bs]
  exact tl_g xs L iv et ea
theorem L_truncate (xs : Nat → Int32) (L : Nat) (k : QS → Int32 → Option Unit) {σ : QS} {v4 : Int32} (h : IV σ.1.1 σ.2) (j1 : jin (v4 + (1 : Int32)) L = true) : St xs L k v4 (J_law_686 xs L k σ v4) := by
  unfold J_law_686
  unfold J_Law_truncate
  rw [if_pos j1]
  obtain ⟨v, τ, b, υ, e1, e2, iv, et, ea⟩ := W_b σ.1.2 (AG_truncate h _)
  rw [e1, nJ_bs]
  dsimp only
  rw [if_pos j1]
  rw [e2, nJ_bs]
  exact tl_b xs L iv et ea (f := J_law_740 xs L k) rfl
theorem L_sync (xs : Nat → Int32) (L : Nat) (k : QS → Int32 → Option Unit) {σ : QS} {v4 : Int32} (h : IV σ.1.1 σ.2) : St xs L k v4 (J_law_749 xs L k σ v4) := by
  unfold J_law_749
  unfold J_Law_sync
  obtain ⟨v, τ, b, υ, e1, e2, iv, et, ea⟩ := W_g σ.1.2 (AG_sync h)
  rw [e1, nJ_bs]
  dsimp only
  rw [e2, nJ_bs]
  exact tl_g xs L iv et ea
theorem L_mount (xs : Nat → Int32) (L : Nat) (k : QS → Int32 → Option Unit) {σ : QS} {v4 : Int32} (h : IV σ.1.1 σ.2) : St xs L k v4 (J_law_818 xs L k σ v4) := by
  unfold J_law_818
  obtain ⟨v, τ, b, υ, e1, e2, iv, et, ea⟩ := W_m h
  rw [e1, nJ_bs]
  dsimp only
  rw [e2, nJ_bs]
  exact tl_g xs L iv et ea
theorem L_find (xs : Nat → Int32) (L : Nat) (k : QS → Int32 → Option Unit) {σ : QS} {v4 : Int32} (h : IV σ.1.1 σ.2) (j1 : jin (v4 + (1 : Int32)) L = true) (j2 : jin (v4 + (2 : Int32)) L = true) (j3 : jin (v4 + (3 : Int32)) L = true) : St xs L k v4 (J_law_862 xs L k σ v4) := by
  unfold J_law_862
  unfold J_Law_find
  rw [if_pos j1, if_pos j2, if_pos j3]
  obtain ⟨v, τ, b, υ, e1, e2, iv, et, ea⟩ := W_1 σ.1 (AQ_find h _ _)
  rw [e1, nJ_bs]
  dsimp only
  rw [if_pos j1, if_pos j2, if_pos j3]
  rw [e2, nJ_bs]
  exact tl_g xs L iv et ea
theorem L_read (xs : Nat → Int32) (L : Nat) (k : QS → Int32 → Option Unit) {σ : QS} {v4 : Int32} (h : IV σ.1.1 σ.2) (j1 : jin (v4 + (1 : Int32)) L = true) (j2 : jin (v4 + (2 : Int32)) L = true) : St xs L k v4 (J_law_962 xs L k σ v4) := by
  unfold J_law_962
  unfold J_Law_read
  rw [if_pos j1, if_pos j2]
  obtain ⟨v, τ, b, υ, e1, e2, iv, et, ea⟩ := W_3 σ.1 (AQ_read h _ _)
  rw [e1, nJ_bs]
  dsimp only
  rw [if_pos j1, if_pos j2]
  rw [e2, nJ_bs]
  exact tl_g xs L iv et ea
theorem L_look (xs : Nat → Int32) (L : Nat) (k : QS → Int32 → Option Unit) {σ : QS} {v4 : Int32} (h : IV σ.1.1 σ.2) (j1 : jin (v4 + (1 : Int32)) L = true) (j2 : jin (v4 + (2 : Int32)) L = true) : St xs L k v4 (J_law_1030 xs L k σ v4) := by
  unfold J_law_1030
  unfold J_Law_look
  rw [if_pos j1, if_pos j2]
  obtain ⟨v, τ, b, υ, e1, e2, iv, et, ea⟩ := W_3 σ.1 (AQ_look h _ _)
  rw [e1, nJ_bs]
  dsimp only
  rw [if_pos j1, if_pos j2]
  rw [e2, nJ_bs]
  exact tl_g xs L iv et ea
theorem L_disk (xs : Nat → Int32) (L : Nat) (k : QS → Int32 → Option Unit) {σ : QS} {v4 : Int32} (h : IV σ.1.1 σ.2) (j1 : jin (v4 + (1 : Int32)) L = true) (j2 : jin (v4 + (2 : Int32)) L = true) : St xs L k v4 (J_law_1098 xs L k σ v4) := by
  unfold J_law_1098
  unfold J_Law_disk
  rw [if_pos j1, if_pos j2]
  obtain ⟨v, τ, b, υ, e1, e2, iv, et, ea⟩ := W_D σ.1 (AQ_disk h _ _)
  rw [e1, nJ_bs]
  dsimp only
  rw [if_pos j1, if_pos j2]
  rw [e2, nJ_bs]
  exact tl_g xs L iv et ea
theorem L_memory (xs : Nat → Int32) (L : Nat) (k : QS → Int32 → Option Unit) {σ : QS} {v4 : Int32} (h : IV σ.1.1 σ.2) (j1 : jin (v4 + (1 : Int32)) L = true) (j2 : jin (v4 + (2 : Int32)) L = true) : St xs L k v4 (J_law_1166 xs L k σ v4) := by
  unfold J_law_1166
  unfold J_Law_memory
  rw [if_pos j1, if_pos j2]
  obtain ⟨v, τ, b, υ, e1, e2, iv, et, ea⟩ := W_3 σ.1 (AQ_memory h _ _)
  rw [e1, nJ_bs]
  dsimp only
  rw [if_pos j1, if_pos j2]
  rw [e2, nJ_bs]
  exact tl_g xs L iv et ea
theorem L_make (xs : Nat → Int32) (L : Nat) (k : QS → Int32 → Option Unit) {σ : QS} {v4 : Int32} (h : IV σ.1.1 σ.2) (j1 : jin (v4 + (1 : Int32)) L = true) (j2 : jin (v4 + (2 : Int32)) L = true) (j3 : jin (v4 + (3 : Int32)) L = true) (j4 : jin (v4 + (4 : Int32)) L = true) : St xs L k v4 (J_law_116 xs L k σ v4) := by
  have key : ∀ (t3 : Int32) (t2 : Int64) (t1 : Int32), ∃ v τ, J_Law_make σ.1 t1 t2 t3 = some (v, τ) ∧ St xs L k v4 (J_law_208 xs L k (τ, σ.2) v4 v t3 t2 t1) := fun t3 t2 t1 => by
    obtain ⟨v, τ, b, υ, e1, e2, iv, et, ea⟩ := W_g σ.1.2 (AG_make h t1 t2 t3)
    refine ⟨v, τ, e1, ?_⟩
    unfold J_law_208
    dsimp only
    rw [e2, nJ_bs]
    exact tl_g xs L iv et ea
  unfold J_law_116
  rw [if_pos j1, if_pos j2, if_pos j3, if_pos j4]
  by_cases q : xs (v4 + (4 : Int32)).toNatClampNeg = (0 : Int32)
  · rw [if_pos q]
    unfold J_law_159
    obtain ⟨v, τ, e1, e2⟩ := key (0 : Int32) _ _
    rw [e1, nJ_bs, if_pos j1, if_pos j2, if_pos j3, if_pos j4, if_pos q]
    exact e2
  · rw [if_neg q]
    unfold J_law_159
    obtain ⟨v, τ, e1, e2⟩ := key (1 : Int32) _ _
    rw [e1, nJ_bs, if_pos j1, if_pos j2, if_pos j3, if_pos j4, if_neg q]
    exact e2
theorem L_fail (xs : Nat → Int32) (L : Nat) (k : QS → Int32 → Option Unit) {σ : QS} {v4 : Int32} (h : IV σ.1.1 σ.2) (j1 : jin (v4 + (1 : Int32)) L = true) : St xs L k v4 (J_law_793 xs L k σ v4) := by
  unfold J_law_793
  obtain ⟨v, τ, υ, e1, e2, iv⟩ := fail_both h (xs (v4 + (1 : Int32)).toNatClampNeg)
  rw [if_pos j1, e1, nJ_bs]
  dsimp only
  rw [if_pos j1, e2, nJ_bs, if_pos rfl]
  exact ⟨((τ, σ.1.2), υ), iv, rfl⟩
theorem L_count (xs : Nat → Int32) (L : Nat) (k : QS → Int32 → Option Unit) {σ : QS} {v4 : Int32} (h : IV σ.1.1 σ.2) (j1 : jin (v4 + (1 : Int32)) L = true) : St xs L k v4 (J_law_1234 xs L k σ v4) := by
  unfold J_law_1234
  obtain ⟨v, υ, e1, e2, iv⟩ := count_both h (xs (v4 + (1 : Int32)).toNatClampNeg)
  rw [if_pos j1, e1, nJ_bs, if_pos j1, e2, nJ_bs, if_pos rfl]
  exact ⟨(σ.1, υ), iv, rfl⟩
theorem L_step (xs : Nat → Int32) (L : Nat) (k : QS → Int32 → Option Unit) {σ : QS} {v4 : Int32} (h : IV σ.1.1 σ.2) (hn : ¬ ((Int32.ofNat L) - (6 : Int32)) < v4) (j0 : jin v4 L = true) (j1 : jin (v4 + (1 : Int32)) L = true) (j2 : jin (v4 + (2 : Int32)) L = true) (j3 : jin (v4 + (3 : Int32)) L = true) (j4 : jin (v4 + (4 : Int32)) L = true) (j5 : jin (v4 + (5 : Int32)) L = true) : St xs L k v4 (J_law_23_b xs L k σ v4) := by
  unfold J_law_23_b
  rw [if_neg hn, if_pos j0]
  generalize (xs v4.toNatClampNeg) &&& (15 : Int32) = w
  by_cases c0 : w = (0 : Int32)
  · rw [if_pos c0]
    exact L_make xs L k h j1 j2 j3 j4
  rw [if_neg c0]
  by_cases c1 : w = (1 : Int32)
  · rw [if_pos c1]
    exact L_link xs L k h j1 j2 j3 j4
  rw [if_neg c1]
  by_cases c2 : w = (2 : Int32)
  · rw [if_pos c2]
    exact L_unlink xs L k h j1 j2 j3
  rw [if_neg c2]
  by_cases c3 : w = (3 : Int32)
  · rw [if_pos c3]
    exact L_write xs L k h j1 j2 j3 j4 j5
  rw [if_neg c3]
  by_cases c4 : w = (4 : Int32)
  · rw [if_pos c4]
    exact L_fill xs L k h j1 j2 j3 j4
  rw [if_neg c4]
  by_cases c5 : w = (5 : Int32)
  · rw [if_pos c5]
    exact L_truncate xs L k h j1
  rw [if_neg c5]
  by_cases c6 : w = (6 : Int32)
  · rw [if_pos c6]
    exact L_sync xs L k h
  rw [if_neg c6]
  by_cases c7 : w = (7 : Int32)
  · rw [if_pos c7]
    exact L_fail xs L k h j1
  rw [if_neg c7]
  by_cases c8 : w = (8 : Int32)
  · rw [if_pos c8]
    exact L_mount xs L k h
  rw [if_neg c8]
  by_cases c9 : w = (9 : Int32)
  · rw [if_pos c9]
    exact L_find xs L k h j1 j2 j3
  rw [if_neg c9]
  by_cases c10 : w = (10 : Int32)
  · rw [if_pos c10]
    exact L_read xs L k h j1 j2
  rw [if_neg c10]
  by_cases c11 : w = (11 : Int32)
  · rw [if_pos c11]
    exact L_look xs L k h j1 j2
  rw [if_neg c11]
  by_cases c12 : w = (12 : Int32)
  · rw [if_pos c12]
    exact L_disk xs L k h j1 j2
  rw [if_neg c12]
  by_cases c13 : w = (13 : Int32)
  · rw [if_pos c13]
    exact L_memory xs L k h j1 j2
  rw [if_neg c13]
  by_cases c14 : w = (14 : Int32)
  · rw [if_pos c14]
    exact L_count xs L k h j1
  rw [if_neg c14]
  exact ⟨σ, h, rfl⟩
theorem L_end {L m : Nat} (hL : L ≤ 3072) (hm : 6 * m ≤ L) : (((Int32.ofNat L) - (6 : Int32)) < nI (6 * m)) = (L < 6 * m + 6) := by
  have e : Int32.ofNat L - (6 : Int32) = nI L - nI 6 := rfl
  rw [e]
  by_cases z : 6 ≤ L
  · rw [nJ_sub z (by omega), nJ_lt (by omega) (by omega)]
    exact propext ⟨fun _ => by omega, fun _ => by omega⟩
  · refine eq_true (?_) |>.trans (eq_true (by omega)).symm
    rw [Int32.lt_iff_toInt_lt, nI_toInt (by omega)]
    have : (nI L - nI 6).toInt < 0 := by
      rcases (show L = 0 ∨ L = 1 ∨ L = 2 ∨ L = 3 ∨ L = 4 ∨ L = 5 by omega) with rfl | rfl | rfl | rfl | rfl | rfl <;> decide
    omega
theorem L_loop (xs : Nat → Int32) (L : Nat) (hL : L ≤ 3072) : ∀ (n m : Nat) (σ : QS), IV σ.1.1 σ.2 → 6 * m ≤ L → L < 6 * m + 6 * n → J_law_23 xs L n σ (nI (6 * m)) = some () := by
  intro n
  induction n with
  | zero => intro m σ h h1 h2; exact absurd h2 (by omega)
  | succ n ih =>
    intro m σ h h1 h2
    have e : J_law_23 xs L (n + 1) σ (nI (6 * m)) = J_law_23_b xs L (J_law_23 xs L n) σ (nI (6 * m)) := rfl
    rw [e]
    by_cases z : L < 6 * m + 6
    · unfold J_law_23_b
      rw [if_pos (by rw [L_end hL h1]; exact z)]
    · have j : ∀ d, d < 6 → jin (nI (6 * m) + nI d) L = true := fun d hd => by rw [nI_add]; exact jin_nI (by omega) (by omega)
      obtain ⟨τ, iv, e2⟩ := L_step xs L (J_law_23 xs L n) h (by rw [L_end hL h1]; exact z) (jin_nI (n := 6 * m) (by omega) (by omega)) (j 1 (by omega)) (j 2 (by omega)) (j 3 (by omega)) (j 4 (by omega)) (j 5 (by omega))
      rw [e2, nL_6, nI_add]
      exact ih (m + 1) τ iv (by omega) (by omega)
