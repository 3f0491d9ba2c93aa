/-! A run of bytes put into a content: what it does to a good file system. Own rows. -/
def nq (x w : Nat) : Nat := if x < w then (if w ≤ 10 then w - x else if 10 < x then w - x else w - x + 1) else 0
theorem nds_nq (M : By) (i e : Nat) : nds M i e = nq (bf (sz M i)) (bf e) := rfl
/-- the inodes' bytes but for the slots of i -/
def HE (M M' : By) (i : Nat) : Prop := ∀ a, 1088 ≤ a → a < 1600 → ¬ (1092 + 16 * i ≤ a ∧ a < 1103 + 16 * i) → rb M' a = rb M a
theorem HE.rf (M : By) (i : Nat) : HE M M i := fun _ _ _ _ => rfl
theorem HE.tr {M N P : By} {i : Nat} (a : HE M N i) (b : HE N P i) : HE M P i := fun x h1 h2 h3 => (b x h1 h2 h3).trans (a x h1 h2 h3)
theorem HE.q_sz {M N : By} {i : Nat} (a : HE M N i) {j : Nat} (hj : j < 32) : sz N j = sz M j := by
  unfold sz
  rw [a _ (by omega) (by omega) (by omega), a _ (by omega) (by omega) (by omega)]
theorem HE.q_ty {M N : By} {i : Nat} (a : HE M N i) {j : Nat} (hj : j < 32) : ty N j = ty M j := a _ (by omega) (by omega) (by omega)
theorem HE.q_ln {M N : By} {i : Nat} (a : HE M N i) {j : Nat} (hj : j < 32) : ln N j = ln M j := a _ (by omega) (by omega) (by omega)
/-- the slots of i that are full stay -/
def PS (M M' : By) (i : Nat) : Prop := (nd M i ≠ 0 → nd M' i = nd M i) ∧ ∀ k, k < 16 → cbk M i k ≠ 0 → cbk M' i k = cbk M i k
theorem PS.rf (M : By) (i : Nat) : PS M M i := ⟨fun _ => rfl, fun _ _ _ => rfl⟩
theorem PS.tr {M N P : By} {i : Nat} (a : PS M N i) (b : PS N P i) : PS M P i :=
  ⟨fun h => (b.1 (by rw [a.1 h]; exact h)).trans (a.1 h), fun k hk h => (b.2 k hk (by rw [a.2 k hk h]; exact h)).trans (a.2 k hk h)⟩
/-- the contents of the others stay -/
def KQ (M M' : By) (i : Nat) (O : Nat → Nat → Prop) : Prop := ∀ j k, O j k → j ≠ i → blk M' j k = blk M j k ∧ (k < 16 → ∀ o, o < 64 → rb M' (64 * blk M j k + o) = rb M (64 * blk M j k + o))
theorem KQ.rf (M : By) (i : Nat) (O : Nat → Nat → Prop) : KQ M M i O := fun _ _ _ _ => ⟨rfl, fun _ _ _ => rfl⟩
theorem KQ.tr {M N P : By} {i : Nat} {O : Nat → Nat → Prop} (a : KQ M N i O) (b : KQ N P i O) : KQ M P i O := fun j k o hj => by
  obtain ⟨a1, a2⟩ := a j k o hj
  obtain ⟨b1, b2⟩ := b j k o hj
  refine ⟨b1.trans a1, fun hk x hx => ?_⟩
  have := b2 hk x hx
  rw [a1] at this
  exact this.trans (a2 hk x hx)
theorem KQ.q_ct {M N : By} {i : Nat} {O : Nat → Nat → Prop} (h : KQ M N i O) {j p : Nat} (hj : j ≠ i) (o : O j (p / 64)) (hp : p / 64 < 16) : ct N j p = ct M j p := by
  obtain ⟨h1, h2⟩ := h j _ o hj
  rw [blk_lo hp, blk_lo hp] at h1
  have := h2 hp (p % 64) (by omega)
  rw [blk_lo hp] at this
  unfold ct
  rw [h1]
  exact this
/-- only these blocks have changed -/
def CB (M M' : By) (T : List Nat) : Prop := ∀ a, a / 64 ∉ T → M' a = M a
theorem CB.tr {M N P : By} {T T' : List Nat} (a : CB M N T) (b : CB N P T') : CB M P (T ++ T') := fun x hx =>
  (b x (fun z => hx (List.mem_append_right _ z))).trans (a x (fun z => hx (List.mem_append_left _ z)))
theorem CB.rf (M : By) : CB M M [] := fun _ _ => rfl
theorem CB.up {M : By} {b o : Nat} (ho : o < 64) (v : Int8) : CB M (va_up M (64 * b + o) v) [b] := fun a ha => by
  refine va_up_ne _ _ (fun e => ha (List.mem_singleton.mpr ?_))
  omega
theorem CB.q_tak {M : By} {b : Nat} (hb : b < 128) : CB M (tak M b) [25, b] := fun a ha => by
  have h1 : a / 64 ≠ 25 := fun e => ha (by rw [e]; exact List.mem_cons_self)
  have h2 : a / 64 ≠ b := fun e => ha (by rw [e]; exact List.mem_cons_of_mem _ List.mem_cons_self)
  show zro (on M b) b a = M a
  unfold zro
  rw [if_neg (by omega)]
  unfold on
  exact va_up_ne _ _ (by omega)
theorem CB.sA {M : By} {i k : Nat} (hf : lfb M < 128) : CB M (sA M i k) (tS M i k) := by
  have h := (CB.q_tak (M := M) hf).tr (CB.up (M := tak M (lfb M)) (b := sa M i k / 64) (o := sa M i k % 64) (by omega) (b8 (lfb M)))
  rw [show 64 * (sa M i k / 64) + sa M i k % 64 = sa M i k by omega] at h
  exact h
theorem CB_aB {M : By} {i k : Nat} (h : aOk M i k) : CB M (aB M i k) (tB M i k) := by
  obtain ⟨-, hf, -, h2⟩ := h
  unfold aB tB
  by_cases c : k < 10 ∨ nd M i ≠ 0
  · rw [if_pos c, if_pos c]; exact CB.sA hf
  · rw [if_neg c, if_neg c]
    exact (CB.sA hf).tr (CB.sA (h2 (by omega) (by omega)).2)
theorem HE_sA {M : By} {O : Nat → Nat → Prop} (g : GS M O) {i k : Nat} (hi : i < 32) (hk : k ≤ 16) (hf : lfb M < 128) (hn : 10 ≤ k → k < 16 → 26 ≤ nd M i) : HE M (sA M i k) i := fun a h1 h2 h3 => by
  have l26 := lfb_26 g.1 hf
  refine rb_sA ?_ (by omega) (by omega) hf
  unfold sa
  by_cases q : k < 10
  · rw [if_pos q]; omega
  · rw [if_neg q]
    by_cases w : k = 16
    · rw [if_pos w]; omega
    · rw [if_neg w]
      have := hn (by omega) (by omega)
      omega
theorem GS.nd26 {M : By} {O : Nat → Nat → Prop} (g : GS M O) {i : Nat} (hi : i < 32) (h : nd M i ≠ 0) : 26 ≤ nd M i := by
  by_cases o : O i 16
  · have := (g.2.1 i 16 o).2.2.1
    rwa [blk_16] at this
  · exact absurd (by have := g.2.2.2 i 16 hi (Nat.le_refl _) o; rwa [blk_16] at this) h
theorem HE_aB {M : By} {h : Nat → Nat} (g : GS M (OH h)) {i k : Nat} (hi : i < 32) (hk : k < 16) (hh : h i = k) (ha : aOk M i k) : HE M (aB M i k) i := by
  obtain ⟨h26, hf, hn, h2⟩ := ha
  have l26 := lfb_26 h26 hf
  unfold aB
  by_cases c : k < 10 ∨ nd M i ≠ 0
  · rw [if_pos c]
    exact HE_sA g hi (by omega) hf (fun z1 z2 => g.nd26 hi (c.elim (fun y => by omega) id))
  · rw [if_neg c]
    obtain ⟨g26, gf⟩ := h2 (by omega) (by omega)
    refine (HE_sA g hi (Nat.le_refl _) hf (fun _ z => absurd z (by omega))).tr ?_
    have l26b := lfb_26 g26 gf
    intro a h1 h2 h3
    refine rb_sA ?_ (by omega) (by omega) gf
    rw [sa_hi (by omega) hk, nd_sA16 hf]
    omega
/-- an owned slot is full -/
theorem GS.full {M : By} {h : Nat → Nat} (g : GS M (OH h)) {i k : Nat} (hi : i < 32) (hk : k < 16) : cbk M i k ≠ 0 ↔ k < h i := by
  refine ⟨fun z => ?_, fun z => ?_⟩
  · by_cases q : k < h i
    · exact q
    · refine absurd ?_ z
      rw [← blk_lo hk]
      exact g.2.2.2 i k hi (by omega) (fun o => by obtain ⟨-, o | o⟩ := o <;> omega)
  · have := (g.2.1 i k ⟨hi, Or.inl ⟨z, hk⟩⟩).2.2.1
    rw [blk_lo hk] at this
    omega
theorem PS_KP {M N : By} {h : Nat → Nat} (g : GS M (OH h)) (k : KP M N (OH h)) {i : Nat} (hi : i < 32) : PS M N i := by
  refine ⟨fun z => ?_, fun n hn z => ?_⟩
  · have o : OH h i 16 := by
      by_cases o : OH h i 16
      · exact o
      · exact absurd (by have := g.2.2.2 i 16 hi (Nat.le_refl _) o; rwa [blk_16] at this) z
    have := (k i 16 o).1
    rwa [blk_16, blk_16] at this
  · have := (k i n ⟨hi, Or.inl ⟨(g.full hi hn).mp z, hn⟩⟩).1
    rwa [blk_lo hn, blk_lo hn] at this
theorem fb_SE {M N : By} (h : SE M N) : fb N = fb M := by
  refine cn_congr 128 0 (fun j _ hj => ?_)
  unfold pB
  rw [h.q_bit (by omega)]
/-- what holds before the v-th of n bytes at a -/
def WI (M : By) (h0 : Nat → Nat) (i a n v : Nat) : Prop := GS M (OH (up h0 i (max (h0 i) (bf (a + v))))) ∧ nq (max (h0 i) (bf (a + v))) (bf (a + n)) ≤ fb M
/-- the blocks of a run -/
def UN (M : By) (i a n x : Nat) : Prop := x = 25 ∨ x = 17 + i / 4 ∨ (x ≠ 0 ∧ x = nd M i) ∨ ∃ k, a / 64 ≤ k ∧ k ≤ (a + n - 1) / 64 ∧ k < 16 ∧ x ≠ 0 ∧ x = cbk M i k
theorem UN.ps {M N : By} {i a n x : Nat} (h : PS M N i) (u : UN M i a n x) : UN N i a n x := by
  rcases u with u | u | u | ⟨k, k1, k2, k3, k4, k5⟩
  · exact Or.inl u
  · exact Or.inr (Or.inl u)
  · exact Or.inr (Or.inr (Or.inl ⟨u.1, by rw [h.1 (by rw [← u.2]; exact u.1)]; exact u.2⟩))
  · exact Or.inr (Or.inr (Or.inr ⟨k, k1, k2, k3, k4, by rw [h.2 k k3 (by rw [← k5]; exact k4)]; exact k5⟩))
def stepF (M N : By) (h0 : Nat → Nat) (i a n v w : Nat) : Prop :=
  okW i a (h0 i) M (a + v) ∧ WI N h0 i a n (v + 1) ∧ KQ M N i (OH h0) ∧ HE M N i ∧ PS M N i ∧ (∀ x ∈ T1 M i (a + v), UN N i a n x) ∧ CB M N (T1 M i (a + v)) ∧
  ct N i (a + v) = w % 256 ∧ ∀ q, q / 64 < 16 → q / 64 < max (h0 i) (bf (a + v)) → q ≠ a + v → ct N i q = ct M i q
theorem co_nq {k W f : Nat} (hw : k + 1 ≤ W) (hr : nq k W ≤ f) : co k ≤ f ∧ nq (k + 1) W + co k ≤ f := by
  unfold nq at hr ⊢
  unfold co
  by_cases q1 : W ≤ 10 <;> by_cases q2 : 10 < k <;> by_cases q3 : k = 10 <;> by_cases q4 : k + 1 < W <;> simp (disch := omega) only [if_pos, if_neg] at hr ⊢ <;> omega
theorem p1_step {M : By} {h0 : Nat → Nat} {i a n v w s : Nat} (hi : i < 32) (han : a + n ≤ 1000) (hv : v < n) (hs : h0 i = bf s) (has : a ≤ s) (hW : WI M h0 i a n v) : stepF M (p1 M i (a + v) w) h0 i a n v w := by
  obtain ⟨g, hr⟩ := hW
  have hk16 : (a + v) / 64 < 16 := by omega
  obtain ⟨k, hk⟩ : ∃ k, k = (a + v) / 64 := ⟨_, rfl⟩
  obtain ⟨x, hx⟩ : ∃ x, x = max (h0 i) (bf (a + v)) := ⟨_, rfl⟩
  obtain ⟨y, hy⟩ : ∃ y, y = max (h0 i) (bf (a + (v + 1))) := ⟨_, rfl⟩
  rw [← hx] at g hr
  have hxy : k < x ∧ y = x ∨ (k = x ∧ y = k + 1 ∧ (a + v) % 64 = 0) := by
    unfold bf at hx hy hs
    omega
  have hsub : ∀ j n, OH h0 j n → j ≠ i → OH (up h0 i x) j n := fun j n o hj => by
    unfold OH at o ⊢
    rw [up_n hj]; exact o
  -- the block
  have blockF : GS (m1 M i k) (OH (up h0 i y)) ∧ KP M (m1 M i k) (OH (up h0 i x)) ∧ HE M (m1 M i k) i ∧ nq y (bf (a + n)) ≤ fb (m1 M i k) ∧ (∀ z ∈ t1 M i k, UQ (m1 M i k) i k z) ∧ CB M (m1 M i k) (t1 M i k) ∧ (cbk M i k = 0 → aOk M i k) ∧ (cbk M i k = 0 ↔ h0 i ≤ k ∧ (a + v = a ∨ (a + v) % 64 = 0)) := by
    have hfull : cbk M i k ≠ 0 ↔ k < x := by
      have := g.full hi (show k < 16 by omega)
      rwa [up_s] at this
    rcases hxy with ⟨c1, c2⟩ | ⟨c1, c2, c3⟩
    · have e : ¬ cbk M i k = 0 := hfull.mpr c1
      have e1 : m1 M i k = M := if_neg e
      have e2 : t1 M i k = [] := if_neg e
      rw [e1, e2, c2]
      refine ⟨g, KP.rf _ _, HE.rf _ _, hr, fun z hz => (nomatch hz), CB.rf _, fun z => absurd z e, ⟨fun z => absurd z e, fun z => ?_⟩⟩
      exfalso
      unfold bf at hx hs
      omega
    · have e : cbk M i k = 0 := by
        by_cases e : cbk M i k = 0
        · exact e
        · have := hfull.mp e; omega
      have e1 : m1 M i k = aB M i k := if_pos e
      have e2 : t1 M i k = tB M i k := if_pos e
      have hco : co k ≤ fb M ∧ nq (k + 1) (bf (a + n)) + co k ≤ fb M := by
        have hw : k + 1 ≤ bf (a + n) := by unfold bf; omega
        rw [← c1] at hr
        exact co_nq hw hr
      obtain ⟨f1, f2, f3, f4, f5, f6⟩ := GS_aB g hi (show k < 16 by omega) (by rw [up_s]; exact c1.symm) hco.1
      rw [e1, e2, c2]
      rw [up_up] at f2
      refine ⟨f2, f3, HE_aB g hi (by omega) (by rw [up_s]; exact c1.symm) f1, by omega, f5, CB_aB f1, fun _ => f1, ⟨fun _ => ⟨?_, Or.inr c3⟩, fun _ => e⟩⟩
      omega
  obtain ⟨b1, b2, b3, b4, b5, b6, b7, b8'⟩ := blockF
  have hky : k < y := by omega
  have own : OH (up h0 i y) i k := ⟨hi, Or.inl ⟨by rw [up_s]; exact hky, by omega⟩⟩
  have hse := SE.put b1 own (show k < 16 by omega) (show (a + v) % 64 < 64 by omega) w
  have eM : p1 M i (a + v) w = va_up (m1 M i k) (64 * cbk (m1 M i k) i k + (a + v) % 64) (b8 w) := by unfold p1; rw [← hk]
  have eT : T1 M i (a + v) = t1 M i k ++ [cbk (m1 M i k) i k] := by unfold T1; rw [← hk]
  have g2 := b1.2.1 i k own
  rw [blk_lo (show k < 16 by omega)] at g2
  have ps1 : PS M (m1 M i k) i := PS_KP g b2 hi
  have ps2 : PS (m1 M i k) (p1 M i (a + v) w) i := by
    rw [eM]
    exact ⟨fun _ => hse.q_nd hi, fun n hn _ => hse.q_cbk hi hn⟩
  have hne : ∀ j n, OH (up h0 i y) j n → (j = i ∧ n = k) ∨ blk (m1 M i k) j n ≠ cbk (m1 M i k) i k := fun j n o => by
    by_cases z : blk (m1 M i k) j n = cbk (m1 M i k) i k
    · exact Or.inl (b1.2.2.1 j n i k o own (by rw [blk_lo (show k < 16 by omega)]; exact z))
    · exact Or.inr z
  have hin : ∀ j n, OH h0 j n → j ≠ i → OH (up h0 i y) j n := fun j n o hj => by
    unfold OH at o ⊢
    rw [up_n hj]; exact o
  refine ⟨⟨⟨g.nd_lt hi, ?_, ?_, ?_, ?_⟩, ?_⟩, ⟨?_, ?_⟩, ?_, ?_, ps1.tr ps2, ?_, ?_, ?_, ?_⟩
  · rw [← hk]; exact b7
  · rw [← hk]; exact b1.nd_lt hi
  · rw [← hk]; exact g2.2.2.2.1
  · rw [← hk]; omega
  · rw [← hk]; exact b8'
  · rw [eM, ← hy]; exact hse.gs b1
  · rw [eM, ← hy, fb_SE hse]; exact b4
  · intro j n o hj
    have o1 := hsub j n o hj
    have a1 := b2 j n o1
    have a2 := b1.2.1 j n (hin j n o hj)
    rw [eM]
    refine ⟨(hse.q_blk a2.1 a2.2.1).trans a1.1, fun hn z hz => ?_⟩
    rw [rb_up_n _ _ (by
      have := (hne j n (hin j n o hj)).resolve_left (fun y => hj y.1)
      rw [a1.1] at this
      omega)]
    exact a1.2 hn z hz
  · refine b3.tr (fun z h1 h2 _ => ?_)
    rw [eM]
    exact rb_up_n _ _ (by omega)
  · intro z hz
    rw [eT] at hz
    rcases List.mem_append.mp hz with hz | hz
    · rcases b5 z hz with u | u | u | u
      · exact Or.inl u
      · exact Or.inr (Or.inl u)
      · exact Or.inr (Or.inr (Or.inl ⟨u.1, by rw [ps2.1 (by rw [← u.2]; exact u.1)]; exact u.2⟩))
      · exact Or.inr (Or.inr (Or.inr ⟨k, by omega, by omega, by omega, u.1, by rw [ps2.2 k (by omega) (by rw [← u.2]; exact u.1)]; exact u.2⟩))
    · have z2 := List.mem_singleton.mp hz
      exact Or.inr (Or.inr (Or.inr ⟨k, by omega, by omega, by omega, by omega, by rw [ps2.2 k (by omega) (by omega)]; exact z2⟩))
  · rw [eT, eM]
    exact b6.tr (CB.up (by omega) _)
  · have := ct_put b1 own (show k < 16 by omega) (show (a + v) % 64 < 64 by omega) (v := w % 256) (by omega) (j := i) (p := a + v) (by rw [← hk]; exact own) (by omega)
    rw [b8_md] at this
    rw [eM, this, if_pos ⟨rfl, by omega⟩]
  · intro q hq1 hq2 hqne
    have o1 : OH (up h0 i x) i (q / 64) := ⟨hi, Or.inl ⟨by rw [up_s, hx]; exact hq2, hq1⟩⟩
    have o2 : OH (up h0 i y) i (q / 64) := ⟨hi, Or.inl ⟨by rw [up_s]; omega, hq1⟩⟩
    have := ct_put b1 own (show k < 16 by omega) (show (a + v) % 64 < 64 by omega) (v := w % 256) (by omega) (j := i) (p := q) o2 hq1
    rw [b8_md] at this
    rw [eM, this, if_neg (by omega)]
    exact b2.q_ct o1 hq1
