/-! A run of bytes into a file keeps a good file system. Own rows. -/
def runF (M N : By) (h0 : Nat → Nat) (i a n v : Nat) (f : Nat → Nat) (T : List Nat) : Prop :=
  WI N h0 i a n n ∧ KQ M N i (OH h0) ∧ HE M N i ∧ PS M N i ∧ (∀ x ∈ T, UN N i a n x) ∧ CB M N T ∧
  (∀ q, a + v ≤ q → q < a + n → ct N i q = f (q - a) % 256) ∧ ∀ q, q / 64 < 16 → q / 64 < max (h0 i) (bf (a + v)) → ¬ (a + v ≤ q ∧ q < a + n) → ct N i q = ct M i q
theorem pn_all {h0 : Nat → Nat} {i a n s : Nat} {f : Nat → Nat} (hi : i < 32) (han : a + n ≤ 1000) (hs : h0 i = bf s) (has : a ≤ s) : ∀ d v M, v + d = n → WI M h0 i a n v →
    aN (okW i a (h0 i)) i a f d v M ∧ runF M (pn i a f d v M) h0 i a n v f (Tn i a f d v M) := by
  intro d
  induction d with
  | zero =>
    intro v M hv hW
    refine ⟨trivial, ?_, KQ.rf _ _ _, HE.rf _ _, PS.rf _ _, fun x hx => (nomatch hx), CB.rf _, fun q h1 h2 => by omega, fun q _ _ _ => rfl⟩
    rw [show n = v by omega] at hW ⊢
    exact hW
  | succ d ih =>
    intro v M hv hW
    obtain ⟨s1, s2, s3, s4, s5, s6, s7, s8, s9⟩ := p1_step (w := f v) hi han (show v < n by omega) hs has hW
    obtain ⟨r0, r1, r2, r3, r4, r5, r6, r7, r8⟩ := ih (v + 1) (p1 M i (a + v) (f v)) (by omega) s2
    refine ⟨⟨s1, r0⟩, r1, s3.tr r2, s4.tr r3, s5.tr r4, fun x hx => ?_, s7.tr r6, fun q h1 h2 => ?_, fun q h1 h2 h3 => ?_⟩
    · rcases List.mem_append.mp hx with h | h
      · exact (s6 x h).ps r4
      · exact r5 x h
    · by_cases e : q = a + v
      · have := r8 q (by omega) (by unfold bf; omega) (by omega)
        rw [e, show a + v - a = v by omega]
        rw [e] at this
        exact this.trans s8
      · exact r7 q (by omega) h2
    · have h4 := r8 q h1 (by have : bf (a + v) ≤ bf (a + (v + 1)) := by unfold bf; omega
                             omega) (by omega)
      exact h4.trans (s9 q h1 h2 (by omega))
theorem aN_mono {Q R : By → Nat → Prop} {i a : Nat} {f : Nat → Nat} (h : ∀ M p, Q M p → R M p) : ∀ d v M, aN Q i a f d v M → aN R i a f d v M := by
  intro d
  induction d with
  | zero => intro v M _; trivial
  | succ d ih => intro v M q; exact ⟨h _ _ q.1, ih _ _ q.2⟩
/-- only the first four bytes of inodes have changed -/
def HD (M M' : By) : Prop := ∀ a, (1088 ≤ a → a < 1600 → 4 ≤ a % 16) → rb M' a = rb M a
theorem HD.tr {M N P : By} (a : HD M N) (b : HD N P) : HD M P := fun x h => (b x h).trans (a x h)
theorem HD.rf (M : By) : HD M M := fun _ _ => rfl
theorem HD.up {M : By} {i k : Nat} (hi : i < 32) (hk : k < 4) (v : Nat) : HD M (va_up M (1088 + 16 * i + k) (b8 v)) := fun a h => rb_up_n _ _ (by omega)
theorem HD.q_nd {M N : By} (h : HD M N) {i : Nat} (hi : i < 32) : nd N i = nd M i := h _ (by omega)
theorem HD.q_cbk {M N : By} (h : HD M N) {i k : Nat} (hi : i < 32) (hk : k < 16) (hn : nd M i ≠ 0 → 26 ≤ nd M i) : cbk N i k = cbk M i k := by
  unfold cbk
  by_cases h1 : k < 10
  · rw [if_pos h1, if_pos h1]; exact h _ (by omega)
  · rw [if_neg h1, if_neg h1, h.q_nd hi]
    by_cases h2 : nd M i = 0
    · rw [if_pos h2, if_pos h2]
    · rw [if_neg h2, if_neg h2]
      have := hn h2
      exact h _ (by omega)
theorem HD.q_blk {M N : By} (h : HD M N) {i k : Nat} (hi : i < 32) (hk : k ≤ 16) (hn : nd M i ≠ 0 → 26 ≤ nd M i) : blk N i k = blk M i k := by
  unfold blk
  by_cases h1 : k = 16
  · rw [if_pos h1, if_pos h1]; exact h.q_nd hi
  · rw [if_neg h1, if_neg h1]; exact h.q_cbk hi (by omega) hn
theorem HD.q_bit {M N : By} (h : HD M N) {b : Nat} (hb : b < 128) : bit N b = bit M b := by
  unfold bit
  rw [h _ (by omega)]
theorem HD.gs {M N : By} (h : HD M N) {O : Nat → Nat → Prop} (G : GS M O) : GS N O := by
  have hn : ∀ i, i < 32 → nd M i ≠ 0 → 26 ≤ nd M i := fun i hi => G.nd26 hi
  obtain ⟨g1, g2, g3, g4⟩ := G
  refine ⟨fun b hb => by rw [h.q_bit (by omega)]; exact g1 b hb, fun i k o => ?_, fun i k j n o p e => ?_, fun i k hi hk o => ?_⟩
  · obtain ⟨a1, a2, a3, a4, a5⟩ := g2 i k o
    rw [h.q_blk a1 a2 (hn i a1)]
    exact ⟨a1, a2, a3, a4, by rw [h.q_bit a4]; exact a5⟩
  · obtain ⟨a1, a2, -⟩ := g2 i k o
    obtain ⟨b1, b2, -⟩ := g2 j n p
    rw [h.q_blk a1 a2 (hn i a1), h.q_blk b1 b2 (hn j b1)] at e
    exact g3 i k j n o p e
  · rw [h.q_blk hi hk (hn i hi)]; exact g4 i k hi hk o
theorem HD.q_ct {M N : By} (h : HD M N) {O : Nat → Nat → Prop} (G : GS M O) {i p : Nat} (o : O i (p / 64)) (hp : p / 64 < 16) : ct N i p = ct M i p := by
  obtain ⟨a1, a2, a3, a4, a5⟩ := G.2.1 i _ o
  unfold ct
  rw [blk_lo hp] at a3
  rw [h.q_cbk a1 hp (G.nd26 a1)]
  exact h _ (by omega)
theorem HD.kq {M N : By} (h : HD M N) {O : Nat → Nat → Prop} (G : GS M O) (i : Nat) : KQ M N i O := fun j k o _ => by
  obtain ⟨a1, a2, a3, a4, a5⟩ := G.2.1 j k o
  exact ⟨h.q_blk a1 a2 (G.nd26 a1), fun _ x _ => h _ (by omega)⟩
theorem HD.q_fb {M N : By} (h : HD M N) : fb N = fb M := by
  refine cn_congr 128 0 (fun j _ hj => ?_)
  unfold pB
  rw [h.q_bit (by omega)]
-- the size
theorem gr_hd {M : By} {i e : Nat} (hi : i < 32) : HD M (gr M i e) := by
  unfold gr
  split
  · exact HD.rf _
  · have h1 := HD.up (M := M) hi (show 2 < 4 by omega) (e / 256)
    have h2 := HD.up (M := va_up M (1088 + 16 * i + 2) (b8 (e / 256))) hi (show 3 < 4 by omega) e
    rw [show 1088 + 16 * i + 2 = 1090 + 16 * i by omega] at h1 h2
    rw [show 1088 + 16 * i + 3 = 1091 + 16 * i by omega] at h2
    exact h1.tr h2
theorem gr_sz {M : By} {i e : Nat} (he : e < 1024) : sz (gr M i e) i = max (sz M i) e := by
  unfold gr
  by_cases h : e ≤ sz M i
  · rw [if_pos h]; omega
  · rw [if_neg h]
    unfold sz
    rw [rb_up_n _ _ (show 1090 + 16 * i ≠ 1091 + 16 * i by omega), rb_up_s _ _ _ (by omega), rb_up, if_pos rfl]
    unfold sz at h
    omega
theorem gr_o {M : By} {i e a : Nat} (h : a ≠ 1090 + 16 * i ∧ a ≠ 1091 + 16 * i) : rb (gr M i e) a = rb M a := by
  unfold gr
  split
  · rfl
  · rw [rb_up_n _ _ h.2, rb_up_n _ _ h.1]
theorem gr_cb {M : By} {i e : Nat} (hi : i < 32) : CB M (gr M i e) (tG M i e) := by
  unfold gr tG
  split
  · exact CB.rf _
  · intro a ha
    have h : a / 64 ≠ 17 + i / 4 := fun z => ha (List.mem_singleton.mpr z)
    rw [va_up_ne _ _ (by omega), va_up_ne _ _ (by omega)]
theorem Good.gs {M : By} (G : Good M) : GS M (OH (hS M)) := G.1
/-- the blocks that a run touches: five at most, none of the log's -/
def U5 (N : By) (i a n : Nat) : List Nat := [25, 17 + i / 4, nd N i, cbk N i (a / 64), cbk N i ((a + n - 1) / 64)]
theorem UN_U5 {N : By} {i a n x : Nat} (hn : n ≤ 64) (u : UN N i a n x) : x ∈ U5 N i a n := by
  unfold U5
  rcases u with u | u | u | ⟨k, k1, k2, k3, k4, k5⟩
  · rw [u]; exact List.mem_cons_self
  · rw [u]; exact List.mem_cons_of_mem _ List.mem_cons_self
  · rw [u.2]; exact List.mem_cons_of_mem _ (List.mem_cons_of_mem _ List.mem_cons_self)
  · rw [k5]
    rcases (show k = a / 64 ∨ k = (a + n - 1) / 64 by omega) with e | e
    · rw [e]; simp
    · rw [e]; simp
theorem UN_17 {N : By} {O : Nat → Nat → Prop} (g : GS N O) {i a n x : Nat} (hi : i < 32) (u : UN N i a n x) : 17 ≤ x ∧ x < 128 := by
  rcases u with u | u | u | ⟨k, k1, k2, k3, k4, k5⟩
  · omega
  · omega
  · have h1 := g.nd_lt hi
    have h2 := g.nd26 hi (by rw [← u.2]; exact u.1)
    omega
  · have h1 := g.cb_lt hi k3
    by_cases o : O i k
    · have h2 := (g.2.1 i k o).2.2.1
      rw [blk_lo k3] at h2
      omega
    · have h2 := g.2.2.2 i k hi (by omega) o
      rw [blk_lo k3] at h2
      omega
/-- what a call's run of bytes, and the size behind it, does -/
def runG (M N : By) (i a n : Nat) (f : Nat → Nat) (T : List Nat) : Prop :=
  GS N (OH (hS N)) ∧ KQ M N i (OH (hS M)) ∧ (∀ j, j < 32 → ty N j = ty M j ∧ ln N j = ln M j ∧ (j ≠ i → sz N j = sz M j)) ∧ sz N i = max (sz M i) (a + n) ∧ CB M N T ∧
  (∀ x ∈ T, 17 ≤ x ∧ x < 128) ∧ (∃ N0 : By, ∀ x ∈ T, UN N0 i a n x) ∧
  (∀ q, a ≤ q → q < a + n → ct N i q = f (q - a) % 256) ∧ ∀ q, q < sz M i → ¬ (a ≤ q ∧ q < a + n) → ct N i q = ct M i q
theorem run_all {M : By} (G : Good M) {i a n : Nat} {f : Nat → Nat} (hi : i < 32) (ha : a ≤ sz M i) (han : a + n ≤ 1000) (hn0 : 0 < n) (hn : n ≤ 64) (hf : nds M i (a + n) ≤ fb M) :
    aN (okW i a (bf (sz M i))) i a f n 0 M ∧ runG M (gr (pn i a f n 0 M) i (a + n)) i a n f (Tn i a f n 0 M ++ tG (pn i a f n 0 M) i (a + n)) := by
  have h1000 := (G.2.1 i hi).1
  have hm : max (hS M i) (bf (a + 0)) = hS M i := by unfold hS bf; omega
  have hW : WI M (hS M) i a n 0 := by
    refine ⟨?_, ?_⟩
    · rw [hm, up_id]; exact G.1
    · rw [hm]; exact hf
  obtain ⟨h0, r1, r2, r3, r4, r5, r6, r7, r8⟩ := pn_all (f := f) hi han (show hS M i = bf (sz M i) from rfl) ha n 0 M (by omega) hW
  refine ⟨h0, ?_⟩
  obtain ⟨N, hN⟩ : ∃ N, N = pn i a f n 0 M := ⟨_, rfl⟩
  rw [← hN] at r1 r2 r3 r4 r5 r6 r7 r8 ⊢
  have hd := gr_hd (M := N) (i := i) (e := a + n) hi
  have szN : sz N i = sz M i := r3.q_sz hi
  have szG : sz (gr N i (a + n)) i = max (sz M i) (a + n) := by rw [gr_sz (by omega), szN]
  have hbf : max (hS M i) (bf (a + n)) = bf (max (sz M i) (a + n)) := by unfold hS bf; omega
  have gN : GS N (OH (up (hS M) i (bf (max (sz M i) (a + n))))) := by rw [← hbf]; exact r1.1
  have szO : ∀ j, j < 32 → j ≠ i → sz (gr N i (a + n)) j = sz M j := fun j hj e => by
    have h := r3.q_sz hj
    unfold sz at h ⊢
    rw [gr_o (by omega), gr_o (by omega)]
    exact h
  have hSe : ∀ j, j < 32 → hS (gr N i (a + n)) j = up (hS M) i (bf (max (sz M i) (a + n))) j := fun j hj => by
    unfold hS up
    by_cases e : j = i
    · rw [if_pos e, e, szG]
    · rw [if_neg e, szO j hj e]
  have gG := (hd.gs gN).of (P := OH (hS (gr N i (a + n)))) (fun j k => by
    unfold OH
    by_cases hj : j < 32
    · rw [hSe j hj]
    · exact ⟨fun z => absurd z.1 hj, fun z => absurd z.1 hj⟩)
  have kqd : KQ N (gr N i (a + n)) i (OH (hS M)) := fun j k o hj => by
    have o2 : OH (up (hS M) i (bf (max (sz M i) (a + n)))) j k := by
      unfold OH at o ⊢
      rw [up_n hj]; exact o
    exact hd.kq gN i j k o2 hj
  have ctd : ∀ q, q / 64 < bf (max (sz M i) (a + n)) → q / 64 < 16 → ct (gr N i (a + n)) i q = ct N i q := fun q h1 h2 =>
    hd.q_ct gN (show OH (up (hS M) i (bf (max (sz M i) (a + n)))) i (q / 64) from ⟨hi, Or.inl ⟨by rw [up_s]; exact h1, h2⟩⟩) h2
  have hT : ∀ x ∈ Tn i a f n 0 M ++ tG N i (a + n), UN N i a n x := fun x hx => by
    rcases List.mem_append.mp hx with h | h
    · exact r5 x h
    · unfold tG at h
      split at h
      · exact (nomatch h)
      · exact Or.inr (Or.inl (List.mem_singleton.mp h))
  refine ⟨gG, r2.tr kqd, fun j hj => ⟨?_, ?_, szO j hj⟩, szG, r6.tr (gr_cb hi), fun x hx => UN_17 gN hi (hT x hx), ⟨N, hT⟩, fun q h1 h2 => ?_, fun q h1 h2 => ?_⟩
  · exact (gr_o (M := N) (i := i) (e := a + n) (a := 1088 + 16 * j) (by omega)).trans (r3.q_ty hj)
  · exact (gr_o (M := N) (i := i) (e := a + n) (a := 1089 + 16 * j) (by omega)).trans (r3.q_ln hj)
  · rw [ctd q (by unfold bf; omega) (by omega)]
    exact r7 q (by omega) h2
  · rw [ctd q (by unfold bf; omega) (by omega)]
    exact r8 q (by omega) (by unfold hS bf; omega) (by omega)
theorem room5 {M N : By} {i a n : Nat} {f : Nat → Nat} {T : List Nat} (R : runG M N i a n f T) (hn : n ≤ 64) (L : List Nat) : (pds L T).length ≤ L.length + 5 := by
  obtain ⟨-, -, -, -, -, -, ⟨N0, h⟩, -⟩ := R
  exact pds_room (U := U5 N0 i a n) L (fun x hx => UN_U5 hn (h x hx))
/-- an entry's eight bytes lie in one block -/
theorem room_dir {M N : By} {i a : Nat} {f : Nat → Nat} {T : List Nat} (R : runG M N i a 8 f T) (ha : a % 8 = 0) (y : Nat) (L : List Nat) : (pds L (y :: T)).length ≤ L.length + 5 := by
  obtain ⟨-, -, -, -, -, -, ⟨N0, h⟩, -⟩ := R
  refine pds_room (U := [y, 25, 17 + i / 4, nd N0 i, cbk N0 i (a / 64)]) L (fun x hx => ?_)
  rcases List.mem_cons.mp hx with e | hx
  · rw [e]; exact List.mem_cons_self
  · rcases h x hx with u | u | u | ⟨k, k1, k2, k3, k4, k5⟩
    · rw [u]; simp
    · rw [u]; simp
    · rw [u.2]; simp
    · rw [k5, show k = a / 64 by omega]; simp
/-- a file is written -/
theorem run_file {M : By} (G : Good M) {i a n : Nat} {f : Nat → Nat} (hi : i < 32) (ht : ty M i = 1) (han : a + n ≤ 1000) {N : By} {T : List Nat} (R : runG M N i a n f T) : Good N := by
  obtain ⟨r1, r2, r3, r4, r5, r6, r7, r8, r9⟩ := R
  refine ⟨r1, fun j hj => ?_, fun j hj tj => ?_⟩
  · obtain ⟨a1, a2, a3⟩ := r3 j hj
    obtain ⟨g1, g2, g3⟩ := G.2.1 j hj
    rw [a1, a2]
    by_cases e : j = i
    · subst e
      exact ⟨by rw [r4]; omega, g2, fun z => by omega⟩
    · rw [a3 e]; exact ⟨g1, g2, g3⟩
  · obtain ⟨a1, a2, a3⟩ := r3 j hj
    rw [a1] at tj
    have e : j ≠ i := fun z => by rw [z] at tj; omega
    rw [a3 e]
    refine (G.2.2 j hj tj).congr (fun p hp => ?_)
    obtain ⟨o1, o2, -⟩ := G.own hj hp
    exact r2.q_ct e o1 o2
