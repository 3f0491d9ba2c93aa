/-! When the bytes are a good file system: which blocks an inode owns, that no block is owned twice, what directories hold. Own rows. -/
def blk (f : By) (i k : Nat) : Nat := if k = 16 then nd f i else cbk f i k
theorem blk_16 (f : By) (i : Nat) : blk f i 16 = nd f i := if_pos rfl
theorem blk_lo {f : By} {i k : Nat} (h : k < 16) : blk f i k = cbk f i k := if_neg (by omega)
/-- the slots that are owned (O i k: of inode i the k-th block of its content; k = 16: its indirect block) lie in blocks of their own, which the map has -/
def GS (f : By) (O : Nat → Nat → Prop) : Prop :=
  (∀ b, b < 26 → bit f b = 1) ∧
  (∀ i k, O i k → i < 32 ∧ k ≤ 16 ∧ 26 ≤ blk f i k ∧ blk f i k < 128 ∧ bit f (blk f i k) = 1) ∧
  (∀ i k j n, O i k → O j n → blk f i k = blk f j n → i = j ∧ k = n) ∧
  (∀ i k, i < 32 → k ≤ 16 → ¬ O i k → blk f i k = 0)
/-- the slots that an inode of this size owns -/
def OS (f : By) (i k : Nat) : Prop := i < 32 ∧ (k < bf (sz f i) ∧ k < 16 ∨ (k = 16 ∧ 10 < bf (sz f i)))
def GI (f : By) : Prop := ∀ i, i < 32 → sz f i ≤ 1000 ∧ ln f i ≤ 200 ∧ (ty f i = 0 → sz f i = 0)
/-- a directory's content c of s bytes: entries of eight bytes; the first byte 0: all are 0; no name twice -/
def GDc (s : Nat) (c : Nat → Nat) : Prop := s % 8 = 0 ∧
  (∀ e, 8 * e < s → c (8 * e) ≤ 32 ∧ (c (8 * e) = 0 → ∀ k, k < 8 → c (8 * e + k) = 0)) ∧
  (∀ e d, 8 * e < s → 8 * d < s → c (8 * e) ≠ 0 → c (8 * d) ≠ 0 → (∀ k, 1 ≤ k → k < 8 → c (8 * e + k) = c (8 * d + k)) → e = d)
theorem GDc.congr {s : Nat} {c c' : Nat → Nat} (h : GDc s c) (e : ∀ p, p < s → c' p = c p) : GDc s c' := by
  obtain ⟨h1, h2, h3⟩ := h
  refine ⟨h1, fun x hx => ?_, fun x y hx hy a b q => ?_⟩
  · rw [e _ hx]
    refine ⟨(h2 x hx).1, fun z k hk => ?_⟩
    rw [e _ (by omega)]
    exact (h2 x hx).2 z k hk
  · rw [e _ hx] at a
    rw [e _ hy] at b
    refine h3 x y hx hy a b (fun k k1 k2 => ?_)
    have := q k k1 k2
    rwa [e _ (by omega), e _ (by omega)] at this
/-- a new entry at a free place, or behind the last -/
theorem GDc.enter {s t x : Nat} {c c' : Nat → Nat} (h : GDc s c) (hx : 8 * x < s ∧ t = s ∨ 8 * x = s ∧ t = s + 8) (h0 : c' (8 * x) ≠ 0) (h32 : c' (8 * x) ≤ 32)
    (e : ∀ p, p < t → p / 8 ≠ x → c' p = c p) (hn : ∀ d, 8 * d < s → c (8 * d) ≠ 0 → d ≠ x → ∃ k, 1 ≤ k ∧ k < 8 ∧ c (8 * d + k) ≠ c' (8 * x + k)) : GDc t c' := by
  obtain ⟨h1, h2, h3⟩ := h
  have hin : ∀ d, 8 * d < t → d ≠ x → 8 * d < s := fun d hd hne => by omega
  refine ⟨by omega, fun d hd => ?_, fun d d' hd hd' a b q => ?_⟩
  · by_cases q : d = x
    · subst q
      exact ⟨h32, fun z => absurd z h0⟩
    · have hs := hin d hd q
      rw [e _ hd (by omega)]
      refine ⟨(h2 d hs).1, fun z k hk => ?_⟩
      rw [e _ (by omega) (by omega)]
      exact (h2 d hs).2 z k hk
  · by_cases q1 : d = x
    · by_cases q2 : d' = x
      · omega
      · exfalso
        have hs := hin d' hd' q2
        rw [e _ hd' (by omega)] at b
        obtain ⟨k, k1, k2, k3⟩ := hn d' hs b q2
        have := q k k1 k2
        rw [q1, e (8 * d' + k) (by omega) (by omega)] at this
        exact k3 this.symm
    · by_cases q2 : d' = x
      · exfalso
        have hs := hin d hd q1
        rw [e _ hd (by omega)] at a
        obtain ⟨k, k1, k2, k3⟩ := hn d hs a q1
        have := q k k1 k2
        rw [q2, e (8 * d + k) (by omega) (by omega)] at this
        exact k3 this
      · have hs := hin d hd q1
        have hs' := hin d' hd' q2
        rw [e _ hd (by omega)] at a
        rw [e _ hd' (by omega)] at b
        refine h3 d d' hs hs' a b (fun k k1 k2 => ?_)
        have := q k k1 k2
        rwa [e _ (by omega) (by omega), e _ (by omega) (by omega)] at this
/-- an entry is taken out -/
theorem GDc.leave {s x : Nat} {c c' : Nat → Nat} (h : GDc s c) (h0 : ∀ k, k < 8 → c' (8 * x + k) = 0) (e : ∀ p, p < s → p / 8 ≠ x → c' p = c p) : GDc s c' := by
  obtain ⟨h1, h2, h3⟩ := h
  have hx0 : c' (8 * x) = 0 := h0 0 (by omega)
  refine ⟨h1, fun d hd => ?_, fun d d' hd hd' a b q => ?_⟩
  · by_cases q : d = x
    · subst q
      exact ⟨by omega, fun _ k hk => h0 k hk⟩
    · rw [e _ hd (by omega)]
      refine ⟨(h2 d hd).1, fun z k hk => ?_⟩
      rw [e _ (by omega) (by omega)]
      exact (h2 d hd).2 z k hk
  · by_cases q1 : d = x
    · rw [q1] at a; exact absurd hx0 a
    · by_cases q2 : d' = x
      · rw [q2] at b; exact absurd hx0 b
      · rw [e _ hd (by omega)] at a
        rw [e _ hd' (by omega)] at b
        refine h3 d d' hd hd' a b (fun k k1 k2 => ?_)
        have := q k k1 k2
        rwa [e _ (by omega) (by omega), e _ (by omega) (by omega)] at this
def GD (f : By) : Prop := ∀ i, i < 32 → ty f i = 2 → GDc (sz f i) (ct f i)
def Good (f : By) : Prop := GS f (OS f) ∧ GI f ∧ GD f
theorem bf_le {n : Nat} (h : n ≤ 1000) : bf n ≤ 16 := by unfold bf; omega
theorem bf_lt {n p : Nat} (h : p < n) : p / 64 < bf n := by unfold bf; omega
theorem bf_ge {n p : Nat} (h : n ≤ p) (h2 : n % 64 = 0 ∨ n / 64 < p / 64) : bf n ≤ p / 64 := by unfold bf; omega
/-- a block that is owned by k < 16 at 10 and beyond needs the indirect one -/
theorem GS.ind {f : By} {O : Nat → Nat → Prop} (g : GS f O) {i k : Nat} (h : O i k) (hk : 10 ≤ k) : nd f i ≠ 0 := by
  obtain ⟨-, g2, -, -⟩ := g
  obtain ⟨-, h2, h3, -, -⟩ := g2 i k h
  intro h0
  by_cases e : k = 16
  · rw [e, blk_16, h0] at h3; omega
  · rw [blk_lo (by omega), cbk_no (by omega) h0] at h3; omega
/-- what a slot's address is: where the number of the block stands -/
def sa (f : By) (i k : Nat) : Nat := if k < 10 then 1092 + 16 * i + k else if k = 16 then 1102 + 16 * i else 64 * nd f i + (k - 10)
theorem blk_sa {f : By} {i k : Nat} (hk : k ≤ 16) (h : 10 ≤ k → k < 16 → nd f i ≠ 0) : blk f i k = rb f (sa f i k) := by
  unfold sa
  by_cases h1 : k < 10
  · rw [if_pos h1, blk_lo (by omega), cbk_lo h1, dr]
  · rw [if_neg h1]
    by_cases h2 : k = 16
    · rw [if_pos h2, h2, blk_16, nd]
    · rw [if_neg h2, blk_lo (by omega), cbk_hi h1 (h (by omega) (by omega))]
/-- bytes that don't matter to the form -/
def SE (f g : By) : Prop := (∀ a, 1088 ≤ a → a < 1664 → rb g a = rb f a) ∧ ∀ i, i < 32 → nd f i ≠ 0 → ∀ j, j < 64 → rb g (64 * nd f i + j) = rb f (64 * nd f i + j)
theorem SE.q_nd {f g : By} (h : SE f g) {i : Nat} (hi : i < 32) : nd g i = nd f i := h.1 _ (by omega) (by omega)
theorem SE.q_ty {f g : By} (h : SE f g) {i : Nat} (hi : i < 32) : ty g i = ty f i := h.1 _ (by omega) (by omega)
theorem SE.q_ln {f g : By} (h : SE f g) {i : Nat} (hi : i < 32) : ln g i = ln f i := h.1 _ (by omega) (by omega)
theorem SE.q_sz {f g : By} (h : SE f g) {i : Nat} (hi : i < 32) : sz g i = sz f i := by
  unfold sz
  rw [h.1 (1090 + 16 * i) (by omega) (by omega), h.1 (1091 + 16 * i) (by omega) (by omega)]
theorem SE.q_bit {f g : By} (h : SE f g) {b : Nat} (hb : b < 128) : bit g b = bit f b := by
  unfold bit
  rw [h.1 (1600 + b / 8) (by omega) (by omega)]
theorem SE.q_cbk {f g : By} (h : SE f g) {i k : Nat} (hi : i < 32) (hk : k < 16) : cbk g i k = cbk f i k := by
  unfold cbk
  by_cases h1 : k < 10
  · rw [if_pos h1, if_pos h1]
    exact h.1 _ (by omega) (by omega)
  · rw [if_neg h1, if_neg h1, h.q_nd hi]
    by_cases h2 : nd f i = 0
    · rw [if_pos h2, if_pos h2]
    · rw [if_neg h2, if_neg h2]
      exact h.2 i hi h2 _ (by omega)
theorem SE.q_blk {f g : By} (h : SE f g) {i k : Nat} (hi : i < 32) (hk : k ≤ 16) : blk g i k = blk f i k := by
  unfold blk
  by_cases h1 : k = 16
  · rw [if_pos h1, if_pos h1]; exact h.q_nd hi
  · rw [if_neg h1, if_neg h1]; exact h.q_cbk hi (by omega)
theorem SE.gs {f g : By} (h : SE f g) {O : Nat → Nat → Prop} (G : GS f O) : GS g O := by
  obtain ⟨g1, g2, g3, g4⟩ := G
  refine ⟨fun b hb => by rw [h.q_bit (by omega)]; exact g1 b hb, fun i k o => ?_, fun i k j n o p e => ?_, fun i k hi hk o => ?_⟩
  · obtain ⟨a1, a2, a3, a4, a5⟩ := g2 i k o
    rw [h.q_blk a1 a2]
    exact ⟨a1, a2, a3, a4, by rw [h.q_bit a4]; exact a5⟩
  · obtain ⟨a1, a2, -⟩ := g2 i k o
    obtain ⟨b1, b2, -⟩ := g2 j n p
    rw [h.q_blk a1 a2, h.q_blk b1 b2] at e
    exact g3 i k j n o p e
  · rw [h.q_blk hi hk]; exact g4 i k hi hk o
theorem SE.gi {f g : By} (h : SE f g) (G : GI f) : GI g := fun i hi => by
  rw [h.q_sz hi, h.q_ln hi, h.q_ty hi]; exact G i hi
theorem SE.os {f g : By} (h : SE f g) {i k : Nat} : OS g i k ↔ OS f i k := by
  unfold OS
  by_cases hi : i < 32
  · rw [h.q_sz hi]
  · exact ⟨fun q => absurd q.1 hi, fun q => absurd q.1 hi⟩
theorem SE.rf (f : By) : SE f f := ⟨fun _ _ _ => rfl, fun _ _ _ _ _ => rfl⟩
theorem GS.of {f : By} {O P : Nat → Nat → Prop} (g : GS f O) (h : ∀ i k, O i k ↔ P i k) : GS f P := by
  obtain ⟨g1, g2, g3, g4⟩ := g
  exact ⟨g1, fun i k p => g2 i k ((h i k).mpr p), fun i k j n p q => g3 i k j n ((h i k).mpr p) ((h j n).mpr q), fun i k hi hk p => g4 i k hi hk (fun q => p ((h i k).mp q))⟩
/-- writing into an owned block of content -/
theorem SE.put {f : By} {O : Nat → Nat → Prop} (g : GS f O) {i k o : Nat} (h : O i k) (hk : k < 16) (ho : o < 64) (v : Nat) : SE f (va_up f (64 * cbk f i k + o) (b8 v)) := by
  obtain ⟨g1, g2, g3, g4⟩ := g
  obtain ⟨a1, a2, a3, a4, a5⟩ := g2 i k h
  rw [blk_lo hk] at a3 a4
  refine ⟨fun a h1 h2 => rb_up_n _ _ (by omega), fun j hj hn x hx => rb_up_n _ _ ?_⟩
  by_cases hO : O j 16
  · intro e
    have e2 : nd f j = cbk f i k := by omega
    have := g3 j 16 i k hO h (by rw [blk_16, blk_lo hk]; exact e2)
    omega
  · exact absurd (by have := g4 j 16 hj (by omega) hO; rwa [blk_16] at this) hn
