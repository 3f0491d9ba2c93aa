/-! What the steps of a call do to a good file system. Own rows. -/
/-- the bytes of the owned blocks of content stay; so do the numbers of the blocks -/
def KP (f g : By) (O : Nat → Nat → Prop) : Prop := ∀ i k, O i k → blk g i k = blk f i k ∧ (k < 16 → ∀ o, o < 64 → rb g (64 * blk f i k + o) = rb f (64 * blk f i k + o))
theorem KP.rf (f : By) (O : Nat → Nat → Prop) : KP f f O := fun _ _ _ => ⟨rfl, fun _ _ _ => rfl⟩
theorem KP.tr {f g h : By} {O P : Nat → Nat → Prop} (a : KP f g O) (b : KP g h P) (hOP : ∀ i k, O i k → P i k) : KP f h O := fun i k o => by
  obtain ⟨a1, a2⟩ := a i k o
  obtain ⟨b1, b2⟩ := b i k (hOP i k o)
  refine ⟨b1.trans a1, fun hk x hx => ?_⟩
  have := b2 hk x hx
  rw [a1] at this
  exact this.trans (a2 hk x hx)
theorem KP.q_ct {f g : By} {O : Nat → Nat → Prop} (h : KP f g O) {i p : Nat} (o : O i (p / 64)) (hp : p / 64 < 16) : ct g i p = ct f i p := by
  obtain ⟨h1, h2⟩ := h i _ o
  rw [blk_lo hp, blk_lo hp] at h1
  have := h2 hp (p % 64) (by omega)
  rw [blk_lo hp] at this
  unfold ct
  rw [h1]
  exact this
theorem KP.take {f : By} {O : Nat → Nat → Prop} (g : GS f O) {b : Nat} (h : bit f b = 0) (hb2 : b < 128) : KP f (tak f b) O := fun i k o => by
  obtain ⟨a1, a2, a3, a4, -⟩ := g.2.1 i k o
  refine ⟨blk_tak g h hb2 a1 a2, fun _ x hx => rb_tak (by omega) ?_⟩
  have := g.free h o
  omega
theorem KP.add {f : By} {O : Nat → Nat → Prop} (g : GS f O) {i k b : Nat} (hi : i < 32) (hk : k ≤ 16) (hO : ¬ O i k) (hind : 10 ≤ k → k < 16 → O i 16) (hb : 26 ≤ b) (hb2 : b < 128) (hz : k = 16 → ∀ o, o < 6 → rb f (64 * b + o) = 0) : KP f (va_up f (sa f i k) (b8 b)) O := fun j n o => by
  obtain ⟨a1, a2, a3, a4, -⟩ := g.2.1 j n o
  refine ⟨?_, fun hn x hx => rb_up_n _ _ ?_⟩
  · rw [blk_put g hi hk hO hind hb hb2 hz a1 a2, if_neg (fun q : j = i ∧ n = k => hO (q.1 ▸ q.2 ▸ o))]
  · unfold sa
    by_cases k1 : k < 10
    · rw [if_pos k1]; omega
    · rw [if_neg k1]
      by_cases k2 : k = 16
      · rw [if_pos k2]; omega
      · rw [if_neg k2]
        have h16 := hind (by omega) (by omega)
        intro e
        have e2 : blk f j n = nd f i := by omega
        have := g.2.2.1 j n i 16 o h16 (by rw [blk_16]; exact e2)
        omega
/-- a byte of an owned block of content -/
theorem ct_put {f : By} {O : Nat → Nat → Prop} (g : GS f O) {i k o : Nat} (h : O i k) (hk : k < 16) (ho : o < 64) {v : Nat} (hv : v < 256) {j p : Nat} (hj : O j (p / 64)) (hp : p / 64 < 16) :
    ct (va_up f (64 * cbk f i k + o) (b8 v)) j p = if j = i ∧ p = 64 * k + o then v else ct f j p := by
  have hse := SE.put g h hk ho v
  have a := g.2.1 j _ hj
  have c := g.2.1 i k h
  unfold ct
  rw [hse.q_cbk a.1 hp, rb_up]
  by_cases q : j = i ∧ p = 64 * k + o
  · have e1 : p / 64 = k := by omega
    have e2 : p % 64 = o := by omega
    rw [if_pos q, q.1, e1, e2, if_pos rfl, Nat.mod_eq_of_lt hv]
  · rw [if_neg q, if_neg]
    intro e
    have e2 : cbk f j (p / 64) = cbk f i k := by omega
    have := g.2.2.1 j _ i k hj h (by rw [blk_lo hp, blk_lo hk]; exact e2)
    have e3 : p % 64 = o := by rw [e2] at e; omega
    exact q ⟨this.1, by omega⟩
