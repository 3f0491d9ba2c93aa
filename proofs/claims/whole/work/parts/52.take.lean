/-! Taking a block, giving a slot its block, giving blocks back. Own rows. -/
set_option maxRecDepth 20000 in
theorem bt_add : ∀ v, v < 256 → ∀ j, j < 8 → v / 2 ^ j % 2 = 0 → v + 2 ^ j < 256 ∧ ∀ k, k < 8 → (v + 2 ^ j) / 2 ^ k % 2 = if k = j then 1 else v / 2 ^ k % 2 := by decide +kernel
set_option maxRecDepth 20000 in
theorem bt_sub : ∀ v, v < 256 → ∀ j, j < 8 → ∀ k, k < 8 → (v - v / 2 ^ j % 2 * 2 ^ j) / 2 ^ k % 2 = if k = j then 0 else v / 2 ^ k % 2 := by decide +kernel
/-- the map with the bit of b on -/
def on (f : By) (b : Nat) : By := va_up f (1600 + b / 8) (b8 (rb f (1600 + b / 8) + 2 ^ (b % 8)))
/-- .. off -/
def off (f : By) (b : Nat) : By := va_up f (1600 + b / 8) (b8 (rb f (1600 + b / 8) - rb f (1600 + b / 8) / 2 ^ (b % 8) % 2 * 2 ^ (b % 8)))
/-- a block of zeros -/
def zro (f : By) (b : Nat) : By := fun j => if 64 * b ≤ j ∧ j < 64 * b + 64 then 0 else f j
theorem rb_zro (f : By) (b j : Nat) : rb (zro f b) j = if 64 * b ≤ j ∧ j < 64 * b + 64 then 0 else rb f j := by
  unfold rb zro
  by_cases h : 64 * b ≤ j ∧ j < 64 * b + 64
  · rw [if_pos h, if_pos h]; rfl
  · rw [if_neg h, if_neg h]
theorem bit_on {f : By} {b c : Nat} (h : bit f b = 0) : bit (on f b) c = if c = b then 1 else bit f c := by
  obtain ⟨h1, h2⟩ := bt_add (rb f (1600 + b / 8)) (rb_lt _ _) (b % 8) (by omega) h
  unfold bit on
  rw [rb_up]
  by_cases e : c / 8 = b / 8
  · rw [if_pos (by omega), Nat.mod_eq_of_lt h1, h2 (c % 8) (by omega), e]
    by_cases e2 : c % 8 = b % 8
    · rw [if_pos e2, if_pos (by omega)]
    · rw [if_neg e2, if_neg (by omega)]
  · rw [if_neg (by omega), if_neg (by omega)]
theorem bit_off {f : By} {b c : Nat} : bit (off f b) c = if c = b then 0 else bit f c := by
  have h2 := bt_sub (rb f (1600 + b / 8)) (rb_lt _ _) (b % 8) (by omega)
  have h3 := rb_lt f (1600 + b / 8)
  unfold bit off
  rw [rb_up]
  by_cases e : c / 8 = b / 8
  · rw [if_pos (by omega), Nat.mod_eq_of_lt (Nat.lt_of_le_of_lt (Nat.sub_le _ _) h3), h2 (c % 8) (by omega), e]
    by_cases e2 : c % 8 = b % 8
    · rw [if_pos e2, if_pos (by omega)]
    · rw [if_neg e2, if_neg (by omega)]
  · rw [if_neg (by omega), if_neg (by omega)]
theorem rb_on (f : By) (b : Nat) {a : Nat} (h : a ≠ 1600 + b / 8) : rb (on f b) a = rb f a := rb_up_n _ _ h
theorem rb_off (f : By) (b : Nat) {a : Nat} (h : a ≠ 1600 + b / 8) : rb (off f b) a = rb f a := rb_up_n _ _ h
/-- outside the map and the block nothing has changed -/
def tak (f : By) (b : Nat) : By := zro (on f b) b
theorem rb_tak {f : By} {b a : Nat} (h : a ≠ 1600 + b / 8) (h2 : ¬ (64 * b ≤ a ∧ a < 64 * b + 64)) : rb (tak f b) a = rb f a := by
  unfold tak
  rw [rb_zro, if_neg h2, rb_on _ _ h]
theorem rb_tak0 {f : By} {b o : Nat} (h : o < 64) : rb (tak f b) (64 * b + o) = 0 := by
  unfold tak
  rw [rb_zro, if_pos (by omega)]
theorem bit_tak {f : By} {b c : Nat} (hb : 26 ≤ b) (hc : c < 128) (h : bit f b = 0) : bit (tak f b) c = if c = b then 1 else bit f c := by
  rw [← bit_on h]
  unfold tak bit
  rw [rb_zro, if_neg (by omega)]
theorem nd_tak {f : By} {b i : Nat} (hb : 26 ≤ b) (hi : i < 32) : nd (tak f b) i = nd f i := rb_tak (by omega) (by omega)
/-- a free block is no one's -/
theorem GS.free {f : By} {O : Nat → Nat → Prop} (g : GS f O) {b : Nat} (h : bit f b = 0) {i k : Nat} (o : O i k) : blk f i k ≠ b := by
  obtain ⟨-, g2, -, -⟩ := g
  intro e
  have := (g2 i k o).2.2.2.2
  rw [e] at this; omega
theorem GS.ge26 {f : By} {O : Nat → Nat → Prop} (g : GS f O) {b : Nat} (h : bit f b = 0) : 26 ≤ b := by
  by_cases e : b < 26
  · have := g.1 b e; omega
  · omega
theorem blk_tak {f : By} {O : Nat → Nat → Prop} (g : GS f O) {b : Nat} (h : bit f b = 0) (hb2 : b < 128) {i k : Nat} (hi : i < 32) (hk : k ≤ 16) : blk (tak f b) i k = blk f i k := by
  have hb := g.ge26 h
  have hn : nd (tak f b) i = nd f i := nd_tak hb hi
  unfold blk
  by_cases e : k = 16
  · rw [if_pos e, if_pos e]; exact hn
  · rw [if_neg e, if_neg e]
    unfold cbk
    by_cases h1 : k < 10
    · rw [if_pos h1, if_pos h1]; exact rb_tak (by omega) (by omega)
    · rw [if_neg h1, if_neg h1, hn]
      by_cases h2 : nd f i = 0
      · rw [if_pos h2, if_pos h2]
      · rw [if_neg h2, if_neg h2]
        by_cases o : O i 16
        · have h3 := g.free h o
          have h4 := (g.2.1 i 16 o).2.2.1
          rw [blk_16] at h3 h4
          exact rb_tak (by omega) (by omega)
        · exact absurd (by have := g.2.2.2 i 16 hi (by omega) o; rwa [blk_16] at this) h2
theorem GS.take {f : By} {O : Nat → Nat → Prop} (g : GS f O) {b : Nat} (h : bit f b = 0) (hb2 : b < 128) : GS (tak f b) O := by
  have hb := g.ge26 h
  have hbk : ∀ i k, i < 32 → k ≤ 16 → blk (tak f b) i k = blk f i k := fun i k => blk_tak g h hb2
  obtain ⟨g1, g2, g3, g4⟩ := id g
  refine ⟨fun c hc => ?_, fun i k o => ?_, fun i k j n o q e => ?_, fun i k hi hk o => ?_⟩
  · rw [bit_tak hb (by omega) h, if_neg (by omega)]; exact g1 c hc
  · obtain ⟨a1, a2, a3, a4, a5⟩ := g2 i k o
    rw [hbk i k a1 a2]
    refine ⟨a1, a2, a3, a4, ?_⟩
    rw [bit_tak hb a4 h]
    split
    · rfl
    · exact a5
  · obtain ⟨a1, a2, -⟩ := g2 i k o
    obtain ⟨b1, b2, -⟩ := g2 j n q
    rw [hbk i k a1 a2, hbk j n b1 b2] at e
    exact g3 i k j n o q e
  · rw [hbk i k hi hk]; exact g4 i k hi hk o
/-- the slot (i, k) gets the block b -/
theorem blk_put {f : By} {O : Nat → Nat → Prop} (g : GS f O) {i k b : Nat} (hi : i < 32) (hk : k ≤ 16) (hO : ¬ O i k) (hind : 10 ≤ k → k < 16 → O i 16) (hb : 26 ≤ b) (hb2 : b < 128) (hz : k = 16 → ∀ o, o < 6 → rb f (64 * b + o) = 0)
    {j n : Nat} (hj : j < 32) (hn : n ≤ 16) : blk (va_up f (sa f i k) (b8 b)) j n = if j = i ∧ n = k then b else blk f j n := by
  have hnd : ∀ x, x < 32 → nd f x ≠ 0 → 26 ≤ nd f x ∧ O x 16 := fun x hx h0 => by
    by_cases o : O x 16
    · have := (g.2.1 x 16 o).2.2.1
      rw [blk_16] at this
      exact ⟨this, o⟩
    · exact absurd (by have := g.2.2.2 x 16 hx (by omega) o; rwa [blk_16] at this) h0
  obtain ⟨F, hF⟩ : ∃ F, F = va_up f (sa f i k) (b8 b) := ⟨_, rfl⟩
  rw [← hF]
  have hs : rb F (sa f i k) = b := by rw [hF]; exact rb_up_s _ _ _ (by omega)
  have hne : ∀ a, a ≠ sa f i k → rb F a = rb f a := fun a h => by rw [hF]; exact rb_up_n _ _ h
  by_cases k1 : k < 10
  · -- a direct slot
    have hsa : sa f i k = 1092 + 16 * i + k := by unfold sa; rw [if_pos k1]
    rw [hsa] at hs hne
    have hn0 : nd F j = nd f j := hne _ (by omega)
    unfold blk
    by_cases e : n = 16
    · rw [if_pos e, if_pos e, if_neg (by omega)]; exact hn0
    · rw [if_neg e, if_neg e]
      unfold cbk
      by_cases n1 : n < 10
      · rw [if_pos n1, if_pos n1]
        unfold dr
        by_cases q : j = i ∧ n = k
        · rw [if_pos q, q.1, q.2]; exact hs
        · rw [if_neg q]; exact hne _ (by omega)
      · rw [if_neg n1, if_neg n1, hn0, if_neg (show ¬ (j = i ∧ n = k) by omega)]
        by_cases z : nd f j = 0
        · rw [if_pos z, if_pos z]
        · rw [if_neg z, if_neg z]
          have := (hnd j hj z).1
          exact hne _ (by omega)
  · by_cases k2 : k = 16
    · -- the indirect block's
      have hsa : sa f i k = 1102 + 16 * i := by unfold sa; rw [if_neg k1, if_pos k2]
      rw [hsa] at hs hne
      have hnd0 : nd f i = 0 := by
        have := g.2.2.2 i 16 hi (by omega) (by rw [← k2]; exact hO)
        rwa [blk_16] at this
      unfold blk
      by_cases e : n = 16
      · rw [if_pos e, if_pos e]
        by_cases q : j = i
        · rw [if_pos ⟨q, by omega⟩, q]; exact hs
        · rw [if_neg (by omega)]; exact hne _ (by omega)
      · rw [if_neg e, if_neg e, if_neg (by omega)]
        unfold cbk
        by_cases n1 : n < 10
        · rw [if_pos n1, if_pos n1]; exact hne _ (by omega)
        · rw [if_neg n1, if_neg n1]
          by_cases q : j = i
          · have e1 : nd F j = b := by rw [q]; exact hs
            rw [e1, if_neg (by omega), q, if_pos hnd0, hne _ (by omega)]
            exact hz k2 _ (by omega)
          · have e1 : nd F j = nd f j := hne _ (by omega)
            rw [e1]
            by_cases z : nd f j = 0
            · rw [if_pos z, if_pos z]
            · rw [if_neg z, if_neg z]
              have := (hnd j hj z).1
              exact hne _ (by omega)
    · -- a slot in the indirect block
      have hO16 := hind (by omega) (by omega)
      have hN := (g.2.1 i 16 hO16).2.2.1
      rw [blk_16] at hN
      have hsa : sa f i k = 64 * nd f i + (k - 10) := by unfold sa; rw [if_neg k1, if_neg k2]
      rw [hsa] at hs hne
      have hn0 : nd F j = nd f j := hne _ (by omega)
      unfold blk
      by_cases e : n = 16
      · rw [if_pos e, if_pos e, if_neg (by omega)]; exact hn0
      · rw [if_neg e, if_neg e]
        unfold cbk
        by_cases n1 : n < 10
        · rw [if_pos n1, if_pos n1, if_neg (by omega)]; exact hne _ (by omega)
        · rw [if_neg n1, if_neg n1, hn0]
          by_cases z : nd f j = 0
          · rw [if_pos z, if_pos z, if_neg]
            intro q
            rw [q.1] at z
            omega
          · rw [if_neg z, if_neg z]
            by_cases q : j = i ∧ n = k
            · rw [if_pos q, q.1, q.2]; exact hs
            · rw [if_neg q]
              refine hne _ ?_
              by_cases hji : j = i
              · rw [hji]; rw [hji] at q; omega
              · intro e2
                have e3 : nd f j = nd f i := by omega
                have := g.2.2.1 j 16 i 16 (hnd j hj z).2 hO16 (by rw [blk_16, blk_16]; exact e3)
                omega
theorem GS.add {f : By} {O : Nat → Nat → Prop} (g : GS f O) {i k b : Nat} (hi : i < 32) (hk : k ≤ 16) (hO : ¬ O i k) (hind : 10 ≤ k → k < 16 → O i 16) (hb : 26 ≤ b) (hb2 : b < 128) (hbit : bit f b = 1)
    (hfree : ∀ j n, O j n → blk f j n ≠ b) (hz : k = 16 → ∀ o, o < 6 → rb f (64 * b + o) = 0) : GS (va_up f (sa f i k) (b8 b)) (fun j n => O j n ∨ (j = i ∧ n = k)) := by
  have hbk : ∀ j n, j < 32 → n ≤ 16 → blk (va_up f (sa f i k) (b8 b)) j n = if j = i ∧ n = k then b else blk f j n := fun j n hj hn => blk_put g hi hk hO hind hb hb2 hz hj hn
  have hsa : sa f i k < 1600 ∨ 1664 ≤ sa f i k := by
    unfold sa
    by_cases k1 : k < 10
    · rw [if_pos k1]; omega
    · rw [if_neg k1]
      by_cases k2 : k = 16
      · rw [if_pos k2]; omega
      · rw [if_neg k2]
        have := (g.2.1 i 16 (hind (by omega) (by omega))).2.2.1
        rw [blk_16] at this
        omega
  have hbt : ∀ x, x < 128 → bit (va_up f (sa f i k) (b8 b)) x = bit f x := fun x hx => by
    unfold bit
    rw [rb_up_n _ _ (by omega)]
  have hne0 : ∀ {a c : Nat}, O a c → ¬ (a = i ∧ c = k) := fun o q => hO (q.1 ▸ q.2 ▸ o)
  obtain ⟨g1, g2, g3, g4⟩ := g
  refine ⟨fun c hc => by rw [hbt c (by omega)]; exact g1 c hc, fun j n o => ?_, fun j n x y o q e => ?_, fun j n hj hn o => ?_⟩
  · rcases o with o | ⟨rfl, rfl⟩
    · obtain ⟨a1, a2, a3, a4, a5⟩ := g2 j n o
      have hne : ¬ (j = i ∧ n = k) := fun q => hO (q.1 ▸ q.2 ▸ o)
      rw [hbk j n a1 a2, if_neg hne, hbt _ a4]
      exact ⟨a1, a2, a3, a4, a5⟩
    · rw [hbk j n hi hk, if_pos ⟨rfl, rfl⟩, hbt _ hb2]
      exact ⟨hi, hk, hb, hb2, hbit⟩
  · rcases o with o | ⟨rfl, rfl⟩ <;> rcases q with q | ⟨rfl, rfl⟩
    · obtain ⟨a1, a2, -⟩ := g2 j n o
      obtain ⟨b1, b2, -⟩ := g2 x y q
      rw [hbk j n a1 a2, hbk x y b1 b2, if_neg (hne0 o), if_neg (hne0 q)] at e
      exact g3 j n x y o q e
    · obtain ⟨a1, a2, -⟩ := g2 j n o
      rw [hbk j n a1 a2, hbk x y hi hk, if_neg (hne0 o), if_pos ⟨rfl, rfl⟩] at e
      exact absurd e (hfree j n o)
    · obtain ⟨b1, b2, -⟩ := g2 x y q
      rw [hbk j n hi hk, hbk x y b1 b2, if_pos ⟨rfl, rfl⟩, if_neg (hne0 q)] at e
      exact absurd e.symm (hfree x y q)
    · exact ⟨rfl, rfl⟩
  · rw [hbk j n hj hn, if_neg (fun z => o (Or.inr z))]
    exact g4 j n hj hn (fun z => o (Or.inl z))
