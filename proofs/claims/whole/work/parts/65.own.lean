/-! A block more for a content: the file system stays good. Own rows. -/
theorem sa_tak {M : By} {i k b : Nat} (hb : 26 ≤ b) (hi : i < 32) : sa (tak M b) i k = sa M i k := by
  unfold sa
  rw [nd_tak hb hi]
/-- outside of the map, the new block and the slot all is as before -/
theorem rb_sA {M : By} {i k a : Nat} (h1 : a ≠ sa M i k) (h2 : ¬ (1600 ≤ a ∧ a < 1664)) (h3 : a / 64 ≠ lfb M) (hf : lfb M < 128) : rb (sA M i k) a = rb M a := by
  unfold sA
  rw [rb_up_n _ _ h1, rb_tak (by omega) (by omega)]
/-- what a slot that gets a block does -/
def sAf (M : By) (i k : Nat) (O : Nat → Nat → Prop) : Prop :=
  GS (sA M i k) (fun j n => O j n ∨ (j = i ∧ n = k)) ∧ KP M (sA M i k) O ∧ fb (sA M i k) + 1 = fb M ∧ blk (sA M i k) i k = lfb M ∧ (∀ j, j < 32 → k ≠ 16 ∨ j ≠ i → nd (sA M i k) j = nd M j)
theorem GS_sA {M : By} {O : Nat → Nat → Prop} (g : GS M O) (hf : lfb M < 128) {i k : Nat} (hi : i < 32) (hk : k ≤ 16) (hO : ¬ O i k) (hind : 10 ≤ k → k < 16 → O i 16) : sAf M i k O := by
  have hb0 := lfb_free hf
  have hb := g.ge26 hb0
  have gt := g.take hb0 hf
  have hbit : bit (tak M (lfb M)) (lfb M) = 1 := by rw [bit_tak hb hf hb0, if_pos rfl]
  have hfree : ∀ j n, O j n → blk (tak M (lfb M)) j n ≠ lfb M := fun j n o => by
    have a := g.2.1 j n o
    rw [blk_tak g hb0 hf a.1 a.2.1]
    exact g.free hb0 o
  have hz : k = 16 → ∀ o, o < 6 → rb (tak M (lfb M)) (64 * lfb M + o) = 0 := fun _ o ho => rb_tak0 (by omega)
  have es : sa (tak M (lfb M)) i k = sa M i k := sa_tak hb hi
  have ga := gt.add hi hk hO hind hb hf hbit hfree hz
  have ka := KP.add gt hi hk hO hind hb hf hz
  rw [es] at ga ka
  have hsa : sa M i k < 1600 ∨ 1664 ≤ sa M i k := by
    unfold sa
    by_cases k1 : k < 10
    · rw [if_pos k1]; omega
    · rw [if_neg k1]
      by_cases k2 : k = 16
      · rw [if_pos k2]; omega
      · rw [if_neg k2]
        have := (g.2.1 i 16 (hind (by omega) (by omega))).2.2.1
        rw [blk_16] at this
        omega
  refine ⟨ga, (KP.take g hb0 hf).tr ka (fun _ _ o => o), ?_, ?_, fun j hj hne => ?_⟩
  · refine cn_less (b := lfb M) 128 0 (Nat.zero_le _) (by omega) (decide_eq_true hb0) (decide_eq_false ?_) (fun j _ hj hne => ?_)
    · have e : bit (sA M i k) (lfb M) = bit (tak M (lfb M)) (lfb M) := by
        unfold sA bit
        rw [rb_up_n _ _ (by omega)]
      rw [e, hbit]; decide
    · have e : bit (sA M i k) j = bit M j := by
        have e1 : bit (sA M i k) j = bit (tak M (lfb M)) j := by
          unfold sA bit
          rw [rb_up_n _ _ (by omega)]
        rw [e1, bit_tak hb (by omega) hb0, if_neg hne]
      unfold pB
      rw [e]
  · have := blk_put gt hi hk hO hind hb hf hz hi hk
    rw [es, if_pos ⟨rfl, rfl⟩] at this
    exact this
  · have := blk_put gt hi hk hO hind hb hf hz hj (Nat.le_refl 16)
    rw [es, blk_16, blk_16, if_neg (by omega), nd_tak hb hj] at this
    exact this
/-- the inode i owns as many blocks of content as h says, and an indirect one if more than ten -/
def OH (h : Nat → Nat) (i k : Nat) : Prop := i < 32 ∧ (k < h i ∧ k < 16 ∨ (k = 16 ∧ 10 < h i))
def up (h : Nat → Nat) (i x : Nat) : Nat → Nat := fun j => if j = i then x else h j
theorem up_s (h : Nat → Nat) (i x : Nat) : up h i x i = x := if_pos rfl
theorem up_n {h : Nat → Nat} {i x j : Nat} (e : j ≠ i) : up h i x j = h j := if_neg e
theorem up_id (h : Nat → Nat) (i : Nat) : up h i (h i) = h := by
  funext j
  unfold up
  by_cases e : j = i
  · rw [if_pos e, e]
  · rw [if_neg e]
theorem up_up (h : Nat → Nat) (i x y : Nat) : up (up h i x) i y = up h i y := by
  funext j
  unfold up
  by_cases e : j = i
  · rw [if_pos e, if_pos e]
  · rw [if_neg e, if_neg e, if_neg e]
def hS (M : By) : Nat → Nat := fun i => bf (sz M i)
theorem OS_OH (M : By) (i k : Nat) : OS M i k ↔ OH (hS M) i k := Iff.rfl
/-- how many blocks it takes to add the k-th -/
def co (k : Nat) : Nat := if k = 10 then 2 else 1
/-- the blocks that it may touch -/
def UQ (M : By) (i k x : Nat) : Prop := x = 25 ∨ x = 17 + i / 4 ∨ (x ≠ 0 ∧ x = nd M i) ∨ (x ≠ 0 ∧ x = cbk M i k)
def aBf (M : By) (i k : Nat) (h : Nat → Nat) : Prop :=
  aOk M i k ∧ GS (aB M i k) (OH (up h i (k + 1))) ∧ KP M (aB M i k) (OH h) ∧ fb (aB M i k) + co k = fb M ∧ (∀ x ∈ tB M i k, UQ (aB M i k) i k x) ∧ (nd M i ≠ 0 → nd (aB M i k) i = nd M i)
theorem GS_aB {M : By} {h : Nat → Nat} (g : GS M (OH h)) {i k : Nat} (hi : i < 32) (hk : k < 16) (hh : h i = k) (hf : co k ≤ fb M) : aBf M i k h := by
  have hf0 : lfb M < 128 := lfb_lt (by unfold co at hf; split at hf <;> omega)
  have h26 := g.1
  have hn := g.nd_lt hi
  have hOk : ¬ OH h i k := fun o => by
    obtain ⟨-, o | o⟩ := o
    · omega
    · omega
  have hnd : OH h i 16 ↔ nd M i ≠ 0 := by
    refine ⟨fun o z => ?_, fun z => ?_⟩
    · have := (g.2.1 i 16 o).2.2.1
      rw [blk_16, z] at this; omega
    · by_cases o : OH h i 16
      · exact o
      · exact absurd (by have := g.2.2.2 i 16 hi (Nat.le_refl _) o; rwa [blk_16] at this) z
  have sAT : ∀ (N : By) (n : Nat), lfb N < 128 → blk N i n = lfb N → True := fun _ _ _ _ => trivial
  by_cases k10 : k = 10
  · -- the indirect block first
    have hO16 : ¬ OH h i 16 := fun o => by
      obtain ⟨-, o | o⟩ := o
      · omega
      · omega
    have hnd0 : nd M i = 0 := by
      by_cases z : nd M i = 0
      · exact z
      · exact absurd (hnd.mpr z) hO16
    obtain ⟨a1, a2, a3, a4, a5⟩ := GS_sA g hf0 hi (Nat.le_refl 16) hO16 (fun _ z => absurd z (by omega))
    have e10 : co k = 2 := if_pos k10
    have hf1 : lfb (sA M i 16) < 128 := lfb_lt (by omega)
    have hOk2 : ¬ (OH h i k ∨ (i = i ∧ k = 16)) := fun z => z.elim hOk (fun y => by omega)
    obtain ⟨b1, b2, b3, b4, b5⟩ := GS_sA a1 hf1 hi (by omega) hOk2 (fun _ _ => Or.inr ⟨rfl, rfl⟩)
    have c2 : ¬ (k < 10 ∨ nd M i ≠ 0) := fun z => z.elim (by omega) (fun y => y hnd0)
    have e1 : aB M i k = sA (sA M i 16) i k := if_neg c2
    have e2 : tB M i k = tS M i 16 ++ tS (sA M i 16) i k := if_neg c2
    have n16 : nd (sA M i 16) i = lfb M := nd_sA16 hf0
    have n16b : nd (sA (sA M i 16) i k) i = lfb M := by rw [b5 i hi (Or.inl (by omega))]; exact n16
    have l26 := lfb_26 h26 hf0
    have l26b := lfb_26 a1.1 hf1
    unfold aBf
    rw [e1, e2]
    refine ⟨⟨h26, hf0, hn, fun _ _ => ⟨a1.1, hf1⟩⟩, b1.of (fun j n => ?_), a2.tr b2 (fun j n o => Or.inl o), by omega, fun x hx => ?_, fun z => absurd hnd0 z⟩
    · unfold OH
      by_cases ej : j = i
      · subst ej
        rw [up_s]
        omega
      · rw [up_n ej]
        omega
    · have bk : cbk (sA (sA M i 16) i k) i k = lfb (sA M i 16) := by rw [← blk_lo hk]; exact b4
      unfold UQ tS at *
      rw [n16b, bk]
      simp only [List.mem_append, List.mem_cons, List.not_mem_nil, or_false] at hx
      have s1 : sa M i 16 / 64 = 17 + i / 4 := by rw [sa_16]; omega
      have s2 : sa (sA M i 16) i k / 64 = lfb M := by rw [sa_hi (by omega) hk, n16]; omega
      rw [s1, s2] at hx
      omega
  · have e10 : co k = 1 := if_neg k10
    have c2 : k < 10 ∨ nd M i ≠ 0 := by
      by_cases q : k < 10
      · exact Or.inl q
      · exact Or.inr (hnd.mp ⟨hi, Or.inr ⟨rfl, by omega⟩⟩)
    have e1 : aB M i k = sA M i k := if_pos c2
    have e2 : tB M i k = tS M i k := if_pos c2
    obtain ⟨a1, a2, a3, a4, a5⟩ := GS_sA g hf0 hi (by omega) hOk (fun z _ => ⟨hi, Or.inr ⟨rfl, by omega⟩⟩)
    have l26 := lfb_26 h26 hf0
    have n1 : nd (sA M i k) i = nd M i := a5 i hi (Or.inl (by omega))
    unfold aBf
    rw [e1, e2]
    refine ⟨⟨h26, hf0, hn, fun z1 z2 => absurd z2 (by omega)⟩, a1.of (fun j n => ?_), a2, by omega, fun x hx => ?_, fun _ => n1⟩
    · unfold OH
      by_cases ej : j = i
      · subst ej
        rw [up_s]
        omega
      · rw [up_n ej]
        omega
    · have bk : cbk (sA M i k) i k = lfb M := by rw [← blk_lo hk]; exact a4
      unfold UQ tS at *
      rw [n1, bk]
      simp only [List.mem_cons, List.not_mem_nil, or_false] at hx
      have s1 : sa M i k / 64 = 17 + i / 4 ∨ (sa M i k / 64 = nd M i ∧ nd M i ≠ 0) := by
        by_cases q : k < 10
        · rw [sa_lo q]; omega
        · rw [sa_hi (by omega) hk]; omega
      omega
