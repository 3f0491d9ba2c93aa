/-! What the calls do keeps a file system good. Own rows. -/
theorem GDc_0 (c : Nat → Nat) : GDc 0 c := ⟨rfl, fun e h => absurd h (by omega), fun e d h => absurd h (by omega)⟩
theorem Good_hd {M N : By} (G : Good M) (h : HD M N) (hs : ∀ j, j < 32 → sz N j = sz M j) (hl : ∀ j, j < 32 → ln N j ≤ 200) (h0 : ∀ j, j < 32 → ty N j = 0 → sz M j = 0) (h2 : ∀ j, j < 32 → ty N j = 2 → ty M j = 2 ∨ sz M j = 0) : Good N := by
  refine ⟨(h.gs G.gs).of (fun j k => ?_), fun j hj => ⟨by rw [hs j hj]; exact (G.2.1 j hj).1, hl j hj, fun z => by rw [hs j hj]; exact h0 j hj z⟩, fun j hj t => ?_⟩
  · unfold OH OS hS
    by_cases hj : j < 32
    · rw [hs j hj]
    · exact ⟨fun z => absurd z.1 hj, fun z => absurd z.1 hj⟩
  · rw [hs j hj]
    rcases h2 j hj t with q | q
    · refine (G.2.2 j hj q).congr (fun p hp => ?_)
      obtain ⟨o1, o2, -⟩ := G.own hj hp
      exact h.q_ct G.gs o1 o2
    · rw [q]; exact GDc_0 _
/-- a new inode: type t, one link -/
def bg (M : By) (i t : Nat) : By := va_up (va_up M (1088 + 16 * i + 0) (b8 t)) (1088 + 16 * i + 1) (b8 1)
theorem bg_hd {M : By} {i t : Nat} (hi : i < 32) : HD M (bg M i t) := (HD.up hi (by omega) t).tr (HD.up hi (by omega) 1)
theorem bg_sz {M : By} {i t j : Nat} : sz (bg M i t) j = sz M j := by
  unfold sz bg
  rw [rb_up_n _ _ (by omega), rb_up_n _ _ (by omega), rb_up_n _ _ (by omega), rb_up_n _ _ (by omega)]
theorem bg_ty {M : By} {i t j : Nat} (ht : t < 256) : ty (bg M i t) j = if j = i then t else ty M j := by
  unfold ty bg
  rw [rb_up_n _ _ (by omega), rb_up]
  by_cases e : j = i
  · rw [if_pos e, if_pos (by omega), Nat.mod_eq_of_lt ht]
  · rw [if_neg e, if_neg (by omega)]
theorem bg_ln {M : By} {i t j : Nat} : ln (bg M i t) j = if j = i then 1 else ln M j := by
  unfold ln bg
  rw [rb_up]
  by_cases e : j = i
  · rw [if_pos e, if_pos (by omega)]
  · rw [if_neg e, if_neg (by omega), rb_up_n _ _ (by omega)]
theorem bg_cb {M : By} {i t : Nat} (hi : i < 32) : CB M (bg M i t) [17 + i / 4] := fun a ha => by
  have h : a / 64 ≠ 17 + i / 4 := fun z => ha (List.mem_singleton.mpr z)
  unfold bg
  rw [va_up_ne _ _ (by omega), va_up_ne _ _ (by omega)]
theorem Good_bg {M : By} (G : Good M) {i t : Nat} (hi : i < 32) (h0 : ty M i = 0) (ht : t = 1 ∨ t = 2) : Good (bg M i t) := by
  have hz := (G.2.1 i hi).2.2 h0
  refine Good_hd G (bg_hd hi) (fun j _ => bg_sz) (fun j hj => ?_) (fun j hj z => ?_) (fun j hj z => ?_)
  · rw [bg_ln]
    split
    · omega
    · exact (G.2.1 j hj).2.1
  · rw [bg_ty (by omega)] at z
    split at z
    · omega
    · exact (G.2.1 j hj).2.2 z
  · rw [bg_ty (by omega)] at z
    by_cases e : j = i
    · rw [e]; exact Or.inr hz
    · rw [if_neg e] at z; exact Or.inl z
/-- a number of links -/
def nl (M : By) (i v : Nat) : By := va_up M (1089 + 16 * i) (b8 v)
theorem nl_hd {M : By} {i v : Nat} (hi : i < 32) : HD M (nl M i v) := by
  have := HD.up (M := M) hi (show 1 < 4 by omega) v
  rwa [show 1088 + 16 * i + 1 = 1089 + 16 * i by omega] at this
theorem nl_sz {M : By} {i v j : Nat} : sz (nl M i v) j = sz M j := by
  unfold sz nl
  rw [rb_up_n _ _ (by omega), rb_up_n _ _ (by omega)]
theorem nl_ty {M : By} {i v j : Nat} : ty (nl M i v) j = ty M j := by
  unfold ty nl
  rw [rb_up_n _ _ (by omega)]
theorem nl_cb {M : By} {i v : Nat} (hi : i < 32) : CB M (nl M i v) [17 + i / 4] := fun a ha => by
  have h : a / 64 ≠ 17 + i / 4 := fun z => ha (List.mem_singleton.mpr z)
  unfold nl
  rw [va_up_ne _ _ (by omega)]
theorem Good_nl {M : By} (G : Good M) {i v : Nat} (hi : i < 32) (hv : v ≤ 200) : Good (nl M i v) := by
  refine Good_hd G (nl_hd hi) (fun j _ => nl_sz) (fun j hj => ?_) (fun j hj z => ?_) (fun j hj z => ?_)
  · unfold ln nl
    rw [rb_up]
    split
    · omega
    · exact (G.2.1 j hj).2.1
  · rw [nl_ty] at z; exact (G.2.1 j hj).2.2 z
  · rw [nl_ty] at z; exact Or.inl z
/-- the directory d looks the same -/
theorem HD.ctd {M N : By} (h : HD M N) (G : Good M) {d s : Nat} (hd : d < 32) (hs : sz M d = 8 * s) {q : Nat} (hq : q < 8 * s) : ct N d q = ct M d q := by
  obtain ⟨o1, o2, -⟩ := G.own hd (show q < sz M d by omega)
  exact h.q_ct G.gs o1 o2
theorem HD.q_pE {M N : By} (h : HD M N) (G : Good M) {d s : Nat} (hd : d < 32) (hs : sz M d = 8 * s) : fi (pE N d) s 0 = fi (pE M d) s 0 := by
  refine fi_congr s 0 (fun j _ hj => ?_)
  unfold pE
  rw [h.ctd G hd hs (by omega)]
theorem HD.q_pN {M N : By} (h : HD M N) (G : Good M) {d s : Nat} (hd : d < 32) (hs : sz M d = 8 * s) (x : Int64) : fi (pN N d x) s 0 = fi (pN M d x) s 0 := by
  refine fi_congr s 0 (fun j _ hj => ?_)
  unfold pN
  rw [h.ctd G hd hs (show 8 * j < 8 * s by omega), h.ctd G hd hs (show 8 * j + 1 < 8 * s by omega), h.ctd G hd hs (show 8 * j + 2 < 8 * s by omega), h.ctd G hd hs (show 8 * j + 3 < 8 * s by omega), h.ctd G hd hs (show 8 * j + 4 < 8 * s by omega), h.ctd G hd hs (show 8 * j + 5 < 8 * s by omega), h.ctd G hd hs (show 8 * j + 6 < 8 * s by omega), h.ctd G hd hs (show 8 * j + 7 < 8 * s by omega)]
theorem HD.cE {M N : By} (h : HD M N) (G : Good M) {d s : Nat} (hd : d < 32) (hs : sz M d = 8 * s) (hz : sz N d = sz M d) {x : Int64} (c : cE M d x s) : cE N d x s := by
  obtain ⟨c1, c2, c3⟩ := c
  refine ⟨by rw [h.q_pN G hd hs]; exact c1, by rw [h.q_pE G hd hs]; exact c2, ?_⟩
  rw [h.q_pE G hd hs, h.q_fb]
  unfold nds at c3 ⊢
  rw [hz]
  exact c3
/-- an entry is entered -/
theorem run_dir {M N : By} (G : Good M) {d s j : Nat} {x : Int64} {T : List Nat} (hd : d < 32) (hj : j < 32) (ht : ty M d = 2) (hs : sz M d = 8 * s) (hx : vn x) (hc : cE M d x s) (R : runG M N d (8 * fi (pE M d) s 0) 8 (fE j x) T) : Good N := by
  obtain ⟨r1, r2, r3, r4, r5, r6, r7, r8, r9⟩ := R
  obtain ⟨c1, c2, c3⟩ := hc
  have hfi := fi_le (pE M d) s 0
  refine ⟨r1, fun q hq => ?_, fun q hq tq => ?_⟩
  · obtain ⟨a1, a2, a3⟩ := r3 q hq
    obtain ⟨g1, g2, g3⟩ := G.2.1 q hq
    rw [a1, a2]
    by_cases e : q = d
    · subst e
      exact ⟨by rw [r4]; omega, g2, fun z => by omega⟩
    · rw [a3 e]; exact ⟨g1, g2, g3⟩
  · obtain ⟨a1, a2, a3⟩ := r3 q hq
    rw [a1] at tq
    by_cases e : q = d
    · subst e
      have hb : ∀ k, k < 8 → ct N q (8 * fi (pE M q) s 0 + k) = fE j x k := fun k hk => by
        rw [r8 _ (by omega) (by omega), show 8 * fi (pE M q) s 0 + k - 8 * fi (pE M q) s 0 = k by omega]
        refine Nat.mod_eq_of_lt ?_
        unfold fE
        split
        · omega
        · exact nb_lt _ _
      have hb0 := hb 0 (by omega)
      rw [Nat.add_zero] at hb0
      have hb00 : fE j x 0 = j + 1 := rfl
      rw [r4]
      refine (G.2.2 q hq tq).enter (x := fi (pE M q) s 0) (by omega) (by omega) (by omega) (fun p hp hne => ?_) (fun k hk h0 hne => ?_)
      · exact r9 p (by omega) (by omega)
      · have hno : ¬ eN M q x k := fun z => by
          have h1 := fi_no (pN M q x) s 0 k (Nat.zero_le _) (by omega)
          have h2 := (pN_eq M q x k).mpr z
          rw [h1] at h2
          exact absurd h2 (by decide)
        have hbk : ∀ z, z < 7 → ct N q (8 * fi (pE M q) s 0 + (z + 1)) = nb x z := fun z hz => by
          rw [hb (z + 1) (by omega)]
          unfold fE
          rw [if_neg (by omega), show z + 1 - 1 = z by omega]
        by_cases z1 : ct M q (8 * k + 1) = nb x 0
        · by_cases z2 : ct M q (8 * k + 2) = nb x 1
          · by_cases z3 : ct M q (8 * k + 3) = nb x 2
            · by_cases z4 : ct M q (8 * k + 4) = nb x 3
              · by_cases z5 : ct M q (8 * k + 5) = nb x 4
                · by_cases z6 : ct M q (8 * k + 6) = nb x 5
                  · by_cases z7 : ct M q (8 * k + 7) = nb x 6
                    · exact absurd ⟨h0, z1, z2, z3, z4, z5, z6, z7⟩ hno
                    · exact ⟨7, by omega, by omega, by rw [hbk 6 (by omega)]; exact z7⟩
                  · exact ⟨6, by omega, by omega, by rw [hbk 5 (by omega)]; exact z6⟩
                · exact ⟨5, by omega, by omega, by rw [hbk 4 (by omega)]; exact z5⟩
              · exact ⟨4, by omega, by omega, by rw [hbk 3 (by omega)]; exact z4⟩
            · exact ⟨3, by omega, by omega, by rw [hbk 2 (by omega)]; exact z3⟩
          · exact ⟨2, by omega, by omega, by rw [hbk 1 (by omega)]; exact z2⟩
        · exact ⟨1, by omega, by omega, by rw [hbk 0 (by omega)]; exact z1⟩
    · rw [a3 e]
      refine (G.2.2 q hq tq).congr (fun p hp => ?_)
      obtain ⟨o1, o2, -⟩ := G.own hq hp
      exact r2.q_ct e o1 o2
/-- an entry is taken out -/
theorem run_out {M N : By} (G : Good M) {d s e : Nat} {T : List Nat} (hd : d < 32) (ht : ty M d = 2) (hs : sz M d = 8 * s) (he : e < s) (R : runG M N d (8 * e) 8 (fun _ => 0) T) : Good N := by
  obtain ⟨r1, r2, r3, r4, r5, r6, r7, r8, r9⟩ := R
  refine ⟨r1, fun q hq => ?_, fun q hq tq => ?_⟩
  · obtain ⟨a1, a2, a3⟩ := r3 q hq
    obtain ⟨g1, g2, g3⟩ := G.2.1 q hq
    rw [a1, a2]
    by_cases eq : q = d
    · subst eq
      exact ⟨by rw [r4]; omega, g2, fun z => by omega⟩
    · rw [a3 eq]; exact ⟨g1, g2, g3⟩
  · obtain ⟨a1, a2, a3⟩ := r3 q hq
    rw [a1] at tq
    by_cases eq : q = d
    · subst eq
      rw [r4, show max (sz M q) (8 * e + 8) = sz M q by omega]
      refine (G.2.2 q hq tq).leave (x := e) (fun k hk => r8 _ (by omega) (by omega)) (fun p hp hne => ?_)
      exact r9 p hp (by omega)
    · rw [a3 eq]
      refine (G.2.2 q hq tq).congr (fun p hp => ?_)
      obtain ⟨o1, o2, -⟩ := G.own hq hp
      exact r2.q_ct eq o1 o2
-- blocks given back
theorem bit_gvc {c : Nat → Nat} {b : Nat} : ∀ d v (M : By), (∀ k, v ≤ k → k < v + d → c k ≠ b) → bit (gvc c d v M) b = bit M b := by
  intro d
  induction d with
  | zero => intro v M _; rfl
  | succ d ih =>
    intro v M h
    show bit (gvc c d (v + 1) (off M (c v))) b = _
    rw [ih (v + 1) _ (fun k h1 h2 => h k (by omega) (by omega)), bit_off, if_neg (fun z => h v (by omega) (by omega) z.symm)]
theorem CB_off {M : By} {b : Nat} (hb : b < 128) : CB M (off M b) [25] := fun a ha => by
  have h : a / 64 ≠ 25 := fun z => ha (List.mem_singleton.mpr z)
  unfold off
  rw [va_up_ne _ _ (by omega)]
theorem CB_gvc {c : Nat → Nat} : ∀ d v (M : By), (∀ k, v ≤ k → k < v + d → c k < 128) → CB M (gvc c d v M) (List.replicate d 25) := by
  intro d
  induction d with
  | zero => intro v M _; exact CB.rf _
  | succ d ih =>
    intro v M h
    exact (CB_off (h v (by omega) (by omega))).tr (ih (v + 1) _ (fun k h1 h2 => h k (by omega) (by omega)))
theorem CB_zr {M : By} {i k n : Nat} (hi : i < 32) (h : k + n ≤ 16) : CB M (zr M (1088 + 16 * i + k) n) [17 + i / 4] := fun a ha => by
  have h : a / 64 ≠ 17 + i / 4 := fun z => ha (List.mem_singleton.mpr z)
  unfold zr
  rw [if_neg (by omega)]
/-- what emptying wants, from a good file system -/
theorem em_pre {M : By} (G : Good M) {i : Nat} (hi : i < 32) : (∀ k, k < 16 → cbk M i k < 128) ∧ nd M i < 128 ∧ nd M i ≠ 25 ∧ (nd M i = 0 ↔ bf (sz M i) ≤ 10) := by
  refine ⟨fun k hk => G.1.cb_lt hi hk, G.1.nd_lt hi, fun z => ?_, ?_⟩
  · have := G.1.nd26 hi (by omega); omega
  · have g4 := G.1.2.2.2 i 16 hi (Nat.le_refl _)
    have g2 := G.1.2.1 i 16
    rw [blk_16] at g4 g2
    refine ⟨fun z => ?_, fun z => g4 (fun o => by obtain ⟨-, o | o⟩ := o <;> omega)⟩
    by_cases q : bf (sz M i) ≤ 10
    · exact q
    · have := (g2 ⟨hi, Or.inr ⟨rfl, by omega⟩⟩).2.2.1
      omega
/-- the inode i is emptied; of its other bytes those from k on are 0 -/
theorem Good_em {M : By} (G : Good M) {i k : Nat} (hi : i < 32) (hk : k ≤ 2) (hk0 : k = 0 ∨ (k = 2 ∧ ty M i = 1)) : Good (zr (emB M i (bf (sz M i))) (1088 + 16 * i + k) (16 - k)) := by
  obtain ⟨e1, e2, e3, e4⟩ := em_pre G hi
  have h1000 := (G.2.1 i hi).1
  have hb16 := bf_le h1000
  obtain ⟨H, hH⟩ : ∃ H, H = emB M i (bf (sz M i)) := ⟨_, rfl⟩
  have oA : oM M (emA M i (bf (sz M i))) := oM_gvc _ _ _ _ (oM.rf M) (fun q _ h => e1 q (by omega))
  have oH : oM M H := by
    rw [hH]
    unfold emB
    split
    · exact oA
    · exact oA.off e2
  have bitH : ∀ b, (∀ q, q < bf (sz M i) → cbk M i q ≠ b) → (nd M i ≠ 0 → nd M i ≠ b) → bit H b = bit M b := fun b h1 h2 => by
    have hA : bit (emA M i (bf (sz M i))) b = bit M b := bit_gvc _ _ _ (fun q _ hq => h1 q (by omega))
    rw [hH]
    unfold emB
    by_cases z : nd M i = 0
    · rw [if_pos z]; exact hA
    · rw [if_neg z, bit_off, if_neg (fun y => h2 z y.symm)]; exact hA
  rw [← hH]
  obtain ⟨N, hNe⟩ : ∃ N, N = zr H (1088 + 16 * i + k) (16 - k) := ⟨_, rfl⟩
  rw [← hNe]
  have rbN : ∀ a, ¬ (1088 + 16 * i + k ≤ a ∧ a < 1104 + 16 * i) → rb N a = rb H a := fun a h => by
    rw [hNe, rb_zr, if_neg (by omega)]
  have rb0 : ∀ a, 1088 + 16 * i + k ≤ a → a < 1104 + 16 * i → rb N a = 0 := fun a h1 h2 => by
    rw [hNe, rb_zr, if_pos (by omega)]
  have rbM : ∀ a, ¬ (1088 + 16 * i + k ≤ a ∧ a < 1104 + 16 * i) → ¬ (1600 ≤ a ∧ a < 1664) → rb N a = rb M a := fun a h1 h2 => (rbN a h1).trans (oH a h2)
  have ndN : ∀ j, j < 32 → j ≠ i → nd N j = nd M j := fun j hj e => rbM _ (by omega) (by omega)
  have nd0 : nd N i = 0 := rb0 _ (by omega) (by omega)
  have cbN : ∀ j q, j < 32 → j ≠ i → q < 16 → cbk N j q = cbk M j q := fun j q hj e hq => by
    unfold cbk
    by_cases h1 : q < 10
    · rw [if_pos h1, if_pos h1]; exact rbM _ (by omega) (by omega)
    · rw [if_neg h1, if_neg h1, ndN j hj e]
      by_cases h2 : nd M j = 0
      · rw [if_pos h2, if_pos h2]
      · rw [if_neg h2, if_neg h2]
        have := G.1.nd26 hj h2
        exact rbM _ (by omega) (by omega)
  have bkN : ∀ j q, j < 32 → j ≠ i → q ≤ 16 → blk N j q = blk M j q := fun j q hj e hq => by
    unfold blk
    by_cases h1 : q = 16
    · rw [if_pos h1, if_pos h1]; exact ndN j hj e
    · rw [if_neg h1, if_neg h1]; exact cbN j q hj e (by omega)
  have bk0 : ∀ q, q ≤ 16 → blk N i q = 0 := fun q hq => by
    unfold blk
    by_cases h1 : q = 16
    · rw [if_pos h1]; exact nd0
    · rw [if_neg h1]
      by_cases h2 : q < 10
      · rw [cbk_lo h2]; exact rb0 _ (by omega) (by omega)
      · rw [cbk_no h2 nd0]
  have szN : ∀ j, j < 32 → j ≠ i → sz N j = sz M j := fun j hj e => by
    unfold sz
    rw [rbM _ (by omega) (by omega), rbM _ (by omega) (by omega)]
  have sz0 : sz N i = 0 := by
    unfold sz
    rw [rb0 _ (by omega) (by omega), rb0 _ (by omega) (by omega)]
  have bitN : ∀ b, b < 128 → bit N b = bit H b := fun b hb => by
    unfold bit
    rw [rbN _ (by omega)]
  obtain ⟨g1, g2, g3, g4⟩ := G.1
  have own : ∀ j q, OS N j q → j ≠ i ∧ OS M j q := fun j q o => by
    have hj : j < 32 := o.1
    by_cases e : j = i
    · subst e
      unfold OS at o
      rw [sz0] at o
      have : bf 0 = 0 := rfl
      omega
    · refine ⟨e, ?_⟩
      unfold OS at o ⊢
      rw [szN j hj e] at o
      exact o
  refine ⟨⟨fun b hb => ?_, fun j q o => ?_, fun j q j2 q2 o o2 z => ?_, fun j q hj hq o => ?_⟩, fun j hj => ?_, fun j hj tj => ?_⟩
  · rw [bitN b (by omega), bitH b (fun q hq z => ?_) (fun z1 z2 => ?_)]
    · exact g1 b hb
    · have := (g2 i q ⟨hi, Or.inl ⟨hq, by omega⟩⟩).2.2.1
      rw [blk_lo (by omega)] at this
      omega
    · have := G.1.nd26 hi z1
      omega
  · obtain ⟨e, o1⟩ := own j q o
    obtain ⟨a1, a2, a3, a4, a5⟩ := g2 j q o1
    rw [bkN j q a1 e a2]
    refine ⟨a1, a2, a3, a4, ?_⟩
    rw [bitN _ a4, bitH _ (fun n hn z => ?_) (fun z1 z2 => ?_)]
    · exact a5
    · have o2 : OS M i n := ⟨hi, Or.inl ⟨hn, by omega⟩⟩
      have := g3 j q i n o1 o2 (by rw [blk_lo (show n < 16 by omega)]; exact z.symm)
      exact e this.1
    · have o2 : OS M i 16 := by
        by_cases o2 : OS M i 16
        · exact o2
        · have := g4 i 16 hi (Nat.le_refl _) o2
          rw [blk_16] at this
          exact absurd this z1
      have := g3 j q i 16 o1 o2 (by rw [blk_16]; exact z2.symm)
      exact e this.1
  · obtain ⟨e, o1⟩ := own j q o
    obtain ⟨f, o3⟩ := own j2 q2 o2
    obtain ⟨a1, a2, -⟩ := g2 j q o1
    obtain ⟨b1, b2, -⟩ := g2 j2 q2 o3
    rw [bkN j q a1 e a2, bkN j2 q2 b1 f b2] at z
    exact g3 j q j2 q2 o1 o3 z
  · by_cases e : j = i
    · rw [e]; exact bk0 q hq
    · rw [bkN j q hj e hq]
      refine g4 j q hj hq (fun z => o ?_)
      unfold OS at z ⊢
      rw [szN j hj e]
      exact z
  · by_cases e : j = i
    · subst e
      rw [sz0]
      refine ⟨by omega, ?_, fun _ => rfl⟩
      rcases hk0 with z | ⟨z, -⟩
      · have : ln N j = 0 := rb0 _ (by omega) (by omega)
        omega
      · have : ln N j = ln M j := rbM _ (by omega) (by omega)
        rw [this]; exact (G.2.1 j hj).2.1
    · rw [szN j hj e]
      have t1 : ty N j = ty M j := rbM _ (by omega) (by omega)
      have t2 : ln N j = ln M j := rbM _ (by omega) (by omega)
      rw [t1, t2]
      exact G.2.1 j hj
  · by_cases e : j = i
    · subst e
      rw [sz0]; exact GDc_0 _
    · have t1 : ty N j = ty M j := rbM _ (by omega) (by omega)
      rw [t1] at tj
      rw [szN j hj e]
      refine (G.2.2 j hj tj).congr (fun p hp => ?_)
      obtain ⟨o1, o2, -⟩ := G.own hj hp
      have a3 := (g2 j _ o1).2.2.1
      rw [blk_lo o2] at a3
      unfold ct
      rw [cbN j _ hj e o2]
      exact rbM _ (by omega) (by omega)
theorem CB_em {M : By} {i h : Nat} (hc : ∀ k, k < 16 → cbk M i k < 128) (hn : nd M i < 128) (hh : h ≤ 16) : CB M (emB M i h) (tE M i h) := by
  unfold emB tE emA
  have h1 := CB_gvc (c := cbk M i) h 0 M (fun k _ hk => hc k (by omega))
  by_cases z : nd M i = 0
  · rw [if_pos z, if_pos z, List.append_nil]; exact h1
  · rw [if_neg z, if_neg z]; exact h1.tr (CB_off hn)
theorem tE_25 {M : By} {i h x : Nat} (hx : x ∈ tE M i h) : x = 25 := by
  unfold tE at hx
  rcases List.mem_append.mp hx with z | z
  · exact (List.mem_replicate.mp z).2
  · split at z
    · exact (nomatch z)
    · exact List.mem_singleton.mp z
