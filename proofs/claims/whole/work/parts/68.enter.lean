/-! An entry is written into a directory. Own rows. -/
theorem c56 : (nI 56).toInt64 &&& 63 = (56 : Int64) := by decide +kernel
theorem s56 : ((56 : Int64).toBitVec.smod 64#64).toNat = 56 := by decide +kernel
theorem u8 : (nI 8).toInt64.toUInt64 &&& Int64.toUInt64 63 = UInt64.ofNat 8 := by decide +kernel
theorem u8m : ((UInt64.ofNat 8).toBitVec % 64#64).toNat = 8 := by decide +kernel
/-- the bytes of an entry -/
def fE (j : Nat) (x : Int64) : Nat → Nat := fun k => if k = 0 then j + 1 else nb x (k - 1)
theorem C_eo {j : Nat} (hj : j < 32) (x : Int64) : ∃ E : Int64, J_LogFs_entryOf (nI j) x = some E ∧ ∀ k, k < 8 → nb E k = fE j x k := by
  unfold J_LogFs_entryOf
  refine ⟨_, rfl, ?_⟩
  have hx := x.toBitVec.isLt
  have key : ((((nI j + (1 : Int32)).toInt64 <<< ((56 : Int32).toInt64 &&& 63)) ||| (x.toUInt64 >>> ((8 : Int32).toInt64.toUInt64 &&& Int64.toUInt64 63)).toInt64)).toBitVec.toNat = (j + 1) * 72057594037927936 + x.toBitVec.toNat / 256 := by
    rw [nL_1, nL_56, nL_8, nI_add, nI_oL (by omega), c56, u8]
    show (((oL (j + 1) <<< (56 : Int64)).toBitVec) ||| ((x.toUInt64 >>> UInt64.ofNat 8).toInt64).toBitVec).toNat = _
    rw [Int64.toBitVec_shiftLeft]
    show ((oL (j + 1)).toBitVec <<< ((56 : Int64).toBitVec.smod 64#64).toNat ||| (x.toUInt64 >>> UInt64.ofNat 8).toBitVec).toNat = _
    rw [s56, UInt64.toBitVec_shiftRight]
    show ((oL (j + 1)).toBitVec <<< 56 ||| x.toBitVec >>> ((UInt64.ofNat 8).toBitVec % 64#64)).toNat = _
    rw [BitVec.ushiftRight_eq', u8m, BitVec.toNat_or, BitVec.toNat_shiftLeft, BitVec.toNat_ushiftRight, oL_nat, Nat.shiftLeft_eq, Nat.shiftRight_eq_div_pow, Nat.mod_eq_of_lt (show j + 1 < 2 ^ 64 by omega), Nat.mod_eq_of_lt (show (j + 1) * 2 ^ 56 < 2 ^ 64 by omega), Nat.mul_comm, ← Nat.two_pow_add_eq_or_of_lt (show x.toBitVec.toNat / 2 ^ 8 < 2 ^ 56 by omega)]
  intro k hk
  have hn : ∀ q, nb x q = x.toBitVec.toNat / 2 ^ (8 * (7 - q)) % 256 := fun q => rfl
  unfold nb
  rw [key]
  unfold fE
  by_cases k0 : k = 0
  · subst k0
    rw [if_pos rfl]
    simp only [Nat.reduceSub, Nat.reduceMul, Nat.reducePow]
    omega
  · rw [if_neg k0, hn]
    generalize x.toBitVec.toNat = n at hx
    rcases (show k = 1 ∨ k = 2 ∨ k = 3 ∨ k = 4 ∨ k = 5 ∨ k = 6 ∨ k = 7 by omega) with rfl | rfl | rfl | rfl | rfl | rfl | rfl <;> simp only [Nat.reduceSub, Nat.reduceMul, Nat.reducePow] <;> omega
theorem pn_congr {i a : Nat} {f g : Nat → Nat} : ∀ d v M, (∀ k, v ≤ k → k < v + d → f k = g k) → pn i a f d v M = pn i a g d v M ∧ Tn i a f d v M = Tn i a g d v M := by
  intro d
  induction d with
  | zero => intro v M _; exact ⟨rfl, rfl⟩
  | succ d ih =>
    intro v M h
    have e := h v (by omega) (by omega)
    have h2 := ih (v + 1) (p1 M i (a + v) (g v)) (fun k h1 h2 => h k (by omega) (by omega))
    refine ⟨?_, ?_⟩
    · show pn i a f d (v + 1) (p1 M i (a + v) (f v)) = pn i a g d (v + 1) (p1 M i (a + v) (g v))
      rw [e]; exact h2.1
    · show T1 M i (a + v) ++ Tn i a f d (v + 1) (p1 M i (a + v) (f v)) = T1 M i (a + v) ++ Tn i a g d (v + 1) (p1 M i (a + v) (g v))
      rw [e, h2.2]
theorem aN_congr {Q : By → Nat → Prop} {i a : Nat} {f g : Nat → Nat} : ∀ d v M, (∀ k, v ≤ k → k < v + d → f k = g k) → aN Q i a f d v M → aN Q i a g d v M := by
  intro d
  induction d with
  | zero => intro v M _ _; trivial
  | succ d ih =>
    intro v M h q
    refine ⟨q.1, ?_⟩
    rw [← h v (by omega) (by omega)]
    exact ih (v + 1) _ (fun k h1 h2 => h k (by omega) (by omega)) q.2
/-- the block of a run within one block stays -/
theorem pn_fix {h : Nat → Nat} {i a b : Nat} {f : Nat → Nat} (hi : i < 32) (hk : a / 64 < 16) (hh : a / 64 < h i) : ∀ d v M, GS M (OH h) → cbk M i (a / 64) = b → a % 64 + v + d ≤ 64 → aN (fun M q => cbk M i (q / 64) = b ∧ b ≠ 0 ∧ b < 128) i a f d v M := by
  intro d
  induction d with
  | zero => intro v M _ _ _; trivial
  | succ d ih =>
    intro v M g e hv
    have own : OH h i (a / 64) := ⟨hi, Or.inl ⟨hh, hk⟩⟩
    have g2 := g.2.1 i _ own
    rw [blk_lo hk] at g2
    have ek : (a + v) / 64 = a / 64 := by omega
    have em : m1 M i (a / 64) = M := if_neg (by omega)
    have ep : p1 M i (a + v) (f v) = va_up M (64 * cbk M i (a / 64) + (a + v) % 64) (b8 (f v)) := by
      unfold p1
      rw [ek, em]
    refine ⟨⟨by rw [ek]; exact e, by omega, by omega⟩, ?_⟩
    have hse := SE.put g own hk (show (a + v) % 64 < 64 by omega) (f v)
    rw [ep]
    exact ih (v + 1) _ (hse.gs g) (by rw [hse.q_cbk hi hk]; exact e) (by omega)
theorem Tn_fix {i a b : Nat} {f : Nat → Nat} : ∀ d v M, aN (fun M q => cbk M i (q / 64) = b ∧ b ≠ 0 ∧ b < 128) i a f d v M → ∀ x ∈ Tn i a f d v M, x = b := by
  intro d
  induction d with
  | zero => intro v M _ x hx; exact (nomatch hx)
  | succ d ih =>
    intro v M q x hx
    have em : m1 M i ((a + v) / 64) = M := if_neg (by have := q.1; omega)
    have et : t1 M i ((a + v) / 64) = [] := if_neg (by have := q.1; omega)
    rcases List.mem_append.mp hx with hx | hx
    · unfold T1 at hx
      rw [et, em, q.1.1] at hx
      exact List.mem_singleton.mp hx
    · exact ih _ _ q.2 x hx
section RR
variable {σ : RS} {M : By} {L : List Nat}
theorem R_en70 {i p b fl : Nat} {x : Int64} {j : Nat} (hi : i < 32) (hp : p + 8 ≤ 1000) (hp8 : p % 8 = 0) (hfl : fl < 2) : ∀ d n v (σ : RS) (M : By) (L : List Nat), RM σ M L → (∀ k, k < 8 → r_N σ k = b8 (nb x k)) → b ∈ L → L.length ≤ 15 → v + d = 7 → d < n → aN (fun M q => cbk M i (q / 64) = b ∧ b ≠ 0 ∧ b < 128) i p (fE j x) d (1 + v) M → (fl = 0 ↔ p + 8 ≤ sz (pn i p (fE j x) d (1 + v) M) i) →
    (pds L (tG (pn i p (fE j x) d (1 + v) M) i (p + 8))).length ≤ 15 → RT (J_Model_enter_70 n σ (nI i) (nI p) (nI fl) (nI b) (nI v)) σ (gr (pn i p (fE j x) d (1 + v) M) i (p + 8)) (pds L (tG (pn i p (fE j x) d (1 + v) M) i (p + 8))) := by
  intro d
  induction d with
  | zero =>
    intro n v σ M L m hN hb hLL hv hn ho hf hL
    obtain ⟨n, rfl⟩ : ∃ k, n = k + 1 := ⟨n - 1, by omega⟩
    show RT (J_Model_enter_70_b _ σ (nI i) (nI p) (nI fl) (nI b) (nI v)) _ _ _
    have hf : fl = 0 ↔ p + 8 ≤ sz M i := hf
    have hL : (pds L (tG M i (p + 8))).length ≤ 15 := hL
    show RT _ _ (gr M i (p + 8)) (pds L (tG M i (p + 8)))
    unfold J_Model_enter_70_b
    rw [nL_7, if_pos (by rw [nJ_le (by omega) (by omega)]; omega), nL_0, nL_8, nI_add]
    unfold gr tG
    unfold tG at hL
    by_cases q : p + 8 ≤ sz M i
    · rw [if_pos q, if_pos q, if_pos (by rw [hf.mpr q])]
      exact RT.id m
    · rw [if_neg q] at hL
      rw [if_neg q, if_neg q, if_neg (by rw [nJ_eq (by omega) (by omega)]; exact fun z => q (hf.mp z))]
      exact (R_size m hi (by omega) hL).bd (fun τ t => RT.id t)
  | succ d ih =>
    intro n v σ M L m hN hb hLL hv hn ho hf hL
    obtain ⟨n, rfl⟩ : ∃ k, n = k + 1 := ⟨n - 1, by omega⟩
    show RT (J_Model_enter_70_b _ σ (nI i) (nI p) (nI fl) (nI b) (nI v)) _ _ _
    obtain ⟨⟨o1, o2, o3⟩, o4⟩ := ho
    have ek : (p + (1 + v)) / 64 = p / 64 := by omega
    have em : m1 M i ((p + (1 + v)) / 64) = M := if_neg (by omega)
    have ep : p1 M i (p + (1 + v)) (fE j x (1 + v)) = va_up M (64 * b + (p % 64 + 1 + v)) (b8 (nb x v)) := by
      unfold p1
      rw [em, o1, show (p + (1 + v)) % 64 = p % 64 + 1 + v by omega]
      unfold fE
      rw [if_neg (by omega), show 1 + v - 1 = v by omega]
    have en : pn i p (fE j x) (d + 1) (1 + v) M = pn i p (fE j x) d (1 + (v + 1)) (va_up M (64 * b + (p % 64 + 1 + v)) (b8 (nb x v))) := by
      rw [← ep]; rfl
    rw [en] at hf hL ⊢
    unfold J_Model_enter_70_b
    rw [nL_7, if_neg (by rw [nJ_le (by omega) (by omega)]; omega), if_pos (by rw [nJ_in (by omega)]; omega), nJ_cl (by omega), hN v (by omega), nL_64, nJ_div (by omega) (by omega), nJ_mul, nJ_sub (by omega) (by omega), nJ_md, nL_1, nI_add, nI_add, nI_add]
    obtain ⟨τ, e1, t, kt⟩ := R_setx m o3 (show p % 64 + 1 + v < 64 by omega) (b8 (nb x v)) (by rw [pd_have hb]; exact hLL)
    rw [pd_have hb] at t
    rw [e1, nJ_bs]
    refine RT.tr kt ?_
    refine ih n (v + 1) τ _ L t (fun k hk => by rw [kt.2.2.2.2.2.2.2.1]; exact hN k hk) hb hLL (by omega) (by omega) ?_ hf hL
    rw [← ep]
    exact o4
theorem R_enter (m : RM σ M L) (G : Good M) {i j s p : Nat} {x : Int64} (hi : i < 32) (hj : j < 32) (hs : sz M i = 8 * s) (hN : ∀ k, k < 8 → r_N σ k = b8 (nb x k)) (hp : p = 8 * fi (pE M i) s 0) (hp2 : p + 8 ≤ 1000) (hf : nds M i (p + 8) ≤ fb M)
    (hL : (pds L (Tn i p (fE j x) 8 0 M ++ tG (pn i p (fE j x) 8 0 M) i (p + 8))).length ≤ 15) : RT (J_Model_enter σ (nI i) (nI j)) σ (gr (pn i p (fE j x) 8 0 M) i (p + 8)) (pds L (Tn i p (fE j x) 8 0 M ++ tG (pn i p (fE j x) 8 0 M) i (p + 8))) := by
  have hfi := fi_le (pE M i) s 0
  have hps : p ≤ sz M i := by omega
  have h1000 := (G.2.1 i hi).1
  have hm : max (hS M i) (bf (p + 0)) = hS M i := by unfold hS bf; omega
  have hW : WI M (hS M) i p 8 0 := by
    refine ⟨?_, ?_⟩
    · rw [hm, up_id]; exact G.1
    · rw [hm]; exact hf
  obtain ⟨s1, s2, -, s4, -⟩ := p1_step (w := fE j x 0) hi hp2 (show 0 < 8 by omega) (show hS M i = bf (sz M i) from rfl) hps hW
  obtain ⟨⟨o1, o2, o3, o4, o5⟩, oi⟩ := s1
  rw [Nat.add_zero] at o2 o3 o4 o5 oi s2 s4
  obtain ⟨b, hb⟩ : ∃ b, b = cbk (m1 M i (p / 64)) i (p / 64) := ⟨_, rfl⟩
  have ep : p1 M i p (fE j x 0) = va_up (m1 M i (p / 64)) (64 * b + p % 64) (b8 (j + 1)) := by
    unfold p1
    rw [← hb]
    rfl
  have hcb : cbk (p1 M i p (fE j x 0)) i (p / 64) = b := by
    obtain ⟨-, -, -, -, q5, -⟩ := p1_step (w := fE j x 0) hi hp2 (show 0 < 8 by omega) (show hS M i = bf (sz M i) from rfl) hps hW
    rw [Nat.add_zero] at q5
    by_cases e : cbk M i (p / 64) = 0
    · -- a new block: the slot is written before the byte
      have gm : ∃ y, GS (m1 M i (p / 64)) (OH y) ∧ p / 64 < y i := by
        have e1 : m1 M i (p / 64) = aB M i (p / 64) := if_pos e
        have c := oi.mp e
        have hk : hS M i = p / 64 := by unfold hS bf; unfold hS bf at c; omega
        have hco : co (p / 64) ≤ fb M := by
          have hf' : nq (hS M i) (bf (p + 8)) ≤ fb M := hf
          rw [hk] at hf'
          exact (co_nq (by unfold bf; omega) hf').1
        obtain ⟨-, f2, -⟩ := GS_aB G.gs hi (show p / 64 < 16 by omega) hk hco
        exact ⟨_, by rw [e1]; exact f2, by rw [up_s]; omega⟩
      obtain ⟨y, g1, g2⟩ := gm
      have hse := SE.put g1 (show OH y i (p / 64) from ⟨hi, Or.inl ⟨g2, by omega⟩⟩) (show p / 64 < 16 by omega) (show p % 64 < 64 by omega) (j + 1)
      rw [← hb] at hse
      rw [ep, hse.q_cbk hi (by omega)]
      exact hb.symm
    · rw [q5.2 _ (by omega) e, hb]
      have e1 : m1 M i (p / 64) = M := if_neg e
      rw [e1]
  have g1 := s2.1
  have hfix := pn_fix (f := fE j x) hi (show p / 64 < 16 by omega) (by rw [up_s]; unfold bf; omega) 7 1 _ g1 hcb (by omega)
  have en : pn i p (fE j x) 8 0 M = pn i p (fE j x) 7 1 (p1 M i p (fE j x 0)) := rfl
  have et : Tn i p (fE j x) 8 0 M = (t1 M i (p / 64) ++ [b]) ++ Tn i p (fE j x) 7 1 (p1 M i p (fE j x 0)) := by
    show T1 M i (p + 0) ++ _ = _
    unfold T1
    rw [Nat.add_zero, ← hb]
  have hTb : ∀ y ∈ Tn i p (fE j x) 7 1 (p1 M i p (fE j x 0)), y ∈ pds L (t1 M i (p / 64) ++ [b]) := fun y hy => by
    rw [Tn_fix 7 1 _ hfix y hy]
    exact pds_in.mpr (Or.inr (List.mem_append_right _ (List.mem_singleton.mpr rfl)))
  have epd : pds L (Tn i p (fE j x) 8 0 M ++ tG (pn i p (fE j x) 8 0 M) i (p + 8)) = pds (pds L (t1 M i (p / 64) ++ [b])) (tG (pn i p (fE j x) 8 0 M) i (p + 8)) := by
    rw [pds_app, et, pds_app, pds_have hTb]
  rw [epd] at hL ⊢
  rw [en] at hL ⊢
  have hLb := Nat.le_trans (pds_le _ _) hL
  have szf : sz (pn i p (fE j x) 7 1 (p1 M i p (fE j x 0))) i = sz M i := by
    obtain ⟨-, -, -, r3, -⟩ := pn_all (f := fE j x) hi hp2 (show hS M i = bf (sz M i) from rfl) hps 8 0 M (by omega) hW
    rw [en] at r3
    exact r3.q_sz hi
  have hbL : b ∈ pds L (t1 M i (p / 64) ++ [b]) := pds_in.mpr (Or.inr (List.mem_append_right _ (List.mem_singleton.mpr rfl)))
  have hidx : p / 64 < 10 ∨ nd (m1 M i (p / 64)) i ≠ 0 := by
    by_cases q : p / 64 < 10
    · exact Or.inl q
    · refine Or.inr (fun z => o5 (cbk_no q z))
  -- behind the block
  have rest : ∀ (fl : Nat) (τ : RS), fl < 2 → (fl = 0 ↔ p + 8 ≤ sz M i) → RM τ (m1 M i (p / 64)) (pds L (t1 M i (p / 64))) → (∀ k, k < 8 → r_N τ k = b8 (nb x k)) → RT (J_Model_enter_43 τ (nI i) (nI j) (nI p) (nI fl)) τ (gr (pn i p (fE j x) 7 1 (p1 M i p (fE j x 0))) i (p + 8)) (pds (pds L (t1 M i (p / 64) ++ [b])) (tG (pn i p (fE j x) 7 1 (p1 M i p (fE j x 0))) i (p + 8))) := by
    intro fl τ hfl hfl0 t tN
    unfold J_Model_enter_43
    rw [nL_64, nJ_div (by omega) (by omega), R_cb t hi (by omega) o3 hidx, nJ_bs, nJ_mul, nJ_sub (by omega) (by omega), nJ_md, nL_1, nI_add, ← hb]
    rw [← hb] at o4
    have e2 : pd (pds L (t1 M i (p / 64))) b = pds L (t1 M i (p / 64) ++ [b]) := by rw [pds_app]; rfl
    obtain ⟨υ, e1, u, ku⟩ := R_set t o4 (show p % 64 < 64 by omega) (j + 1) (by rw [e2]; exact hLb)
    rw [e2, ← ep] at u
    rw [e1, nJ_bs]
    refine RT.tr ku ?_
    exact R_en70 hi hp2 (by omega) hfl 7 9000 0 υ _ _ u (fun k hk => by rw [ku.2.2.2.2.2.2.2.1]; exact tN k hk) hbL hLb (by omega) (by omega) hfix (by rw [szf]; exact hfl0) hL
  unfold J_Model_enter J_Model_enter_20
  rw [R_pfe m G hi hs, nJ_bs, R_sz m hi, nJ_bs, ← hp]
  by_cases q : p = sz M i
  · rw [if_pos (by rw [← q]), nL_1, nL_0, if_neg (by decide)]
    by_cases q2 : p % 64 = 0
    · have e : cbk M i (p / 64) = 0 := oi.mpr ⟨by unfold hS bf; omega, Or.inl rfl⟩
      have e1 : m1 M i (p / 64) = aB M i (p / 64) := if_pos e
      have e2 : t1 M i (p / 64) = tB M i (p / 64) := if_pos e
      rw [nL_64, nJ_div (by omega) (by omega), nJ_mul, nJ_sub (by omega) (by omega), nJ_md, if_pos (by rw [q2])]
      have hLt : (pds L (tB M i (p / 64))).length ≤ 15 := by
        rw [← e2]
        exact pds_l hLb
      obtain ⟨τ, x1, t, kt⟩ := R_add m hi (show p / 64 < 16 by omega) (o2 e) hLt
      rw [x1, nJ_bs]
      refine RT.tr kt ?_
      rw [← e1, ← e2] at t
      exact rest 1 τ (by omega) ⟨fun z => absurd z (by omega), fun z => by omega⟩ t (fun k hk => by rw [kt.2.2.2.2.2.2.2.1]; exact hN k hk)
    · have e : ¬ cbk M i (p / 64) = 0 := fun z => by
        have := (oi.mp z).1
        unfold hS bf at this
        omega
      have e1 : m1 M i (p / 64) = M := if_neg e
      have e2 : t1 M i (p / 64) = [] := if_neg e
      rw [nL_64, nJ_div (by omega) (by omega), nJ_mul, nJ_sub (by omega) (by omega), nJ_md, if_neg (by rw [nJ_eq (by omega) (by omega)]; exact q2)]
      exact rest 1 σ (by omega) ⟨fun z => absurd z (by omega), fun z => by omega⟩ (by rw [e1, e2]; exact m) hN
  · have e : ¬ cbk M i (p / 64) = 0 := fun z => by
      have := (oi.mp z).1
      unfold hS bf at this
      omega
    have e1 : m1 M i (p / 64) = M := if_neg e
    have e2 : t1 M i (p / 64) = [] := if_neg e
    rw [if_neg (by rw [nJ_eq (by omega) (by omega)]; exact q), nL_0, if_pos rfl]
    exact rest 0 σ (by omega) ⟨fun _ => by omega, fun _ => rfl⟩ (by rw [e1, e2]; exact m) hN
end RR
