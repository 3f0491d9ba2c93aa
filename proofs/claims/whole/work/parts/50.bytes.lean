/-! Bytes of all blocks as a function; what the structures in them are: inodes, map, contents, entries. Own rows. -/
def rb (f : By) (i : Nat) : Nat := (f i).toBitVec.toNat
def b8 (v : Nat) : Int8 := Int8.ofNat v
theorem rb_lt (f : By) (i : Nat) : rb f i < 256 := (f i).toBitVec.isLt
theorem bt8 (v : Nat) : (b8 v).toBitVec.toNat = v % 256 := by
  show (Int8.ofNat v).toBitVec.toNat = v % 256
  rw [Int8.toBitVec_ofNat', BitVec.toNat_ofNat]
theorem rb_up (f : By) (k v j : Nat) : rb (va_up f k (b8 v)) j = if j = k then v % 256 else rb f j := by
  unfold rb va_up
  by_cases h : j = k
  · rw [if_pos h, if_pos h, bt8]
  · rw [if_neg h, if_neg h]
theorem rb_up_s (f : By) (k v : Nat) (h : v < 256) : rb (va_up f k (b8 v)) k = v := by
  rw [rb_up, if_pos rfl, Nat.mod_eq_of_lt h]
theorem rb_up_n (f : By) {k j : Nat} (v : Nat) (h : j ≠ k) : rb (va_up f k (b8 v)) j = rb f j := by
  rw [rb_up, if_neg h]
theorem by_ext {f g : By} (h : ∀ i, rb f i = rb g i) : f = g := by
  funext i
  exact Int8.toBitVec_inj.mp (BitVec.eq_of_toNat_eq (h i))
-- inodes: byte k of inode i lies at 1088 + 16 i + k
def ty (f : By) (i : Nat) : Nat := rb f (1088 + 16 * i)
def ln (f : By) (i : Nat) : Nat := rb f (1089 + 16 * i)
def sz (f : By) (i : Nat) : Nat := 256 * rb f (1090 + 16 * i) + rb f (1091 + 16 * i)
def dr (f : By) (i k : Nat) : Nat := rb f (1092 + 16 * i + k)
def nd (f : By) (i : Nat) : Nat := rb f (1102 + 16 * i)
def bit (f : By) (b : Nat) : Nat := rb f (1600 + b / 8) / 2 ^ (b % 8) % 2
def cbk (f : By) (i k : Nat) : Nat := if k < 10 then dr f i k else if nd f i = 0 then 0 else rb f (64 * nd f i + (k - 10))
def bf (n : Nat) : Nat := (n + 63) / 64
def ct (f : By) (i p : Nat) : Nat := rb f (64 * cbk f i (p / 64) + p % 64)
theorem cbk_lo {f : By} {i k : Nat} (h : k < 10) : cbk f i k = dr f i k := if_pos h
theorem cbk_hi {f : By} {i k : Nat} (h : ¬ k < 10) (h2 : nd f i ≠ 0) : cbk f i k = rb f (64 * nd f i + (k - 10)) := by
  rw [cbk, if_neg h, if_neg h2]
theorem cbk_no {f : By} {i k : Nat} (h : ¬ k < 10) (h2 : nd f i = 0) : cbk f i k = 0 := by
  rw [cbk, if_neg h, if_pos h2]
theorem cbk_lt (f : By) (i k : Nat) : cbk f i k < 256 := by
  unfold cbk
  split
  · exact rb_lt _ _
  · split
    · decide
    · exact rb_lt _ _
theorem sz_lt (f : By) (i : Nat) : sz f i < 65536 := by
  have h1 := rb_lt f (1090 + 16 * i)
  have h2 := rb_lt f (1091 + 16 * i)
  unfold sz; omega
theorem bit_01 (f : By) (b : Nat) : bit f b = 0 ∨ bit f b = 1 := by
  unfold bit; omega
