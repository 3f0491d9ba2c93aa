/-! Small rows: how a pure function's value is followed along a walk. Own rows. -/
theorem j_t {c : Prop} [Decidable c] {α : Type} {a b r : α} (hJ : (if c then a else b) = r) (h : c) : a = r := by rw [if_pos h] at hJ; exact hJ
theorem j_f {c : Prop} [Decidable c] {α : Type} {a b r : α} (hJ : (if c then a else b) = r) (h : ¬ c) : b = r := by rw [if_neg h] at hJ; exact hJ
theorem j_g {c : Bool} {α : Type} {a : Option α} {r : α} (hJ : (if c = true then a else none) = some r) : c = true ∧ a = some r := by
  by_cases h : c = true
  · rw [if_pos h] at hJ; exact ⟨h, hJ⟩
  · rw [if_neg h] at hJ; cases hJ
theorem j_bind {α β : Type} {o : Option α} {f : α → Option β} {r : β} (hJ : o.bind f = some r) : ∃ a, o = some a ∧ f a = some r := by
  cases o with
  | none => cases hJ
  | some a => exact ⟨a, rfl, hJ⟩
theorem j_none {α : Type} {r : α} {P : Prop} (h : (none : Option α) = some r) : P := nomatch h
def jin (i : Int32) (n : Nat) : Bool := decide (0 ≤ i.toInt ∧ i.toInt < n)
theorem j_in {i : Int32} {n : Nat} (h : jin i n = true) : vp_in i n := vp_in_iff.mpr (of_decide_eq_true h)
theorem jin_nI {n N : Nat} (h : n < N) (hN : N < 2 ^ 31) : jin (nI n) N = true := decide_eq_true (by rw [nI_toInt (by omega)]; omega)
def jbl (x : Int32) : Bool := decide (x = 0 ∨ x = 1)
theorem j_bl {x : Int32} (h : jbl x = true) : narrow .boolean (.int x) = .int x ∧ fits .boolean (.int x) = true := by
  rcases of_decide_eq_true h with rfl | rfl
  · exact ⟨by decide +kernel, by decide +kernel⟩
  · exact ⟨by decide +kernel, by decide +kernel⟩
abbrev By : Type := Nat → Int8
theorem by_upd (f : By) (k : Nat) (x : Int32) : upd (fun j => (f j).toInt32) k (vp_nar .byte x) = fun j => (va_up f k x.toInt8 j).toInt32 := by
  funext j
  unfold upd va_up
  by_cases h : j = k
  · rw [if_pos h, if_pos h]; rfl
  · rw [if_neg h, if_neg h]
theorem by_cpy (f g : By) (sp dp n : Nat) : va_cpy (fun j => (f j).toInt32) (fun j => (g j).toInt32) sp dp n = fun j => (va_cpy f g sp dp n j).toInt32 := by
  funext j
  unfold va_cpy
  by_cases h : dp ≤ j ∧ j < dp + n
  · rw [if_pos h, if_pos h]
  · rw [if_neg h, if_neg h]
theorem by_fit (x : Int8) : fits .byte (.int x.toInt32) = true := by
  have h := pk_fb (x.toInt32)
  have e : x.toInt32.toInt8.toInt32 = x.toInt32 := by simp
  rw [e] at h
  exact h
