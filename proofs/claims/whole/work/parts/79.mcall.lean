/-! Mounting: both answer alike. Own rows. -/
theorem ld_at {D M : By} {a : Nat} (h : a < 8192) : ld D M a = D a := if_pos h
theorem Good_ld {D M : By} (G : Good D) : Good (ld D M) := Good_congr (fun a _ h => ld_at h) G
theorem mount_both {σ : CS} {ρ : RS} (h : IV σ ρ) : ∃ e a τ b υ, J_LogFs_mount σ = some (e, a, τ) ∧ J_Model_mount ρ = some (b, υ) ∧ IV τ υ ∧ ((e = 0 ∧ r_t υ = nI 0 ∧ a = b) ∨ (e = 2 ∧ r_t υ = nI 1)) := by
  obtain ⟨i1, i2, i3, i4, i5⟩ := h
  have eD : c_D σ = r_D ρ := congrArg z_D i1
  have eW : c_w σ = r_w ρ := congrArg z_w i1
  have eF : c_f σ = r_l ρ := congrArg z_f i1
  have rc : Rc (c_D σ) := by
    rcases i5 with ⟨-, L, l⟩ | ⟨-, l, -⟩
    · exact Or.inl ⟨l.2.2.2.2.2.2.1, l.2.2.2.2.2.1⟩
    · exact l
  rcases rc with ⟨c1, c2⟩ | ⟨L, G, hg⟩
  · refine ⟨_, _, _, _, _, C_mount0 c1, R_mount0 (by rw [← eD]; exact c1), ⟨?_, ?_, i3, i4, Or.inl ⟨rfl, [], ?_⟩⟩, Or.inl ⟨rfl, rfl, rfl⟩⟩
    · show (c_D σ, c_w σ, c_f σ, nI 0) = (r_D ρ, r_w ρ, r_l ρ, nI 0)
      rw [eD, eW, eF]
    · show ld (c_D σ) (c_M σ) = ld (r_D ρ) (r_M ρ)
      rw [eD, i2]
    · refine ⟨⟨rfl, rfl, fun i hi => absurd hi (Nat.not_lt_zero _), fun x hx => (nomatch hx)⟩, ⟨?_, rfl, fun i hi => absurd hi (Nat.not_lt_zero _), fun x hx => (nomatch hx)⟩, fun x hx => (nomatch hx), Nat.zero_le _, Good_ld c2, c2, c1, fun a h1 h2 _ => ld_at h2⟩
      show ld (r_D ρ) (r_M ρ) = ld (c_D σ) (c_M σ)
      rw [eD, i2]
  · obtain ⟨m1, m2⟩ := mount_rc (w := c_w σ) (f := c_f σ) hg
    have hfo := fOk_rn (rpl (c_D σ) L) (c_D σ, c_w σ, c_f σ, nI 0) i4
    obtain ⟨h0, hL, hx, hn, hh, -⟩ := hg
    obtain ⟨τ, t1, t2, t3, t4, t5⟩ := C_mount hL h0 hn hx hh i4
    rw [eD] at hn hh
    rw [eF] at i4
    obtain ⟨υ, u1, u2, u3, u4, u5, u6, u7⟩ := R_mount hL h0 hn hx hh i4
    rw [← eD, ← eW, ← eF] at u1 u2 u3 u6 u7
    rw [← t2] at m1 m2 hfo
    have zz : zC τ = zR υ := t2.trans u2.symm
    have eD2 : c_D τ = r_D υ := congrArg z_D zz
    refine ⟨_, _, _, _, _, t1, u1, ?_⟩
    by_cases q : (rn (rpl (c_D σ) L) (c_D σ, c_w σ, c_f σ, nI 0)).1 = true
    · rw [if_pos q, if_pos q]
      obtain ⟨a1, a2, a3⟩ := m1 q
      obtain ⟨b1, b2⟩ := t4 q
      have b3 := u6 q
      rw [q] at u3
      have eM : r_M υ = c_M τ := by rw [b1, b3, eD2, i2]
      refine ⟨⟨zz, eM.symm, t3.trans (i3.trans u5.symm), hfo, Or.inl ⟨a3, [], ⟨rfl, b2, fun i hi => absurd hi (Nat.not_lt_zero _), fun x hx => (nomatch hx)⟩, ⟨eM, u4, fun i hi => absurd hi (Nat.not_lt_zero _), fun x hx => (nomatch hx)⟩, fun x hx => (nomatch hx), Nat.zero_le _, ?_, a2, a1, fun a h1 h2 _ => ?_⟩⟩, Or.inl ⟨rfl, u3, rfl⟩⟩
      · rw [b1]; exact Good_ld a2
      · rw [b1]; exact ld_at h2
    · rw [if_neg q, if_neg q]
      obtain ⟨a1, a2⟩ := m2 q
      obtain ⟨b1, -⟩ := t5 q
      have b3 := u7 q
      have e : b10 (rn (rpl (c_D σ) L) (c_D σ, c_w σ, c_f σ, nI 0)).1 = nI 1 := by
        unfold b10
        rw [if_neg q]
      rw [e] at u3
      exact ⟨⟨zz, b1.trans (i2.trans b3.symm), t3.trans (i3.trans u5.symm), hfo, Or.inr ⟨a2, a1, u4⟩⟩, Or.inr ⟨rfl, u3⟩⟩
