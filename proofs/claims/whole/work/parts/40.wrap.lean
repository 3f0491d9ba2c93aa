/-! A world beside another in a call: the law's helper has the component's world and the cell of its answer. Own rows. -/
abbrev LW : Type := CS × (Nat → Int64)
def l_O (σ : LW) : Nat → Int64 := σ.2
def u_O (σ : LW) (x : Nat → Int64) : LW := (σ.1, x)
abbrev wL (ga : Nat → Nat) (ho : Nat) (cB cI cL : ClassId) (σ : LW) : va_W := wC ga cB cI σ.1 ++ [(ho, .inl (cL, 1, .inr (.inl σ.2)))]
abbrev tL (cB cI cL : ClassId) : List (ClassId × FieldType) := [(cB, .byte), (cI, .int), (cL, .long)]
/-- all of A but one cell -/
def xA (A : Nat → Prop) (ho : Nat) : Nat → Prop := fun q => A q ∧ q ≠ ho
theorem wL_D {ga : Nat → Nat} {ho : Nat} {cB cI cL : ClassId} {A : Nat → Prop} (h : ∀ σ, va_D A (wL ga ho cB cI cL σ)) : ∀ σ, va_D (xA A ho) (wC ga cB cI σ) := fun σ => by
  have h1 := h (σ, fun _ => 0)
  refine ⟨fun i j p q hi hj e => ?_, fun k q hk => ?_⟩
  · have hi' : (wL ga ho cB cI cL (σ, fun _ => 0))[i]? = some p := List.getElem?_append_left (List.getElem?_eq_some_iff.mp hi).1 ▸ hi
    have hj' : (wL ga ho cB cI cL (σ, fun _ => 0))[j]? = some q := List.getElem?_append_left (List.getElem?_eq_some_iff.mp hj).1 ▸ hj
    exact h1.1 i j p q hi' hj' e
  · have hl : k < 9 := (List.getElem?_eq_some_iff.mp hk).1
    have hk' : (wL ga ho cB cI cL (σ, fun _ => 0))[k]? = some q := List.getElem?_append_left (List.getElem?_eq_some_iff.mp hk).1 ▸ hk
    refine ⟨h1.2 k q hk', fun e => ?_⟩
    have := h1.1 k 9 q _ hk' rfl e
    omega
theorem keepO {D : va_G} {cl : List vw_C} {ho : Nat} {e : va_E} {H H1 : Heap} {A : Nat → Prop} (hP : va_P D cl [(ho, e)] H) (hk : ∀ q : Nat, q < H.size → ¬ xA A ho q → H1[q]? = H[q]?) : va_P D cl [(ho, e)] H1 :=
  hP.kept (fun k q hq => by
    have h1 := (hP k q hq).lt
    have h2 : q = (ho, e) := List.mem_singleton.mp (List.mem_of_getElem? hq)
    subst h2
    exact hk _ h1 (fun z => z.2 rfl))
theorem kX_A {A : Nat → Prop} {sx : Nat → Nat} {U : State} {ho : Nat} (h : kX A sx U) (hlt : ho < U.heap.size) : kX (xA A ho) sx U := by
  obtain ⟨⟨a1, a2, a3, a4, a5, a6, b1, b2, b3, b4, b5, b6, b7, b8, b9, b10, b11⟩, ⟨c1, c2, c3, c4, c5, c6, d1, d2, d3, d4, d5, d6, d7, d8, d9, d10, d11⟩, h3, h4⟩ := h
  exact ⟨⟨a1, a2, a3, a4, a5, a6, b1, b2, b3, b4, b5, b6, b7, b8, b9, b10, fun z => b11 z.1⟩, ⟨c1, c2, c3, c4, c5, c6, d1, d2, d3, d4, d5, d6, d7, d8, d9, d10, fun z => d11 z.1⟩, fun q hq => ⟨h3 q hq, by omega⟩, h4⟩
/-- two exceptions that the first handler passes -/
def kN (U : State) : Prop := (Cond.not (.castable "java/lang/UnsupportedOperationException" "java/lang/IllegalStateException")).before #[] U = true ∧ (Cond.not (.castable "java/lang/IndexOutOfBoundsException" "java/lang/IllegalStateException")).before #[] U = true
theorem kN_warm {s U : State} (h : kN s) (hW : s.WarmedH U.vm) : kN U := ⟨x_wordAt hW rfl h.1, x_wordAt hW rfl h.2⟩
theorem kN_at {args : Array Value} {s : State} (h : kN s) : (Cond.not (.castable (xN 2) "java/lang/IllegalStateException")).before args s = true ∧ (Cond.not (.castable (xN 3) "java/lang/IllegalStateException")).before args s = true :=
  ⟨x_wordAt (State.WarmedH.refl s) rfl h.1, x_wordAt (State.WarmedH.refl s) rfl h.2⟩
theorem xc_1 (k : Nat) : 0 + xc k ≤ 1 := by unfold xc; split <;> omega
theorem xs_1 (k : Nat) : 0 + xs k ≤ 6 := by unfold xs; split <;> omega
abbrev mwW (y : MethodName) (bytes : ByteArray) (maxL : Nat) (ret : Option FieldType) (hh : List (Nat × Nat × Nat × Nat)) : List Cond := Cond.codeWith y bytes maxL ret hh :: tb
theorem x_table {l : Launch} {p : Program} {y : MethodName} {S : Spec} {cc bytes : ByteArray} {maxL maxL' : Nat} {ret ret' : Option FieldType} {e : Env} {s s₁ : State} {m : MethodId} {args : Array Value} {below : List Frame} {meth : Method} {c : Code} {hh : List (Nat × Nat × Nat × Nat)}
    (B : BodyLoose p l y S cc maxL ret e s m args below meth c s₁) (h : (Cond.codeWith y bytes maxL' ret' hh).before args s = true) : c.exceptionTable.toList = tableOf hh := by
  obtain ⟨m9, meth9, c9, h1, h2, h3, -, -, h6, -⟩ := Cond.codeWith_spec h
  obtain rfl := Option.some.inj (h1.symm.trans B.named)
  obtain rfl := Option.some.inj (h2.symm.trans B.method)
  obtain rfl := Option.some.inj (h3.symm.trans (Stand.of_body B).code)
  rw [← h6, table_eq]
section XCall2
variable {p : Program} {l : Launch} {e : Env} {R : Room} {s : State} {m : MethodId} {args : Array Value} {below : List Frame} {meth : Method} {c : Code} {H : Heap} {locs : List Loc} {cells slots mc ms k : Nat} {Q : State → Prop} {rest : List Value} {v : Option Value} {B : State → Prop} {A0 A1 : Nat → Prop}
theorem x_call2 {pc : Nat} {ls : Array Slot} {st0 : List Value} {H0 : Heap} (hr : xRun p l e R s m args below meth c H locs cells slots mc ms (F0 m pc ls st0) rest k v B A1) (hS : va_S A0 H0 H locs) (hA : ∀ q, A1 q → A0 q)
    (kn : k = 0 → ∀ (t : State) (H1 : Heap) (locs1 : List Loc), t.heap = H1 → s.WarmedH t.vm → B t → H.size ≤ H1.size → (∀ q : Nat, q < H.size → ¬ A1 q → H1[q]? = H[q]?) → va_S A0 H0 H1 locs1 → W p l e R s m args below meth c H1 locs1 (cells + mc) (slots + ms) Q (F0 m (pc + 3) ls (v.toList ++ rest)))
    (kx : k ≠ 0 → ∀ (q : Addr) (ce : Cell) (t : State) (H1 : Heap) (locs1 : List Loc), t.heap = H1 → s.WarmedH t.vm → B t → H.size ≤ H1.size → (∀ q : Nat, q < H.size → ¬ A1 q → H1[q]? = H[q]?) → va_S A0 H0 H1 locs1 → H1[q]? = some ce → ce.vm = .none → s.vm.findClass (xN k) = some ce.cls →
      xW p l e R s m args below meth c H1 locs1 (cells + mc) (slots + ms) Q (F0 m pc ls rest) q) : W p l e R s m args below meth c H locs cells slots Q (F0 m pc ls st0) := by
  intro T hT X
  obtain ⟨st₀, t, T', L, h0, X', hL, e1, e2, hB, ⟨hz, hk⟩, hend⟩ := hr T hT X
  rw [h0] at hz hk
  have hS' : va_S A0 H0 T'.heap (locs ++ L) := ⟨Nat.le_trans hS.1 (by rw [e1]; exact hz), fun q h1 h2 => by rw [e1, hk q (Nat.lt_of_lt_of_le h1 hS.1) (fun z => h2 (hA q z))]; exact hS.2.1 q h1 h2, fun q hq => by
    rcases List.mem_append.mp hq with h | h
    · exact hS.2.2 q h
    · exact hA _ (hL q h)⟩
  have hWt : s.WarmedH t.vm := by rw [← e2]; exact X'.warmed
  have hk' : ∀ q : Nat, q < H.size → ¬ A1 q → T'.heap[q]? = H[q]? := fun q h1 h2 => by rw [e1]; exact hk q h1 h2
  rcases hend with ⟨hk0, hgo⟩ | ⟨hk0, q, ce, h1, h2, h3, hgo⟩
  · obtain ⟨t2, a1, b1⟩ := kn hk0 t T'.heap (locs ++ L) e1.symm hWt hB (by rw [e1]; exact hz) hk' hS' T' rfl X'
    exact ⟨t2, hgo t2 a1, b1⟩
  · obtain ⟨t2, a1, b1⟩ := kx hk0 q ce t T'.heap (locs ++ L) e1.symm hWt hB (by rw [e1]; exact hz) hk' hS' (by rw [e1]; exact h1) h2 h3 T' rfl X'
    exact ⟨t2, hgo t2 a1, b1⟩
end XCall2
