/-! THE CLAIM OUT OF ONE WALK OF THE LAW'S BODY. Your part is whole_start (and what it stands on); all else here is the same for every law, but numbers. -/
def R_law : String := "LogFsLaw"
def lw_P (b : Addr) (xs : List Int32) (args : Array Value) (s : State) : Prop := args = #[.ref b] ∧ s.IntsAt b xs ∧ xs.length ≤ 3072 ∧ (Jvm.Cond.and given_1 narrow_1).before args s = true
def lw_Q (_ : Array Value) (s : State) (o : Outcome) (t : State) : Prop := o = .returned (some (.int 1)) ∧ Framed s o t [] 1047 41245
def lw_Z (below : List Frame) (a : Array Value) (s : State) : State → Prop := fun t => ∃ o, t.status = .running ∧ Ended t below o ∧ lw_Q a s o t
/-- the law's own end, with 1 on the stack, nothing written that was there before, its room as the claim has it -/
theorem lw_ret {p : Program} {l : Launch} {e : Env} {s : State} {m : MethodId} {below : List Frame} {meth : Method} {c : Code} {b : Nat} (hx : p.tables.exec = Jvm.exec) (hb : c.code = code) (hr : meth.sig.returnType = ret) (hlocks : meth.locks = false) {pc : Nat} {H : Heap} {ls : Array Slot} (hdg : decode code pc = .ok (.ireturn, 1)) : W p l e room_1 s m #[Value.ref b] below meth c H [] 1047 41245 (lw_Z below #[Value.ref b] s) (F0 m pc ls [.int 1]) := by
  intro T hT X
  obtain ⟨fs, hret, hrun, hended, hW, hframe⟩ := X.leave (v := some (.int 1)) (hlocks := hlocks) (fun h => by rw [hr] at h; cases h)
  have hmeth' : T.vm.method? m = some meth := X.method'
  refine ⟨T.setFrames fs, ?_, .returned (some (.int 1)), hrun, hended, rfl, ⟨_, rfl⟩, hW, hframe⟩
  jvm_step X.here [X.here.top, hx, hb, hdg, hmeth', hr, ret, narrow_b1]
  (try refine ⟨rfl, ?_⟩); (try refine ⟨rfl, ?_⟩)
  first | (intro acts; rw [hret _ acts rfl rfl rfl]) | rw [hret _ _ rfl rfl rfl]
  exact Steps.refl _
/-- what holds at the law's entry: the machine, the code, the tables' words (any of lw_tbl by 'hts w (by decide +kernel)'), the script of L ints xs at the cell b, what the Statement gives of the start (any of its parts by flat_of_before) -/
def lw_At (p : Program) (s : State) (m : MethodId) (meth : Method) (c : Code) (b L : Nat) (xs : Nat → Int32) : Prop :=
  p.tables.exec = Jvm.exec ∧ c.code = code ∧ meth.sig.returnType = ret ∧ c.maxLocals = 7 ∧ s.vm.findClass R_law = some m.cls ∧ (∀ w ∈ lw_tbl, w.before #[Value.ref b] s = true) ∧ va_X b L xs s s.heap ∧ b < s.heap.size ∧ meth.locks = false ∧ (Jvm.Cond.and given_1 narrow_1).before #[Value.ref b] s = true

/-! The law's world: the component's, the cell of the answer, the reference's. Own rows. -/
abbrev QS : Type := LW × RS
def p_O (σ : QS) : Nat → Int64 := σ.1.2
abbrev wQ (ga : Nat → Nat) (ho : Nat) (gr : Nat → Nat) (cB cI cL : ClassId) (σ : QS) : va_W := wL ga ho cB cI cL σ.1 ++ wR gr cB cI σ.2
abbrev wO (ho : Nat) (gr : Nat → Nat) (cB cI cL : ClassId) (σ : QS) : va_W := [(ho, .inl (cL, 1, .inr (.inl σ.1.2)))] ++ wR gr cB cI σ.2
/-- all of A but these -/
def xD (A : Nat → Prop) (l : List Nat) : Nat → Prop := fun q => A q ∧ q ∉ l
abbrev aR (gr : Nat → Nat) : List Nat := [gr 0, gr 1, gr 2, gr 3, gr 4, gr 5]
abbrev aL (ga : Nat → Nat) (ho : Nat) : List Nat := [ga 0, ga 1, ga 2, ga 3, ga 4, ga 5, ga 6, ga 7, ga 8, ho]
abbrev aO (ho : Nat) (gr : Nat → Nat) : List Nat := [ho, gr 0, gr 1, gr 2, gr 3, gr 4, gr 5]
theorem aR_in (gr : Nat → Nat) {cB cI : ClassId} {ρ : RS} : ∀ x ∈ wR gr cB cI ρ, x.1 ∈ aR gr := fun x hx => List.mem_map_of_mem (f := (·.1)) hx
theorem aL_in (ga : Nat → Nat) (ho : Nat) {cB cI cL : ClassId} {σ : LW} : ∀ x ∈ wL ga ho cB cI cL σ, x.1 ∈ aL ga ho := fun x hx => List.mem_map_of_mem (f := (·.1)) hx
theorem aO_in (ho : Nat) (gr : Nat → Nat) {cB cI cL : ClassId} {σ : QS} : ∀ x ∈ wO ho gr cB cI cL σ, x.1 ∈ aO ho gr := fun x hx => List.mem_map_of_mem (f := (·.1)) hx
theorem keepL {D : va_G} {cl : List vw_C} {ws : va_W} {H H1 : Heap} {A : Nat → Prop} {l : List Nat} (hP : va_P D cl ws H) (hl : ∀ x ∈ ws, x.1 ∈ l) (hk : ∀ q : Nat, q < H.size → ¬ xD A l q → H1[q]? = H[q]?) : va_P D cl ws H1 :=
  hP.kept (fun k q hq => hk _ (hP k q hq).lt (fun z => z.2 (hl q (List.mem_of_getElem? hq))))
theorem va_D_left {A : Nat → Prop} {w1 w2 : va_W} (h : va_D A (w1 ++ w2)) : va_D (xD A (w2.map (·.1))) w1 := by
  have key : ∀ (k : Nat) (q : Nat × va_E), w1[k]? = some q → (w1 ++ w2)[k]? = some q := fun k q hk => by
    rw [List.getElem?_append_left (List.getElem?_eq_some_iff.mp hk).1]; exact hk
  refine ⟨fun i j p q hi hj e => h.1 i j p q (key i p hi) (key j q hj) e, fun k q hk => ⟨h.2 k q (key k q hk), fun hm => ?_⟩⟩
  obtain ⟨x, hx, hxe⟩ := List.mem_map.mp hm
  obtain ⟨j, hj, hjx⟩ := List.getElem_of_mem hx
  have h2 : (w1 ++ w2)[w1.length + j]? = some x := by
    rw [List.getElem?_append_right (Nat.le_add_right _ _), Nat.add_sub_cancel_left, List.getElem?_eq_getElem hj, hjx]
  have h3 := h.1 k (w1.length + j) q x (key k q hk) h2 hxe.symm
  have h4 := (List.getElem?_eq_some_iff.mp hk).1
  omega
theorem va_D_right {A : Nat → Prop} {w1 w2 : va_W} (h : va_D A (w1 ++ w2)) : va_D (xD A (w1.map (·.1))) w2 := by
  have key : ∀ (k : Nat) (q : Nat × va_E), w2[k]? = some q → (w1 ++ w2)[w1.length + k]? = some q := fun k q hk => by
    rw [List.getElem?_append_right (Nat.le_add_right _ _), Nat.add_sub_cancel_left]; exact hk
  refine ⟨fun i j p q hi hj e => by have := h.1 _ _ p q (key i p hi) (key j q hj) e; omega, fun k q hk => ⟨h.2 _ q (key k q hk), fun hm => ?_⟩⟩
  obtain ⟨x, hx, hxe⟩ := List.mem_map.mp hm
  obtain ⟨j, hj, hjx⟩ := List.getElem_of_mem hx
  have h2 : (w1 ++ w2)[j]? = some x := by
    rw [List.getElem?_append_left hj, List.getElem?_eq_getElem hj, hjx]
  have h3 := h.1 (w1.length + k) j q x (key k q hk) h2 hxe.symm
  omega
section WQD
variable {ga : Nat → Nat} {ho : Nat} {gr : Nat → Nat} {cB cI cL : ClassId} {A : Nat → Prop}
theorem wQ_1 (h : ∀ σ, va_D A (wQ ga ho gr cB cI cL σ)) : ∀ σ, va_D (xD A (aR gr)) (wL ga ho cB cI cL σ) := fun σ => va_D_left (w2 := wR gr cB cI (0, (fun _ => 0), (fun _ => 0), (fun _ => 0), 0, 0, 0, 0, 0, 0, (fun _ => 0), (fun _ => 0))) (h (σ, (0, (fun _ => 0), (fun _ => 0), (fun _ => 0), 0, 0, 0, 0, 0, 0, (fun _ => 0), (fun _ => 0))))
theorem wQ_2 (h : ∀ σ, va_D A (wQ ga ho gr cB cI cL σ)) : ∀ ρ, va_D (xD A (aL ga ho)) (wR gr cB cI ρ) := fun ρ => va_D_right (w1 := wL ga ho cB cI cL (((fun _ => 0), (fun _ => 0), (fun _ => 0), 0, 0, 0, 0, 0), (fun _ => 0))) (h ((((fun _ => 0), (fun _ => 0), (fun _ => 0), 0, 0, 0, 0, 0), (fun _ => 0)), ρ))
theorem wQ_3 (h : ∀ σ, va_D A (wQ ga ho gr cB cI cL σ)) : ∀ σ, va_D (xD A (aO ho gr)) (wC ga cB cI σ) := fun σ => by
  have h1 := h ((σ, (fun _ => 0)), (0, (fun _ => 0), (fun _ => 0), (fun _ => 0), 0, 0, 0, 0, 0, 0, (fun _ => 0), (fun _ => 0)))
  have h2 : va_D A (wC ga cB cI σ ++ wO ho gr cB cI cL ((σ, (fun _ => 0)), (0, (fun _ => 0), (fun _ => 0), (fun _ => 0), 0, 0, 0, 0, 0, 0, (fun _ => 0), (fun _ => 0)))) := h1
  exact va_D_left h2
/-- before a helper's call -/
theorem preW {D : va_G} {s : State} {H : Heap} {locs : List Loc} {sx : Nat → Nat} {As : List Value} {σ : LW} {ρ : RS} (hPa : va_P D cls (wL ga ho cB cI cL σ) H) (hPb : va_P D cls (wR gr cB cI ρ) H) (hK : va_K D cls (tL cB cI cL) s) (hX : kX A sx s) (hN : kN s) (hS : va_S A s.heap H locs) :
    PreS s H (va_Pc As (fun U => kW D (tL cB cI cL) (wL ga ho cB cI cL σ) U ∧ kX (xD A (aR gr)) sx U ∧ kN U)) As := by
  refine ⟨fun a U g mk q => ⟨q.1, (kW_blind (av := As) a U g mk ⟨q.1, q.2.1⟩).2, kX_call q.2.2.1, kN_warm (U := U.calling g mk a) q.2.2.2 (State.WarmedH.refl U)⟩, fun U hU hW => ⟨rfl, ⟨by rw [hU]; exact hPa, va_K.moved hW.alike hK⟩, ?_, kN_warm hN hW⟩⟩
  obtain ⟨h1, h2, h3, h4⟩ := kX_at hX hS hU hW
  obtain ⟨a1, a2, a3, a4, a5, a6, b1, b2, b3, b4, b5, b6, b7, b8, b9, b10, b11⟩ := h1
  obtain ⟨c1, c2, c3, c4, c5, c6, d1, d2, d3, d4, d5, d6, d7, d8, d9, d10, d11⟩ := h2
  refine ⟨⟨a1, a2, a3, a4, a5, a6, b1, b2, b3, b4, b5, b6, b7, b8, b9, b10, fun z => b11 z.1⟩, ⟨c1, c2, c3, c4, c5, c6, d1, d2, d3, d4, d5, d6, d7, d8, d9, d10, fun z => d11 z.1⟩, fun q hq => ⟨h3 q hq, fun hm => ?_⟩, h4⟩
  rw [hU] at hq
  have l0 := (hPb 0 _ rfl).lt
  have l1 := (hPb 1 _ rfl).lt
  have l2 := (hPb 2 _ rfl).lt
  have l3 := (hPb 3 _ rfl).lt
  have l4 := (hPb 4 _ rfl).lt
  have l5 := (hPb 5 _ rfl).lt
  simp only [aR, List.mem_cons, List.not_mem_nil, or_false] at hm
  omega
end WQD
section XSW
variable {p : Program} {l : Launch} {e : Env} {R : Room} {s : State} {m : MethodId} {args : Array Value} {below : List Frame} {meth : Method} {c : Code} {H : Heap} {locs : List Loc} {cells slots : Nat}
/-- what a static call of a method with handlers asks -/
abbrev xCSW (R : Room) (s : State) (args : Array Value) (own : String) (index : Nat) (y : MethodName) (bytes : ByteArray) (maxL : Nat) (ret : Option FieldType) (hh : List (Nat × Nat × Nat × Nat)) (rm : Room) (mc ms n : Nat) : Prop :=
  (rm.cells = mc ∧ rm.slots = ms ∧ rm.frames + 1 ≤ R.frames ∧ 8 + (maxL + 11) + rm.locals ≤ R.locals) ∧ (∀ w ∈ mwW y bytes maxL ret hh, ∀ (a' : Array Value) (U : State), s.WarmedH U.vm → w.before a' U = true) ∧
  (Cond.codeWith y bytes maxL ret hh).before args s = true ∧ (Cond.initialized y.cls).before args s = true ∧ (y.cls ≠ "java/lang/invoke/MethodHandle" ∧ y.cls ≠ "java/lang/invoke/VarHandle") ∧
  (∀ sig, parseMethodDescriptor y.desc = some sig → n = sig.parameters.length) ∧ (Cond.methodLink own index y).before args s = true ∧ (Cond.static y).before args s = true
theorem xcSW {own : String} {index maxL mc ms : Nat} {y : MethodName} {bytes : ByteArray} {ret : Option FieldType} {hh : List (Nat × Nat × Nat × Nat)} {rm : Room} (n : Nat) (htb : ∀ w ∈ tb, w.before args s = true) (hc : Cond.codeWith y bytes maxL ret hh ∈ tb) (hini : Cond.initialized y.cls ∈ tb) (hl : Cond.methodLink own index y ∈ tb) (hst : Cond.static y ∈ tb) (hrc : rm.cells = mc) (hrs : rm.slots = ms)
    (hd : y.cls ≠ "java/lang/invoke/MethodHandle" ∧ y.cls ≠ "java/lang/invoke/VarHandle" ∧ (parseMethodDescriptor y.desc).map (fun d => d.parameters.length) = some n) (hR : rm.frames + 1 ≤ R.frames ∧ 8 + (maxL + 11) + rm.locals ≤ R.locals) : xCSW R s args own index y bytes maxL ret hh rm mc ms n := by
  refine ⟨⟨hrc, hrs, hR.1, hR.2⟩, fun w hw a' U hW => ?_, htb _ hc, htb _ hini, ⟨hd.1, hd.2.1⟩, fun sig h => ?_, htb _ hl, htb _ hst⟩
  · rcases List.mem_cons.mp hw with h | h
    · rw [h]; exact tb_at htb hc a' U hW
    · exact tb_at htb h a' U hW
  · have h2 := hd.2.2
    rw [h] at h2
    exact (Option.some.inj h2).symm
theorem x_runSW {y : MethodName} {bytes cc : ByteArray} {maxL nL mc ms n index : Nat} {ret : Option FieldType} {hh : List (Nat × Nat × Nat × Nat)} {rm : Room} {Pc : Array Value → State → Prop} {Qc : Array Value → State → Outcome → State → Prop} {free : Addr → Prop} {Ts : List Cond} {own : String} {As rest : List Value} {g : JFrame}
    (S : CallFix p m c cc nL s args Ts own) (hM : Met l y (mwW y bytes maxL ret hh) rm Pc Qc mc ms free) (cw : xCSW R s args own index y bytes maxL ret hh rm mc ms n) (hp : PreS s H Pc As)
    (hg : g.method = m) (hn : As.length = n) (hsize : g.locals.size = nL) (hstack : g.stack = As.reverse ++ rest) (hW : 2 * g.monitorRoom + (rest.map fun v => v.category).sum ≤ 8) (hdg : decode cc g.pc = .ok (.invokestatic index, 3)) (hf : cells + mc ≤ R.cells ∧ slots + ms ≤ R.slots) :
    va_Run p l e R s m args below meth c H locs cells slots mc ms g rest (Qc As.toArray) free := by
  obtain ⟨⟨hrc, hrs, hfr, hlo⟩, hws, hcode, hini, hy, hlen, hl, hstt⟩ := cw
  have hK : Back l R p e below s args y 3 8 (PreOf R mc ms Pc) (PostOf Qc mc ms free) := va_backW (hh := hh) (bytes := bytes) (maxL := maxL) (ret := ret) hM hp.1 hrc hrs hfr hlo hws List.mem_cons_self (fun a' U hW => x_wordAt hW rfl hini)
  obtain ⟨hx, hb, hml, ho, -⟩ := S
  intro T hT X
  obtain ⟨mk, methM, cM, hnamed, hmethM, -, -, -, -, -, -, hsigM⟩ := Cond.codeWith_spec hcode
  have hstatic : methM.isStatic = true := Cond.static_spec hnamed hmethM hstt
  obtain ⟨kP, hkP, -⟩ := className_of_methodNamed hnamed
  have hinitP : kP.init = .initialized := Cond.initialized_spec (findClass_of_methodNamed hnamed) hkP hini
  obtain ⟨vm₁, X₁, hstep₁⟩ := X.invokestatic hx ho hl hnamed hmethM hstatic hkP hinitP hy (g := g) hg (argsL := As) (rest := rest) (hn.trans (hlen _ hsigM)) hstack (by rw [hb]; exact hdg)
  obtain ⟨v, ⟨U', l2, c2, s2⟩, X', ⟨g', mk', t, L, e1, e2, hq, h1, hL, h2, h3⟩, hsteps⟩ := hK m meth c ⟨T.setVm vm₁, locs, cells, slots⟩ { g with stack := rest } (.invokestatic index) mk As.toArray X₁ hg (hsize.trans hml.symm) (by rw [hb]; exact hdg) hW (X₁.named hnamed) ⟨hf.1, hf.2, hp.2 (T.setVm vm₁) hT X₁.warmed⟩
  dsimp only [Pt.U, Pt.locs, Pt.cells, Pt.slots] at X' e1 e2 h1 h2 h3 hsteps
  subst h1; subst h2; subst h3
  exact ⟨v, (T.setVm vm₁).calling g' mk' As.toArray, t, U', L, hT, X', hL, e1, e2, hq, fun tg h => hstep₁ _ fun acts => by rw [doInvoke_state]; exact hsteps.trans h⟩
end XSW
/-- what holds in the law all along -/
def lawCx (p : Program) (s : State) (m : MethodId) (meth : Method) (c : Code) (l : Launch) (b L : Nat) (xs : Nat → Int32) (dC : Nat → ClassId) (dI : Nat → Nat → Nat) (ga : Nat → Nat) (ho : Nat) (gr : Nat → Nat) (cB cI cL : ClassId) (A : Nat → Prop) (sx : Nat → Nat) : Prop :=
  p.tables.exec = Jvm.exec ∧ c.code = code ∧ meth.sig.returnType = ret ∧ c.maxLocals = 7 ∧ s.vm.findClass "LogFsLaw" = some m.cls ∧ (∀ w ∈ tb, w.before #[Value.ref b] s = true) ∧ va_X b L xs s s.heap ∧ b < s.heap.size ∧ (∀ q, A q → s.heap.size ≤ q) ∧ meth.locks = false ∧
  l.stackTraces = false ∧ va_K (dC, dI) cls (tL cB cI cL) s ∧ kX A sx s ∧ kN s ∧ ∀ σ, va_D A (wQ ga ho gr cB cI cL σ)
theorem lawEnd {p : Program} {e : Env} {s : State} {m : MethodId} {below : List Frame} {meth : Method} {c : Code} {l : Launch} {b L : Nat} {xs : Nat → Int32} {dC : Nat → ClassId} {dI : Nat → Nat → Nat} {ga : Nat → Nat} {ho : Nat} {gr : Nat → Nat} {cB cI cL : ClassId} {A : Nat → Prop} {sx : Nat → Nat} {H : Heap} {locs : List Loc} {cells slots pc : Nat} {ls : Array Slot}
    (Cx : lawCx p s m meth c l b L xs dC dI ga ho gr cB cI cL A sx) (h1 : cells ≤ 1047) (h2 : slots ≤ 41245) (hS : va_S A s.heap H locs) (hdg : decode code pc = .ok (.ireturn, 1)) : W p l e room_1 s m #[Value.ref b] below meth c H locs cells slots (lw_Z below #[Value.ref b] s) (F0 m pc ls [.int 1]) := by
  obtain ⟨hx, hb, hr, -, -, -, -, -, hA0, hlocks, -⟩ := Cx
  refine va_forget (fun q hq => hA0 _ (hS.2.2 q hq)) ?_
  refine W.widen h1 h2 ?_
  exact lw_ret hx hb hr hlocks hdg
