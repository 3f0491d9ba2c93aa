/-! Calls of methods that may throw, the room and what is made apart; the statics and texts that a throw reads. Own rows. -/
/-- what a call of a method comes to: the point behind it, or the note over the frame -/
def xBk (l : Launch) (R : Room) (p : Program) (e : Env) (below : List Frame) (s : State) (sargs : Array Value) (y : MethodName) (W9 : Nat) (Pc : Array Value → State → Prop) (k : Nat) (v : Option Value) (B : State → Prop) (A : Nat → Prop) (rc rs mc ms : Nat) : Prop :=
  ∀ (m : MethodId) (meth : Method) (c : Code) (U : State) (Ls : List Loc) (c0 s0 : Nat) (g : JFrame) (ig : Instr) (mk : MethodId) (a : Array Value),
    Stand p l e R s m sargs below meth c U Ls c0 s0 → g.method = m → g.locals.size = c.maxLocals → decode c.code g.pc = .ok (ig, 3) →
    2 * g.monitorRoom + (g.stack.map fun v => v.category).sum ≤ W9 → U.methodNamed? y = some mk → c0 + rc ≤ R.cells → s0 + rs ≤ R.slots → Pc a (U.calling g mk a) →
    ∃ (t T' : State) (L : List Loc), Stand p l e R s m sargs below meth c T' (Ls ++ L) (c0 + mc) (s0 + ms) ∧ (∀ z ∈ L, A z.base) ∧ T'.heap = t.heap ∧ T'.vm = t.vm ∧ B t ∧ va_F A (U.calling g mk a) t ∧
      ((k = 0 ∧ Steps p.tables e below (doInvoke e (U.setTop g) [] mk a).1 (T'.setTop { g with pc := g.pc + 3, stack := v.toList ++ g.stack })) ∨
       (k ≠ 0 ∧ ∃ (q : Addr) (ce : Cell), t.heap[q]? = some ce ∧ ce.vm = .none ∧ U.vm.findClass (xN k) = some ce.cls ∧ Steps p.tables e below (doInvoke e (U.setTop g) [] mk a).1 ((T'.setTop g).pushFrame (.throwing q))))
section XPay
variable {l : Launch} {R : Room} {p : Program} {e : Env} {below : List Frame} {s : State} {sargs : Array Value} {y : MethodName} {W9 : Nat}
/-- out of the contract: what a call comes to -/
theorem xb_back {ws : List Cond} {rm : Room} {Pc : Array Value → State → Prop} {k : Nat} {v : Option Value} {B : State → Prop} {A : Nat → Prop} {rc rs mc ms : Nat} {bytes : ByteArray} {maxL : Nat} {ret : Option FieldType}
    (hM : xMet l y ws rm Pc k v B A mc ms) (hrc : rm.cells = rc) (hrs : rm.slots = rs) (hframes : rm.frames + 1 ≤ R.frames) (hlocals : W9 + (maxL + 11) + rm.locals ≤ R.locals)
    (hws : ∀ w ∈ ws, ∀ a' U, s.WarmedH U.vm → w.before a' U = true) (hcode : Cond.code y bytes maxL ret ∈ ws) (hinit : ∀ a' U, s.WarmedH U.vm → (Cond.initialized y.cls).before a' U = true) :
    xBk l R p e below s sargs y W9 Pc k v B A rc rs mc ms := by
  intro m meth c U Ls c0 s0 g ig mk a X hg hsize hdg hW hn hcc hss hPc
  have hpre : (headSpec ws rm).pre.before a U = true := atoms_intro fun w hw => hws w hw _ _ X.warmed
  obtain ⟨methY, cY, hmY, hcY, -, hlY, -, -, -, -⟩ := Cond.code_spec hn (hws _ hcode a U X.warmed)
  obtain ⟨kY, hkY, -⟩ := className_of_methodNamed hn
  have hiniY : kY.init = .initialized := Cond.initialized_spec (findClass_of_methodNamed hn) hkY (hinit a U X.warmed)
  have hat : At U g.method c below := by rw [hg]; exact X.here
  have hlo : W9 + (maxL + 11) + (headSpec ws rm).room.locals ≤ R.locals := hlocals
  have happ : (headSpec ws rm).appliesLoose y e.platform (U.calling g mk a) = true :=
    Spec.appliesLoose_calling (g := g) hat hdg hn hkY hiniY
      (X.room_calling (g := g) (R' := (headSpec ws rm).room) hsize hmY hcY hframes (by rw [hlY]; omega) (by rw [show (headSpec ws rm).room.cells = rc from hrc]; exact hcc) (by rw [show (headSpec ws rm).room.slots = rs from hrs]; exact hss)) hpre
  obtain ⟨mid, hmid⟩ := hat.above
  have hfr : (U.setTop g).frames = (.java g :: mid) ++ below := by rw [State.frames_setTop' g hat.top, hmid]; rfl
  obtain ⟨o, s₂, hsteps, -, hend, hq⟩ := Steps.callFree hM p X.admits X.cas X.clock (acts := []) hfr happ hPc trivial
  have hq : xQ k v B A mc ms (U.calling g mk a) o s₂ := hq
  rw [State.frames_setTop' g hat.top] at hend
  obtain ⟨hE, hB, hF, hW₂, L, hsm, hL⟩ := hq
  obtain ⟨g₀, hg0⟩ := Option.isSome_iff_exists.mp hat.top
  obtain ⟨r, hr⟩ := State.topJava?_eq_some.mp hg0
  have hW' : U.WarmedH s₂.vm := hW₂
  obtain ⟨e2, q2, q3, q4, q5, q6⟩ := id hsm
  have e3 : s₂ = ({ (U.calling g mk a).setFrames s₂.frames with heap := s₂.heap, slotsUsed := s₂.slotsUsed } : State).setVm s₂.vm := by
    have : s₂ = ({ s₂ with vm := (U.calling g mk a).vm } : State).setVm s₂.vm := rfl
    rw [e2] at this
    exact this
  obtain ⟨V, hV⟩ : ∃ z, z = (({ U with heap := s₂.heap, slotsUsed := s₂.slotsUsed } : State).setVm s₂.vm) := ⟨_, rfl⟩
  have hr' : V.frames = .java g₀ :: r := by rw [hV]; exact hr
  have hsame : U.sameButNew ({ U with heap := s₂.heap, slotsUsed := s₂.slotsUsed } : State) L mc ms := by
    refine ⟨?_, q2, q3, q4, q5, q6⟩
    obtain ⟨t, ht, -⟩ := State.frames_cons hr
    show ({ U with heap := s₂.heap, slotsUsed := s₂.slotsUsed } : State) = { U.setFrames U.frames with heap := s₂.heap, slotsUsed := s₂.slotsUsed }
    rw [State.setFrames_self ht]
  subst hg
  have XV : Stand p l e R s g.method sargs below meth c V (Ls ++ L) (c0 + mc) (s0 + ms) := by
    rw [hV]
    exact ⟨X.admits, X.cas, X.clock, X.frames, X.room, X.hears, X.method, X.code, (X.here.setHeapUsed s₂.heap s₂.slotsUsed).setVm hW'.alike, X.tail, State.WarmedH.trans X.warmed hW', X.limits, X.bytes, X.same.trans (hsame.setVm s.vm)⟩
  refine ⟨s₂, V, L, XV, hL, by rw [hV]; rfl, by rw [hV]; rfl, hB, hF, ?_⟩
  rcases hE with ⟨hk, rfl⟩ | ⟨hk, q, ce, rfl, hce, hcv, hcl⟩
  · refine Or.inl ⟨hk, ?_⟩
    obtain ⟨c₂, i₂, len₂, hc₂, hd₂, hf₂⟩ := hend
    have hcc2 : c₂ = c := by
      have h1 : s₂.code? g.method = U.code? g.method := by
        rw [State.code?_eq, State.code?_eq, hW'.alike.method?]
      exact Option.some.inj (hc₂.symm.trans (h1.trans hat.code))
    subst hcc2
    have hlen : len₂ = 3 := by rw [hdg] at hd₂; cases hd₂; rfl
    subst hlen
    have hs₂ : s₂ = V.setTop { g with pc := g.pc + 3, stack := v.toList ++ g.stack } := by
      refine e3.trans ?_
      rw [State.setTop_of_frames _ hr', hV, hf₂, State.calling_eq hat.top, State.setFrames_setFrames, hr]
      rfl
    rw [← hs₂]
    exact hsteps
  · refine Or.inr ⟨hk, q, ce, hce, hcv, hcl, ?_⟩
    have hf₂ : s₂.frames = .throwing q :: .java g :: U.frames.tail := hend
    have hs₂ : s₂ = (V.setTop g).pushFrame (.throwing q) := by
      refine e3.trans ?_
      rw [State.pushFrame, State.frames_setTop _ hr', State.setTop_of_frames _ hr', State.setFrames_setFrames, hV, hf₂, State.calling_eq hat.top, State.setFrames_setFrames, hr]
      rfl
    rw [← hs₂]
    exact hsteps
end XPay
section XCallB
variable {p : Program} {l : Launch} {e : Env} {R : Room} {s : State} {m : MethodId} {args : Array Value} {below : List Frame} {meth : Method} {c : Code} {H : Heap} {locs : List Loc} {cells slots : Nat} {Q : State → Prop}
variable {y : MethodName} {bytes cc : ByteArray} {maxL nL rc rs mc ms n index : Nat} {ret : Option FieldType} {ws : List Cond} {rm : Room} {Pc : Array Value → State → Prop} {Ts : List Cond} {own C host : String} {b : Addr} {As rest : List Value} {g : JFrame} {k : Nat} {v : Option Value} {B : State → Prop} {A : Nat → Prop} {a : Array Value}
/-- a call, its first step at hand -/
theorem xb_run (hK : xBk l R p e below s args y 8 Pc k v B A rc rs mc ms) (hg : g.method = m) (hsize : g.locals.size = c.maxLocals) (hW : 2 * g.monitorRoom + (rest.map fun v => v.category).sum ≤ 8) (hf : cells + rc ≤ R.cells ∧ slots + rs ≤ R.slots)
    (hPc : FrameBlind Pc ∧ ∀ U : State, U.heap = H → s.WarmedH U.vm → Pc a U)
    (hst : ∀ T : State, T.heap = H → Stand p l e R s m args below meth c T locs cells slots → ∃ (vm₁ : Vm) (mk : MethodId) (ig : Instr), Stand p l e R s m args below meth c (T.setVm vm₁) locs cells slots ∧ decode c.code g.pc = .ok (ig, 3) ∧ (T.setVm vm₁).methodNamed? y = some mk ∧
      ∀ tg, (∀ acts, Steps p.tables e below (doInvoke e ((T.setVm vm₁).setTop { g with stack := rest }) acts mk a).1 tg) → Steps p.tables e below (T.setTop g) tg) :
    xRun p l e R s m args below meth c H locs cells slots mc ms g rest k v B A := by
  intro T hT X
  obtain ⟨vm₁, mk, ig, X₁, hd, hn, hs1⟩ := hst T hT X
  obtain ⟨t, T', L, X', hL, e1, e2, hB, hF, hend⟩ := hK m meth c (T.setVm vm₁) locs cells slots { g with stack := rest } ig mk a X₁ hg hsize hd hW hn hf.1 hf.2 (hPc.1 _ _ _ _ (hPc.2 (T.setVm vm₁) hT X₁.warmed))
  refine ⟨(T.setVm vm₁).calling { g with stack := rest } mk a, t, T', L, hT, X', hL, e1, e2, hB, hF, ?_⟩
  rcases hend with ⟨hk, h⟩ | ⟨hk, q, ce, h1, h2, h3, h⟩
  · exact Or.inl ⟨hk, fun tg htg => hs1 tg fun acts => by rw [doInvoke_state]; exact h.trans htg⟩
  · refine Or.inr ⟨hk, q, ce, h1, h2, ?_, fun tg htg => hs1 tg fun acts => by rw [doInvoke_state]; exact h.trans htg⟩
    have h4 : (T.setVm vm₁).vm.findClass (xN k) = some ce.cls := h3
    rwa [X₁.warmed.alike.findClass] at h4
/-- invokevirtual, the component's own name -/
theorem xb_runV (S : CallFix p m c cc nL s args Ts own) (hM : xMet l y ws rm Pc k v B A mc ms) (cw : CallW R s args own C index y bytes maxL ret ws rm rc rs n) (hp : PreV s H C b Pc As)
    (hg : g.method = m) (hn : As.length = n) (hsize : g.locals.size = nL) (hstack : g.stack = As.reverse ++ .ref b :: rest) (hW : 2 * g.monitorRoom + (rest.map fun v => v.category).sum ≤ 8) (hdg : decode cc g.pc = .ok (.invokevirtual index, 3)) (hf : cells + rc ≤ R.cells ∧ slots + rs ≤ R.slots) :
    xRun p l e R s m args below meth c H locs cells slots mc ms g rest k v B A := by
  obtain ⟨⟨hrc, hrs, hfr, hlo, hws, hcw, hcode, hini, hy, hlen, hl⟩, hin, hse⟩ := cw
  obtain ⟨hx, hb, hml, ho, -⟩ := S
  obtain ⟨hbl, ⟨cellB, hcB, hoB, hclB⟩, hPc⟩ := hp
  refine xb_run (xb_back (bytes := bytes) (maxL := maxL) (ret := ret) hM hrc hrs hfr hlo hws hcw (fun a' U hW => word_at hW (Or.inl (by first | rfl | simp [Cond.onTables, Cond.keeps, Cond.steady])) hini)) hg (hsize.trans hml.symm) hW hf ⟨hbl, hPc⟩ ?_
  intro T hT X
  obtain ⟨mk, methM, hnamed, hmethM, hstM, habM⟩ := Cond.instanceMethod_spec hin
  obtain ⟨methM', cM, hmethM', -, -, -, -, -, -, hsigM⟩ := Cond.code_spec hnamed hcode
  cases hmethM.symm.trans hmethM'
  obtain ⟨c2, r2, m2, q1, q2, q3, q4, kP, hkP, hkPi⟩ := Cond.selects_spec hse
  cases hclB.symm.trans q1
  cases (State.methodFound?_of_named hnamed hy).symm.trans q2
  cases hnamed.symm.trans q3
  have hselP : selectMethod e.platform s.vm cellB.cls mk = .method mk := by rw [Launch.admits_selectMethod X.admits]; exact q4
  obtain ⟨vm₁, X₁, hstep₁⟩ := X.invokevirtual hx ho hl hnamed hmethM hstM hkP hkPi hy (a := b) (cell := cellB) (by rw [hT]; exact hcB)
    (fun z h => by rw [h] at hoB; cases hoB) hselP hmethM habM hkP hkPi (g := g) hg (argsL := As) (rest := rest) (hn.trans (hlen _ hsigM)) hstack (by rw [hb]; exact hdg)
  exact ⟨vm₁, mk, .invokevirtual index, X₁, by rw [hb]; exact hdg, X₁.named hnamed, hstep₁⟩
/-- invokevirtual of a nest mate's -/
theorem xb_runVN (S : CallFix p m c cc nL s args Ts own) (hM : xMet l y ws rm Pc k v B A mc ms) (cw : va_CN R s args own index y host bytes maxL ret ws rm rc rs n ∧ (Cond.instanceMethod y).before args s = true ∧ (Cond.selects C y y).before args s = true) (hp : PreV s H C b Pc As)
    (hg : g.method = m) (hn : As.length = n) (hsize : g.locals.size = nL) (hstack : g.stack = As.reverse ++ .ref b :: rest) (hW : 2 * g.monitorRoom + (rest.map fun v => v.category).sum ≤ 8) (hdg : decode cc g.pc = .ok (.invokevirtual index, 3)) (hf : cells + rc ≤ R.cells ∧ slots + rs ≤ R.slots) :
    xRun p l e R s m args below meth c H locs cells slots mc ms g rest k v B A := by
  obtain ⟨⟨⟨hrc, hrs, hfr, hlo, hws, hcw⟩, hcode, hini, hy, hlen, hl⟩, hin, hse⟩ := cw
  obtain ⟨hx, hb, hml, ho, -⟩ := S
  obtain ⟨hbl, ⟨cellB, hcB, hoB, hclB⟩, hPc⟩ := hp
  refine xb_run (xb_back (bytes := bytes) (maxL := maxL) (ret := ret) hM hrc hrs hfr hlo hws hcw (fun a' U hW => word_at hW (Or.inl (by first | rfl | simp [Cond.onTables, Cond.keeps, Cond.steady])) hini)) hg (hsize.trans hml.symm) hW hf ⟨hbl, hPc⟩ ?_
  intro T hT X
  obtain ⟨mk, methM, hnamed, hmethM, hstM, habM⟩ := Cond.instanceMethod_spec hin
  obtain ⟨methM', cM, hmethM', -, -, -, -, -, -, hsigM⟩ := Cond.code_spec hnamed hcode
  cases hmethM.symm.trans hmethM'
  obtain ⟨c2, r2, m2, q1, q2, q3, q4, kP, hkP, hkPi⟩ := Cond.selects_spec hse
  cases hclB.symm.trans q1
  cases (State.methodFound?_of_named hnamed hy).symm.trans q2
  cases hnamed.symm.trans q3
  have hselP : selectMethod e.platform s.vm cellB.cls mk = .method mk := by rw [Launch.admits_selectMethod X.admits]; exact q4
  obtain ⟨vm₁, X₁, hstep₁⟩ := X.invokevirtualNest hx ho hl hnamed hmethM hstM hkP hkPi hy (a := b) (cell := cellB) (by rw [hT]; exact hcB)
    (fun z h => by rw [h] at hoB; cases hoB) hselP hmethM habM hkP hkPi (g := g) hg (argsL := As) (rest := rest) (hn.trans (hlen _ hsigM)) hstack (by rw [hb]; exact hdg)
  exact ⟨vm₁, mk, .invokevirtual index, X₁, by rw [hb]; exact hdg, X₁.named hnamed, hstep₁⟩
/-- invokestatic -/
theorem xb_runS (S : CallFix p m c cc nL s args Ts own) (hM : xMet l y ws rm Pc k v B A mc ms) (cw : CallB R s args own index y bytes maxL ret ws rm rc rs n ∧ (Cond.static y).before args s = true) (hp : PreS s H Pc As)
    (hg : g.method = m) (hn : As.length = n) (hsize : g.locals.size = nL) (hstack : g.stack = As.reverse ++ rest) (hW : 2 * g.monitorRoom + (rest.map fun v => v.category).sum ≤ 8) (hdg : decode cc g.pc = .ok (.invokestatic index, 3)) (hf : cells + rc ≤ R.cells ∧ slots + rs ≤ R.slots) :
    xRun p l e R s m args below meth c H locs cells slots mc ms g rest k v B A := by
  obtain ⟨⟨hrc, hrs, hfr, hlo, hws, hcw, hcode, hini, hy, hlen, hl⟩, hstt⟩ := cw
  obtain ⟨hx, hb, hml, ho, -⟩ := S
  refine xb_run (xb_back (bytes := bytes) (maxL := maxL) (ret := ret) hM hrc hrs hfr hlo hws hcw (fun a' U hW => word_at hW (Or.inl (by first | rfl | simp [Cond.onTables, Cond.keeps, Cond.steady])) hini)) hg (hsize.trans hml.symm) hW hf hp ?_
  intro T hT X
  obtain ⟨mk, hnamed⟩ := Cond.code_named hcode
  obtain ⟨methM, cM, hmethM, -, -, -, -, -, -, hsigM⟩ := Cond.code_spec hnamed hcode
  have hstatic : methM.isStatic = true := Cond.static_spec hnamed hmethM hstt
  obtain ⟨kP, hkP, -⟩ := className_of_methodNamed hnamed
  have hinitP : kP.init = .initialized := Cond.initialized_spec (findClass_of_methodNamed hnamed) hkP hini
  obtain ⟨vm₁, X₁, hstep₁⟩ := X.invokestatic hx ho hl hnamed hmethM hstatic hkP hinitP hy (g := g) hg (argsL := As) (rest := rest) (hn.trans (hlen _ hsigM)) hstack (by rw [hb]; exact hdg)
  exact ⟨vm₁, mk, .invokestatic index, X₁, by rw [hb]; exact hdg, X₁.named hnamed, hstep₁⟩
end XCallB
/-- what a method makes: nothing where it returns, the exception where it throws -/
def xc (k : Nat) : Nat := if k = 0 then 0 else 1
def xs (k : Nat) : Nat := if k = 0 then 0 else 6
theorem xc_0 {k : Nat} (h : k = 0) : 0 + xc k = 0 := by rw [h]; rfl
theorem xs_0 {k : Nat} (h : k = 0) : 0 + xs k = 0 := by rw [h]; rfl
/-- what a throw needs beside the world: Throwable's two statics, the texts, new cells in A -/
def kX (A : Nat → Prop) (sx : Nat → Nat) (U : State) : Prop :=
  xS Bundle.tN "UNASSIGNED_STACK" Bundle.steD A U U.heap ∧ xS Bundle.tN "SUPPRESSED_SENTINEL" Bundle.listD A U U.heap ∧ (∀ q : Nat, U.heap.size ≤ q → A q) ∧
  vk_R "LogFs" 183 "the power is off" (sx 183) U ∧ vk_R "LogFs" 136 "the power failed" (sx 136) U ∧ vk_R "LogFs" 143 "no such byte" (sx 143) U ∧ vk_R "LogFs" 152 "no such inode" (sx 152) U ∧
  vk_R "LogFs" 160 "nothing such to look at" (sx 160) U ∧ vk_R "LogFs" 186 "no such byte of a block" (sx 186) U
theorem kX_at {A : Nat → Prop} {sx : Nat → Nat} {s U : State} {H : Heap} {locs : List Loc} (h : kX A sx s) (hS : va_S A s.heap H locs) (hU : U.heap = H) (hW : s.WarmedH U.vm) : kX A sx U := by
  obtain ⟨h1, h2, h3, h4, h5, h6, h7, h8, h9⟩ := h
  refine ⟨by rw [hU]; exact (h1.kept hS.2.1).moved hW.alike, by rw [hU]; exact (h2.kept hS.2.1).moved hW.alike, fun q hq => h3 q (Nat.le_trans hS.1 (by rw [← hU]; exact hq)), h4.warm hW, h5.warm hW, h6.warm hW, h7.warm hW, h8.warm hW, h9.warm hW⟩
theorem kX_call {A : Nat → Prop} {sx : Nat → Nat} {U : State} {g : JFrame} {mk : MethodId} {a : Array Value} (h : kX A sx U) : kX A sx (U.calling g mk a) := by
  have hW : U.WarmedH (U.calling g mk a).vm := State.WarmedH.refl U
  exact kX_at (H := U.heap) (locs := []) h va_S.rf rfl hW
theorem kX_blind {D : va_G} {tys : List (ClassId × FieldType)} {ws : va_W} {av : List Value} {A : Nat → Prop} {sx : Nat → Nat} : FrameBlind (va_Pc av (fun U => kW D tys ws U ∧ kX A sx U)) := fun a U g mk q =>
  ⟨q.1, (kW_blind (av := av) a U g mk ⟨q.1, q.2.1⟩).2, kX_call q.2.2⟩
theorem kX_S {D : va_G} {tys : List (ClassId × FieldType)} {ws : va_W} {s : State} {H : Heap} {locs : List Loc} {As : List Value} {A : Nat → Prop} {sx : Nat → Nat} (hP : va_P D cls ws H) (hK : va_K D cls tys s) (hX : kX A sx s) (hS : va_S A s.heap H locs) : PreS s H (va_Pc As (fun U => kW D tys ws U ∧ kX A sx U)) As :=
  ⟨kX_blind, fun U hU hW => ⟨rfl, ⟨by rw [hU]; exact hP, va_K.moved hW.alike hK⟩, kX_at hX hS hU hW⟩⟩
theorem kX_V {D : va_G} {tys : List (ClassId × FieldType)} {ws : va_W} {s : State} {H : Heap} {locs : List Loc} {C : String} {b : Nat} {As : List Value} {A : Nat → Prop} {sx : Nat → Nat} (hP : va_P D cls ws H) (hK : va_K D cls tys s) (hX : kX A sx s) (hS : va_S A s.heap H locs)
    (hr : ∃ cell : Cell, H[b]? = some cell ∧ cell.vm.isStatics = false ∧ s.vm.findClass C = some cell.cls) : PreV s H C b (va_Pc (.ref b :: As) (fun U => kW D tys ws U ∧ kX A sx U)) As :=
  ⟨kX_blind, hr, fun U hU hW => ⟨rfl, ⟨by rw [hU]; exact hP, va_K.moved hW.alike hK⟩, kX_at hX hS hU hW⟩⟩
theorem kW_new {D : va_G} {tys : List (ClassId × FieldType)} {ws : va_W} {s t : State} {H : Heap} (hP : va_P D cls ws H) (hK : va_K D cls tys s) (hW : s.WarmedH t.vm) (h : ∀ q : Nat, q < H.size → t.heap[q]? = H[q]?) : kW D tys ws t :=
  ⟨hP.kept (fun k q hq => h _ (hP k q hq).lt), va_K.moved hW.alike hK⟩
set_option maxRecDepth 100000 in
theorem xo_1 : ∀ w ∈ Cond.classLink "LogFs" 181 (xN 1) :: Cond.initialized (xN 1) :: (Bundle.ownAtoms "LogFs" 185 (xN 1) ["java/lang/RuntimeException", "java/lang/Exception"]).filter xTab, w ∈ tb ∧ w.onTables = true := by decide +kernel
set_option maxRecDepth 100000 in
theorem xo_2 : ∀ w ∈ Cond.classLink "LogFs" 134 (xN 2) :: Cond.initialized (xN 2) :: (Bundle.ownAtoms "LogFs" 138 (xN 2) ["java/lang/RuntimeException", "java/lang/Exception"]).filter xTab, w ∈ tb ∧ w.onTables = true := by decide +kernel
set_option maxRecDepth 100000 in
theorem xo_3 : ∀ w ∈ Cond.classLink "LogFs" 141 (xN 3) :: Cond.initialized (xN 3) :: (Bundle.ownAtoms "LogFs" 145 (xN 3) ["java/lang/RuntimeException", "java/lang/Exception"]).filter xTab, w ∈ tb ∧ w.onTables = true := by decide +kernel
theorem xo_at {args : Array Value} {s : State} (htb : ∀ w ∈ tb, w.before args s = true) {L : List Cond} (h : ∀ w ∈ L, w ∈ tb ∧ w.onTables = true) : ∀ w ∈ L, w.before args s = true ∧ w.onTables = true := fun w hw => ⟨htb w (h w hw).1, (h w hw).2⟩
