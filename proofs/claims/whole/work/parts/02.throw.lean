/-! Methods that may throw, over the machine: a contract with a code (0: it returned; else: an object of the component xN code was thrown), calls of such methods, throwing, catching. Own rows. -/
def xN (k : Nat) : String := if k = 1 then "java/lang/IllegalStateException" else if k = 2 then "java/lang/UnsupportedOperationException" else "java/lang/IndexOutOfBoundsException"
/-- how an invocation ended -/
def xE (k : Nat) (v : Option Value) (st : State) (o : Outcome) (t : State) : Prop :=
  (k = 0 ∧ o = .returned v) ∨ (k ≠ 0 ∧ ∃ (q : Addr) (ce : Cell), o = .threw q ∧ t.heap[q]? = some ce ∧ ce.vm = .none ∧ st.vm.findClass (xN k) = some ce.cls)
def xQ (k : Nat) (v : Option Value) (B : State → Prop) (A : Nat → Prop) (mc ms : Nat) (st : State) (o : Outcome) (t : State) : Prop :=
  xE k v st o t ∧ B t ∧ va_F A st t ∧ st.WarmedH t.vm ∧ ∃ L, st.sameButNew ({ t with vm := st.vm } : State) L mc ms ∧ ∀ z ∈ L, A z.base
def xMet (l : Launch) (y : MethodName) (ws : List Cond) (rm : Room) (Pc : Array Value → State → Prop) (k : Nat) (v : Option Value) (B : State → Prop) (A : Nat → Prop) (mc ms : Nat) : Prop :=
  MetFree l y (headSpec ws rm) Pc (fun _ _ _ _ _ => True) (fun _ st o t => xQ k v B A mc ms st o t)
def xMQ (below : List Frame) (k : Nat) (v : Option Value) (B : State → Prop) (A : Nat → Prop) (s : State) (mc ms : Nat) : State → Prop := fun t =>
  ∃ o, t.status = .running ∧ Ended t below o ∧ xQ k v B A mc ms s o t
/-- a walk on which the note 'q is thrown' lies over the frame g -/
def xW (p : Program) (l : Launch) (e : Env) (R : Room) (s : State) (m : MethodId) (args : Array Value) (below : List Frame) (meth : Method) (c : Code) (H : Heap) (locs : List Loc) (cells slots : Nat) (Q : State → Prop) (g : JFrame) (q : Addr) : Prop :=
  ∀ T : State, T.heap = H → Stand p l e R s m args below meth c T locs cells slots → ∃ t, Steps p.tables e below ((T.setTop g).pushFrame (.throwing q)) t ∧ Q t
/-- what a call of a method comes to: the point behind it, or the note over the frame -/
def xBack (l : Launch) (R : Room) (p : Program) (e : Env) (below : List Frame) (s : State) (sargs : Array Value) (y : MethodName) (W9 : Nat) (Pc : Array Value → State → Prop) (k : Nat) (v : Option Value) (B : State → Prop) (A : Nat → Prop) (mc ms : Nat) : Prop :=
  ∀ (m : MethodId) (meth : Method) (c : Code) (U : State) (Ls : List Loc) (c0 s0 : Nat) (g : JFrame) (ig : Instr) (mk : MethodId) (a : Array Value),
    Stand p l e R s m sargs below meth c U Ls c0 s0 → g.method = m → g.locals.size = c.maxLocals → decode c.code g.pc = .ok (ig, 3) →
    2 * g.monitorRoom + (g.stack.map fun v => v.category).sum ≤ W9 → U.methodNamed? y = some mk → c0 + mc ≤ R.cells → s0 + ms ≤ R.slots → Pc a (U.calling g mk a) →
    ∃ (t T' : State) (L : List Loc), Stand p l e R s m sargs below meth c T' (Ls ++ L) (c0 + mc) (s0 + ms) ∧ (∀ z ∈ L, A z.base) ∧ T'.heap = t.heap ∧ T'.vm = t.vm ∧ B t ∧ va_F A (U.calling g mk a) t ∧
      ((k = 0 ∧ Steps p.tables e below (doInvoke e (U.setTop g) [] mk a).1 (T'.setTop { g with pc := g.pc + 3, stack := v.toList ++ g.stack })) ∨
       (k ≠ 0 ∧ ∃ (q : Addr) (ce : Cell), t.heap[q]? = some ce ∧ ce.vm = .none ∧ U.vm.findClass (xN k) = some ce.cls ∧ Steps p.tables e below (doInvoke e (U.setTop g) [] mk a).1 ((T'.setTop g).pushFrame (.throwing q))))
section XPay
variable {l : Launch} {R : Room} {p : Program} {e : Env} {below : List Frame} {s : State} {sargs : Array Value} {y : MethodName} {W9 : Nat}
/-- out of the contract: what a call comes to -/
theorem x_back {ws : List Cond} {rm : Room} {Pc : Array Value → State → Prop} {k : Nat} {v : Option Value} {B : State → Prop} {A : Nat → Prop} {mc ms : Nat} {bytes : ByteArray} {maxL : Nat} {ret : Option FieldType}
    (hM : xMet l y ws rm Pc k v B A mc ms) (hrc : rm.cells = mc) (hrs : rm.slots = ms) (hframes : rm.frames + 1 ≤ R.frames) (hlocals : W9 + (maxL + 11) + rm.locals ≤ R.locals)
    (hws : ∀ w ∈ ws, ∀ a' U, s.WarmedH U.vm → w.before a' U = true) (hcode : Cond.code y bytes maxL ret ∈ ws) (hinit : ∀ a' U, s.WarmedH U.vm → (Cond.initialized y.cls).before a' U = true) :
    xBack l R p e below s sargs y W9 Pc k v B A mc ms := by
  intro m meth c U Ls c0 s0 g ig mk a X hg hsize hdg hW hn hcc hss hPc
  have hpre : (headSpec ws rm).pre.before a U = true := atoms_intro fun w hw => hws w hw _ _ X.warmed
  obtain ⟨methY, cY, hmY, hcY, -, hlY, -, -, -, -⟩ := Cond.code_spec hn (hws _ hcode a U X.warmed)
  obtain ⟨kY, hkY, -⟩ := className_of_methodNamed hn
  have hiniY : kY.init = .initialized := Cond.initialized_spec (findClass_of_methodNamed hn) hkY (hinit a U X.warmed)
  have hat : At U g.method c below := by rw [hg]; exact X.here
  have hlo : W9 + (maxL + 11) + (headSpec ws rm).room.locals ≤ R.locals := hlocals
  have happ : (headSpec ws rm).appliesLoose y e.platform (U.calling g mk a) = true :=
    Spec.appliesLoose_calling (g := g) hat hdg hn hkY hiniY
      (X.room_calling (g := g) (R' := (headSpec ws rm).room) hsize hmY hcY hframes (by rw [hlY]; omega) (by rw [show (headSpec ws rm).room.cells = mc from hrc]; exact hcc) (by rw [show (headSpec ws rm).room.slots = ms from hrs]; exact hss)) hpre
  obtain ⟨mid, hmid⟩ := hat.above
  have hfr : (U.setTop g).frames = (.java g :: mid) ++ below := by rw [State.frames_setTop' g hat.top, hmid]; rfl
  obtain ⟨o, s₂, hsteps, -, hend, hq⟩ := Steps.callFree hM p X.admits X.cas X.clock (acts := []) hfr happ hPc trivial
  have hq : xQ k v B A mc ms (U.calling g mk a) o s₂ := hq
  rw [State.frames_setTop' g hat.top] at hend
  obtain ⟨hE, hB, hF, hW₂, L, hsm, hL⟩ := hq
  obtain ⟨g₀, hg0⟩ := Option.isSome_iff_exists.mp hat.top
  obtain ⟨r, hr⟩ := State.topJava?_eq_some.mp hg0
  have hW' : U.WarmedH s₂.vm := hW₂
  obtain ⟨e2, q2, q3, q4, q5, q6⟩ := id hsm
  have e3 : s₂ = ({ (U.calling g mk a).setFrames s₂.frames with heap := s₂.heap, slotsUsed := s₂.slotsUsed } : State).setVm s₂.vm := by
    have : s₂ = ({ s₂ with vm := (U.calling g mk a).vm } : State).setVm s₂.vm := rfl
    rw [e2] at this
    exact this
  obtain ⟨V, hV⟩ : ∃ z, z = (({ U with heap := s₂.heap, slotsUsed := s₂.slotsUsed } : State).setVm s₂.vm) := ⟨_, rfl⟩
  have hr' : V.frames = .java g₀ :: r := by rw [hV]; exact hr
  have hsame : U.sameButNew ({ U with heap := s₂.heap, slotsUsed := s₂.slotsUsed } : State) L mc ms := by
    refine ⟨?_, q2, q3, q4, q5, q6⟩
    obtain ⟨t, ht, -⟩ := State.frames_cons hr
    show ({ U with heap := s₂.heap, slotsUsed := s₂.slotsUsed } : State) = { U.setFrames U.frames with heap := s₂.heap, slotsUsed := s₂.slotsUsed }
    rw [State.setFrames_self ht]
  subst hg
  have XV : Stand p l e R s g.method sargs below meth c V (Ls ++ L) (c0 + mc) (s0 + ms) := by
    rw [hV]
    exact ⟨X.admits, X.cas, X.clock, X.frames, X.room, X.hears, X.method, X.code, (X.here.setHeapUsed s₂.heap s₂.slotsUsed).setVm hW'.alike, X.tail, State.WarmedH.trans X.warmed hW', X.limits, X.bytes, X.same.trans (hsame.setVm s.vm)⟩
  refine ⟨s₂, V, L, XV, hL, by rw [hV]; rfl, by rw [hV]; rfl, hB, hF, ?_⟩
  rcases hE with ⟨hk, rfl⟩ | ⟨hk, q, ce, rfl, hce, hcv, hcl⟩
  · refine Or.inl ⟨hk, ?_⟩
    obtain ⟨c₂, i₂, len₂, hc₂, hd₂, hf₂⟩ := hend
    have hcc2 : c₂ = c := by
      have h1 : s₂.code? g.method = U.code? g.method := by
        rw [State.code?_eq, State.code?_eq, hW'.alike.method?]
      exact Option.some.inj (hc₂.symm.trans (h1.trans hat.code))
    subst hcc2
    have hlen : len₂ = 3 := by rw [hdg] at hd₂; cases hd₂; rfl
    subst hlen
    have hs₂ : s₂ = V.setTop { g with pc := g.pc + 3, stack := v.toList ++ g.stack } := by
      refine e3.trans ?_
      rw [State.setTop_of_frames _ hr', hV, hf₂, State.calling_eq hat.top, State.setFrames_setFrames, hr]
      rfl
    rw [← hs₂]
    exact hsteps
  · refine Or.inr ⟨hk, q, ce, hce, hcv, hcl, ?_⟩
    have hf₂ : s₂.frames = .throwing q :: .java g :: U.frames.tail := hend
    have hs₂ : s₂ = (V.setTop g).pushFrame (.throwing q) := by
      refine e3.trans ?_
      rw [State.pushFrame, State.frames_setTop _ hr', State.setTop_of_frames _ hr', State.setFrames_setFrames, hV, hf₂, State.calling_eq hat.top, State.setFrames_setFrames, hr]
      rfl
    rw [← hs₂]
    exact hsteps
end XPay
def xRun (p : Program) (l : Launch) (e : Env) (R : Room) (s : State) (m : MethodId) (args : Array Value) (below : List Frame) (meth : Method) (c : Code) (H : Heap) (locs : List Loc) (cells slots mc ms : Nat) (g : JFrame) (rest : List Value) (k : Nat) (v : Option Value) (B : State → Prop) (A : Nat → Prop) : Prop :=
  ∀ T : State, T.heap = H → Stand p l e R s m args below meth c T locs cells slots → ∃ (st₀ t T' : State) (L : List Loc), st₀.heap = H ∧ Stand p l e R s m args below meth c T' (locs ++ L) (cells + mc) (slots + ms) ∧ (∀ z ∈ L, A z.base) ∧ T'.heap = t.heap ∧ T'.vm = t.vm ∧ B t ∧ va_F A st₀ t ∧
    ((k = 0 ∧ Goes p e below T g T' { g with pc := g.pc + 3, stack := v.toList ++ rest }) ∨
     (k ≠ 0 ∧ ∃ (q : Addr) (ce : Cell), t.heap[q]? = some ce ∧ ce.vm = .none ∧ s.vm.findClass (xN k) = some ce.cls ∧ ∀ tg, Steps p.tables e below ((T'.setTop { g with stack := rest }).pushFrame (.throwing q)) tg → Steps p.tables e below (T.setTop g) tg))
section XCall
variable {p : Program} {l : Launch} {e : Env} {R : Room} {s : State} {m : MethodId} {args : Array Value} {below : List Frame} {meth : Method} {c : Code} {H : Heap} {locs : List Loc} {cells slots : Nat} {Q : State → Prop}
variable {y : MethodName} {bytes cc : ByteArray} {maxL nL mc ms n index : Nat} {ret : Option FieldType} {ws : List Cond} {rm : Room} {Pc : Array Value → State → Prop} {Ts : List Cond} {own C host : String} {b : Addr} {As rest : List Value} {g : JFrame} {k : Nat} {v : Option Value} {B : State → Prop} {A : Nat → Prop} {a : Array Value}
/-- a call, its first step at hand -/
theorem x_run (hK : xBack l R p e below s args y 8 Pc k v B A mc ms) (hg : g.method = m) (hsize : g.locals.size = c.maxLocals) (hW : 2 * g.monitorRoom + (rest.map fun v => v.category).sum ≤ 8) (hf : cells + mc ≤ R.cells ∧ slots + ms ≤ R.slots)
    (hPc : FrameBlind Pc ∧ ∀ U : State, U.heap = H → s.WarmedH U.vm → Pc a U)
    (hst : ∀ T : State, T.heap = H → Stand p l e R s m args below meth c T locs cells slots → ∃ (vm₁ : Vm) (mk : MethodId) (ig : Instr), Stand p l e R s m args below meth c (T.setVm vm₁) locs cells slots ∧ decode c.code g.pc = .ok (ig, 3) ∧ (T.setVm vm₁).methodNamed? y = some mk ∧
      ∀ tg, (∀ acts, Steps p.tables e below (doInvoke e ((T.setVm vm₁).setTop { g with stack := rest }) acts mk a).1 tg) → Steps p.tables e below (T.setTop g) tg) :
    xRun p l e R s m args below meth c H locs cells slots mc ms g rest k v B A := by
  intro T hT X
  obtain ⟨vm₁, mk, ig, X₁, hd, hn, hs1⟩ := hst T hT X
  obtain ⟨t, T', L, X', hL, e1, e2, hB, hF, hend⟩ := hK m meth c (T.setVm vm₁) locs cells slots { g with stack := rest } ig mk a X₁ hg hsize hd hW hn hf.1 hf.2 (hPc.1 _ _ _ _ (hPc.2 (T.setVm vm₁) hT X₁.warmed))
  refine ⟨(T.setVm vm₁).calling { g with stack := rest } mk a, t, T', L, hT, X', hL, e1, e2, hB, hF, ?_⟩
  rcases hend with ⟨hk, h⟩ | ⟨hk, q, ce, h1, h2, h3, h⟩
  · exact Or.inl ⟨hk, fun tg htg => hs1 tg fun acts => by rw [doInvoke_state]; exact h.trans htg⟩
  · refine Or.inr ⟨hk, q, ce, h1, h2, ?_, fun tg htg => hs1 tg fun acts => by rw [doInvoke_state]; exact h.trans htg⟩
    have h4 : (T.setVm vm₁).vm.findClass (xN k) = some ce.cls := h3
    rwa [X₁.warmed.alike.findClass] at h4
/-- invokevirtual, the component's own name -/
theorem x_runV (S : CallFix p m c cc nL s args Ts own) (hM : xMet l y ws rm Pc k v B A mc ms) (cw : CallW R s args own C index y bytes maxL ret ws rm mc ms n) (hp : PreV s H C b Pc As)
    (hg : g.method = m) (hn : As.length = n) (hsize : g.locals.size = nL) (hstack : g.stack = As.reverse ++ .ref b :: rest) (hW : 2 * g.monitorRoom + (rest.map fun v => v.category).sum ≤ 8) (hdg : decode cc g.pc = .ok (.invokevirtual index, 3)) (hf : cells + mc ≤ R.cells ∧ slots + ms ≤ R.slots) :
    xRun p l e R s m args below meth c H locs cells slots mc ms g rest k v B A := by
  obtain ⟨⟨hrc, hrs, hfr, hlo, hws, hcw, hcode, hini, hy, hlen, hl⟩, hin, hse⟩ := cw
  obtain ⟨hx, hb, hml, ho, -⟩ := S
  obtain ⟨hbl, ⟨cellB, hcB, hoB, hclB⟩, hPc⟩ := hp
  refine x_run (x_back (bytes := bytes) (maxL := maxL) (ret := ret) hM hrc hrs hfr hlo hws hcw (fun a' U hW => word_at hW (Or.inl (by first | rfl | simp [Cond.onTables, Cond.keeps, Cond.steady])) hini)) hg (hsize.trans hml.symm) hW hf ⟨hbl, hPc⟩ ?_
  intro T hT X
  obtain ⟨mk, methM, hnamed, hmethM, hstM, habM⟩ := Cond.instanceMethod_spec hin
  obtain ⟨methM', cM, hmethM', -, -, -, -, -, -, hsigM⟩ := Cond.code_spec hnamed hcode
  cases hmethM.symm.trans hmethM'
  obtain ⟨c2, r2, m2, q1, q2, q3, q4, kP, hkP, hkPi⟩ := Cond.selects_spec hse
  cases hclB.symm.trans q1
  cases (State.methodFound?_of_named hnamed hy).symm.trans q2
  cases hnamed.symm.trans q3
  have hselP : selectMethod e.platform s.vm cellB.cls mk = .method mk := by rw [Launch.admits_selectMethod X.admits]; exact q4
  obtain ⟨vm₁, X₁, hstep₁⟩ := X.invokevirtual hx ho hl hnamed hmethM hstM hkP hkPi hy (a := b) (cell := cellB) (by rw [hT]; exact hcB)
    (fun z h => by rw [h] at hoB; cases hoB) hselP hmethM habM hkP hkPi (g := g) hg (argsL := As) (rest := rest) (hn.trans (hlen _ hsigM)) hstack (by rw [hb]; exact hdg)
  exact ⟨vm₁, mk, .invokevirtual index, X₁, by rw [hb]; exact hdg, X₁.named hnamed, hstep₁⟩
/-- invokevirtual of a nest mate's -/
theorem x_runVN (S : CallFix p m c cc nL s args Ts own) (hM : xMet l y ws rm Pc k v B A mc ms) (cw : va_CN R s args own index y host bytes maxL ret ws rm mc ms n ∧ (Cond.instanceMethod y).before args s = true ∧ (Cond.selects C y y).before args s = true) (hp : PreV s H C b Pc As)
    (hg : g.method = m) (hn : As.length = n) (hsize : g.locals.size = nL) (hstack : g.stack = As.reverse ++ .ref b :: rest) (hW : 2 * g.monitorRoom + (rest.map fun v => v.category).sum ≤ 8) (hdg : decode cc g.pc = .ok (.invokevirtual index, 3)) (hf : cells + mc ≤ R.cells ∧ slots + ms ≤ R.slots) :
    xRun p l e R s m args below meth c H locs cells slots mc ms g rest k v B A := by
  obtain ⟨⟨⟨hrc, hrs, hfr, hlo, hws, hcw⟩, hcode, hini, hy, hlen, hl⟩, hin, hse⟩ := cw
  obtain ⟨hx, hb, hml, ho, -⟩ := S
  obtain ⟨hbl, ⟨cellB, hcB, hoB, hclB⟩, hPc⟩ := hp
  refine x_run (x_back (bytes := bytes) (maxL := maxL) (ret := ret) hM hrc hrs hfr hlo hws hcw (fun a' U hW => word_at hW (Or.inl (by first | rfl | simp [Cond.onTables, Cond.keeps, Cond.steady])) hini)) hg (hsize.trans hml.symm) hW hf ⟨hbl, hPc⟩ ?_
  intro T hT X
  obtain ⟨mk, methM, hnamed, hmethM, hstM, habM⟩ := Cond.instanceMethod_spec hin
  obtain ⟨methM', cM, hmethM', -, -, -, -, -, -, hsigM⟩ := Cond.code_spec hnamed hcode
  cases hmethM.symm.trans hmethM'
  obtain ⟨c2, r2, m2, q1, q2, q3, q4, kP, hkP, hkPi⟩ := Cond.selects_spec hse
  cases hclB.symm.trans q1
  cases (State.methodFound?_of_named hnamed hy).symm.trans q2
  cases hnamed.symm.trans q3
  have hselP : selectMethod e.platform s.vm cellB.cls mk = .method mk := by rw [Launch.admits_selectMethod X.admits]; exact q4
  obtain ⟨vm₁, X₁, hstep₁⟩ := X.invokevirtualNest hx ho hl hnamed hmethM hstM hkP hkPi hy (a := b) (cell := cellB) (by rw [hT]; exact hcB)
    (fun z h => by rw [h] at hoB; cases hoB) hselP hmethM habM hkP hkPi (g := g) hg (argsL := As) (rest := rest) (hn.trans (hlen _ hsigM)) hstack (by rw [hb]; exact hdg)
  exact ⟨vm₁, mk, .invokevirtual index, X₁, by rw [hb]; exact hdg, X₁.named hnamed, hstep₁⟩
/-- invokestatic -/
theorem x_runS (S : CallFix p m c cc nL s args Ts own) (hM : xMet l y ws rm Pc k v B A mc ms) (cw : CallB R s args own index y bytes maxL ret ws rm mc ms n ∧ (Cond.static y).before args s = true) (hp : PreS s H Pc As)
    (hg : g.method = m) (hn : As.length = n) (hsize : g.locals.size = nL) (hstack : g.stack = As.reverse ++ rest) (hW : 2 * g.monitorRoom + (rest.map fun v => v.category).sum ≤ 8) (hdg : decode cc g.pc = .ok (.invokestatic index, 3)) (hf : cells + mc ≤ R.cells ∧ slots + ms ≤ R.slots) :
    xRun p l e R s m args below meth c H locs cells slots mc ms g rest k v B A := by
  obtain ⟨⟨hrc, hrs, hfr, hlo, hws, hcw, hcode, hini, hy, hlen, hl⟩, hstt⟩ := cw
  obtain ⟨hx, hb, hml, ho, -⟩ := S
  refine x_run (x_back (bytes := bytes) (maxL := maxL) (ret := ret) hM hrc hrs hfr hlo hws hcw (fun a' U hW => word_at hW (Or.inl (by first | rfl | simp [Cond.onTables, Cond.keeps, Cond.steady])) hini)) hg (hsize.trans hml.symm) hW hf hp ?_
  intro T hT X
  obtain ⟨mk, hnamed⟩ := Cond.code_named hcode
  obtain ⟨methM, cM, hmethM, -, -, -, -, -, -, hsigM⟩ := Cond.code_spec hnamed hcode
  have hstatic : methM.isStatic = true := Cond.static_spec hnamed hmethM hstt
  obtain ⟨kP, hkP, -⟩ := className_of_methodNamed hnamed
  have hinitP : kP.init = .initialized := Cond.initialized_spec (findClass_of_methodNamed hnamed) hkP hini
  obtain ⟨vm₁, X₁, hstep₁⟩ := X.invokestatic hx ho hl hnamed hmethM hstatic hkP hinitP hy (g := g) hg (argsL := As) (rest := rest) (hn.trans (hlen _ hsigM)) hstack (by rw [hb]; exact hdg)
  exact ⟨vm₁, mk, .invokestatic index, X₁, by rw [hb]; exact hdg, X₁.named hnamed, hstep₁⟩
/-- behind the call: it goes on, or the note lies over the frame -/
theorem x_call {pc : Nat} {ls : Array Slot} {st0 : List Value} {H0 : Heap} (hr : xRun p l e R s m args below meth c H locs cells slots mc ms (F0 m pc ls st0) rest k v B A) (hS : va_S A H0 H locs)
    (kn : k = 0 → ∀ (t : State) (H1 : Heap) (locs1 : List Loc), t.heap = H1 → s.WarmedH t.vm → B t → H.size ≤ H1.size → va_S A H0 H1 locs1 → W p l e R s m args below meth c H1 locs1 (cells + mc) (slots + ms) Q (F0 m (pc + 3) ls (v.toList ++ rest)))
    (kx : k ≠ 0 → ∀ (q : Addr) (ce : Cell) (t : State) (H1 : Heap) (locs1 : List Loc), t.heap = H1 → s.WarmedH t.vm → B t → H.size ≤ H1.size → va_S A H0 H1 locs1 → H1[q]? = some ce → ce.vm = .none → s.vm.findClass (xN k) = some ce.cls →
      xW p l e R s m args below meth c H1 locs1 (cells + mc) (slots + ms) Q (F0 m pc ls rest) q) : W p l e R s m args below meth c H locs cells slots Q (F0 m pc ls st0) := by
  intro T hT X
  obtain ⟨st₀, t, T', L, h0, X', hL, e1, e2, hB, ⟨hz, hk⟩, hend⟩ := hr T hT X
  rw [h0] at hz hk
  have hS' : va_S A H0 T'.heap (locs ++ L) := ⟨Nat.le_trans hS.1 (by rw [e1]; exact hz), fun q h1 h2 => by rw [e1, hk q (Nat.lt_of_lt_of_le h1 hS.1) h2]; exact hS.2.1 q h1 h2, fun q hq => by
    rcases List.mem_append.mp hq with h | h
    · exact hS.2.2 q h
    · exact hL q h⟩
  have hWt : s.WarmedH t.vm := by rw [← e2]; exact X'.warmed
  rcases hend with ⟨hk0, hgo⟩ | ⟨hk0, q, ce, h1, h2, h3, hgo⟩
  · obtain ⟨t2, a1, b1⟩ := kn hk0 t T'.heap (locs ++ L) e1.symm hWt hB (by rw [e1]; exact hz) hS' T' rfl X'
    exact ⟨t2, hgo t2 a1, b1⟩
  · obtain ⟨t2, a1, b1⟩ := kx hk0 q ce t T'.heap (locs ++ L) e1.symm hWt hB (by rw [e1]; exact hz) hS' (by rw [e1]; exact h1) h2 h3 T' rfl X'
    exact ⟨t2, hgo t2 a1, b1⟩
/-- no handler here: the method throws it on -/
theorem x_out {pc : Nat} {ls : Array Slot} {q : Addr} {ce : Cell} (hout : ∀ x ∈ c.exceptionTable.toList, covers x pc = false) (hlocks : meth.locks = false) (hk : k ≠ 0) (hcell : H[q]? = some ce) (hv : ce.vm = .none) (hcl : s.vm.findClass (xN k) = some ce.cls)
    (hB : ∀ t : State, t.heap = H → s.WarmedH t.vm → B t) (hS : va_S A s.heap H locs) (hc : cells ≤ mc) (hs : slots ≤ ms) :
    xW p l e R s m args below meth c H locs cells slots (xMQ below k v B A s mc ms) (F0 m pc ls rest) q := by
  intro T hT X
  obtain ⟨st1, hrun, hend, hW, hsm⟩ := X.leaveThrown q (g := F0 m pc ls rest) rfl rfl rfl hout hlocks
  have hcell9 : (T.setFrames (.throwing q :: below)).heap[q]? = some ce := by
    show T.heap[q]? = some ce
    rw [hT]; exact hcell
  exact ⟨_, st1, .threw q, hrun, hend, Or.inr ⟨hk, q, ce, rfl, hcell9, hv, hcl⟩, hB _ hT hW, hS.F hT, hW, locs, hsm.mono hc hs, hS.2.2⟩
/-- it returned -/
theorem x_ret (w : W p l e R s m args below meth c H locs cells slots (MQ below (fun _ st o t => (o = .returned v ∧ B t) ∧ va_F A st t) args s mc ms A) g) : W p l e R s m args below meth c H locs cells slots (xMQ below 0 v B A s mc ms) g := by
  intro T hT X
  obtain ⟨t, a1, o, b1, b2, ⟨⟨rfl, b3⟩, b4⟩, L, ⟨-, f2, f3⟩, hL⟩ := w T hT X
  exact ⟨t, a1, .returned v, b1, b2, Or.inl ⟨rfl, rfl⟩, b3, b4, f2, L, f3, hL⟩
end XCall
/-- the contract out of the walk of the body -/
theorem x_ofW {l : Launch} {y : MethodName} {ws ws' : List Cond} {rm : Room} {Pc : Array Value → State → Prop} {k : Nat} {v : Option Value} {B : State → Prop} {A : Nat → Prop} {mc ms : Nat} {cc : ByteArray} {maxL : Nat} {ret : Option FieldType}
    (hy : plainName y.cls = true) (hw : ws = Cond.code y cc maxL ret :: ws')
    (body : ∀ p e s m args below meth c s₁, BodyLoose p l y (headSpec ws rm) cc maxL ret e s m args below meth c s₁ → c.maxLocals = maxL → (∀ x ∈ c.exceptionTable.toList, False) → Pc args s →
      W p l e (headSpec ws rm).room s m args below meth c s.heap [] 0 0 (xMQ below k v B A s mc ms) (entryFrame m args maxL)) : xMet l y ws rm Pc k v B A mc ms := by
  refine MetFree.of_bodyS (code := cc) (maxLocals := maxL) (ret := ret) hy ?_ ?_
  · intro args s m h hn
    obtain ⟨meth, c, h1, h2, h3, h4, h5, h6, -, -⟩ := Cond.code_spec hn (atoms_spec (ws := ws) h _ (by rw [hw]; exact List.mem_cons_self))
    exact ⟨meth, c, h1, h2, h3, h4, h5, h6⟩
  · intro p e s m args below meth c s₁ B9 hml hP _
    have hh0 : s₁.heap = s.heap := by rw [B9.state]; rfl
    have ht : ∀ x ∈ c.exceptionTable.toList, False := by
      obtain ⟨meth9, c9, h1, h2, -, -, -, -, h7, -⟩ := Cond.code_spec B9.named (atoms_spec (ws := ws) B9.pre _ (by rw [hw]; exact List.mem_cons_self))
      cases Option.some.inj (h1.symm.trans B9.method)
      cases Option.some.inj (h2.symm.trans (Stand.of_body B9).code)
      intro x hx
      rw [Array.isEmpty_iff.mp h7] at hx
      cases hx
    obtain ⟨t, a1, o, b1, b2, b3⟩ := body p e s m args below meth c s₁ B9 hml ht hP s₁ hh0 (Stand.of_body B9)
    exact ⟨t, o, a1, b1, b2, b3⟩
/-- a static field that holds a reference or null; its cell lies outside A -/
def xS (C n d : String) (A : Nat → Prop) (U : State) (H : Heap) : Prop := ∃ (cf : ClassId) (kf : Class) (i : Nat) (f : Field) (a : Nat) (cell : Cell), U.vm.findClass C = some cf ∧ U.fieldFound? C n d = some (cf, kf, i, f) ∧ f.isStatic = true ∧ kf.statics = some a ∧ H[a]? = some cell ∧ cell.vm.isStatics = true ∧ cell.cls = cf ∧ f.slot < cell.slots.size ∧ kf.staticTypes[f.slot]? = some f.type ∧ (∃ v : Value, cell.slots[f.slot]? = some v ∧ v.isRef = true) ∧ ¬ A a
theorem xS.moved {C n d : String} {A : Nat → Prop} {u U : State} {H : Heap} (hvm : u.vm.Alike U.vm) (h : xS C n d A u H) : xS C n d A U H := by
  obtain ⟨cf, kf, i, f, a, cell, h1, h2, h3, h4, h5, h6, h7, h8, h9, h10⟩ := h
  obtain ⟨k', hi', he⟩ := State.fieldFound?_setVm hvm h2
  exact ⟨cf, k', i, f, a, cell, by rw [hvm.findClass]; exact h1, hi', h3, by rw [he]; exact h4, h5, h6, h7, h8, by rw [he]; exact h9, h10⟩
theorem xS.kept {C n d : String} {A : Nat → Prop} {U : State} {H H1 : Heap} (h : xS C n d A U H) (hq : ∀ a : Nat, a < H.size → ¬ A a → H1[a]? = H[a]?) : xS C n d A U H1 := by
  obtain ⟨cf, kf, i, f, a, cell, h1, h2, h3, h4, h5, h6⟩ := h
  exact ⟨cf, kf, i, f, a, cell, h1, h2, h3, h4, by rw [hq a (Array.getElem?_eq_some_iff.mp h5).1 h6.2.2.2.2.2]; exact h5, h6⟩
theorem xS.lays {C n d : String} {A : Nat → Prop} {s : State} {args : Array Value} (h : xS C n d A s s.heap) : (Cond.laysStatic C n d).before args s = true := by
  obtain ⟨cf, kf, i, f, a, cell, h1, h2, h3, h4, h5, h6, h7, h8, h9, -⟩ := h
  show (Cond.laysStatic C n d).holds args s none s [] = true
  exact Cond.laysStatic_of h1 h2 h3 h4 h5 h6 h7 h8 h9
theorem xS.isRef {C n d : String} {A : Nat → Prop} {s : State} {args : Array Value} (h : xS C n d A s s.heap) : (Cond.isRef (.static C n d)).before args s = true := by
  obtain ⟨cf, kf, i, f, a, cell, h1, h2, h3, h4, h5, h6, h7, h8, h9, ⟨v, hv, hr⟩, -⟩ := h
  have he : (Term.static C n d).eval args s none [] s = some v := by
    simp [Term.eval, State.fieldNamed?, h2, h3, h4, h5, h6, hv]
  simp only [Cond.before, Cond.holds, Cond.value, he]
  cases v <;> simp_all [Value.isRef]
theorem xS.of {C n d : String} {A : Nat → Prop} {s : State} {args : Array Value} (hl : (Cond.laysStatic C n d).before args s = true) (hr : (Cond.isRef (.static C n d)).before args s = true) (hA : ∀ a : Nat, a < s.heap.size → ¬ A a) : xS C n d A s s.heap := by
  obtain ⟨cf, kf, i, f, a, cell, h1, h2, h3, h4, h5, h6, h7, h8, h9⟩ := Cond.laysStatic_spec hl
  refine ⟨cf, kf, i, f, a, cell, h1, h2, h3, h4, h5, h6, h7, h8, h9, ?_, hA a (Array.getElem?_eq_some_iff.mp h5).1⟩
  obtain ⟨v, hv⟩ : ∃ v, cell.slots[f.slot]? = some v := ⟨_, Array.getElem?_eq_getElem h8⟩
  refine ⟨v, hv, ?_⟩
  have he : (Term.static C n d).eval args s none [] s = some v := by
    simp [Term.eval, State.fieldNamed?, h2, h3, h4, h5, h6, hv]
  simp only [Cond.before, Cond.holds, Cond.value, he] at hr
  cases v <;> simp_all [Value.isRef]
section XThrow
variable {p : Program} {l : Launch} {e : Env} {R : Room} {s : State} {m : MethodId} {args : Array Value} {below : List Frame} {meth : Method} {c : Code} {H : Heap} {locs : List Loc} {cells slots : Nat}
/-- the state in which this very method would be called now, in this heap: what it was called in, but for the heap -/
def xNow (s T : State) (m : MethodId) (args : Array Value) (below : List Frame) : State := (T.setVm s.vm).setFrames (.invoking m args :: below)
theorem x_nowF {T : State} (X : Stand p l e R s m args below meth c T locs cells slots) : (xNow s T m args below).frames = .invoking m args :: below :=
  State.frames_setFrames _ (State.cur_lt_of_top (show (T.setVm s.vm).topJava?.isSome from X.here.top))
theorem x_nowSame {T : State} (X : Stand p l e R s m args below meth c T locs cells slots) : (xNow s T m args below).sameButNew (T.setVm (xNow s T m args below).vm) [] 0 0 := by
  obtain ⟨g₀, hfr⟩ := X.frames_eq
  have hfr' : (T.setVm s.vm).frames = .java g₀ :: below := hfr
  obtain ⟨t, ht, -⟩ := State.frames_cons hfr'
  obtain ⟨t', ht', -⟩ := State.frames_cons (x_nowF X)
  have h := (State.sameButNew.refl (xNow s T m args below) ht').setFrames (T.setVm s.vm).frames (State.cur_lt_of_frames (x_nowF X))
  unfold xNow at h
  rw [State.setFrames_setFrames, State.setFrames_self ht] at h
  exact h
theorem x_nowRoom {T : State} (X : Stand p l e R s m args below meth c T locs cells slots) {R' : Room} (hf : R'.frames ≤ R.frames) (hl : R'.locals ≤ R.locals) (hc : cells + R'.cells ≤ R.cells) (hs : slots + R'.slots ≤ R.slots) :
    (xNow s T m args below).hasRoom e.platform R' = true := by
  have h := X.room
  have hU : (xNow s T m args below).localsInUse = s.localsInUse := by
    rw [State.localsInUse_invoking (x_nowF X) (meth := meth) (c := c) X.method X.code, State.localsInUse_invoking X.frames X.method X.code]
  have h1 : e.platform.stackLimits (xNow s T m args below).me = e.platform.stackLimits s.me := by
    unfold xNow; rw [State.stackLimits_setFrames]; exact X.limits
  have h2 : (xNow s T m args below).me.stackBytes = s.me.stackBytes := by
    unfold xNow; rw [State.stackBytes_setFrames]; exact X.bytes
  have z1 := X.heapSize
  have z2 := X.used
  have z3 : (xNow s T m args below).heap = T.heap := rfl
  have z4 : (xNow s T m args below).slotsUsed = T.slotsUsed := rfl
  have z5 : (xNow s T m args below).slotsTrue = true := X.book
  simp only [State.hasRoom, Bool.and_eq_true, decide_eq_true_eq] at h ⊢
  rw [X.frames] at h
  rw [x_nowF X, hU, h1, h2, z3, z4]
  simp only [List.length_cons] at h ⊢
  obtain ⟨⟨⟨⟨q1, q2, q3, q4, q5, q6⟩, q7⟩, q8⟩, -⟩ := h
  exact ⟨⟨⟨⟨by omega, by omega, by omega, by omega, by omega, q6⟩, by omega⟩, by omega⟩, z5⟩
/-- the walk goes on as one of that call -/
theorem x_now {T : State} (X : Stand p l e R s m args below meth c T locs cells slots) {R' : Room} (hf : R'.frames ≤ R.frames) (hl : R'.locals ≤ R.locals) (hc : cells + R'.cells ≤ R.cells) (hs : slots + R'.slots ≤ R.slots) :
    Stand p l e R' (xNow s T m args below) m args below meth c T [] 0 0 :=
  ⟨X.admits, X.cas, X.clock, x_nowF X, x_nowRoom X hf hl hc hs, X.hears, X.method, X.code, X.here, X.tail, X.warmed,
    by unfold xNow; rw [State.stackLimits_setFrames]; rfl, by unfold xNow; rw [State.stackBytes_setFrames]; rfl, x_nowSame X⟩
end XThrow
/-- words that stay true of warmer tables, and speak of the tables alone -/
def xGood : Cond → Bool
  | .fieldLinkNest .. | .methodLinkNest .. | .castable .. | .declares _ => true
  | .not (.castable ..) => true
  | .arrayClass _ => true
  | w => w.onTables && w.keeps
theorem x_wordAt {args a' : Array Value} {s U : State} (hW : s.WarmedH U.vm) {w : Cond} (hg : xGood w = true) (h : w.before args s = true) : w.before a' U = true := by
  have hcast : ∀ w : Cond, w.castAtom = true → w.before args s = true → w.before args (s.setVm U.vm) = true := fun w hc hh => Cond.castAtom_setVm hW.alike w hc hh
  unfold xGood at hg
  split at hg
  · exact va_tabs rfl (rfl : (s.setVm U.vm).vm = U.vm) (Cond.fieldLinkNest_warmed (args := args) hW h)
  · exact va_tabs rfl (rfl : (s.setVm U.vm).vm = U.vm) (Cond.methodLinkNest_warmed (args := args) hW h)
  · exact va_tabs rfl (rfl : (s.setVm U.vm).vm = U.vm) (by rw [Cond.castable_setVm hW.alike]; exact h)
  · exact va_tabs rfl (rfl : (s.setVm U.vm).vm = U.vm) (by rw [Cond.declares_setVm hW.alike]; exact h)
  · have h1 := hcast _ rfl h
    simp only [Cond.before, Cond.holds, Cond.value] at h1 ⊢
    exact h1
  · exact word_at hW (Or.inr ⟨_, rfl⟩) h
  · exact word_at hW (Or.inl hg) h
section XThrow2
variable {p : Program} {l : Launch} {e : Env} {R : Room} {s : State} {m : MethodId} {args : Array Value} {below : List Frame} {meth : Method} {c : Code} {H : Heap} {locs : List Loc} {cells slots : Nat}
/-- not one of the four words of a throw that speak of the heap -/
def xTab (w : Cond) : Bool := match w with
  | .isRef _ => false
  | .laysStatic .. => false
  | _ => true
theorem x_ownW {own : String} {ic : Nat} {E : String} {names : List String} {A : Nat → Prop} {s : State} (h : ∀ w ∈ (Bundle.ownAtoms own ic E names).filter xTab, w.before args s = true)
    (hU : xS Bundle.tN "UNASSIGNED_STACK" Bundle.steD A s s.heap) (hN : xS Bundle.tN "SUPPRESSED_SENTINEL" Bundle.listD A s s.heap) : ∀ w ∈ Bundle.ownAtoms own ic E names, w.before args s = true := by
  intro w hw
  by_cases ht : xTab w = true
  · exact h w (List.mem_filter.mpr ⟨hw, ht⟩)
  · simp only [Bundle.ownAtoms, Bundle.throwableAtoms, Bundle.throwableSAtoms, List.mem_append, List.mem_cons, List.not_mem_nil, or_false] at hw
    have hch : ∀ (ns : List String) (Y : String), w ∈ Bundle.chainSAtoms Y ns → xTab w = true := by
      intro ns
      induction ns with
      | nil =>
        intro Y hY
        simp only [Bundle.chainSAtoms, Bundle.passSAtoms, List.mem_cons, List.not_mem_nil, or_false] at hY
        rcases hY with rfl | rfl | rfl | rfl | rfl <;> rfl
      | cons n ns ih =>
        intro Y hY
        simp only [Bundle.chainSAtoms, List.mem_append] at hY
        rcases hY with hY | hY
        · simp only [Bundle.passSAtoms, List.mem_cons, List.not_mem_nil, or_false] at hY
          rcases hY with rfl | rfl | rfl | rfl | rfl <;> rfl
        · exact ih n hY
    rcases hw with ((hw | hw) | hw) | hw
    · rcases hw with rfl | rfl | rfl | rfl | rfl | rfl | rfl | rfl | rfl | rfl | rfl | rfl | rfl | rfl | rfl | rfl | rfl | rfl | rfl | rfl | rfl | rfl | rfl | rfl <;> first | exact hU.lays | exact hN.lays | exact absurd rfl ht
    · rcases hw with rfl | rfl | rfl | rfl <;> exact absurd rfl ht
    · exact absurd (hch names E hw) ht
    · rcases hw with rfl | rfl | rfl | rfl | rfl | rfl | rfl | rfl | rfl | rfl | rfl | rfl | rfl | rfl <;> first | exact hU.isRef | exact hN.isRef | exact absurd rfl ht
theorem x_sameHeap {U : State} {n r : Nat} (h : s.sameButNew ({ U with vm := s.vm } : State) [] n r) : s.heap.size ≤ U.heap.size ∧ ∀ q : Nat, q < s.heap.size → U.heap[q]? = s.heap[q]? := by
  obtain ⟨-, h2, -, -, -, h6⟩ := h
  refine ⟨h2, fun q hq => ?_⟩
  obtain ⟨c9, e1, e2, -, e4⟩ := h6 q _ (Array.getElem?_eq_getElem hq)
  have hs : c9.slots = (s.heap[q]).slots := Array.ext_getElem? fun i => e4 i (fun hm => nomatch hm)
  rw [hs] at e2
  have e5 : U.heap[q]? = some c9 := e1
  rw [e5, Array.getElem?_eq_getElem hq]
  exact congrArg some e2
/-- throw new E("text") -/
theorem x_throw {cc : ByteArray} {pc : Nat} {ls : Array Slot} {rest : List Value} (hexec : p.tables.exec = Jvm.exec) (hb : c.code = cc) (hl : l.stackTraces = false) {own text : String} {names : List String} {ik is ic mc ms sa k : Nat} {v : Option Value} {B : State → Prop} {A : Nat → Prop}
    (hown : s.vm.findClass own = some m.cls) (hfit : Bundle.fit (xN k) = true) (hnames : ∀ n ∈ names, Bundle.fit n = true) (hk0 : k ≠ 0)
    (hw : ∀ w ∈ Cond.classLink own ik (xN k) :: Cond.initialized (xN k) :: (Bundle.ownAtoms own ic (xN k) names).filter xTab, w.before args s = true ∧ w.onTables = true) (hstr : vk_R own is text sa s)
    (hU : xS Bundle.tN "UNASSIGNED_STACK" Bundle.steD A s s.heap) (hN : xS Bundle.tN "SUPPRESSED_SENTINEL" Bundle.listD A s s.heap) (hS : va_S A s.heap H locs) (hsize : ls.size = c.maxLocals)
    (d0 : decode cc pc = .ok (.new ik, 3)) (d3 : decode cc (pc + 3) = .ok (.dup, 1)) (d4 : decode cc (pc + 4) = .ok (.ldc is, 2)) (d6 : decode cc (pc + 6) = .ok (.invokespecial ic, 3)) (d9 : decode cc (pc + 9) = .ok (.athrow, 1))
    (hout : ∀ x ∈ c.exceptionTable.toList, covers x (pc + 9) = false) (hRf : names.length + 3 < R.frames) (hRl : (rest.map fun v => v.category).sum + (13 * (names.length + 1) + 43) ≤ R.locals) (hRc : cells + 1 ≤ R.cells) (hRs : slots + 6 ≤ R.slots) (hlocks : meth.locks = false)
    (hB : ∀ t : State, s.WarmedH t.vm → H.size ≤ t.heap.size → (∀ q : Nat, q < H.size → t.heap[q]? = H[q]?) → B t) (hc : cells + 1 ≤ mc) (hs : slots + 6 ≤ ms) :
    W p l e R s m args below meth c H locs cells slots (xMQ below k v B A s mc ms) (F0 m pc ls rest) := by
  intro T hT X
  have htr : e.platform.stackTraces = false := (show e.platform.stackTraces = l.stackTraces by rw [X.admits.platform]).trans hl
  have Y := x_now X (R' := { frames := R.frames, locals := R.locals, cells := 1, slots := 6 }) (Nat.le_refl _) (Nat.le_refl _) hRc hRs
  obtain ⟨z, hz⟩ : ∃ z, z = xNow s T m args below := ⟨_, rfl⟩
  rw [← hz] at Y
  have zv : z.vm = s.vm := by rw [hz]; rfl
  have zh : z.heap = H := by rw [hz]; exact hT
  have zW : s.WarmedH z.vm := by rw [zv]; exact State.WarmedH.refl s
  have zw : ∀ w ∈ Cond.classLink own ik (xN k) :: Cond.initialized (xN k) :: (Bundle.ownAtoms own ic (xN k) names).filter xTab, w.before args z = true := fun w h => va_tabs (hw w h).2 zv.symm (hw w h).1
  have zU : xS Bundle.tN "UNASSIGNED_STACK" Bundle.steD A z z.heap := by rw [zh]; exact (hU.kept hS.2.1).moved zW.alike
  have zN : xS Bundle.tN "SUPPRESSED_SENTINEL" Bundle.listD A z z.heap := by rw [zh]; exact (hN.kept hS.2.1).moved zW.alike
  have zo : ∀ w ∈ Bundle.ownAtoms own ic (xN k) names, w.before args z = true := x_ownW (fun w h => zw w (List.mem_cons_of_mem _ (List.mem_cons_of_mem _ h))) zU zN
  have zown : z.vm.findClass own = some m.cls := by rw [zv]; exact hown
  obtain ⟨vm₁, cX, kX, hfX, hkX, -, -, X₁, st1⟩ := Y.newCold hexec (own := own) (C := xN k) (index := ik) (n := 6) zown (zw _ List.mem_cons_self) (zo _ (by simp [Bundle.ownAtoms])) (zw _ (List.mem_cons_of_mem _ List.mem_cons_self))
    (g := F0 m pc ls rest) rfl (by rw [hb]; exact d0) (Nat.le_refl _) (Nat.le_refl _)
  generalize hT1 : (T.setVm vm₁).pushCell { cls := cX, slots := kX.instanceTypes.map defaultValue, vm := .none } = T1 at X₁ st1
  have hcellA : T1.heap[T.heap.size]? = some (freshCell cX kX) := by rw [← hT1]; exact State.heap_pushCell_size _ _
  have hcat : (Value.ref T.heap.size).category = 1 := rfl
  have d3' : decode c.code (pc + 3) = .ok (.dup, 1) := by rw [hb]; exact d3
  have zstr : vk_R own is text sa z := vk_R.warm zW hstr
  obtain ⟨U, hsteps, hrun, hend, hWU, hsame, ce, hce, hO⟩ := X₁.ctorThrowS hexec htr (own := own) (cls := xN k) (names := names) (ic := ic) zown hfit hnames zo (fun x hx => nomatch hx) hfX hkX hcellA (by rw [zh, hT]; exact Nat.le_refl _) (msg := .ref sa) rfl
    (g := { method := m, pc := pc + 6, locals := ls, stack := .ref sa :: .ref T.heap.size :: .ref T.heap.size :: rest, locked := none }) rfl hsize rfl rfl (rest := rest) rfl
    (by rw [hb]; exact d6) (by rw [hb]; exact d9) hout hRf (by simp only [List.map_cons, List.sum_cons, hcat]; omega) hlocks
  obtain ⟨f1, f2⟩ := x_sameHeap hsame
  rw [zh] at f1 f2
  have hWs : s.WarmedH U.vm := State.WarmedH.trans zW hWU
  have hcl : s.vm.findClass (xN k) = some ce.cls := by rw [← zv]; exact hO.cls
  have hall : s.sameButNew ({ U with vm := s.vm } : State) locs mc ms := by
    subst hz
    obtain ⟨e1, e2⟩ := hsame
    unfold xNow at e1 e2
    rw [State.setFrames_setFrames] at e1
    have h2 : (T.setVm s.vm).sameButNew ({ U with vm := s.vm } : State) [] (0 + 1) (0 + 6) := ⟨e1, e2⟩
    have h3 := X.same.trans h2
    rw [List.append_nil] at h3
    exact h3.mono hc hs
  have hF : va_F A s U := ⟨Nat.le_trans hS.1 f1, fun q h1 h2 => (f2 q (Nat.lt_of_lt_of_le h1 hS.1)).trans (hS.2.1 q h1 h2)⟩
  refine ⟨U, ?_, .threw T.heap.size, hrun, hend, Or.inr ⟨hk0, T.heap.size, ce, rfl, hce, hO.vm, hcl⟩, hB U hWs f1 f2, hF, hWs, locs, hall, hS.2.2⟩
  refine st1 _ ?_
  show Steps p.tables e below (T1.setTop { method := m, pc := pc + 3, locals := ls, stack := .ref T.heap.size :: rest, locked := none }) _
  jvm_step X₁.here [X₁.here.top, hexec, d3', Value.category]
  exact X₁.ldcString hexec (own := own) (text := text) (index := is) (a := sa) zown zstr.1 zstr.2
    (g := { method := m, pc := pc + 4, locals := ls, stack := .ref T.heap.size :: .ref T.heap.size :: rest, locked := none }) rfl (by rw [hb]; exact d4) _ hsteps
end XThrow2
section XCatch
/-- one row of a table, its component linked or not yet: it catches, or the search goes on; the tables know the link from then on -/
theorem x_row {Q : Handler → Pre} {E : CtlPost} {e : Env} {d : Bool} {acts : List Action} {S : State} {f : JFrame} {a : Addr} {x : ExceptionTableEntry} {t : List ExceptionTableEntry} {k : ClassId} {cell : Cell} (hx : covers x f.pc = true) (h0 : x.catchType ≠ 0)
    (hl : S.vm.ClassLinks e.platform f.method.cls x.catchType k) (hcell : S.heap[a]? = some cell) (hobj : ∀ z, cell.vm ≠ .statics z) (hc : ∃ z, S.vm.classes[cell.cls]? = some z) (hk : ∃ z, S.vm.classes[k]? = some z) :
    wp (findHandler.go f a (x :: t)) Q E e d acts S ↔ if S.vm.assignable cell.cls k = true then Q (.found x.handlerPc) d acts (S.setVm (S.vm.noted f.method.cls x.catchType (.cls k))) else wp (findHandler.go f a t) Q E e d acts (S.setVm (S.vm.noted f.method.cls x.catchType (.cls k))) := by
  simp only [covers] at hx
  obtain ⟨ha, ht⟩ := (resolveClass_links e.toSetting hl).op (op := VmOp.resolveClass f.method.cls x.catchType) rfl
  have hal : S.vm.Alike (S.vm.noted f.method.cls x.catchType (.cls k)) := (Vm.Alike.refl S.vm).noted _ _ _
  obtain ⟨z1, hz1⟩ := hc
  obtain ⟨z2, hz2⟩ := hk
  obtain ⟨y1, hy1, -⟩ := hal.2.2 _ _ hz1
  obtain ⟨y2, hy2, -⟩ := hal.2.2 _ _ hz2
  have hsame : (S.vm.noted f.method.cls x.catchType (.cls k)).assignable cell.cls k = S.vm.assignable cell.cls k := hal.assignable ..
  cases hq : S.vm.assignable cell.cls k <;> rw [hq] at hsame <;>
    simp [findHandler.go, hx, h0, ha, ht, hcell, hobj, hy1, hy2, hsame, VmOp.dirties, VmOp.acts]
/-- a row that names the component nm -/
def xRow (s : State) (args : Array Value) (own : String) (pc : Nat) (x : ExceptionTableEntry) (nm : String) : Prop := covers x pc = true ∧ x.catchType ≠ 0 ∧ (Cond.classLink own x.catchType nm).before args s = true
/-- the search: rows of other classes, then one that takes the object -/
theorem x_search {e : Env} (hpl : e.platform.magicAccessors = ({} : Platform).magicAccessors) {s : State} {args : Array Value} {own : String} {f : JFrame} {a : Addr} {cell : Cell} {E9 : String} (hown : s.vm.findClass own = some f.method.cls) (hobj : ∀ z, cell.vm ≠ .statics z) (hcl : s.vm.findClass E9 = some cell.cls)
    (x : ExceptionTableEntry) (rest : List ExceptionTableEntry) (nm : String) (hx : xRow s args own f.pc x nm) (hfit : (Cond.castable E9 nm).before args s = true) :
    ∀ (pre : List (ExceptionTableEntry × String)) (S : State), s.WarmedH S.vm → S.heap[a]? = some cell → (∀ y ∈ pre, xRow s args own f.pc y.1 y.2 ∧ (Cond.not (.castable E9 y.2)).before args s = true) →
      ∃ vm', s.WarmedH vm' ∧ ∀ (Q : Handler → Pre) (E : CtlPost) (d : Bool) (acts : List Action), wp (findHandler.go f a (pre.map (·.1) ++ x :: rest)) Q E e d acts S ↔ Q (.found x.handlerPc) d acts (S.setVm vm') := by
  obtain ⟨k9, hk9, -⟩ := Vm.findClass_spec hcl
  intro pre
  induction pre with
  | nil =>
    intro S hW hcell _
    obtain ⟨hcov, h0, hlink⟩ := hx
    obtain ⟨c', hc', hl⟩ := Cond.classLink_spec hown hlink e.platform hpl
    obtain ⟨c3, c4, h3, h4, hasg⟩ := Cond.castable_spec hfit
    cases Option.some.inj (h3.symm.trans hcl)
    cases Option.some.inj (h4.symm.trans hc')
    obtain ⟨dk, _, _, kt, hd, _, _, _, _, hkt, _, hopen⟩ := hl.here
    obtain ⟨k9', hk9', -⟩ := hW.alike.2.2 _ _ hk9
    obtain ⟨kt', hkt', -⟩ := hW.alike.2.2 _ _ hkt
    refine ⟨_, hW.noted hd hopen (State.rightAt_cls hl), fun Q E d acts => ?_⟩
    rw [List.map_nil, List.nil_append, x_row hcov h0 (hW.classLinks hl) hcell hobj ⟨k9', hk9'⟩ ⟨kt', hkt'⟩, if_pos (by rw [hW.alike.assignable]; exact hasg)]
  | cons y ys ih =>
    intro S hW hcell hpre
    obtain ⟨⟨hcov, h0, hlink⟩, hno⟩ := hpre y List.mem_cons_self
    obtain ⟨c', hc', hl⟩ := Cond.classLink_spec hown hlink e.platform hpl
    have hv := Cond.holds_not_iff.mp hno
    simp only [Cond.value, hcl, hc'] at hv
    have hv := Option.some.inj hv
    obtain ⟨dk, _, _, kt, hd, _, _, _, _, hkt, _, hopen⟩ := hl.here
    obtain ⟨k9', hk9', -⟩ := hW.alike.2.2 _ _ hk9
    obtain ⟨kt', hkt', -⟩ := hW.alike.2.2 _ _ hkt
    obtain ⟨vm', hW', hq⟩ := ih (S.setVm (S.vm.noted f.method.cls y.1.catchType (.cls c'))) (hW.noted hd hopen (State.rightAt_cls hl)) hcell (fun z hz => hpre z (List.mem_cons_of_mem _ hz))
    refine ⟨vm', hW', fun Q E d acts => ?_⟩
    rw [List.map_cons, List.cons_append, x_row hcov h0 (hW.classLinks hl) hcell hobj ⟨k9', hk9'⟩ ⟨kt', hkt'⟩, if_neg (by rw [hW.alike.assignable, hv]; decide)]
    exact hq Q E d acts
/-- a step of the throwing thread into the handler -/
theorem x_into {tb : Tables} {e : Env} {s target : State} {g : JFrame} {c : Code} {below : List Frame} {a : Addr} (h : At s g.method c below) {pc : Nat} {vm' : Vm}
    (hfind : ∀ (Q : Handler → Pre) (E : CtlPost) (d : Bool) (acts : List Action), wp (findHandler g a) Q E e d acts ((s.setTop g).pushFrame (.throwing a)) ↔ Q (.found pc) d acts (((s.setTop g).pushFrame (.throwing a)).setVm vm'))
    (hrest : Steps tb e below ((s.setVm vm').setTop { g with pc := pc, stack := [.ref a] }) target) : Steps tb e below ((s.setTop g).pushFrame (.throwing a)) target := by
  obtain ⟨hgo, hw⟩ := h.throwing a
  refine Steps.head hgo hw ?_
  rw [stepThread_throwing (frames_entered h.top _)]
  obtain ⟨g₀, hg⟩ := Option.isSome_iff_exists.mp h.top
  obtain ⟨r, hr⟩ := State.topJava?_eq_some.mp hg
  have hstep : (stepThrowing e ((s.setTop g).pushFrame (.throwing a)) a (.java g :: s.frames.tail)).Is ((((s.setTop g).pushFrame (.throwing a)).setVm vm').setFrames (.java { g with pc := pc, stack := [.ref a] } :: s.frames.tail)) [] := by
    simp only [stepThrowing, searchFrame, vmDo]
    generalize hres : Sem.go _ e false [] ((s.setTop g).pushFrame (.throwing a)) = res
    obtain ⟨as, rfl, ha⟩ := Sem.eq_ok_of hres (a := Handler.found pc) (s' := ((s.setTop g).pushFrame (.throwing a)).setVm vm') (acts' := []) (by simp [hfind _ _ _ _])
    exact ⟨rfl, ha⟩
  rw [hstep.1]
  have hr' : (s.setVm vm').frames = .java g₀ :: r := hr
  rw [State.setTop_of_frames _ hr'] at hrest
  have hfs : ∀ (u : State) (F G : List Frame), ((u.setFrames F).setVm vm').setFrames G = (u.setVm vm').setFrames G := fun u F G => by
    have h1 : (u.setFrames F).setVm vm' = (u.setVm vm').setFrames F := rfl
    rw [h1, State.setFrames_setFrames]
  rw [hr, List.tail_cons, State.pushFrame, hfs, State.setTop_of_frames _ hr, hfs]
  exact hrest
variable {p : Program} {l : Launch} {e : Env} {R : Room} {s : State} {m : MethodId} {args : Array Value} {below : List Frame} {meth : Method} {c : Code} {H : Heap} {locs : List Loc} {cells slots : Nat} {Q : State → Prop} {ls : Array Slot} {rest : List Value} {pc : Nat}
/-- caught: the walk goes on at the handler -/
theorem x_catch {own nm : String} {k : Nat} {ce : Cell} {q : Addr} (hown : s.vm.findClass own = some m.cls) (pre : List (ExceptionTableEntry × String)) (x : ExceptionTableEntry) (suf : List ExceptionTableEntry) (hsplit : c.exceptionTable.toList = pre.map (·.1) ++ x :: suf)
    (hpre : ∀ y ∈ pre, xRow s args own pc y.1 y.2 ∧ (Cond.not (.castable (xN k) y.2)).before args s = true) (hx : xRow s args own pc x nm) (hfit : (Cond.castable (xN k) nm).before args s = true) (hcell : H[q]? = some ce) (hv : ce.vm = .none) (hcl : s.vm.findClass (xN k) = some ce.cls)
    (kk : W p l e R s m args below meth c H locs cells slots Q (F0 m x.handlerPc ls [.ref q])) : xW p l e R s m args below meth c H locs cells slots Q (F0 m pc ls rest) q := by
  intro T hT X
  have hpl : e.platform.magicAccessors = ({} : Platform).magicAccessors := by rw [X.admits.platform]
  obtain ⟨vm', hW', hq⟩ := x_search hpl (f := F0 m pc ls rest) (a := q) hown (VmData.ne_statics_of (by rw [hv]; rfl)) hcl x suf nm hx hfit pre (((T.setTop (F0 m pc ls rest)).pushFrame (.throwing q))) X.warmed (by show T.heap[q]? = some ce; rw [hT]; exact hcell) hpre
  obtain ⟨t, a1, b1⟩ := kk (T.setVm vm') hT (X.noted hW')
  refine ⟨t, x_into (g := F0 m pc ls rest) (pc := x.handlerPc) (vm' := vm') X.here (fun Q9 E9 d acts => ?_) a1, b1⟩
  rw [W.findHandler_eq (meth := meth) (code := c) X.method' X.code, hsplit]
  exact hq Q9 E9 d acts
end XCatch
