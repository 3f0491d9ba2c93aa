/-! What a state of the component is: its cells, and the mathematical value behind them; calls in a world. Own rows. -/
theorem j_p1 {α β : Type} {a : α} {b : β} {r : α × β} (h : (a, b) = r) : a = r.1 := by rw [← h]
theorem j_p2 {α β : Type} {a : α} {b : β} {r : α × β} (h : (a, b) = r) : b = r.2 := by rw [← h]
def jcp (sp dp n : Int32) (n0 n1 : Nat) : Bool := decide (¬ sp < 0 ∧ ¬ dp < 0 ∧ ¬ n < 0 ∧ sp.toNatClampNeg + n.toNatClampNeg ≤ n0 ∧ dp.toNatClampNeg + n.toNatClampNeg ≤ n1)
theorem j_cp {sp dp n : Int32} {n0 n1 : Nat} (h : jcp sp dp n n0 n1 = true) : ¬ sp < 0 ∧ ¬ dp < 0 ∧ ¬ n < 0 ∧ sp.toNatClampNeg + n.toNatClampNeg ≤ n0 ∧ dp.toNatClampNeg + n.toNatClampNeg ≤ n1 := of_decide_eq_true h
/-- disk's bytes, memory's bytes, the pending blocks, pendingCount, writes, writesToFailure, isOff, commits -/
abbrev CS : Type := By × By × (Nat → Int32) × Int32 × Int32 × Int32 × Int32 × Int32
def c_D (σ : CS) : By := σ.1
def c_M (σ : CS) : By := σ.2.1
def c_P (σ : CS) : Nat → Int32 := σ.2.2.1
def c_n (σ : CS) : Int32 := σ.2.2.2.1
def c_w (σ : CS) : Int32 := σ.2.2.2.2.1
def c_f (σ : CS) : Int32 := σ.2.2.2.2.2.1
def c_o (σ : CS) : Int32 := σ.2.2.2.2.2.2.1
def c_c (σ : CS) : Int32 := σ.2.2.2.2.2.2.2
def s_D (σ : CS) (x : By) : CS := (x, σ.2)
def s_M (σ : CS) (x : By) : CS := (σ.1, x, σ.2.2)
def s_P (σ : CS) (x : Nat → Int32) : CS := (σ.1, σ.2.1, x, σ.2.2.2)
def s_n (σ : CS) (x : Int32) : CS := (σ.1, σ.2.1, σ.2.2.1, x, σ.2.2.2.2)
def s_w (σ : CS) (x : Int32) : CS := (σ.1, σ.2.1, σ.2.2.1, σ.2.2.2.1, x, σ.2.2.2.2.2)
def s_f (σ : CS) (x : Int32) : CS := (σ.1, σ.2.1, σ.2.2.1, σ.2.2.2.1, σ.2.2.2.2.1, x, σ.2.2.2.2.2.2)
def s_o (σ : CS) (x : Int32) : CS := (σ.1, σ.2.1, σ.2.2.1, σ.2.2.2.1, σ.2.2.2.2.1, σ.2.2.2.2.2.1, x, σ.2.2.2.2.2.2.2)
def s_c (σ : CS) (x : Int32) : CS := (σ.1, σ.2.1, σ.2.2.1, σ.2.2.2.1, σ.2.2.2.2.1, σ.2.2.2.2.2.1, σ.2.2.2.2.2.2.1, x)
/-- the component's cells: LogFs, Disk, Memory, Volume, the disk's Blocks, the memory's, their bytes, pending -/
abbrev wC (ga : Nat → Nat) (cB cI : ClassId) (σ : CS) : va_W := [
  (ga 0, .inr (4, [.ref (ga 1), .ref (ga 2), .ref (ga 3), .int (c_c σ)])),
  (ga 1, .inr (1, [.ref (ga 4), .int (c_w σ), .int (c_f σ), .int (c_o σ)])),
  (ga 2, .inr (2, [.ref (ga 5), .ref (ga 8), .int (c_n σ)])),
  (ga 3, .inr (3, [.ref (ga 2), .ref (ga 5)])),
  (ga 4, .inr (0, [.ref (ga 6)])),
  (ga 5, .inr (0, [.ref (ga 7)])),
  (ga 6, .inl (cB, 8192, .inl (fun j => (c_D σ j).toInt32))),
  (ga 7, .inl (cB, 8192, .inl (fun j => (c_M σ j).toInt32))),
  (ga 8, .inl (cI, 15, .inl (c_P σ)))]
/-- the disk's cells while it is made: Disk, Blocks, bytes -/
abbrev ZS : Type := By × Int32 × Int32 × Int32
def z_D (σ : ZS) : By := σ.1
def z_w (σ : ZS) : Int32 := σ.2.1
def z_f (σ : ZS) : Int32 := σ.2.2.1
def z_o (σ : ZS) : Int32 := σ.2.2.2
def sz_D (σ : ZS) (x : By) : ZS := (x, σ.2)
def sz_w (σ : ZS) (x : Int32) : ZS := (σ.1, x, σ.2.2)
def sz_f (σ : ZS) (x : Int32) : ZS := (σ.1, σ.2.1, x, σ.2.2.2)
def sz_o (σ : ZS) (x : Int32) : ZS := (σ.1, σ.2.1, σ.2.2.1, x)
abbrev wZ (ga : Nat → Nat) (cB cI : ClassId) (σ : ZS) : va_W := [
  (ga 1, .inr (1, [.ref (ga 4), .int (z_w σ), .int (z_f σ), .int (z_o σ)])),
  (ga 4, .inr (0, [.ref (ga 6)])),
  (ga 6, .inl (cB, 8192, .inl (fun j => (z_D σ j).toInt32)))]
/-- the reference's: thrown, disk, memory, pending, pendings, writes, commits, left, off, failed, name, page -/
abbrev RS : Type := Int32 × By × By × (Nat → Int32) × Int32 × Int32 × Int32 × Int32 × Int32 × Int32 × By × By
def r_t (σ : RS) : Int32 := σ.1
def r_D (σ : RS) : By := σ.2.1
def r_M (σ : RS) : By := σ.2.2.1
def r_P (σ : RS) : Nat → Int32 := σ.2.2.2.1
def r_n (σ : RS) : Int32 := σ.2.2.2.2.1
def r_w (σ : RS) : Int32 := σ.2.2.2.2.2.1
def r_c (σ : RS) : Int32 := σ.2.2.2.2.2.2.1
def r_l (σ : RS) : Int32 := σ.2.2.2.2.2.2.2.1
def r_o (σ : RS) : Int32 := σ.2.2.2.2.2.2.2.2.1
def r_f (σ : RS) : Int32 := σ.2.2.2.2.2.2.2.2.2.1
def r_N (σ : RS) : By := σ.2.2.2.2.2.2.2.2.2.2.1
def r_G (σ : RS) : By := σ.2.2.2.2.2.2.2.2.2.2.2
def q_t (σ : RS) (x : Int32) : RS := (x, σ.2)
def q_D (σ : RS) (x : By) : RS := (σ.1, x, σ.2.2)
def q_M (σ : RS) (x : By) : RS := (σ.1, σ.2.1, x, σ.2.2.2)
def q_P (σ : RS) (x : Nat → Int32) : RS := (σ.1, σ.2.1, σ.2.2.1, x, σ.2.2.2.2)
def q_n (σ : RS) (x : Int32) : RS := (σ.1, σ.2.1, σ.2.2.1, σ.2.2.2.1, x, σ.2.2.2.2.2)
def q_w (σ : RS) (x : Int32) : RS := (σ.1, σ.2.1, σ.2.2.1, σ.2.2.2.1, σ.2.2.2.2.1, x, σ.2.2.2.2.2.2)
def q_c (σ : RS) (x : Int32) : RS := (σ.1, σ.2.1, σ.2.2.1, σ.2.2.2.1, σ.2.2.2.2.1, σ.2.2.2.2.2.1, x, σ.2.2.2.2.2.2.2)
def q_l (σ : RS) (x : Int32) : RS := (σ.1, σ.2.1, σ.2.2.1, σ.2.2.2.1, σ.2.2.2.2.1, σ.2.2.2.2.2.1, σ.2.2.2.2.2.2.1, x, σ.2.2.2.2.2.2.2.2)
def q_o (σ : RS) (x : Int32) : RS := (σ.1, σ.2.1, σ.2.2.1, σ.2.2.2.1, σ.2.2.2.2.1, σ.2.2.2.2.2.1, σ.2.2.2.2.2.2.1, σ.2.2.2.2.2.2.2.1, x, σ.2.2.2.2.2.2.2.2.2)
def q_f (σ : RS) (x : Int32) : RS := (σ.1, σ.2.1, σ.2.2.1, σ.2.2.2.1, σ.2.2.2.2.1, σ.2.2.2.2.2.1, σ.2.2.2.2.2.2.1, σ.2.2.2.2.2.2.2.1, σ.2.2.2.2.2.2.2.2.1, x, σ.2.2.2.2.2.2.2.2.2.2)
def q_N (σ : RS) (x : By) : RS := (σ.1, σ.2.1, σ.2.2.1, σ.2.2.2.1, σ.2.2.2.2.1, σ.2.2.2.2.2.1, σ.2.2.2.2.2.2.1, σ.2.2.2.2.2.2.2.1, σ.2.2.2.2.2.2.2.2.1, σ.2.2.2.2.2.2.2.2.2.1, x, σ.2.2.2.2.2.2.2.2.2.2.2)
def q_G (σ : RS) (x : By) : RS := (σ.1, σ.2.1, σ.2.2.1, σ.2.2.2.1, σ.2.2.2.2.1, σ.2.2.2.2.2.1, σ.2.2.2.2.2.2.1, σ.2.2.2.2.2.2.2.1, σ.2.2.2.2.2.2.2.2.1, σ.2.2.2.2.2.2.2.2.2.1, σ.2.2.2.2.2.2.2.2.2.2.1, x)
/-- the reference's cells: the object, disk, memory, pending, name, page -/
abbrev wR (gr : Nat → Nat) (cB cI : ClassId) (σ : RS) : va_W := [
  (gr 0, .inr (5, [.int (r_t σ), .ref (gr 1), .ref (gr 2), .ref (gr 3), .int (r_n σ), .int (r_w σ), .int (r_c σ), .int (r_l σ), .int (r_o σ), .int (r_f σ), .ref (gr 4), .ref (gr 5)])),
  (gr 1, .inl (cB, 8192, .inl (fun j => (r_D σ j).toInt32))),
  (gr 2, .inl (cB, 8192, .inl (fun j => (r_M σ j).toInt32))),
  (gr 3, .inl (cI, 128, .inl (r_P σ))),
  (gr 4, .inl (cB, 8, .inl (fun j => (r_N σ j).toInt32))),
  (gr 5, .inl (cB, 64, .inl (fun j => (r_G σ j).toInt32)))]
abbrev tC (cB cI : ClassId) : List (ClassId × FieldType) := [(cB, .byte), (cI, .int)]
/-- a world, and the tables beside it -/
def kW (D : va_G) (tys : List (ClassId × FieldType)) (ws : va_W) (U : State) : Prop := va_P D cls ws U.heap ∧ va_K D cls tys U
theorem kW_blind {D : va_G} {tys : List (ClassId × FieldType)} {ws : va_W} {av : List Value} : FrameBlind (va_Pc av (kW D tys ws)) := fun a U g mk q => ⟨q.1, q.2.1, va_K.moved (u := U) (U := U.calling g mk a) (Vm.Alike.refl U.vm) q.2.2⟩
theorem kW_S {D : va_G} {tys : List (ClassId × FieldType)} {ws : va_W} {s : State} {H : Heap} {As : List Value} (hP : va_P D cls ws H) (hK : va_K D cls tys s) : PreS s H (va_Pc As (kW D tys ws)) As :=
  ⟨kW_blind, fun U hU hW => ⟨rfl, by rw [hU]; exact hP, va_K.moved hW.alike hK⟩⟩
theorem kW_V {D : va_G} {tys : List (ClassId × FieldType)} {ws : va_W} {s : State} {H : Heap} {C : String} {b : Nat} {As : List Value} (hP : va_P D cls ws H) (hK : va_K D cls tys s) (hr : ∃ cell : Cell, H[b]? = some cell ∧ cell.vm.isStatics = false ∧ s.vm.findClass C = some cell.cls) : PreV s H C b (va_Pc (.ref b :: As) (kW D tys ws)) As :=
  ⟨kW_blind, hr, fun U hU hW => ⟨rfl, by rw [hU]; exact hP, va_K.moved hW.alike hK⟩⟩
theorem kW_end {D : va_G} {tys : List (ClassId × FieldType)} {ws ws' : va_W} {s t : State} {H : Heap} (hP : va_P D cls ws H) (hK : va_K D cls tys s) (ht : t.heap = H) (hW : s.WarmedH t.vm) (e : ws = ws') : kW D tys ws' t := by
  subst e
  exact ⟨by rw [ht]; exact hP, va_K.moved hW.alike hK⟩
theorem kW_P {D : va_G} {tys : List (ClassId × FieldType)} {ws : va_W} {t : State} {H : Heap} (h : kW D tys ws t) (ht : t.heap = H) : va_P D cls ws H := by rw [← ht]; exact h.1
/-- every method's words: its own code, and tb -/
abbrev mw (y : MethodName) (bytes : ByteArray) (maxL : Nat) (ret : Option FieldType) : List Cond := Cond.code y bytes maxL ret :: tb
section XCW
variable {R : Room} {s : State} {args : Array Value} {own C host : String} {index maxL mc ms : Nat} {y : MethodName} {bytes : ByteArray} {ret : Option FieldType} {rm : Room}
theorem tb_at (htb : ∀ w ∈ tb, w.before args s = true) {w : Cond} (h : w ∈ tb) (a' : Array Value) (U : State) (hW : s.WarmedH U.vm) : w.before a' U = true := x_wordAt hW (List.mem_filter.mp h).2 (htb w h)
theorem mw_at (htb : ∀ w ∈ tb, w.before args s = true) (hc : Cond.code y bytes maxL ret ∈ tb) : ∀ w ∈ mw y bytes maxL ret, ∀ (a' : Array Value) (U : State), s.WarmedH U.vm → w.before a' U = true := fun w hw a' U hW =>
  tb_at htb (by rcases List.mem_cons.mp hw with h | h; · rw [h]; exact hc
                exact h) a' U hW
theorem xcB (n : Nat) (htb : ∀ w ∈ tb, w.before args s = true) (hc : Cond.code y bytes maxL ret ∈ tb) (hini : Cond.initialized y.cls ∈ tb) (hl : Cond.methodLink own index y ∈ tb) (hrc : rm.cells = mc) (hrs : rm.slots = ms)
    (hd : y.cls ≠ "java/lang/invoke/MethodHandle" ∧ y.cls ≠ "java/lang/invoke/VarHandle" ∧ (parseMethodDescriptor y.desc).map (fun d => d.parameters.length) = some n) (hR : rm.frames + 1 ≤ R.frames ∧ 8 + (maxL + 11) + rm.locals ≤ R.locals) :
    CallB R s args own index y bytes maxL ret (mw y bytes maxL ret) rm mc ms n := by
  refine ⟨hrc, hrs, hR.1, hR.2, mw_at htb hc, List.mem_cons_self, htb _ hc, htb _ hini, ⟨hd.1, hd.2.1⟩, fun sig h => ?_, htb _ hl⟩
  have h2 := hd.2.2
  rw [h] at h2
  exact (Option.some.inj h2).symm
theorem xcV (n : Nat) (htb : ∀ w ∈ tb, w.before args s = true) (hc : Cond.code y bytes maxL ret ∈ tb) (hini : Cond.initialized y.cls ∈ tb) (hl : Cond.methodLink own index y ∈ tb) (hin : Cond.instanceMethod y ∈ tb) (hse : Cond.selects C y y ∈ tb) (hrc : rm.cells = mc) (hrs : rm.slots = ms)
    (hd : y.cls ≠ "java/lang/invoke/MethodHandle" ∧ y.cls ≠ "java/lang/invoke/VarHandle" ∧ (parseMethodDescriptor y.desc).map (fun d => d.parameters.length) = some n) (hR : rm.frames + 1 ≤ R.frames ∧ 8 + (maxL + 11) + rm.locals ≤ R.locals) :
    CallW R s args own C index y bytes maxL ret (mw y bytes maxL ret) rm mc ms n := ⟨xcB n htb hc hini hl hrc hrs hd hR, htb _ hin, htb _ hse⟩
theorem xcS (n : Nat) (htb : ∀ w ∈ tb, w.before args s = true) (hc : Cond.code y bytes maxL ret ∈ tb) (hini : Cond.initialized y.cls ∈ tb) (hl : Cond.methodLink own index y ∈ tb) (hst : Cond.static y ∈ tb) (hrc : rm.cells = mc) (hrs : rm.slots = ms)
    (hd : y.cls ≠ "java/lang/invoke/MethodHandle" ∧ y.cls ≠ "java/lang/invoke/VarHandle" ∧ (parseMethodDescriptor y.desc).map (fun d => d.parameters.length) = some n) (hR : rm.frames + 1 ≤ R.frames ∧ 8 + (maxL + 11) + rm.locals ≤ R.locals) :
    CallB R s args own index y bytes maxL ret (mw y bytes maxL ret) rm mc ms n ∧ (Cond.static y).before args s = true := ⟨xcB n htb hc hini hl hrc hrs hd hR, htb _ hst⟩
theorem xcI (n : Nat) (htb : ∀ w ∈ tb, w.before args s = true) (hc : Cond.code y bytes maxL none ∈ tb) (hini : Cond.initialized y.cls ∈ tb) (hl : Cond.methodLink own index y ∈ tb) (hin : Cond.instanceMethod y ∈ tb) (hy : y.name = "<init>") (hrc : rm.cells = mc) (hrs : rm.slots = ms)
    (hd : y.cls ≠ "java/lang/invoke/MethodHandle" ∧ y.cls ≠ "java/lang/invoke/VarHandle" ∧ (parseMethodDescriptor y.desc).map (fun d => d.parameters.length) = some n) (hR : rm.frames + 1 ≤ R.frames ∧ 8 + (maxL + 11) + rm.locals ≤ R.locals) :
    CallB R s args own index y bytes maxL none (mw y bytes maxL none) rm mc ms n ∧ y.name = "<init>" ∧ (Cond.instanceMethod y).before args s = true := ⟨xcB n htb hc hini hl hrc hrs hd hR, hy, htb _ hin⟩
theorem xcSN (n : Nat) (htb : ∀ w ∈ tb, w.before args s = true) (hc : Cond.code y bytes maxL ret ∈ tb) (hini : Cond.initialized y.cls ∈ tb) (hl : Cond.methodLinkNest own index y host ∈ tb) (hst : Cond.static y ∈ tb) (hrc : rm.cells = mc) (hrs : rm.slots = ms)
    (hd : y.cls ≠ "java/lang/invoke/MethodHandle" ∧ y.cls ≠ "java/lang/invoke/VarHandle" ∧ (parseMethodDescriptor y.desc).map (fun d => d.parameters.length) = some n) (hR : rm.frames + 1 ≤ R.frames ∧ 8 + (maxL + 11) + rm.locals ≤ R.locals) :
    va_CN R s args own index y host bytes maxL ret (mw y bytes maxL ret) rm mc ms n ∧ (Cond.static y).before args s = true ∧ True := by
  refine ⟨⟨⟨hrc, hrs, hR.1, hR.2, mw_at htb hc, List.mem_cons_self⟩, htb _ hc, htb _ hini, ⟨hd.1, hd.2.1⟩, fun sig h => ?_, htb _ hl⟩, htb _ hst, trivial⟩
  have h2 := hd.2.2
  rw [h] at h2
  exact (Option.some.inj h2).symm
end XCW
theorem mwIn {w : Cond} {y : MethodName} {bytes : ByteArray} {maxL : Nat} {ret : Option FieldType} (h : w ∈ tb) : w ∈ mw y bytes maxL ret := List.mem_cons_of_mem _ h
