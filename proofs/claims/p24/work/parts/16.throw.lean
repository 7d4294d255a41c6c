/-! ===== own rows: a method that throws, a call of such a one, a handler whose class may not have been looked up yet ===== -/
section TH
variable {p : Program} {l : Launch} {e : Env} {R : Room} {s : State} {m : MethodId} {args : Array Value} {below : List Frame} {meth : Method} {c : Code} {H : Heap} {locs : List Loc} {cells slots : Nat} {Q : State → Prop}
def th_E (st t : State) (L : List Loc) (k n : Nat) : Prop := st.WarmedH t.vm ∧ st.sameButNew ({ t with vm := st.vm } : State) L k n
def MetT (l : Launch) (y : MethodName) (ws : List Cond) (rm : Room) (Pc : Array Value → State → Prop) (Qc : Array Value → State → Addr → State → Prop) (mc ms : Nat) (free : Addr → Prop) : Prop :=
  MetFree l y (headSpec ws rm) Pc (fun _ _ _ _ _ => True) (fun a st o t => ∃ x, o = .threw x ∧ Qc a st x t ∧ ∃ L, th_E st t L mc ms ∧ ∀ q ∈ L, free q.base)
def MQT (below : List Frame) (Qc : Array Value → State → Addr → State → Prop) (a : Array Value) (s : State) (mc ms : Nat) (free : Addr → Prop) : State → Prop := fun t =>
  ∃ x, t.status = .running ∧ Ended t below (.threw x) ∧ Qc a s x t ∧ ∃ L, th_E s t L mc ms ∧ ∀ q ∈ L, free q.base
theorem MetT.ofW {y : MethodName} {ws ws' : List Cond} {rm : Room} {Pc : Array Value → State → Prop} {Qc : Array Value → State → Addr → State → Prop} {mc ms : Nat} {free : Addr → Prop} {cc : ByteArray} {maxL : Nat} {ret : Option FieldType}
    (hy : plainName y.cls = true) (hw : ws = Cond.code y cc maxL ret :: ws')
    (body : ∀ p e s m args below meth c s₁, BodyLoose p l y (headSpec ws rm) cc maxL ret e s m args below meth c s₁ → c.maxLocals = maxL → Pc args s →
      W p l e (headSpec ws rm).room s m args below meth c s.heap [] 0 0 (MQT below Qc args s mc ms free) (entryFrame m args maxL)) : MetT l y ws rm Pc Qc mc ms free := by
  refine MetFree.of_bodyS (code := cc) (maxLocals := maxL) (ret := ret) hy ?_ ?_
  · intro args s m h hn
    obtain ⟨meth, c, h1, h2, h3, h4, h5, h6, -, -⟩ := Cond.code_spec hn (atoms_spec (ws := ws) h _ (by rw [hw]; exact List.mem_cons_self))
    exact ⟨meth, c, h1, h2, h3, h4, h5, h6⟩
  · intro p e s m args below meth c s₁ B hml hP _
    have hh0 : s₁.heap = s.heap := by rw [B.state]; rfl
    obtain ⟨t, a1, x, b1, b2, b3⟩ := body p e s m args below meth c s₁ B hml hP s₁ hh0 (Stand.of_body B)
    exact ⟨t, .threw x, a1, b1, b2, x, rfl, b3⟩
theorem th_out {c : Code} (h : c.exceptionTable.isEmpty = true) (pc : Nat) : ∀ x ∈ c.exceptionTable.toList, covers x pc = false := by
  have h0 : c.exceptionTable.size = 0 := by simpa [Array.isEmpty] using h
  have h1 : c.exceptionTable.toList = [] := List.eq_nil_of_length_eq_zero (by simpa using h0)
  intro x hx
  rw [h1] at hx
  cases hx
/-- athrow, where the method has no handlers -/
theorem th_throw {cc : ByteArray} {Qc : Array Value → State → Addr → State → Prop} {free : Addr → Prop} (hexec : p.tables.exec = Jvm.exec) (hb : c.code = cc) (hno : c.exceptionTable.isEmpty = true) {a : Addr} {rest : List Value}
    (hq : ∀ t : State, t.heap = H → s.WarmedH t.vm → Qc args s a t) (hf : ∀ q ∈ locs, free q.base) {pc : Nat} {ls : Array Slot} (hdg : decode cc pc = .ok (.athrow, 1)) (hlocks : meth.locks = false) :
    W p l e R s m args below meth c H locs cells slots (MQT below Qc args s cells slots free) (F0 m pc ls (.ref a :: rest)) := by
  intro T hT X
  obtain ⟨h1, h2, h3, h4, h5⟩ := X.athrowLeaves hexec (g := F0 m pc ls (.ref a :: rest)) rfl rfl rfl (th_out hno _) (a := a) (rest := rest) rfl (by rw [hb]; exact hdg) hlocks
  exact ⟨_, h1, a, h2, h3, hq _ hT h4, locs, ⟨h4, h5⟩, hf⟩
/-- a call of a throwing method, behind its linkage -/
theorem th_core {T : State} (X : Stand p l e R s m args below meth c T locs cells slots) {g : JFrame} (hg : g.method = m) (hsize : g.locals.size = c.maxLocals) {ig : Instr} {len : Nat} (hdg : decode c.code g.pc = .ok (ig, len))
    {y : MethodName} {mk : MethodId} {a : Array Value} {ws : List Cond} {rm : Room} {Pc : Array Value → State → Prop} {Qc : Array Value → State → Addr → State → Prop} {mc ms : Nat} {free : Addr → Prop} {bytes : ByteArray} {maxL : Nat} {ret : Option FieldType}
    (hM : MetT l y ws rm Pc Qc mc ms free) (hn : T.methodNamed? y = some mk) (hW : 2 * g.monitorRoom + (g.stack.map fun v => v.category).sum ≤ 8)
    (hfr : rm.frames + 1 ≤ R.frames) (hlo : 8 + (maxL + 11) + rm.locals ≤ R.locals) (hrc : rm.cells = mc) (hrs : rm.slots = ms) (hfit : cells + mc ≤ R.cells ∧ slots + ms ≤ R.slots)
    (hws : ∀ w ∈ ws, w.before a T = true) (hcode : (Cond.code y bytes maxL ret).before a T = true) (hini : (Cond.initialized y.cls).before a T = true) (hP : Pc a (T.calling g mk a)) :
    ∃ (x : Addr) (t T' : State) (L : List Loc), Stand p l e R s m args below meth c T' (locs ++ L) (cells + mc) (slots + ms) ∧ (∀ q ∈ L, free q.base) ∧ Qc a (T.calling g mk a) x t ∧ T'.heap = t.heap ∧ T'.vm = t.vm ∧
      Steps p.tables e below (doInvoke e (T.setTop g) [] mk a).1 ((T'.setTop g).pushFrame (.throwing x)) := by
  obtain ⟨methY, cY, hmY, hcY, -, hlY, -, -, -, -⟩ := Cond.code_spec hn hcode
  obtain ⟨kY, hkY, -⟩ := className_of_methodNamed hn
  have hinitY : kY.init = .initialized := Cond.initialized_spec (findClass_of_methodNamed hn) hkY hini
  have h : At T g.method c below := by rw [hg]; exact X.here
  have happ : (headSpec ws rm).appliesLoose y e.platform (T.calling g mk a) = true :=
    Spec.appliesLoose_calling (g := g) h hdg hn hkY hinitY
      (X.room_calling (g := g) (R' := (headSpec ws rm).room) hsize hmY hcY hfr (by rw [hlY]; show _ + (maxL + 11) + rm.locals ≤ _; omega) (by rw [show (headSpec ws rm).room.cells = mc from hrc]; exact hfit.1) (by rw [show (headSpec ws rm).room.slots = ms from hrs]; exact hfit.2)) (atoms_intro hws)
  obtain ⟨mid, hmid⟩ := h.above
  have hfr' : (T.setTop g).frames = (.java g :: mid) ++ below := by rw [State.frames_setTop' g h.top, hmid]; rfl
  obtain ⟨o, s₂, hsteps, -, hend, hq0⟩ := Steps.callFree hM p X.admits X.cas X.clock (acts := []) hfr' happ hP trivial
  obtain ⟨x, rfl, hq, L, ⟨hW2, hsm⟩, hL⟩ := hq0
  rw [State.frames_setTop' g h.top, X.tail] at hend
  obtain ⟨T', X', -, -, ht⟩ := X.outOfThrown (g := g) hg (mk := mk) (a := a) (t := s₂) (x := x) hend hW2 hsm
  refine ⟨x, s₂, T', L, X', hL, hq, ?_, ?_, by rw [← ht]; exact hsteps⟩
  · rw [ht]; exact (Stand.throwing_heap T' g x).symm
  · rw [ht]; exact (Stand.throwing_vm T' g x).symm
/-- what a virtual call of a throwing method gives -/
def th_Run (p : Program) (l : Launch) (e : Env) (R : Room) (s : State) (m : MethodId) (args : Array Value) (below : List Frame) (meth : Method) (c : Code) (H : Heap) (locs : List Loc) (cells slots mc ms : Nat) (g : JFrame) (rest : List Value) (Qa : State → Addr → State → Prop) (free : Addr → Prop) : Prop :=
  ∀ T : State, T.heap = H → Stand p l e R s m args below meth c T locs cells slots → ∃ (x : Addr) (st₀ t T' : State) (L : List Loc), st₀.heap = H ∧ Stand p l e R s m args below meth c T' (locs ++ L) (cells + mc) (slots + ms) ∧ (∀ q ∈ L, free q.base) ∧ T'.heap = t.heap ∧ T'.vm = t.vm ∧ Qa st₀ x t ∧
    ∀ target, Steps p.tables e below ((T'.setTop { g with stack := rest }).pushFrame (.throwing x)) target → Steps p.tables e below (T.setTop g) target
theorem th_runV {y : MethodName} {bytes cc : ByteArray} {maxL nL mc ms n index : Nat} {ret : Option FieldType} {ws : List Cond} {rm : Room} {Pc : Array Value → State → Prop} {Qc : Array Value → State → Addr → State → Prop} {free : Addr → Prop} {Ts : List Cond} {own C : String} {b : Addr} {As rest : List Value} {g : JFrame}
    (S : CallFix p m c cc nL s args Ts own) (hM : MetT l y ws rm Pc Qc mc ms free) (cw : CallW R s args own C index y bytes maxL ret ws rm mc ms n) (hp : PreV s H C b Pc As)
    (hg : g.method = m) (hn : As.length = n) (hsize : g.locals.size = nL) (hstack : g.stack = As.reverse ++ .ref b :: rest) (hW : 2 * g.monitorRoom + (rest.map fun v => v.category).sum ≤ 8) (hdg : decode cc g.pc = .ok (.invokevirtual index, 3)) (hf : cells + mc ≤ R.cells ∧ slots + ms ≤ R.slots) :
    th_Run p l e R s m args below meth c H locs cells slots mc ms g rest (Qc (Value.ref b :: As).toArray) free := by
  obtain ⟨⟨hrc, hrs, hfr, hlo, hws, hcw, hcode, hini, hy, hlen, hl⟩, hin, hse⟩ := cw
  obtain ⟨hx, hb, hml, ho, -⟩ := S
  obtain ⟨hbl, ⟨cellB, hcB, hoB, hclB⟩, hPc⟩ := hp
  intro T hT X
  obtain ⟨mk, methM, hnamed, hmethM, hstM, habM⟩ := Cond.instanceMethod_spec hin
  obtain ⟨methM', cM, hmethM', -, -, -, -, -, -, hsigM⟩ := Cond.code_spec hnamed hcode
  cases hmethM.symm.trans hmethM'
  obtain ⟨c2, r2, m2, q1, q2, q3, q4, kP, hkP, hkPi⟩ := Cond.selects_spec hse
  cases hclB.symm.trans q1
  cases (State.methodFound?_of_named hnamed hy).symm.trans q2
  cases hnamed.symm.trans q3
  have hselP : selectMethod e.platform s.vm cellB.cls mk = .method mk := by rw [Launch.admits_selectMethod X.admits]; exact q4
  obtain ⟨vm₁, X₁, hstep₁⟩ := X.invokevirtual hx ho hl hnamed hmethM hstM hkP hkPi hy (a := b) (cell := cellB) (by rw [hT]; exact hcB)
    (fun z h => by rw [h] at hoB; cases hoB) hselP hmethM habM hkP hkPi (g := g) hg (argsL := As) (rest := rest) (hn.trans (hlen _ hsigM)) hstack (by rw [hb]; exact hdg)
  have hWv : s.WarmedH (T.setVm vm₁).vm := X₁.warmed
  obtain ⟨x, t, T', L, X', hL, hq, e1, e2, hst⟩ := th_core X₁ (g := { g with stack := rest }) hg (hsize.trans hml.symm) (ig := .invokevirtual index) (len := 3) (by rw [hb]; exact hdg) (y := y) (mk := mk) (a := (Value.ref b :: As).toArray) (bytes := bytes) (maxL := maxL) (ret := ret) hM (X₁.named hnamed) hW hfr hlo hrc hrs hf
    (fun w hw => hws w hw _ _ hWv) (hws _ hcw _ _ hWv) (word_at hWv (Or.inl (by first | rfl | simp [Cond.onTables, Cond.keeps, Cond.steady])) hini) (hbl _ _ _ _ (hPc (T.setVm vm₁) hT hWv))
  exact ⟨x, (T.setVm vm₁).calling { g with stack := rest } mk (Value.ref b :: As).toArray, t, T', L, hT, X', hL, e1, e2, hq, fun target h => hstep₁ _ fun acts => by rw [doInvoke_state]; exact hst.trans h⟩
/-- ... and it goes on out of a method that has no handlers -/
theorem th_pass {pc : Nat} {ls : Array Slot} {st0 rest : List Value} {mc ms : Nat} {Qa : State → Addr → State → Prop} {free free2 : Addr → Prop} {Qc : Array Value → State → Addr → State → Prop} (hr : th_Run p l e R s m args below meth c H locs cells slots mc ms (F0 m pc ls st0) rest Qa free)
    (hno : c.exceptionTable.isEmpty = true) (hlocks : meth.locks = false) (hq : ∀ (x : Addr) (st₀ t t2 : State), st₀.heap = H → Qa st₀ x t → t2.heap = t.heap → s.WarmedH t2.vm → Qc args s x t2) (hf : ∀ q ∈ locs, free2 q.base) (hfr : ∀ q, free q → free2 q) :
    W p l e R s m args below meth c H locs cells slots (MQT below Qc args s (cells + mc) (slots + ms) free2) (F0 m pc ls st0) := by
  intro T hT X
  obtain ⟨x, st₀, t, T', L, h0, X', hL, e1, e2, hqa, st⟩ := hr T hT X
  obtain ⟨h1, h2, h3, h4, h5⟩ := X'.leaveThrown x (g := { F0 m pc ls st0 with stack := rest }) rfl rfl rfl (th_out hno _) hlocks
  exact ⟨_, st _ h1, x, h2, h3, hq x st₀ t _ h0 hqa e1 h4, locs ++ L, ⟨h4, h5⟩, fun q hq => by
    rcases List.mem_append.mp hq with h | h
    · exact hf q h
    · exact hfr _ (hL q h)⟩
theorem th_find {s : State} {f : JFrame} {a : Addr} {meth : Method} {code : Code} (hm : s.vm.method? f.method = some meth) (hc : meth.code = some code) {x : ExceptionTableEntry} (htab : code.exceptionTable.toList = [x]) (hx : covers x f.pc = true) (h0 : x.catchType ≠ 0)
    {k : ClassId} {vm' : Vm} (hg : (resolveClass f.method.cls x.catchType).Gives e.toSetting s.vm (.ok k) vm') {cell : Cell} (hcell : s.heap[a]? = some cell) (hobj : ∀ z, cell.vm ≠ .statics z)
    (hk : ∃ z, vm'.classes[cell.cls]? = some z) (hck : ∃ z, vm'.classes[k]? = some z) (hfit : vm'.assignable cell.cls k = true) (hsz : vm'.classes.size ≤ s.vm.classes.size) (Q : Handler → Pre) (E : CtlPost) (d : Bool) (acts : List Action) :
    wp (findHandler f a) Q E e d acts s ↔ Q (.found x.handlerPc) d acts (s.setVm vm') := by
  rw [Jvm.W.findHandler_eq hm hc, htab]
  simp only [covers] at hx
  have hop : (VmOp.resolveClass f.method.cls x.catchType).answer e s.vm = .ok k ∧ (VmOp.resolveClass f.method.cls x.catchType).tables e s.vm = vm' := hg.op rfl
  have hld : (VmOp.resolveClass f.method.cls x.catchType).lands e s = .done (s.setVm vm') := VmOp.lands_eq hop.2 hsz
  simp [findHandler.go, hx, h0, hop.1, hld, VmOp.dirties, VmOp.acts]
  constructor
  · rintro ⟨c9, h1, -, -, -, h5⟩
    cases hcell.symm.trans h1
    exact Eq.mp (if_pos (c := (s.setVm vm').vm.assignable cell.cls k = true) hfit) h5
  · intro h9
    exact ⟨cell, hcell, hobj, hk, hck, Eq.mpr (if_pos (c := (s.setVm vm').vm.assignable cell.cls k = true) hfit) h9⟩
theorem th_catchstep {s : State} {a : Addr} {f : JFrame} {r : List Frame} {pc : Nat} {vm' : Vm} (hfind : ∀ (Q : Handler → Pre) (E : CtlPost) (d : Bool) (acts : List Action), wp (findHandler f a) Q E e d acts s ↔ Q (.found pc) d acts (s.setVm vm')) :
    (stepThrowing e s a (.java f :: r)).Is ((s.setVm vm').setFrames (.java { f with pc := pc, stack := [.ref a] } :: r)) [] := by
  simp only [stepThrowing, searchFrame, vmDo]
  generalize hr : Sem.go _ e false [] s = res
  obtain ⟨as, rfl, ha⟩ := Sem.eq_ok_of hr (a := Handler.found pc) (s' := s.setVm vm') (acts' := []) (by simp [hfind _ _ _ _])
  exact ⟨rfl, ha⟩
theorem th_caught {tb : Tables} {s target : State} {g : JFrame} {c : Code} {a : Addr} (h : At s g.method c below) {pc : Nat} {vm' : Vm} (hfind : ∀ (Q : Handler → Pre) (E : CtlPost) (d : Bool) (acts : List Action), wp (findHandler g a) Q E e d acts ((s.setTop g).pushFrame (.throwing a)) ↔ Q (.found pc) d acts (((s.setTop g).pushFrame (.throwing a)).setVm vm'))
    (hrest : Steps tb e below ((s.setVm vm').setTop { g with pc := pc, stack := [.ref a] }) target) : Steps tb e below ((s.setTop g).pushFrame (.throwing a)) target := by
  obtain ⟨hgo, hw⟩ := h.throwing a
  refine Steps.head hgo hw ?_
  rw [stepThread_throwing (frames_entered h.top _), (th_catchstep (s := (s.setTop g).pushFrame (.throwing a)) hfind).1]
  obtain ⟨g₀, hg⟩ := Option.isSome_iff_exists.mp h.top
  obtain ⟨r, hr⟩ := State.topJava?_eq_some.mp hg
  have hr' : (s.setVm vm').frames = .java g₀ :: r := hr
  have e1 : ((s.setTop g).pushFrame (.throwing a)).setVm vm' = ((s.setVm vm').setTop g).pushFrame (.throwing a) := by
    rw [State.setTop_of_frames _ hr, State.setTop_of_frames _ hr']
    rfl
  rw [e1, State.pushFrame, State.setFrames_setFrames, State.setTop_of_frames _ hr', State.setFrames_setFrames]
  rw [State.setTop_of_frames _ hr'] at hrest
  rw [hr]
  exact hrest
/-- a call of a throwing method, caught by the one handler of the caller's table -/
theorem th_catch {pc : Nat} {ls : Array Slot} {st0 rest : List Value} {mc ms : Nat} {Qa : State → Addr → State → Prop} {free : Addr → Prop} {args : Array Value} {A0 : Nat → Prop} {H0 : Heap} (hr : th_Run p l e R s m args below meth c H locs cells slots mc ms (F0 m pc ls st0) rest Qa free)
    {x : ExceptionTableEntry} (htab : c.exceptionTable.toList = [x]) (hx : covers x pc = true) (h0 : x.catchType ≠ 0) {own C : String} (hown : s.vm.findClass own = some m.cls) (hlink : (Cond.classLink own x.catchType C).before args s = true) (hcast : (Cond.castable C C).before args s = true) {hpc : Nat} (hh : x.handlerPc = hpc)
    (hS : va_S A0 H0 H locs) (hf : ∀ q, free q → A0 q) (hobj : ∀ (st₀ t : State) (a : Addr), st₀.heap = H → s.vm.Alike t.vm → Qa st₀ a t → H.size ≤ t.heap.size ∧ (∀ q : Nat, q < H.size → ¬ A0 q → t.heap[q]? = H[q]?) ∧ ∃ cell : Cell, t.heap[a]? = some cell ∧ cell.vm.isStatics = false ∧ s.vm.findClass C = some cell.cls)
    (kk : ∀ (st₀ t : State) (a : Addr) (H1 : Heap) (locs1 : List Loc), st₀.heap = H → t.heap = H1 → Qa st₀ a t → va_S A0 H0 H1 locs1 → W p l e R s m args below meth c H1 locs1 (cells + mc) (slots + ms) Q (F0 m hpc ls [.ref a])) :
    W p l e R s m args below meth c H locs cells slots Q (F0 m pc ls st0) := by
  intro T hT X
  obtain ⟨a, st₀, t, T', L, hst, X', hL, e1, e2, hqa, st⟩ := hr T hT X
  have hal : s.vm.Alike t.vm := by rw [← e2]; exact X'.warmed.alike
  obtain ⟨hz, hkeep, cell, hcell, hnst, hcls⟩ := hobj st₀ t a hst hal hqa
  have hpl : e.platform.magicAccessors = ({} : Platform).magicAccessors := by rw [X.admits.platform]
  obtain ⟨k, hfk, hlk⟩ := Cond.classLink_spec hown hlink e.platform hpl
  obtain ⟨c1, t1, q1, q2, q3⟩ := Cond.castable_spec hcast
  cases hfk.symm.trans hcls
  cases hcls.symm.trans q1
  cases hcls.symm.trans q2
  obtain ⟨dk, cf, name, ck, hd, hcf, hld, hname, hfind0, hck, hacc, hres⟩ := hlk.here
  have hW' : s.WarmedH (T'.vm.noted m.cls x.catchType (.cls cell.cls)) := X'.warmed.noted hd hres (State.rightAt_cls hlk)
  have hal' := hW'.alike
  obtain ⟨ck', hck', -⟩ := hal'.2.2 _ _ hck
  have hfit : (T'.vm.noted m.cls x.catchType (.cls cell.cls)).assignable cell.cls cell.cls = true := by rw [hal'.assignable]; exact q3
  obtain ⟨t2, a1, b1⟩ := kk st₀ t a T'.heap (locs ++ L) hst e1.symm hqa ⟨Nat.le_trans hS.1 (by rw [e1]; exact hz), fun q h1 h2 => by rw [e1, hkeep q (Nat.lt_of_lt_of_le h1 hS.1) h2]; exact hS.2.1 q h1 h2, fun q hq => by
      rcases List.mem_append.mp hq with h | h
      · exact hS.2.2 q h
      · exact hf _ (hL q h)⟩ (T'.setVm (T'.vm.noted m.cls x.catchType (.cls cell.cls))) rfl (X'.noted hW')
  refine ⟨t2, st t2 ?_, b1⟩
  have hAt : At T' (F0 m pc ls rest).method c below := X'.here
  refine th_caught (pc := hpc) (vm' := T'.vm.noted m.cls x.catchType (.cls cell.cls)) hAt ?_ a1
  intro Q2 E2 d2 acts2
  subst hh
  refine th_find (meth := meth) (code := c) (x := x) ?_ X'.code htab hx h0 (k := cell.cls) ?_ (cell := cell) ?_ (fun z hz2 => by rw [hz2] at hnst; cases hnst) ⟨ck', hck'⟩ ⟨ck', hck'⟩ hfit (by rw [Stand.throwing_vm]; simp [Vm.noted]) Q2 E2 d2 acts2
  · rw [Stand.throwing_vm]; exact X'.method'
  · rw [Stand.throwing_vm]; exact resolveClass_links e.toSetting (X'.warmed.classLinks hlk)
  · rw [Stand.throwing_heap, e1]; exact hcell
theorem th_ldcw {cc : ByteArray} {pc : Nat} {ls : Array Slot} {rest : List Value} (hexec : p.tables.exec = Jvm.exec) (hb : c.code = cc) {own tx : String} {index q : Nat} (hown : s.vm.findClass own = some m.cls) (hZ : vk_R own index tx q s) (hdg : decode cc pc = .ok (.ldc_w index, 3))
    (k : W p l e R s m args below meth c H locs cells slots Q (F0 m (pc + 3) ls (.ref q :: rest))) : W p l e R s m args below meth c H locs cells slots Q (F0 m pc ls rest) := by
  intro T hT X
  obtain ⟨t, a1, b1⟩ := k T hT X
  obtain ⟨kc, cf, i, a', hk, hcf, hcp, -, hr, hev'⟩ := Cond.stringRef_spec hown hZ.1
  cases hZ.2.symm.trans hev'
  obtain ⟨k', hk', he⟩ := X.warmed.alike.2.2 _ _ hk
  have hr' : k'.resolved[index]? = some (some (.string q)) := by
    rcases X.warmed.entry hk hk' index with h | ⟨h, -⟩
    · rw [h]; exact hr
    · rw [hr] at h; cases h
  refine ⟨t, ?_, b1⟩
  have hdg' : decode c.code (F0 m pc ls rest).pc = .ok (.ldc_w index, 3) := by rw [hb]; exact hdg
  jvm_step X.here [hexec, hdg', ldc_w.wp_string (e := e) (s := T) (f := F0 m pc ls rest) X.here.top hk' (by rw [he]; exact hcf) hcp hr']
  exact a1
end TH
