section
/-! Contracts whose methods may throw; calls over them. -/
def am_FE (st t : State) (L : List Loc) (k n : Nat) : Prop := st.WarmedH t.vm ∧ st.sameButNew ({ t with vm := st.vm } : State) L k n
def am_Met (l : Launch) (y : MethodName) (ws : List Cond) (rm : Room) (Pc : Array Value → State → Prop) (Qc : Array Value → State → Outcome → State → Prop) (mc ms : Nat) (free : Addr → Prop) : Prop :=
  MetFree l y (headSpec ws rm) Pc (fun _ _ _ _ _ => True) (fun a st o t => Qc a st o t ∧ ∃ L, am_FE st t L mc ms ∧ ∀ q ∈ L, free q.base)
def am_tgt (U : State) (g : JFrame) (len : Nat) : Outcome → State
  | .returned v => U.setTop { g with pc := g.pc + len, stack := v.toList ++ g.stack }
  | .threw x => (U.setTop g).pushFrame (.throwing x)
def am_Back (l : Launch) (R : Room) (p : Program) (e : Env) (below : List Frame) (s : State) (sargs : Array Value) (y : MethodName) (len W : Nat)
    (Pre : Pt → Array Value → Prop) (Post : Pt → Array Value → Outcome → Pt → Prop) : Prop :=
  ∀ (m : MethodId) (meth : Method) (c : Code) (A : Pt) (g : JFrame) (ig : Instr) (mk : MethodId) (a : Array Value),
    Stand p l e R s m sargs below meth c A.U A.locs A.cells A.slots → g.method = m → g.locals.size = c.maxLocals → decode c.code g.pc = .ok (ig, len) →
    2 * g.monitorRoom + (g.stack.map fun v => v.category).sum ≤ W → A.U.methodNamed? y = some mk → Pre A a →
    ∃ (o : Outcome) (B : Pt), Stand p l e R s m sargs below meth c B.U B.locs B.cells B.slots ∧ Post A a o B ∧
      Steps p.tables e below (doInvoke e (A.U.setTop g) [] mk a).1 (am_tgt B.U g len o)
def am_PostOf (Qc : Array Value → State → Outcome → State → Prop) (mc ms : Nat) (free : Addr → Prop) : Pt → Array Value → Outcome → Pt → Prop := fun A a o B =>
  ∃ (g : JFrame) (mk : MethodId) (t : State) (L : List Loc), B.U.heap = t.heap ∧ B.U.vm = t.vm ∧ Qc a (A.U.calling g mk a) o t ∧ B.locs = A.locs ++ L ∧ (∀ q ∈ L, free q.base) ∧ B.cells = A.cells + mc ∧ B.slots = A.slots + ms
section AmBack
variable {l : Launch} {R : Room} {p : Program} {e : Env} {below : List Frame} {s : State} {sargs : Array Value} {y : MethodName} {len W : Nat}
set_option maxHeartbeats 1000000 in
theorem am_back_of {ws : List Cond} {rm : Room} {Pc : Array Value → State → Prop} {Qc : Array Value → State → Outcome → State → Prop} {mc ms : Nat} {free : Addr → Prop} {maxL : Nat}
    (hM : am_Met l y ws rm Pc Qc mc ms free) (hblind : FrameBlind Pc) (hrc : rm.cells = mc) (hrs : rm.slots = ms)
    (hframes : rm.frames + 1 ≤ R.frames) (hlocals : W + (maxL + 11) + rm.locals ≤ R.locals)
    (hws : ∀ w ∈ ws, ∀ a' U, s.WarmedH U.vm → w.before a' U = true)
    (hcode : ∀ (U : State) mk, s.WarmedH U.vm → U.methodNamed? y = some mk → ∃ meth c, U.vm.method? mk = some meth ∧ meth.code = some c ∧ c.maxLocals = maxL)
    (hinit : ∀ a' U, s.WarmedH U.vm → (Cond.initialized y.cls).before a' U = true) :
    am_Back l R p e below s sargs y len W (PreOf R mc ms Pc) (am_PostOf Qc mc ms free) := by
  intro m meth c A g ig mk a X hg hsize hdg hW hn hp
  obtain ⟨U, Ls, c0, s0⟩ := A
  obtain ⟨h4, h5, hPc⟩ := hp
  dsimp only [Pt.U, Pt.locs, Pt.cells, Pt.slots] at h4 h5 hPc X hn ⊢
  have h1 : (headSpec ws rm).pre.before a U = true := atoms_intro fun w hw => hws w hw _ _ X.warmed
  obtain ⟨methY, cY, hmY, hcY, hlY⟩ := hcode U mk X.warmed hn
  obtain ⟨kY, hkY, -⟩ := className_of_methodNamed hn
  have hinitY : kY.init = .initialized := Cond.initialized_spec (findClass_of_methodNamed hn) hkY (hinit a U X.warmed)
  have h : At U g.method c below := by rw [hg]; exact X.here
  have happ : (headSpec ws rm).appliesLoose y e.platform (U.calling g mk a) = true :=
    Spec.appliesLoose_calling (g := g) h hdg hn hkY hinitY
      (X.room_calling (g := g) (R' := (headSpec ws rm).room) hsize hmY hcY hframes (by rw [hlY]; show _ + (maxL + 11) + rm.locals ≤ _; omega) (by show c0 + rm.cells ≤ _; rw [hrc]; exact h4) (by show s0 + rm.slots ≤ _; rw [hrs]; exact h5)) h1
  obtain ⟨mid, hmid⟩ := h.above
  have hfr : (U.setTop g).frames = (.java g :: mid) ++ below := by rw [State.frames_setTop' g h.top, hmid]; rfl
  obtain ⟨o, s₂, hsteps, -, hend, hq, L, ⟨hW₂, hsm⟩, hL⟩ := Steps.callFree hM p X.admits X.cas X.clock (acts := []) hfr happ (hblind _ _ _ _ hPc) trivial
  have hsm : (U.calling g mk a).sameButNew ({ s₂ with vm := (U.calling g mk a).vm } : State) L mc ms := hsm
  have hq : Qc a (U.calling g mk a) o s₂ := hq
  obtain ⟨e2, q2, q3, q4, q5, q6⟩ := id hsm
  have hW' : U.WarmedH s₂.vm := hW₂
  cases o with
  | returned v =>
    rw [State.frames_setTop' g h.top] at hend
    have e3 : s₂ = ({ (U.calling g mk a).setFrames s₂.frames with heap := s₂.heap, slotsUsed := s₂.slotsUsed } : State).setVm s₂.vm := by
      have : s₂ = ({ s₂ with vm := (U.calling g mk a).vm } : State).setVm s₂.vm := rfl
      rw [e2] at this
      exact this
    obtain ⟨c₂, i₂, len₂, hc₂, hd₂, hf₂⟩ := hend
    have hcc : c₂ = c := by
      have h1 : s₂.code? g.method = U.code? g.method := by
        rw [State.code?_eq, State.code?_eq, hW'.alike.method?]
      exact Option.some.inj (hc₂.symm.trans (h1.trans h.code))
    subst hcc
    have hlen : len₂ = len := by rw [hdg] at hd₂; cases hd₂; rfl
    subst hlen
    obtain ⟨g₀, hg0⟩ := Option.isSome_iff_exists.mp h.top
    obtain ⟨r, hr⟩ := State.topJava?_eq_some.mp hg0
    have hs₂ : s₂ = (({ U with heap := s₂.heap, slotsUsed := s₂.slotsUsed } : State).setVm s₂.vm).setTop { g with pc := g.pc + len₂, stack := v.toList ++ g.stack } := by
      have hr' : (({ U with heap := s₂.heap, slotsUsed := s₂.slotsUsed } : State).setVm s₂.vm).frames = .java g₀ :: r := hr
      refine e3.trans ?_
      rw [hf₂, State.calling_eq h.top, State.setFrames_setFrames, State.setTop_of_frames _ hr', hr]
      rfl
    have hsame : U.sameButNew ({ U with heap := s₂.heap, slotsUsed := s₂.slotsUsed } : State) L mc ms := by
      refine ⟨?_, q2, q3, q4, q5, q6⟩
      obtain ⟨t, ht, -⟩ := State.frames_cons hr
      show ({ U with heap := s₂.heap, slotsUsed := s₂.slotsUsed } : State) = { U.setFrames U.frames with heap := s₂.heap, slotsUsed := s₂.slotsUsed }
      rw [State.setFrames_self ht]
    subst hg
    refine ⟨.returned v, ⟨(({ U with heap := s₂.heap, slotsUsed := s₂.slotsUsed } : State).setVm s₂.vm), Ls ++ L, c0 + mc, s0 + ms⟩,
      ⟨X.admits, X.cas, X.clock, X.frames, X.room, X.hears, X.method, X.code, (X.here.setHeapUsed s₂.heap s₂.slotsUsed).setVm hW'.alike, X.tail, State.WarmedH.trans X.warmed hW', X.limits, X.bytes, X.same.trans (hsame.setVm s.vm)⟩,
      ⟨g, mk, s₂, L, rfl, rfl, hq, rfl, hL, rfl, rfl⟩, ?_⟩
    show Steps p.tables e below _ ((({ U with heap := s₂.heap, slotsUsed := s₂.slotsUsed } : State).setVm s₂.vm).setTop { g with pc := g.pc + len₂, stack := v.toList ++ g.stack })
    rw [← hs₂]
    exact hsteps
  | threw x =>
    have hbl : (U.setTop g).frames = .java g :: below := by
      obtain ⟨g₀, hf0⟩ := X.frames_eq
      rw [State.frames_setTop' g h.top, hf0]
      rfl
    rw [hbl] at hend
    obtain ⟨T', X', hWT, hsT, ht⟩ := X.outOfThrown hg hend hW₂ hsm
    refine ⟨.threw x, ⟨T', Ls ++ L, c0 + mc, s0 + ms⟩, X', ⟨g, mk, s₂, L, ?_, ?_, hq, rfl, hL, rfl, rfl⟩, ?_⟩
    · show T'.heap = s₂.heap
      rw [ht]; rfl
    · show T'.vm = s₂.vm
      rw [ht]; rfl
    · show Steps p.tables e below _ ((T'.setTop g).pushFrame (.throwing x))
      rw [← ht]
      exact hsteps
end AmBack
end
section
section AmEnt
variable {p : Program} {l : Launch} {e : Env} {R : Room} {s : State} {m : MethodId} {args : Array Value} {below : List Frame} {meth : Method} {c : Code} {H : Heap} {locs : List Loc} {cells slots : Nat} {Q : State → Prop}
/-- the instruction at g enters y with the arguments a and leaves the frame with 'rest' -/
def am_Ent (p : Program) (l : Launch) (e : Env) (R : Room) (s : State) (m : MethodId) (args : Array Value) (below : List Frame) (meth : Method) (c : Code) (H : Heap) (locs : List Loc) (cells slots : Nat) (g : JFrame) (y : MethodName) (a : Array Value) (rest : List Value) : Prop :=
  ∀ T : State, T.heap = H → Stand p l e R s m args below meth c T locs cells slots → ∃ (vm₁ : Vm) (mk : MethodId) (ig : Instr), s.WarmedH vm₁ ∧ Stand p l e R s m args below meth c (T.setVm vm₁) locs cells slots ∧ (T.setVm vm₁).methodNamed? y = some mk ∧ decode c.code g.pc = .ok (ig, 3) ∧
    ∀ target, Steps p.tables e below (doInvoke e ((T.setVm vm₁).setTop { g with stack := rest }) [] mk a).1 target → Steps p.tables e below (T.setTop g) target
/-- what a throw that has come to the frame g leads to -/
def am_WT (p : Program) (l : Launch) (e : Env) (R : Room) (s : State) (m : MethodId) (args : Array Value) (below : List Frame) (meth : Method) (c : Code) (H : Heap) (locs : List Loc) (cells slots : Nat) (Q : State → Prop) (g : JFrame) (x : Addr) : Prop :=
  ∀ T : State, T.heap = H → Stand p l e R s m args below meth c T locs cells slots → ∃ t, Steps p.tables e below ((T.setTop g).pushFrame (.throwing x)) t ∧ Q t
theorem am_entV {own C : String} {index : Nat} {y : MethodName} (hexec : p.tables.exec = Jvm.exec) (hown : s.vm.findClass own = some m.cls) (hlink : (Cond.methodLink own index y).before args s = true) (hinst : (Cond.instanceMethod y).before args s = true) (hsel : (Cond.selects C y y).before args s = true)
    (hy : y.cls ≠ "java/lang/invoke/MethodHandle" ∧ y.cls ≠ "java/lang/invoke/VarHandle") {sg : MethodDescriptor} (hpd : parseMethodDescriptor y.desc = some sg)
    {b : Addr} {cellB : Cell} (hcell : H[b]? = some cellB) (hobj : cellB.vm.isStatics = false) (hcls : s.vm.findClass C = some cellB.cls) (hsg : ∀ mk methM, s.methodNamed? y = some mk → s.vm.method? mk = some methM → methM.sig = sg)
    {g : JFrame} (hg : g.method = m) {argsL rest : List Value} (hlen : argsL.length = sg.parameters.length)
    (hstack : g.stack = argsL.reverse ++ .ref b :: rest) (hdg : decode c.code g.pc = .ok (.invokevirtual index, 3)) :
    am_Ent p l e R s m args below meth c H locs cells slots g y (Value.ref b :: argsL).toArray rest := by
  intro T hT X
  subst hT
  obtain ⟨mk, methM, hnamed, hmethM, hstM, habM⟩ := Cond.instanceMethod_spec hinst
  obtain ⟨c2, r2, m2, q1, q2, q3, q4, kP, hkP, hkPi⟩ := Cond.selects_spec hsel
  cases hcls.symm.trans q1
  cases (State.methodFound?_of_named hnamed hy).symm.trans q2
  cases hnamed.symm.trans q3
  have hselP : selectMethod e.platform s.vm cellB.cls mk = .method mk := by rw [Launch.admits_selectMethod X.admits]; exact q4
  obtain ⟨vm₁, X₁, hstep₁⟩ := X.invokevirtual hexec hown hlink hnamed hmethM hstM hkP hkPi hy (a := b) (cell := cellB) hcell
    (fun z h => by rw [h] at hobj; cases hobj) hselP hmethM habM hkP hkPi (g := g) hg (argsL := argsL) (rest := rest) (by rw [hsg mk methM hnamed hmethM]; exact hlen) hstack hdg
  exact ⟨vm₁, mk, _, X₁.warmed, X₁, X₁.named hnamed, hdg, fun target h => hstep₁ _ fun acts => by rw [doInvoke_state]; exact h⟩
theorem am_entVN {own C host : String} {index : Nat} {y : MethodName} (hexec : p.tables.exec = Jvm.exec) (hown : s.vm.findClass own = some m.cls) (hlink : (Cond.methodLinkNest own index y host).before args s = true) (hinst : (Cond.instanceMethod y).before args s = true) (hsel : (Cond.selects C y y).before args s = true)
    (hy : y.cls ≠ "java/lang/invoke/MethodHandle" ∧ y.cls ≠ "java/lang/invoke/VarHandle") {sg : MethodDescriptor}
    {b : Addr} {cellB : Cell} (hcell : H[b]? = some cellB) (hobj : cellB.vm.isStatics = false) (hcls : s.vm.findClass C = some cellB.cls) (hsg : ∀ mk methM, s.methodNamed? y = some mk → s.vm.method? mk = some methM → methM.sig = sg)
    {g : JFrame} (hg : g.method = m) {argsL rest : List Value} (hlen : argsL.length = sg.parameters.length)
    (hstack : g.stack = argsL.reverse ++ .ref b :: rest) (hdg : decode c.code g.pc = .ok (.invokevirtual index, 3)) :
    am_Ent p l e R s m args below meth c H locs cells slots g y (Value.ref b :: argsL).toArray rest := by
  intro T hT X
  subst hT
  obtain ⟨mk, methM, hnamed, hmethM, hstM, habM⟩ := Cond.instanceMethod_spec hinst
  obtain ⟨c2, r2, m2, q1, q2, q3, q4, kP, hkP, hkPi⟩ := Cond.selects_spec hsel
  cases hcls.symm.trans q1
  cases (State.methodFound?_of_named hnamed hy).symm.trans q2
  cases hnamed.symm.trans q3
  have hselP : selectMethod e.platform s.vm cellB.cls mk = .method mk := by rw [Launch.admits_selectMethod X.admits]; exact q4
  obtain ⟨vm₁, X₁, hstep₁⟩ := X.invokevirtualNest hexec hown hlink hnamed hmethM hstM hkP hkPi hy (a := b) (cell := cellB) hcell
    (fun z h => by rw [h] at hobj; cases hobj) hselP hmethM habM hkP hkPi (g := g) hg (argsL := argsL) (rest := rest) (by rw [hsg mk methM hnamed hmethM]; exact hlen) hstack hdg
  exact ⟨vm₁, mk, _, X₁.warmed, X₁, X₁.named hnamed, hdg, fun target h => hstep₁ _ fun acts => by rw [doInvoke_state]; exact h⟩
theorem am_entS {own : String} {index : Nat} {y : MethodName} {bytes : ByteArray} {maxL : Nat} {ret : Option FieldType} (hexec : p.tables.exec = Jvm.exec) (hown : s.vm.findClass own = some m.cls) (hlink : (Cond.methodLink own index y).before args s = true) (hstat : (Cond.static y).before args s = true) (hinit : (Cond.initialized y.cls).before args s = true)
    (hcode : (Cond.code y bytes maxL ret).before args s = true) (hy : y.cls ≠ "java/lang/invoke/MethodHandle" ∧ y.cls ≠ "java/lang/invoke/VarHandle")
    {g : JFrame} (hg : g.method = m) {argsL rest : List Value} (hlen : ∀ sig, parseMethodDescriptor y.desc = some sig → argsL.length = sig.parameters.length)
    (hstack : g.stack = argsL.reverse ++ rest) (hdg : decode c.code g.pc = .ok (.invokestatic index, 3)) :
    am_Ent p l e R s m args below meth c H locs cells slots g y argsL.toArray rest := by
  intro T hT X
  subst hT
  obtain ⟨mk, hnamed⟩ := Cond.code_named hcode
  obtain ⟨methM, cM, hmethM, -, -, -, -, -, -, hsigM⟩ := Cond.code_spec hnamed hcode
  have hstatic : methM.isStatic = true := Cond.static_spec hnamed hmethM hstat
  obtain ⟨kP, hkP, -⟩ := className_of_methodNamed hnamed
  have hinitP : kP.init = .initialized := Cond.initialized_spec (findClass_of_methodNamed hnamed) hkP hinit
  obtain ⟨vm₁, X₁, hstep₁⟩ := X.invokestatic hexec hown hlink hnamed hmethM hstatic hkP hinitP hy (g := g) hg (argsL := argsL) (rest := rest) (hlen _ hsigM) hstack hdg
  exact ⟨vm₁, mk, _, X₁.warmed, X₁, X₁.named hnamed, hdg, fun target h => hstep₁ _ fun acts => by rw [doInvoke_state]; exact h⟩
theorem am_entSN {own host : String} {index : Nat} {y : MethodName} {bytes : ByteArray} {maxL : Nat} {ret : Option FieldType} (hexec : p.tables.exec = Jvm.exec) (hown : s.vm.findClass own = some m.cls) (hlink : (Cond.methodLinkNest own index y host).before args s = true) (hstat : (Cond.static y).before args s = true) (hinit : (Cond.initialized y.cls).before args s = true)
    (hcode : (Cond.code y bytes maxL ret).before args s = true) (hy : y.cls ≠ "java/lang/invoke/MethodHandle" ∧ y.cls ≠ "java/lang/invoke/VarHandle")
    {g : JFrame} (hg : g.method = m) {argsL rest : List Value} (hlen : ∀ sig, parseMethodDescriptor y.desc = some sig → argsL.length = sig.parameters.length)
    (hstack : g.stack = argsL.reverse ++ rest) (hdg : decode c.code g.pc = .ok (.invokestatic index, 3)) :
    am_Ent p l e R s m args below meth c H locs cells slots g y argsL.toArray rest := by
  intro T hT X
  subst hT
  obtain ⟨mk, hnamed⟩ := Cond.code_named hcode
  obtain ⟨methM, cM, hmethM, -, -, -, -, -, -, hsigM⟩ := Cond.code_spec hnamed hcode
  have hstatic : methM.isStatic = true := Cond.static_spec hnamed hmethM hstat
  obtain ⟨kP, hkP, -⟩ := className_of_methodNamed hnamed
  have hinitP : kP.init = .initialized := Cond.initialized_spec (findClass_of_methodNamed hnamed) hkP hinit
  obtain ⟨vm₁, X₁, hstep₁⟩ := X.invokestaticNest hexec hown hlink hnamed hmethM hstatic hkP hinitP hy (g := g) hg (argsL := argsL) (rest := rest) (hlen _ hsigM) hstack hdg
  exact ⟨vm₁, mk, _, X₁.warmed, X₁, X₁.named hnamed, hdg, fun target h => hstep₁ _ fun acts => by rw [doInvoke_state]; exact h⟩
theorem am_entI {own : String} {index : Nat} {y : MethodName} {bytes : ByteArray} {maxL : Nat} (hexec : p.tables.exec = Jvm.exec) (hown : s.vm.findClass own = some m.cls) (hy1 : y.name = "<init>") (hlink : (Cond.methodLink own index y).before args s = true) (hinst : (Cond.instanceMethod y).before args s = true)
    (hcode : (Cond.code y bytes maxL none).before args s = true) (hy : y.cls ≠ "java/lang/invoke/MethodHandle" ∧ y.cls ≠ "java/lang/invoke/VarHandle")
    {g : JFrame} (hg : g.method = m) {a : Addr} {argsL rest : List Value} (hlen : ∀ sig, parseMethodDescriptor y.desc = some sig → argsL.length = sig.parameters.length)
    (hstack : g.stack = argsL.reverse ++ .ref a :: rest) (hdg : decode c.code g.pc = .ok (.invokespecial index, 3)) :
    am_Ent p l e R s m args below meth c H locs cells slots g y (Value.ref a :: argsL).toArray rest := by
  intro T hT X
  subst hT
  subst hg
  have hpl : e.platform.magicAccessors = ({} : Platform).magicAccessors := by rw [X.admits.platform]
  obtain ⟨mk, methM, cM, kP, vm₁, hnamed, hmethM, hcodeM, -, hlocalsM, -, hkP, -, hW₁, hstep₁⟩ := Steps.initColdArgs (e := e) X.here hexec X.warmed hpl hown hy1 hy hlink hinst hcode (f := g) rfl hlen hstack hdg
  have X₁ := X.noted hW₁
  exact ⟨vm₁, mk, _, X₁.warmed, X₁, X₁.named hnamed, hdg, fun target h => hstep₁ _ fun acts => by rw [doInvoke_state]; exact h⟩
theorem am_entIN {own host : String} {index : Nat} {y : MethodName} {bytes : ByteArray} {maxL : Nat} (hexec : p.tables.exec = Jvm.exec) (hown : s.vm.findClass own = some m.cls) (hy1 : y.name = "<init>") (hlink : (Cond.methodLinkNest own index y host).before args s = true) (hinst : (Cond.instanceMethod y).before args s = true)
    (hcode : (Cond.code y bytes maxL none).before args s = true) (hy : y.cls ≠ "java/lang/invoke/MethodHandle" ∧ y.cls ≠ "java/lang/invoke/VarHandle")
    {g : JFrame} (hg : g.method = m) {a : Addr} {argsL rest : List Value} (hlen : ∀ sig, parseMethodDescriptor y.desc = some sig → argsL.length = sig.parameters.length)
    (hstack : g.stack = argsL.reverse ++ .ref a :: rest) (hdg : decode c.code g.pc = .ok (.invokespecial index, 3)) :
    am_Ent p l e R s m args below meth c H locs cells slots g y (Value.ref a :: argsL).toArray rest := by
  intro T hT X
  subst hT
  subst hg
  have hpl : e.platform.magicAccessors = ({} : Platform).magicAccessors := by rw [X.admits.platform]
  obtain ⟨mk, methM, cM, kP, vm₁, hnamed, hmethM, hcodeM, -, hlocalsM, -, hkP, -, hW₁, hstep₁⟩ := Steps.initColdArgsNest (e := e) X.here hexec X.warmed hpl hown hy1 hy hlink hinst hcode (f := g) rfl hlen hstack hdg
  have X₁ := X.noted hW₁
  exact ⟨vm₁, mk, _, X₁.warmed, X₁, X₁.named hnamed, hdg, fun target h => hstep₁ _ fun acts => by rw [doInvoke_state]; exact h⟩
/-- a call over a contract: what comes behind it, by its outcome -/
theorem am_callW {y : MethodName} {ws : List Cond} {rm : Room} {Pc : Array Value → State → Prop} {Qc : Array Value → State → Outcome → State → Prop} {mc ms maxL nL : Nat} {free : Addr → Prop} {A0 : Nat → Prop} {H0 : Heap} {pc : Nat} {ls : Array Slot} {st0 rest : List Value} {a : Array Value}
    (hE : am_Ent p l e R s m args below meth c H locs cells slots (F0 m pc ls st0) y a rest)
    (hM : am_Met l y ws rm Pc Qc mc ms free) (hblind : FrameBlind Pc) (hrc : rm.cells = mc) (hrs : rm.slots = ms)
    (hframes : rm.frames + 1 ≤ R.frames) (hlocals : 8 + (maxL + 11) + rm.locals ≤ R.locals)
    (hws : ∀ w ∈ ws, ∀ (a' : Array Value) (U : State), s.WarmedH U.vm → w.before a' U = true)
    (hcode : ∀ (U : State) mk, s.WarmedH U.vm → U.methodNamed? y = some mk → ∃ meth c, U.vm.method? mk = some meth ∧ meth.code = some c ∧ c.maxLocals = maxL)
    (hinit : ∀ (a' : Array Value) (U : State), s.WarmedH U.vm → (Cond.initialized y.cls).before a' U = true)
    (hml : c.maxLocals = nL) (hsize : ls.size = nL) (hW : (rest.map fun v => v.category).sum ≤ 8) (hf : cells + mc ≤ R.cells ∧ slots + ms ≤ R.slots)
    (hPc : ∀ U : State, U.heap = H → s.WarmedH U.vm → Pc a U)
    (kk : ∀ (o : Outcome) (st₀ t : State) (H1 : Heap) (L : List Loc), st₀.heap = H → t.heap = H1 → s.vm.Alike t.vm → Qc a st₀ o t → (∀ q ∈ L, free q.base) →
      match o with
      | .returned v => W p l e R s m args below meth c H1 (locs ++ L) (cells + mc) (slots + ms) Q (F0 m (pc + 3) ls (v.toList ++ rest))
      | .threw x => am_WT p l e R s m args below meth c H1 (locs ++ L) (cells + mc) (slots + ms) Q (F0 m pc ls rest) x) :
    W p l e R s m args below meth c H locs cells slots Q (F0 m pc ls st0) := by
  intro T hT X
  obtain ⟨vm₁, mk, ig, hW₁, X₁, hn, hdg, hst⟩ := hE T hT X
  have hK : am_Back l R p e below s args y 3 8 (PreOf R mc ms Pc) (am_PostOf Qc mc ms free) := am_back_of hM hblind hrc hrs hframes hlocals hws hcode hinit
  obtain ⟨o, ⟨U', l2, c2, s2⟩, X', ⟨g', mk', t, L, e1, e2, hq, h1, hL, h2, h3⟩, hsteps⟩ := hK m meth c ⟨T.setVm vm₁, locs, cells, slots⟩ (F0 m pc ls rest) ig mk a X₁ rfl (by show ls.size = _; rw [hsize, hml]) hdg (by show 2 * 0 + (rest.map fun v => v.category).sum ≤ 8; omega) hn ⟨hf.1, hf.2, hPc (T.setVm vm₁) hT hW₁⟩
  dsimp only [Pt.U, Pt.locs, Pt.cells, Pt.slots] at X' e1 e2 h1 h2 h3 hsteps
  subst h1; subst h2; subst h3
  have hal : s.vm.Alike t.vm := by rw [← e2]; exact X'.warmed.alike
  have := kk o ((T.setVm vm₁).calling g' mk' a) t U'.heap L hT e1.symm hal hq hL
  cases o with
  | returned v =>
    obtain ⟨t', a1, b1⟩ := this U' rfl X'
    exact ⟨t', hst _ (hsteps.trans a1), b1⟩
  | threw x =>
    obtain ⟨t', a1, b1⟩ := this U' rfl X'
    exact ⟨t', hst _ (hsteps.trans a1), b1⟩
end AmEnt
end
section
def am_MQ (below : List Frame) (Qc : Array Value → State → Outcome → State → Prop) (a : Array Value) (s : State) (mc ms : Nat) (free : Addr → Prop) : State → Prop := fun t =>
  ∃ o, t.status = .running ∧ Ended t below o ∧ Qc a s o t ∧ ∃ L, am_FE s t L mc ms ∧ ∀ q ∈ L, free q.base
section AmThrow
variable {p : Program} {l : Launch} {e : Env} {R : Room} {s : State} {m : MethodId} {args : Array Value} {below : List Frame} {meth : Method} {c : Code} {H : Heap} {locs : List Loc} {cells slots : Nat} {Q : State → Prop}
theorem am_Wmono {Q2 : State → Prop} {g : JFrame} (h : ∀ t, Q t → Q2 t) (k : W p l e R s m args below meth c H locs cells slots Q g) : W p l e R s m args below meth c H locs cells slots Q2 g := by
  intro T hT X
  obtain ⟨t, a, b⟩ := k T hT X
  exact ⟨t, a, h t b⟩
theorem am_MQ_of {Qc : Array Value → State → Outcome → State → Prop} {mc ms : Nat} {free : Addr → Prop} {a : Array Value} : ∀ t, MQ below Qc a s mc ms free t → am_MQ below Qc a s mc ms free t := by
  intro t hh
  obtain ⟨o, h1, h2, h3, L, ⟨-, h5, h6⟩, h7⟩ := hh
  exact ⟨o, h1, h2, h3, L, ⟨h5, h6⟩, h7⟩
theorem am_ofW {y : MethodName} {ws : List Cond} {rm : Room} {Pc : Array Value → State → Prop} {Qc : Array Value → State → Outcome → State → Prop} {mc ms : Nat} {free : Addr → Prop} {cc : ByteArray} {maxL : Nat} {ret : Option FieldType}
    (hy : plainName y.cls = true)
    (his : ∀ (args : Array Value) (s : State) m, (∀ w ∈ ws, w.before args s = true) → s.methodNamed? y = some m → ∃ meth c, s.vm.method? m = some meth ∧ meth.code = some c ∧ c.code = cc ∧ c.maxLocals = maxL ∧ meth.sig.returnType = ret ∧ meth.locks = false)
    (body : ∀ p e s m args below meth c s₁, BodyLoose p l y (headSpec ws rm) cc maxL ret e s m args below meth c s₁ → c.maxLocals = maxL → Pc args s →
      W p l e rm s m args below meth c s.heap [] 0 0 (am_MQ below Qc args s mc ms free) (entryFrame m args maxL)) : am_Met l y ws rm Pc Qc mc ms free := by
  refine MetFree.of_bodyS (code := cc) (maxLocals := maxL) (ret := ret) hy ?_ ?_
  · intro args s m h hn
    exact his args s m (atoms_spec (ws := ws) h) hn
  · intro p e s m args below meth c s₁ B hml hP _
    have hh0 : s₁.heap = s.heap := by rw [B.state]; rfl
    obtain ⟨t, a1, o, b1, b2, b3⟩ := body p e s m args below meth c s₁ B hml hP s₁ hh0 (Stand.of_body B)
    exact ⟨t, o, a1, b1, b2, ⟨b3.1, b3.2⟩⟩
/-- a throw leaves the method -/
theorem am_WT_leave {Qc : Array Value → State → Outcome → State → Prop} {free : Addr → Prop} {x : Addr} {pc : Nat} {ls : Array Slot} {st : List Value} (hlocks : meth.locks = false)
    (hout : ∀ x ∈ c.exceptionTable.toList, covers x pc = false)
    (hq : ∀ t : State, t.heap = H → s.WarmedH t.vm → Qc args s (.threw x) t) (hf : ∀ q ∈ locs, free q.base) :
    am_WT p l e R s m args below meth c H locs cells slots (am_MQ below Qc args s cells slots free) (F0 m pc ls st) x := by
  intro T hT X
  obtain ⟨h1, h2, h3, h4, h5⟩ := X.leaveThrown x (g := F0 m pc ls st) rfl rfl rfl hout
  exact ⟨_, h1, .threw x, h2, h3, hq _ hT h4, locs, ⟨h4, h5⟩, hf⟩
theorem am_athrow {Qc : Array Value → State → Outcome → State → Prop} {free : Addr → Prop} {x : Addr} {pc : Nat} {ls : Array Slot} {st : List Value} {cc : ByteArray} (hexec : p.tables.exec = Jvm.exec) (hb : c.code = cc) (hlocks : meth.locks = false)
    (hout : ∀ x ∈ c.exceptionTable.toList, covers x pc = false)
    (hq : ∀ t : State, t.heap = H → s.WarmedH t.vm → Qc args s (.threw x) t) (hf : ∀ q ∈ locs, free q.base) (hdg : decode cc pc = .ok (.athrow, 1)) :
    W p l e R s m args below meth c H locs cells slots (am_MQ below Qc args s cells slots free) (F0 m pc ls (.ref x :: st)) := by
  intro T hT X
  obtain ⟨h1, h2, h3, h4, h5⟩ := X.athrowLeaves hexec (g := F0 m pc ls (.ref x :: st)) rfl rfl rfl hout (a := x) (rest := st) rfl (by rw [hb]; exact hdg)
  exact ⟨_, h1, .threw x, h2, h3, hq _ hT h4, locs, ⟨h4, h5⟩, hf⟩
theorem am_stepCatch {e : Env} {s : State} {a : Addr} {f : JFrame} {r : List Frame} {pc : Nat} {vm' : Vm} (hfind : ∀ (Q : Handler → Pre) (E : CtlPost) (d : Bool) (acts : List Action), (∀ d', Q (.found pc) d' acts (s.setVm vm')) → wp (findHandler f a) Q E e d acts s) :
    (stepThrowing e s a (.java f :: r)).Is ((s.setVm vm').setFrames (.java { f with pc := pc, stack := [.ref a] } :: r)) [] := by
  simp only [stepThrowing, searchFrame, vmDo]
  generalize hr : Sem.go _ e false [] s = res
  obtain ⟨as, rfl, ha⟩ := Sem.eq_ok_of hr (a := Handler.found pc) (s' := s.setVm vm') (acts' := []) (by
    rw [wp_bind']
    refine hfind _ _ _ _ ?_
    intro d'
    simp)
  exact ⟨rfl, ha⟩
theorem am_caught {tb : Tables} {e : Env} {s target : State} {g : JFrame} {c : Code} {below : List Frame} {a : Addr} {vm' : Vm} (h : At s g.method c below) {pc : Nat} (hfind : ∀ (Q : Handler → Pre) (E : CtlPost) (d : Bool) (acts : List Action), (∀ d', Q (.found pc) d' acts (((s.setTop g).pushFrame (.throwing a)).setVm vm')) → wp (findHandler g a) Q E e d acts ((s.setTop g).pushFrame (.throwing a)))
    (hrest : Steps tb e below ((s.setVm vm').setTop { g with pc := pc, stack := [.ref a] }) target) :
    Steps tb e below ((s.setTop g).pushFrame (.throwing a)) target := by
  obtain ⟨hgo, hw⟩ := h.throwing a
  refine Steps.head hgo hw ?_
  rw [stepThread_throwing (frames_entered h.top _), (am_stepCatch (s := (s.setTop g).pushFrame (.throwing a)) hfind).1]
  obtain ⟨g₀, hg⟩ := Option.isSome_iff_exists.mp h.top
  obtain ⟨r, hr⟩ := State.topJava?_eq_some.mp hg
  have hr2 : (s.setVm vm').frames = .java g₀ :: r := hr
  rw [State.setTop_of_frames _ hr2] at hrest
  have e1 : (((s.setTop g).pushFrame (.throwing a)).setVm vm').setFrames (.java { g with pc := pc, stack := [.ref a] } :: s.frames.tail) = (s.setVm vm').setFrames (.java { g with pc := pc, stack := [.ref a] } :: r) := by
    rw [State.pushFrame, State.setTop_of_frames _ hr, State.setFrames_setFrames, hr]
    show ((s.setFrames _).setFrames _).setVm vm' = (s.setFrames _).setVm vm'
    rw [State.setFrames_setFrames]
    rfl
  rw [e1]
  exact hrest
theorem am_WT_catch {own C : String} {x : ExceptionTableEntry} {a : Addr} {pc : Nat} {ls : Array Slot} {st : List Value} {cell : Cell}
    (htab : c.exceptionTable.toList = [x]) (hcov : covers x pc = true) (h0 : x.catchType ≠ 0) (hown : s.vm.findClass own = some m.cls) (hcl : (Cond.classLink own x.catchType C).before args s = true)
    (hcell : H[a]? = some cell) (hvm : cell.vm = .none) {cC : ClassId} (hC : ClassAt s C cC) (hcc : cell.cls = cC)
    (kk : W p l e R s m args below meth c H locs cells slots Q (F0 m x.handlerPc ls [.ref a])) :
    am_WT p l e R s m args below meth c H locs cells slots Q (F0 m pc ls st) a := by
  intro T hT X
  subst hT
  have hpl : e.platform.magicAccessors = ({} : Platform).magicAccessors := by rw [X.admits.platform]
  obtain ⟨cc, hfcc, hlk⟩ := Cond.classLink_spec hown hcl e.platform hpl
  cases hC.1.symm.trans hfcc
  obtain ⟨hg₁, hwarm₁, hready₁⟩ := State.classEntry (e := e) X.warmed hlk
  have hsz : (T.vm.noted m.cls x.catchType (.cls cC)).classes.size ≤ T.vm.classes.size := by simp
  obtain ⟨ha, ht⟩ := hg₁.op (op := VmOp.resolveClass m.cls x.catchType) rfl
  obtain ⟨t, a1, b1⟩ := kk (T.setVm (T.vm.noted m.cls x.catchType (.cls cC))) rfl (X.noted hwarm₁)
  refine ⟨t, am_caught (vm' := T.vm.noted m.cls x.catchType (.cls cC)) (g := F0 m pc ls st) X.here ?_ a1, b1⟩
  intro Q E d acts hQ
  have hmt : T.vm.method? m = some meth := X.method'
  rw [W.findHandler_eq (s := (T.setTop (F0 m pc ls st)).pushFrame (.throwing a)) (f := F0 m pc ls st) hmt X.code, htab]
  have hCa : ClassAt (T.setVm (T.vm.noted m.cls x.catchType (.cls cC))) C cC := classAt_moved hwarm₁.alike hC
  have hassign : (T.vm.noted m.cls x.catchType (.cls cC)).assignable cC cC = true := va_assign hCa
  have hk1 : ∃ k, (T.vm.noted m.cls x.catchType (.cls cC)).classes[cC]? = some k := ⟨hCa.2.choose, hCa.2.choose_spec.1⟩
  simp only [covers] at hcov
  have hQ2 := hQ (VmOp.dirties (VmOp.resolveClass m.cls x.catchType) d)
  generalize T.vm.noted m.cls x.catchType (.cls cC) = vm₁ at *
  subst hcc
  have hheap : ((T.setTop (F0 m pc ls st)).pushFrame (.throwing a)).heap = T.heap := rfl
  have hvm2 : ((T.setTop (F0 m pc ls st)).pushFrame (.throwing a)).vm = T.vm := rfl
  simp [findHandler.go, hcov, h0, hheap, hvm2, ha, ht, hsz, hcell, hvm, hk1, hassign]
  exact hQ2
end AmThrow
end
section
/-! The small machine: values, rows, one step, runs. A reference is (kind, number). Kinds below 16: objects by the place of their type in vwCl; 20 .. 99: rows by what holds them; from 100 on: rows that were there before; from 120 on: values of which nothing is known. -/
abbrev am_V : Type := Int32 ⊕ Int64 ⊕ Option (Nat × Nat)
abbrev am_B : Type := Nat × (Nat → Nat × Nat) × (Nat → Nat → Nat) × (Nat → Nat → Nat)
abbrev am_H : Type := am_B × (Nat → Nat → Nat → Int32) × (Nat → Nat → Nat → Option (Nat × Nat))
abbrev am_O : Type := Option am_V ⊕ (Nat × Nat)
abbrev am_R : Type := Option (am_O × am_H)
abbrev am_Row : Type := Instr × Nat × Int32 × Nat × Nat × Nat × List (Int32 × Nat)
abbrev av_i (x : Int32) : am_V := .inl x
abbrev av_l (x : Int64) : am_V := .inr (.inl x)
abbrev av_q (r : Option (Nat × Nat)) : am_V := .inr (.inr r)
abbrev av_r (t i : Nat) : am_V := .inr (.inr (some (t, i)))
abbrev av_n : am_V := .inr (.inr none)
/-- cells: number, which is where, where is which, lengths -/
abbrev ah_n (σ : am_H) : Nat := σ.1.1
abbrev ah_al (σ : am_H) : Nat → Nat × Nat := σ.1.2.1
abbrev ah_ad (σ : am_H) : Nat → Nat → Nat := σ.1.2.2.1
abbrev ah_ln (σ : am_H) : Nat → Nat → Nat := σ.1.2.2.2
abbrev ah_I (σ : am_H) : Nat → Nat → Nat → Int32 := σ.2.1
abbrev ah_R (σ : am_H) : Nat → Nat → Nat → Option (Nat × Nat) := σ.2.2
def am_c {α : Type} (I : Nat → Nat → α) (t i : Nat) (f : α) : Nat → Nat → α := fun t' i' => if t' = t ∧ i' = i then f else I t' i'
def am_u {α : Type} (f : Nat → α) (k : Nat) (x : α) : Nat → α := fun j => if j = k then x else f j
/-- one place of a cell gets a number -/
def am_sI (σ : am_H) (t i j : Nat) (x : Int32) : am_H := (σ.1, am_c σ.2.1 t i (upd (σ.2.1 t i) j x), σ.2.2)
def am_sR (σ : am_H) (t i j : Nat) (x : Option (Nat × Nat)) : am_H := (σ.1, σ.2.1, am_c σ.2.2 t i (am_u (σ.2.2 t i) j x))
def am_in (j : Int32) (n : Nat) : Bool := !decide (j < 0) && Nat.blt j.toNatClampNeg n
/-- what an array kind holds: 0 int, 1 byte, 2 boolean, 3 Code, 4 Blocks; 9: no array of ours -/
def am_fit (t : Nat) (k : Nat) (x : Int32) : Int32 := bif Nat.beq k 1 then vp_nar .byte x else bif Nat.beq k 2 then vp_nar .boolean x else x
def am_sw (x : Int32) (K : Nat → am_R) (d : Nat) : List (Int32 × Nat) → am_R
  | [] => K d
  | q :: r => if x = q.1 then K q.2 else am_sw x K d r
def am_cnt (σ : am_H) (t : Nat) : Nat := ((List.range (ah_n σ)).filter (fun k => Nat.beq (ah_al σ k).1 t)).length
def am_mk (σ : am_H) (t n : Nat) : am_H :=
  let i := am_cnt σ t
  ((ah_n σ + 1, am_u (ah_al σ) (ah_n σ) (t, i), am_c (ah_ad σ) t i (ah_n σ), am_c (ah_ln σ) t i n), am_c (ah_I σ) t i (fun _ => 0), am_c (ah_R σ) t i (fun _ => none))
section AmStep
variable (ak : Nat → Nat) (X : Nat → Nat → Int32) (XL : Nat → Nat)
/-- the length of a row -/
def am_len (σ : am_H) (t i : Nat) : Nat := bif Nat.blt t 100 then ah_ln σ t i else XL t
def am_bin (f : Int32 → Int32 → Int32) (K : List am_V → am_R) : List am_V → am_R
  | .inl y :: .inl x :: r => K (av_i (f x y) :: r)
  | _ => none
def am_iald (σ : am_H) (K : List am_V → am_R) : List am_V → am_R
  | .inl j :: .inr (.inr (some (t, i))) :: r =>
    bif Nat.blt t 100 then (bif Nat.beq (ak t) 0 && am_in j (ah_ln σ t i) then K (av_i (ah_I σ t i j.toNatClampNeg) :: r) else none)
    else (bif Nat.blt t 120 && am_in j (XL t) then K (av_i (X t j.toNatClampNeg) :: r) else none)
  | _ => none
def am_bald (σ : am_H) (K : List am_V → am_R) : List am_V → am_R
  | .inl j :: .inr (.inr (some (t, i))) :: r =>
    bif Nat.blt t 100 && (Nat.beq (ak t) 1 || Nat.beq (ak t) 2) && am_in j (ah_ln σ t i) then K (av_i (ah_I σ t i j.toNatClampNeg) :: r) else none
  | _ => none
def am_aald (σ : am_H) (K : List am_V → am_R) : List am_V → am_R
  | .inl j :: .inr (.inr (some (t, i))) :: r =>
    bif Nat.blt t 100 && (Nat.beq (ak t) 3 || Nat.beq (ak t) 4) && am_in j (ah_ln σ t i) then K (av_q (ah_R σ t i j.toNatClampNeg) :: r) else none
  | _ => none
def am_iast (σ : am_H) (K : List am_V → am_H → am_R) : List am_V → am_R
  | .inl x :: .inl j :: .inr (.inr (some (t, i))) :: r =>
    bif Nat.blt t 100 && Nat.beq (ak t) 0 && am_in j (ah_ln σ t i) then K r (am_sI σ t i j.toNatClampNeg x) else none
  | _ => none
def am_bast (σ : am_H) (K : List am_V → am_H → am_R) : List am_V → am_R
  | .inl x :: .inl j :: .inr (.inr (some (t, i))) :: r =>
    bif Nat.blt t 100 && (Nat.beq (ak t) 1 || Nat.beq (ak t) 2) && am_in j (ah_ln σ t i) then K r (am_sI σ t i j.toNatClampNeg (bif Nat.beq (ak t) 1 then vp_nar .byte x else vp_nar .boolean x)) else none
  | _ => none
def am_aast (σ : am_H) (K : List am_V → am_H → am_R) : List am_V → am_R
  | .inr (.inr (some (t2, i2))) :: .inl j :: .inr (.inr (some (t, i))) :: r =>
    bif Nat.blt t 100 && ((Nat.beq (ak t) 3 && Nat.beq t2 3) || (Nat.beq (ak t) 4 && Nat.beq t2 1)) && am_in j (ah_ln σ t i) then K r (am_sR σ t i j.toNatClampNeg (some (t2, i2))) else none
  | _ => none
def am_alen (σ : am_H) (K : List am_V → am_R) : List am_V → am_R
  | .inr (.inr (some (t, i))) :: r => bif (Nat.blt t 100 && !Nat.beq (ak t) 9) || (Nat.blt 99 t && Nat.blt t 120) then K (av_i (Int32.ofNat (am_len XL σ t i)) :: r) else none
  | _ => none
/-- a: kind, b: place, c: 0 int, 1 reference, 2 boolean -/
def am_getf (a b c : Nat) (σ : am_H) (K : List am_V → am_R) : List am_V → am_R
  | .inr (.inr (some (t, i))) :: r => bif Nat.beq t a then K ((bif Nat.beq c 1 then av_q (ah_R σ t i b) else av_i (ah_I σ t i b)) :: r) else none
  | _ => none
def am_putf (a b c : Nat) (σ : am_H) (K : List am_V → am_H → am_R) : List am_V → am_R
  | .inl x :: .inr (.inr (some (t, i))) :: r => bif Nat.beq t a && (Nat.beq c 0 || (Nat.beq c 2 && (x == 0 || x == 1))) then K r (am_sI σ t i b x) else none
  | .inr (.inr q) :: .inr (.inr (some (t, i))) :: r => bif Nat.beq t a && Nat.beq c 1 then K r (am_sR σ t i b q) else none
  | _ => none
def am_ldi (ls : List am_V) (k : Nat) (K : am_V → am_R) : am_R := match ls[k]? with
  | some (.inl x) => K (av_i x)
  | _ => none
def am_lda (ls : List am_V) (k : Nat) (K : am_V → am_R) : am_R := match ls[k]? with
  | some (.inr (.inr q)) => K (av_q q)
  | _ => none
def am_sti (ls : List am_V) (k : Nat) (K : List am_V → List am_V → am_R) : List am_V → am_R
  | .inl x :: r => bif Nat.blt k ls.length then K (ls.set k (av_i x)) r else none
  | _ => none
def am_sta (ls : List am_V) (k : Nat) (K : List am_V → List am_V → am_R) : List am_V → am_R
  | .inr (.inr q) :: r => bif Nat.blt k ls.length then K (ls.set k (av_q q)) r else none
  | _ => none
def am_inc (ls : List am_V) (k : Nat) (w : Int32) (K : List am_V → am_R) : am_R := match ls[k]? with
  | some (.inl x) => K (ls.set k (av_i (x + w)))
  | _ => none
def am_cmp2 (p : Int32 → Int32 → am_R → am_R → am_R) (kt kf : List am_V → am_R) : List am_V → am_R
  | .inl y :: .inl x :: r => p x y (kt r) (kf r)
  | _ => none
def am_cmp1 (p : Int32 → am_R → am_R → am_R) (kt kf : List am_V → am_R) : List am_V → am_R
  | .inl x :: r => p x (kt r) (kf r)
  | _ => none
/-- behind a call: the answer, or what was thrown (a handler: its place) -/
def am_aft (h : List (Int32 × Nat)) (K : List am_V → am_H → am_R) (KH : Nat → Nat × Nat → am_H → am_R) : am_R → am_R
  | some (.inl v, σ) => K v.toList σ
  | some (.inr q, σ) => match h with
    | [] => some (.inr q, σ)
    | z :: _ => KH z.2 q σ
  | none => none
def am_inP (K : List am_V → am_R) : List am_V → am_R
  | .inr (.inl hi) :: .inr (.inl lo) :: .inr (.inl x) :: r => bif Nat.ble r.length 4 then K (av_i (if lo ≤ x ∧ x ≤ hi then 1 else 0) :: r) else none
  | _ => none
def am_recv (c : Nat) : List am_V → Bool
  | .inr (.inr (some (t, _))) :: _ => Nat.beq t c
  | _ => false
/-- a call of a with b values from the stack (c: kind of the receiver, 200: none) -/
def am_call (a b c : Nat) (C : Nat → List am_V → am_H → am_R) (st : List am_V) (σ : am_H) (KA : am_R → List am_V → am_R) : am_R :=
  bif Nat.ble b st.length && Nat.ble (st.length - b) 4 && (Nat.beq c 200 || am_recv c (st.take b).reverse) then KA (C a (st.take b).reverse σ) (st.drop b) else none
def am_step (K : Nat → List am_V → List am_V → am_H → am_R) (C : Nat → List am_V → am_H → am_R) (pc : Nat) (ls st : List am_V) (σ : am_H) : Option am_Row → am_R
  | none => none
  | some (i, len, w, a, b, c, tb) => match i with
    | .iconst _ => K (pc + len) ls (av_i w :: st) σ
    | .bipush _ => K (pc + len) ls (av_i w :: st) σ
    | .sipush _ => K (pc + len) ls (av_i w :: st) σ
    | .ldc _ => K (pc + len) ls (av_i w :: st) σ
    | .ldc_w _ => K (pc + len) ls (av_i w :: st) σ
    | .lconst _ => K (pc + len) ls (av_l w.toInt64 :: st) σ
    | .ldc2_w _ => K (pc + len) ls (av_l w.toInt64 :: st) σ
    | .aconst_null => K (pc + len) ls (av_n :: st) σ
    | .iload_n _ => am_ldi ls a (fun v => K (pc + len) ls (v :: st) σ)
    | .iload _ => am_ldi ls a (fun v => K (pc + len) ls (v :: st) σ)
    | .aload_n _ => am_lda ls a (fun v => K (pc + len) ls (v :: st) σ)
    | .aload _ => am_lda ls a (fun v => K (pc + len) ls (v :: st) σ)
    | .istore_n _ => am_sti ls a (fun ls r => K (pc + len) ls r σ) st
    | .istore _ => am_sti ls a (fun ls r => K (pc + len) ls r σ) st
    | .astore_n _ => am_sta ls a (fun ls r => K (pc + len) ls r σ) st
    | .astore _ => am_sta ls a (fun ls r => K (pc + len) ls r σ) st
    | .iinc _ _ => am_inc ls a w (fun ls => K (pc + len) ls st σ)
    | .iadd => am_bin (fun x y => x + y) (fun r => K (pc + len) ls r σ) st
    | .isub => am_bin (fun x y => x - y) (fun r => K (pc + len) ls r σ) st
    | .imul => am_bin (fun x y => x * y) (fun r => K (pc + len) ls r σ) st
    | .iand => am_bin (fun x y => x &&& y) (fun r => K (pc + len) ls r σ) st
    | .ior => am_bin (fun x y => x ||| y) (fun r => K (pc + len) ls r σ) st
    | .ixor => am_bin (fun x y => x ^^^ y) (fun r => K (pc + len) ls r σ) st
    | .ishl => am_bin (fun x y => x <<< y) (fun r => K (pc + len) ls r σ) st
    | .ishr => am_bin (fun x y => x >>> y) (fun r => K (pc + len) ls r σ) st
    | .iushr => am_bin (fun x y => (x.toUInt32 >>> (y.toUInt32 &&& Int32.toUInt32 31)).toInt32) (fun r => K (pc + len) ls r σ) st
    | .idiv => (match st with
      | .inl y :: .inl x :: r => if y = 0 then none else K (pc + len) ls (av_i (x / y) :: r) σ
      | _ => none)
    | .irem => (match st with
      | .inl y :: .inl x :: r => if y = 0 then none else K (pc + len) ls (av_i (x - x / y * y) :: r) σ
      | _ => none)
    | .ineg => (match st with
      | .inl x :: r => K (pc + len) ls (av_i (-x) :: r) σ
      | _ => none)
    | .i2l => (match st with
      | .inl x :: r => K (pc + len) ls (av_l x.toInt64 :: r) σ
      | _ => none)
    | .i2b => (match st with
      | .inl x :: r => K (pc + len) ls (av_i x.toInt8.toInt32 :: r) σ
      | _ => none)
    | .dup => (match st with
      | .inl x :: r => K (pc + len) ls (av_i x :: av_i x :: r) σ
      | .inr (.inr q) :: r => K (pc + len) ls (av_q q :: av_q q :: r) σ
      | _ => none)
    | .dup2 => (match st with
      | .inl x :: .inr (.inr q) :: r => K (pc + len) ls (av_i x :: av_q q :: av_i x :: av_q q :: r) σ
      | _ => none)
    | .dup_x1 => (match st with
      | .inl x :: .inr (.inr q) :: r => K (pc + len) ls (av_i x :: av_q q :: av_i x :: r) σ
      | _ => none)
    | .goto _ => K a ls st σ
    | .if_icmp cnd _ => (match cnd with
      | .eq => am_cmp2 (fun x y A B => if x = y then A else B) (fun r => K a ls r σ) (fun r => K (pc + len) ls r σ) st
      | .ne => am_cmp2 (fun x y A B => if x = y then B else A) (fun r => K a ls r σ) (fun r => K (pc + len) ls r σ) st
      | .lt => am_cmp2 (fun x y A B => if x < y then A else B) (fun r => K a ls r σ) (fun r => K (pc + len) ls r σ) st
      | .ge => am_cmp2 (fun x y A B => if y ≤ x then A else B) (fun r => K a ls r σ) (fun r => K (pc + len) ls r σ) st
      | .gt => am_cmp2 (fun x y A B => if y < x then A else B) (fun r => K a ls r σ) (fun r => K (pc + len) ls r σ) st
      | .le => am_cmp2 (fun x y A B => if x ≤ y then A else B) (fun r => K a ls r σ) (fun r => K (pc + len) ls r σ) st)
    | .ifCond cnd _ => (match cnd with
      | .eq => am_cmp1 (fun x A B => if x = 0 then A else B) (fun r => K a ls r σ) (fun r => K (pc + len) ls r σ) st
      | .ne => am_cmp1 (fun x A B => if x = 0 then B else A) (fun r => K a ls r σ) (fun r => K (pc + len) ls r σ) st
      | .lt => am_cmp1 (fun x A B => if x < 0 then A else B) (fun r => K a ls r σ) (fun r => K (pc + len) ls r σ) st
      | .ge => am_cmp1 (fun x A B => if 0 ≤ x then A else B) (fun r => K a ls r σ) (fun r => K (pc + len) ls r σ) st
      | .gt => am_cmp1 (fun x A B => if 0 < x then A else B) (fun r => K a ls r σ) (fun r => K (pc + len) ls r σ) st
      | .le => am_cmp1 (fun x A B => if x ≤ 0 then A else B) (fun r => K a ls r σ) (fun r => K (pc + len) ls r σ) st)
    | .tableswitch _ _ _ _ => (match st with
      | .inl x :: r => am_sw x (fun q => K q ls r σ) a tb
      | _ => none)
    | .lookupswitch _ _ => (match st with
      | .inl x :: r => am_sw x (fun q => K q ls r σ) a tb
      | _ => none)
    | .iaload => am_iald ak X XL σ (fun r => K (pc + len) ls r σ) st
    | .baload => am_bald ak σ (fun r => K (pc + len) ls r σ) st
    | .aaload => am_aald ak σ (fun r => K (pc + len) ls r σ) st
    | .iastore => am_iast ak σ (fun r σ => K (pc + len) ls r σ) st
    | .bastore => am_bast ak σ (fun r σ => K (pc + len) ls r σ) st
    | .aastore => am_aast ak σ (fun r σ => K (pc + len) ls r σ) st
    | .arraylength => am_alen ak XL σ (fun r => K (pc + len) ls r σ) st
    | .getfield _ => am_getf a b c σ (fun r => K (pc + len) ls r σ) st
    | .putfield _ => am_putf a b c σ (fun r σ => K (pc + len) ls r σ) st
    | .getstatic _ => K (pc + len) ls (av_r a 0 :: st) σ
    | .new _ => K (pc + len) ls (av_r a (am_cnt σ a) :: st) (am_mk σ a 0)
    | .newarray _ => (match st with
      | .inl n :: r => bif am_in n 20000 then K (pc + len) ls (av_r a (am_cnt σ a) :: r) (am_mk σ a n.toNatClampNeg) else none
      | _ => none)
    | .anewarray _ => (match st with
      | .inl n :: r => bif am_in n 20000 then K (pc + len) ls (av_r a (am_cnt σ a) :: r) (am_mk σ a n.toNatClampNeg) else none
      | _ => none)
    | .invokestatic _ => bif Nat.beq a 901 then am_inP (fun r => K (pc + len) ls r σ) st
      else am_call a b c C st σ (fun q r => am_aft tb (fun v σ => K (pc + len) ls (v ++ r) σ) (fun h x σ => K h ls [av_r x.1 x.2] σ) q)
    | .invokevirtual _ => am_call a b c C st σ (fun q r => am_aft tb (fun v σ => K (pc + len) ls (v ++ r) σ) (fun h x σ => K h ls [av_r x.1 x.2] σ) q)
    | .invokespecial _ => bif Nat.beq a 900 then (match st with
        | .inr (.inr (some _)) :: r => bif Nat.ble r.length 4 then K (pc + len) ls r σ else none
        | _ => none)
      else am_call a b c C st σ (fun q r => am_aft tb (fun v σ => K (pc + len) ls (v ++ r) σ) (fun h x σ => K h ls [av_r x.1 x.2] σ) q)
    | .athrow => (match st with
      | .inr (.inr (some q)) :: _ => some (.inr q, σ)
      | _ => none)
    | .ireturn => (match st with
      | [.inl x] => some (.inl (some (av_i (bif Nat.beq a 1 then vp_nar .boolean x else x))), σ)
      | _ => none)
    | .areturn => (match st with
      | [.inr (.inr q)] => some (.inl (some (av_q q)), σ)
      | _ => none)
    | .return_ => (match st with
      | [] => some (.inl none, σ)
      | _ => none)
    | _ => none
end AmStep
def am_look (l : List (Nat × am_Row)) (pc : Nat) : Option am_Row := (l.find? (fun q => Nat.beq q.1 pc)).map (fun q => q.2)
def am_ent (n : Nat) (as : List am_V) : List am_V := as ++ List.replicate (n - as.length) (av_l 0)
section AmRun
variable (ak : Nat → Nat) (X : Nat → Nat → Int32) (XL : Nat → Nat) (code : Nat → List (Nat × am_Row)) (ml : Nat → Nat)
def am_run : Nat → Nat → Nat → List am_V → List am_V → am_H → am_R
  | 0, _, _, _, _, _ => none
  | n + 1, y, pc, ls, st, σ => am_step ak X XL (am_run n y) (fun y2 as σ => am_run n y2 0 (am_ent (ml y2) as) [] σ) pc ls st σ (am_look (code y) pc)
end AmRun
end
section
/-! what a step asks of what comes behind it -/
def am_D1 {α : Type} (F : (α → am_R) → am_R) : Prop := ∀ K r, F K = some r → ∃ x, K x = some r ∧ ∀ K', K' x = some r → F K' = some r
def am_D2 {α β : Type} (F : (α → β → am_R) → am_R) : Prop := ∀ K r, F K = some r → ∃ x y, K x y = some r ∧ ∀ K', K' x y = some r → F K' = some r
section AmEv
variable {ak : Nat → Nat} {X : Nat → Nat → Int32} {XL : Nat → Nat}
theorem am_d_bin (f : Int32 → Int32 → Int32) (st : List am_V) : am_D1 (fun K => am_bin f K st) := by
  intro K r h
  unfold am_bin at h ⊢
  split at h
  · exact ⟨_, h, fun K' h' => h'⟩
  · exact absurd h (by simp)
theorem am_d_iald (σ : am_H) (st : List am_V) : am_D1 (fun K => am_iald ak X XL σ K st) := by
  intro K r h
  unfold am_iald at h ⊢
  split at h
  · rename_i j t i r9
    cases h1 : Nat.blt t 100 <;> simp only [h1, cond_true, cond_false] at h ⊢
    · cases h2 : (Nat.blt t 120 && am_in j (XL t)) <;> simp only [h2, cond_true, cond_false] at h ⊢
      · exact absurd h (by simp)
      · exact ⟨_, h, fun K' h' => h'⟩
    · cases h2 : (Nat.beq (ak t) 0 && am_in j (ah_ln σ t i)) <;> simp only [h2, cond_true, cond_false] at h ⊢
      · exact absurd h (by simp)
      · exact ⟨_, h, fun K' h' => h'⟩
  · exact absurd h (by simp)
theorem am_d_bald (σ : am_H) (st : List am_V) : am_D1 (fun K => am_bald ak σ K st) := by
  intro K r h
  unfold am_bald at h ⊢
  split at h
  · rename_i j t i r9
    cases h2 : (Nat.blt t 100 && (Nat.beq (ak t) 1 || Nat.beq (ak t) 2) && am_in j (ah_ln σ t i)) <;> simp only [h2, cond_true, cond_false] at h ⊢
    · exact absurd h (by simp)
    · exact ⟨_, h, fun K' h' => h'⟩
  · exact absurd h (by simp)
theorem am_d_aald (σ : am_H) (st : List am_V) : am_D1 (fun K => am_aald ak σ K st) := by
  intro K r h
  unfold am_aald at h ⊢
  split at h
  · rename_i j t i r9
    cases h2 : (Nat.blt t 100 && (Nat.beq (ak t) 3 || Nat.beq (ak t) 4) && am_in j (ah_ln σ t i)) <;> simp only [h2, cond_true, cond_false] at h ⊢
    · exact absurd h (by simp)
    · exact ⟨_, h, fun K' h' => h'⟩
  · exact absurd h (by simp)
theorem am_d_iast (σ : am_H) (st : List am_V) : am_D2 (fun K => am_iast ak σ K st) := by
  intro K r h
  unfold am_iast at h ⊢
  split at h
  · rename_i x j t i r9
    cases h2 : (Nat.blt t 100 && Nat.beq (ak t) 0 && am_in j (ah_ln σ t i)) <;> simp only [h2, cond_true, cond_false] at h ⊢
    · exact absurd h (by simp)
    · exact ⟨_, _, h, fun K' h' => h'⟩
  · exact absurd h (by simp)
theorem am_d_bast (σ : am_H) (st : List am_V) : am_D2 (fun K => am_bast ak σ K st) := by
  intro K r h
  unfold am_bast at h ⊢
  split at h
  · rename_i x j t i r9
    cases h2 : (Nat.blt t 100 && (Nat.beq (ak t) 1 || Nat.beq (ak t) 2) && am_in j (ah_ln σ t i)) <;> simp only [h2, cond_true, cond_false] at h ⊢
    · exact absurd h (by simp)
    · exact ⟨_, _, h, fun K' h' => h'⟩
  · exact absurd h (by simp)
theorem am_d_aast (σ : am_H) (st : List am_V) : am_D2 (fun K => am_aast ak σ K st) := by
  intro K r h
  unfold am_aast at h ⊢
  split at h
  · rename_i t2 i2 j t i r9
    cases h2 : (Nat.blt t 100 && ((Nat.beq (ak t) 3 && Nat.beq t2 3) || (Nat.beq (ak t) 4 && Nat.beq t2 1)) && am_in j (ah_ln σ t i)) <;> simp only [h2, cond_true, cond_false] at h ⊢
    · exact absurd h (by simp)
    · exact ⟨_, _, h, fun K' h' => h'⟩
  · exact absurd h (by simp)
theorem am_d_alen (σ : am_H) (st : List am_V) : am_D1 (fun K => am_alen ak XL σ K st) := by
  intro K r h
  unfold am_alen at h ⊢
  split at h
  · rename_i t i r9
    cases h2 : ((Nat.blt t 100 && !Nat.beq (ak t) 9) || (Nat.blt 99 t && Nat.blt t 120)) <;> simp only [h2, cond_true, cond_false] at h ⊢
    · exact absurd h (by simp)
    · exact ⟨_, h, fun K' h' => h'⟩
  · exact absurd h (by simp)
theorem am_d_getf (a b c : Nat) (σ : am_H) (st : List am_V) : am_D1 (fun K => am_getf a b c σ K st) := by
  intro K r h
  unfold am_getf at h ⊢
  split at h
  · rename_i t i r9
    cases h2 : Nat.beq t a <;> simp only [h2, cond_true, cond_false] at h ⊢
    · exact absurd h (by simp)
    · exact ⟨_, h, fun K' h' => h'⟩
  · exact absurd h (by simp)
theorem am_d_putf (a b c : Nat) (σ : am_H) (st : List am_V) : am_D2 (fun K => am_putf a b c σ K st) := by
  intro K r h
  unfold am_putf at h ⊢
  split at h
  · rename_i x t i r9
    cases h2 : (Nat.beq t a && (Nat.beq c 0 || (Nat.beq c 2 && (x == 0 || x == 1)))) <;> simp only [h2, cond_true, cond_false] at h ⊢
    · exact absurd h (by simp)
    · exact ⟨_, _, h, fun K' h' => h'⟩
  · rename_i q t i r9
    cases h2 : (Nat.beq t a && Nat.beq c 1) <;> simp only [h2, cond_true, cond_false] at h ⊢
    · exact absurd h (by simp)
    · exact ⟨_, _, h, fun K' h' => h'⟩
  · exact absurd h (by simp)
theorem am_d_ldi (ls : List am_V) (k : Nat) : am_D1 (fun K => am_ldi ls k K) := by
  intro K r h
  unfold am_ldi at h ⊢
  split at h
  · rename_i x hx
    exact ⟨_, h, fun K' h' => by simp only [hx]; exact h'⟩
  · exact absurd h (by simp)
theorem am_d_lda (ls : List am_V) (k : Nat) : am_D1 (fun K => am_lda ls k K) := by
  intro K r h
  unfold am_lda at h ⊢
  split at h
  · rename_i x hx
    exact ⟨_, h, fun K' h' => by simp only [hx]; exact h'⟩
  · exact absurd h (by simp)
theorem am_d_inc (ls : List am_V) (k : Nat) (w : Int32) : am_D1 (fun K => am_inc ls k w K) := by
  intro K r h
  unfold am_inc at h ⊢
  split at h
  · rename_i x hx
    exact ⟨_, h, fun K' h' => by simp only [hx]; exact h'⟩
  · exact absurd h (by simp)
theorem am_d_sti (ls : List am_V) (k : Nat) (st : List am_V) : am_D2 (fun K => am_sti ls k K st) := by
  intro K r h
  unfold am_sti at h ⊢
  split at h
  · cases h2 : Nat.blt k ls.length <;> simp only [h2, cond_true, cond_false] at h ⊢
    · exact absurd h (by simp)
    · exact ⟨_, _, h, fun K' h' => h'⟩
  · exact absurd h (by simp)
theorem am_d_sta (ls : List am_V) (k : Nat) (st : List am_V) : am_D2 (fun K => am_sta ls k K st) := by
  intro K r h
  unfold am_sta at h ⊢
  split at h
  · cases h2 : Nat.blt k ls.length <;> simp only [h2, cond_true, cond_false] at h ⊢
    · exact absurd h (by simp)
    · exact ⟨_, _, h, fun K' h' => h'⟩
  · exact absurd h (by simp)
theorem am_d_inP (st : List am_V) : am_D1 (fun K => am_inP K st) := by
  intro K r h
  unfold am_inP at h ⊢
  split at h
  · rename_i hi lo x r9
    cases h2 : Nat.ble r9.length 4 <;> simp only [h2, cond_true, cond_false] at h ⊢
    · exact absurd h (by simp)
    · exact ⟨_, h, fun K' h' => h'⟩
  · exact absurd h (by simp)
theorem am_d_sw (x : Int32) (d : Nat) : ∀ tb : List (Int32 × Nat), am_D1 (fun K => am_sw x K d tb)
  | [] => fun K r h => ⟨_, h, fun K' h' => h'⟩
  | q :: tb => by
    intro K r h
    unfold am_sw at h ⊢
    by_cases hq : x = q.1
    · simp only [hq, if_true] at h ⊢
      exact ⟨_, h, fun K' h' => h'⟩
    · simp only [hq, if_false] at h ⊢
      exact am_d_sw x d tb K r h
/-- which of two roads, then what is asked there -/
def am_DB (p : Int32 → Int32 → am_R → am_R → am_R) : Prop := ∀ x y A B r, p x y A B = some r → (A = some r ∧ ∀ A' B', A' = some r → p x y A' B' = some r) ∨ (B = some r ∧ ∀ A' B', B' = some r → p x y A' B' = some r)
theorem am_d_ite {c : Prop} [Decidable c] {A B : am_R} {r : am_O × am_H} (h : (if c then A else B) = some r) : (A = some r ∧ ∀ A' B' : am_R, A' = some r → (if c then A' else B') = some r) ∨ (B = some r ∧ ∀ A' B' : am_R, B' = some r → (if c then A' else B') = some r) := by
  by_cases hc : c
  · simp only [hc, if_true] at h ⊢
    exact Or.inl ⟨h, fun _ _ h => h⟩
  · simp only [hc, if_false] at h ⊢
    exact Or.inr ⟨h, fun _ _ h => h⟩
theorem am_d_ite' {c : Prop} [Decidable c] {A B : am_R} {r : am_O × am_H} (h : (if c then B else A) = some r) : (A = some r ∧ ∀ A' B' : am_R, A' = some r → (if c then B' else A') = some r) ∨ (B = some r ∧ ∀ A' B' : am_R, B' = some r → (if c then B' else A') = some r) := by
  by_cases hc : c
  · simp only [hc, if_true] at h ⊢
    exact Or.inr ⟨h, fun _ _ h => h⟩
  · simp only [hc, if_false] at h ⊢
    exact Or.inl ⟨h, fun _ _ h => h⟩
end AmEv
end
section
abbrev am_KT : Type := Nat → List am_V → List am_V → am_H → am_R
abbrev am_CT : Type := Nat → List am_V → am_H → am_R
def am_Dst (F : am_KT → am_CT → am_R) : Prop := ∀ K C r, F K C = some r →
  (∀ K' C', F K' C' = some r)
  ∨ (∃ p l s h, K p l s h = some r ∧ ∀ (K' : am_KT) C', K' p l s h = some r → F K' C' = some r)
  ∨ (∃ y as h q, C y as h = some q ∧ ∀ K' (C' : am_CT), C' y as h = some q → F K' C' = some r)
  ∨ (∃ y as h q p l s h2, C y as h = some q ∧ K p l s h2 = some r ∧ ∀ (K' : am_KT) (C' : am_CT), C' y as h = some q → K' p l s h2 = some r → F K' C' = some r)
theorem am_dst1 {α : Type} {F : (α → am_R) → am_R} (hF : am_D1 F) (p : α → Nat) (l s : α → List am_V) (h : α → am_H) : am_Dst (fun K _ => F (fun x => K (p x) (l x) (s x) (h x))) := by
  intro K C r hr
  obtain ⟨x, h1, h2⟩ := hF _ r hr
  exact Or.inr (Or.inl ⟨_, _, _, _, h1, fun K' _ h' => h2 _ h'⟩)
theorem am_dst2 {α β : Type} {F : (α → β → am_R) → am_R} (hF : am_D2 F) (p : α → β → Nat) (l s : α → β → List am_V) (h : α → β → am_H) : am_Dst (fun K _ => F (fun x y => K (p x y) (l x y) (s x y) (h x y))) := by
  intro K C r hr
  obtain ⟨x, y, h1, h2⟩ := hF _ r hr
  exact Or.inr (Or.inl ⟨_, _, _, _, h1, fun K' _ h' => h2 _ h'⟩)
theorem am_dst0 (p : Nat) (l s : List am_V) (h : am_H) : am_Dst (fun K _ => K p l s h) := fun _ _ _ hr => Or.inr (Or.inl ⟨_, _, _, _, hr, fun _ _ h' => h'⟩)
theorem am_dst_none : am_Dst (fun _ _ => none) := fun _ _ _ hr => by simp at hr
theorem am_dst_some (q : am_O × am_H) : am_Dst (fun _ _ => some q) := fun _ _ _ hr => Or.inl fun _ _ => hr
theorem am_dst_cmp2 {p : Int32 → Int32 → am_R → am_R → am_R} (hp : ∀ x y A B r, p x y A B = some r → (A = some r ∧ ∀ A' B', A' = some r → p x y A' B' = some r) ∨ (B = some r ∧ ∀ A' B', B' = some r → p x y A' B' = some r))
    (a b : Nat) (ls st : List am_V) (σ : am_H) : am_Dst (fun K _ => am_cmp2 p (fun r => K a ls r σ) (fun r => K b ls r σ) st) := by
  intro K C r h
  unfold am_cmp2 at h ⊢
  split at h
  · rcases hp _ _ _ _ _ h with ⟨h1, h2⟩ | ⟨h1, h2⟩
    · exact Or.inr (Or.inl ⟨_, _, _, _, h1, fun K' _ h' => h2 _ _ h'⟩)
    · exact Or.inr (Or.inl ⟨_, _, _, _, h1, fun K' _ h' => h2 _ _ h'⟩)
  · exact absurd h (by simp)
theorem am_dst_cmp1 {p : Int32 → am_R → am_R → am_R} (hp : ∀ x A B r, p x A B = some r → (A = some r ∧ ∀ A' B', A' = some r → p x A' B' = some r) ∨ (B = some r ∧ ∀ A' B', B' = some r → p x A' B' = some r))
    (a b : Nat) (ls st : List am_V) (σ : am_H) : am_Dst (fun K _ => am_cmp1 p (fun r => K a ls r σ) (fun r => K b ls r σ) st) := by
  intro K C r h
  unfold am_cmp1 at h ⊢
  split at h
  · rcases hp _ _ _ _ h with ⟨h1, h2⟩ | ⟨h1, h2⟩
    · exact Or.inr (Or.inl ⟨_, _, _, _, h1, fun K' _ h' => h2 _ _ h'⟩)
    · exact Or.inr (Or.inl ⟨_, _, _, _, h1, fun K' _ h' => h2 _ _ h'⟩)
  · exact absurd h (by simp)
theorem am_dst_call (a b c pc' : Nat) (ls st : List am_V) (σ : am_H) (tb : List (Int32 × Nat)) : am_Dst (fun K C => am_call a b c C st σ (fun q r => am_aft tb (fun v σ => K pc' ls (v ++ r) σ) (fun h x σ => K h ls [av_r x.1 x.2] σ) q)) := by
  intro K C r h
  unfold am_call at h ⊢
  cases h2 : (Nat.ble b st.length && Nat.ble (st.length - b) 4 && (Nat.beq c 200 || am_recv c (st.take b).reverse)) <;> simp only [h2, cond_true, cond_false] at h ⊢
  · exact absurd h (by simp)
  · cases hq : C a (List.take b st).reverse σ with
    | none => rw [hq] at h; simp [am_aft] at h
    | some q =>
      obtain ⟨o, σ2⟩ := q
      rw [hq] at h
      cases o with
      | inl v => exact Or.inr (Or.inr (Or.inr ⟨_, _, _, _, _, _, _, _, hq, h, fun K' C' h1 h2 => by rw [h1]; exact h2⟩))
      | inr x =>
        cases tb with
        | nil => exact Or.inr (Or.inr (Or.inl ⟨_, _, _, _, hq, fun K' C' h1 => by rw [h1]; exact h⟩))
        | cons z t => exact Or.inr (Or.inr (Or.inr ⟨_, _, _, _, _, _, _, _, hq, h, fun K' C' h1 h2 => by rw [h1]; exact h2⟩))
set_option maxHeartbeats 2000000 in
theorem am_dst (ak : Nat → Nat) (X : Nat → Nat → Int32) (XL : Nat → Nat) (pc : Nat) (ls st : List am_V) (σ : am_H) (row : Option am_Row) : am_Dst (fun K C => am_step ak X XL K C pc ls st σ row) := by
  rcases row with _ | ⟨i, len, w, a, b, c, tb⟩
  · exact am_dst_none
  · cases i with
    | iconst n => exact am_dst0 _ _ _ _
    | bipush n => exact am_dst0 _ _ _ _
    | sipush n => exact am_dst0 _ _ _ _
    | ldc n => exact am_dst0 _ _ _ _
    | ldc_w n => exact am_dst0 _ _ _ _
    | lconst n => exact am_dst0 _ _ _ _
    | ldc2_w n => exact am_dst0 _ _ _ _
    | aconst_null => exact am_dst0 _ _ _ _
    | iload_n n => exact am_dst1 (am_d_ldi ls a) (fun _ => pc + len) (fun _ => ls) (fun v => v :: st) (fun _ => σ)
    | iload n => exact am_dst1 (am_d_ldi ls a) (fun _ => pc + len) (fun _ => ls) (fun v => v :: st) (fun _ => σ)
    | aload_n n => exact am_dst1 (am_d_lda ls a) (fun _ => pc + len) (fun _ => ls) (fun v => v :: st) (fun _ => σ)
    | aload n => exact am_dst1 (am_d_lda ls a) (fun _ => pc + len) (fun _ => ls) (fun v => v :: st) (fun _ => σ)
    | istore_n n => exact am_dst2 (am_d_sti ls a st) (fun _ _ => pc + len) (fun l _ => l) (fun _ r => r) (fun _ _ => σ)
    | istore n => exact am_dst2 (am_d_sti ls a st) (fun _ _ => pc + len) (fun l _ => l) (fun _ r => r) (fun _ _ => σ)
    | astore_n n => exact am_dst2 (am_d_sta ls a st) (fun _ _ => pc + len) (fun l _ => l) (fun _ r => r) (fun _ _ => σ)
    | astore n => exact am_dst2 (am_d_sta ls a st) (fun _ _ => pc + len) (fun l _ => l) (fun _ r => r) (fun _ _ => σ)
    | iinc k n => exact am_dst1 (am_d_inc ls a w) (fun _ => pc + len) (fun l => l) (fun _ => st) (fun _ => σ)
    | iadd => exact am_dst1 (am_d_bin _ st) (fun _ => pc + len) (fun _ => ls) (fun r => r) (fun _ => σ)
    | isub => exact am_dst1 (am_d_bin _ st) (fun _ => pc + len) (fun _ => ls) (fun r => r) (fun _ => σ)
    | imul => exact am_dst1 (am_d_bin _ st) (fun _ => pc + len) (fun _ => ls) (fun r => r) (fun _ => σ)
    | iand => exact am_dst1 (am_d_bin _ st) (fun _ => pc + len) (fun _ => ls) (fun r => r) (fun _ => σ)
    | ior => exact am_dst1 (am_d_bin _ st) (fun _ => pc + len) (fun _ => ls) (fun r => r) (fun _ => σ)
    | ixor => exact am_dst1 (am_d_bin _ st) (fun _ => pc + len) (fun _ => ls) (fun r => r) (fun _ => σ)
    | ishl => exact am_dst1 (am_d_bin _ st) (fun _ => pc + len) (fun _ => ls) (fun r => r) (fun _ => σ)
    | ishr => exact am_dst1 (am_d_bin _ st) (fun _ => pc + len) (fun _ => ls) (fun r => r) (fun _ => σ)
    | iushr => exact am_dst1 (am_d_bin _ st) (fun _ => pc + len) (fun _ => ls) (fun r => r) (fun _ => σ)
    | idiv =>
      intro K C r h
      simp only [am_step] at h ⊢
      split at h
      · split at h
        · exact absurd h (by simp)
        · rename_i hne
          exact Or.inr (Or.inl ⟨_, _, _, _, h, fun _ _ h' => by rw [if_neg hne]; exact h'⟩)
      · exact absurd h (by simp)
    | irem =>
      intro K C r h
      simp only [am_step] at h ⊢
      split at h
      · split at h
        · exact absurd h (by simp)
        · rename_i hne
          exact Or.inr (Or.inl ⟨_, _, _, _, h, fun _ _ h' => by rw [if_neg hne]; exact h'⟩)
      · exact absurd h (by simp)
    | ineg =>
      intro K C r h
      simp only [am_step] at h ⊢
      split at h
      · exact Or.inr (Or.inl ⟨_, _, _, _, h, fun _ _ h' => h'⟩)
      · exact absurd h (by simp)
    | i2l =>
      intro K C r h
      simp only [am_step] at h ⊢
      split at h
      · exact Or.inr (Or.inl ⟨_, _, _, _, h, fun _ _ h' => h'⟩)
      · exact absurd h (by simp)
    | i2b =>
      intro K C r h
      simp only [am_step] at h ⊢
      split at h
      · exact Or.inr (Or.inl ⟨_, _, _, _, h, fun _ _ h' => h'⟩)
      · exact absurd h (by simp)
    | dup =>
      intro K C r h
      simp only [am_step] at h ⊢
      split at h
      · exact Or.inr (Or.inl ⟨_, _, _, _, h, fun _ _ h' => h'⟩)
      · exact Or.inr (Or.inl ⟨_, _, _, _, h, fun _ _ h' => h'⟩)
      · exact absurd h (by simp)
    | dup2 =>
      intro K C r h
      simp only [am_step] at h ⊢
      split at h
      · exact Or.inr (Or.inl ⟨_, _, _, _, h, fun _ _ h' => h'⟩)
      · exact absurd h (by simp)
    | dup_x1 =>
      intro K C r h
      simp only [am_step] at h ⊢
      split at h
      · exact Or.inr (Or.inl ⟨_, _, _, _, h, fun _ _ h' => h'⟩)
      · exact absurd h (by simp)
    | goto n => exact am_dst0 _ _ _ _
    | if_icmp cnd off => cases cnd with
      | eq => exact am_dst_cmp2 (p := fun x y A B => if x = y then A else B) (fun _ _ _ _ _ h => am_d_ite h) _ _ _ _ _
      | ne => exact am_dst_cmp2 (p := fun x y A B => if x = y then B else A) (fun _ _ _ _ _ h => am_d_ite' h) _ _ _ _ _
      | lt => exact am_dst_cmp2 (p := fun x y A B => if x < y then A else B) (fun _ _ _ _ _ h => am_d_ite h) _ _ _ _ _
      | ge => exact am_dst_cmp2 (p := fun x y A B => if y ≤ x then A else B) (fun _ _ _ _ _ h => am_d_ite h) _ _ _ _ _
      | gt => exact am_dst_cmp2 (p := fun x y A B => if y < x then A else B) (fun _ _ _ _ _ h => am_d_ite h) _ _ _ _ _
      | le => exact am_dst_cmp2 (p := fun x y A B => if x ≤ y then A else B) (fun _ _ _ _ _ h => am_d_ite h) _ _ _ _ _
    | ifCond cnd off => cases cnd with
      | eq => exact am_dst_cmp1 (p := fun x A B => if x = 0 then A else B) (fun _ _ _ _ h => am_d_ite h) _ _ _ _ _
      | ne => exact am_dst_cmp1 (p := fun x A B => if x = 0 then B else A) (fun _ _ _ _ h => am_d_ite' h) _ _ _ _ _
      | lt => exact am_dst_cmp1 (p := fun x A B => if x < 0 then A else B) (fun _ _ _ _ h => am_d_ite h) _ _ _ _ _
      | ge => exact am_dst_cmp1 (p := fun x A B => if 0 ≤ x then A else B) (fun _ _ _ _ h => am_d_ite h) _ _ _ _ _
      | gt => exact am_dst_cmp1 (p := fun x A B => if 0 < x then A else B) (fun _ _ _ _ h => am_d_ite h) _ _ _ _ _
      | le => exact am_dst_cmp1 (p := fun x A B => if x ≤ 0 then A else B) (fun _ _ _ _ h => am_d_ite h) _ _ _ _ _
    | tableswitch d lo hi offs =>
      intro K C r h
      simp only [am_step] at h ⊢
      split at h
      · exact am_dst1 (am_d_sw _ a tb) (fun q => q) (fun _ => ls) (fun _ => _) (fun _ => σ) K C r h
      · exact absurd h (by simp)
    | lookupswitch d ps =>
      intro K C r h
      simp only [am_step] at h ⊢
      split at h
      · exact am_dst1 (am_d_sw _ a tb) (fun q => q) (fun _ => ls) (fun _ => _) (fun _ => σ) K C r h
      · exact absurd h (by simp)
    | iaload => exact am_dst1 (am_d_iald σ st) (fun _ => pc + len) (fun _ => ls) (fun r => r) (fun _ => σ)
    | baload => exact am_dst1 (am_d_bald σ st) (fun _ => pc + len) (fun _ => ls) (fun r => r) (fun _ => σ)
    | aaload => exact am_dst1 (am_d_aald σ st) (fun _ => pc + len) (fun _ => ls) (fun r => r) (fun _ => σ)
    | iastore => exact am_dst2 (am_d_iast σ st) (fun _ _ => pc + len) (fun _ _ => ls) (fun r _ => r) (fun _ h => h)
    | bastore => exact am_dst2 (am_d_bast σ st) (fun _ _ => pc + len) (fun _ _ => ls) (fun r _ => r) (fun _ h => h)
    | aastore => exact am_dst2 (am_d_aast σ st) (fun _ _ => pc + len) (fun _ _ => ls) (fun r _ => r) (fun _ h => h)
    | arraylength => exact am_dst1 (am_d_alen σ st) (fun _ => pc + len) (fun _ => ls) (fun r => r) (fun _ => σ)
    | getfield n => exact am_dst1 (am_d_getf a b c σ st) (fun _ => pc + len) (fun _ => ls) (fun r => r) (fun _ => σ)
    | putfield n => exact am_dst2 (am_d_putf a b c σ st) (fun _ _ => pc + len) (fun _ _ => ls) (fun r _ => r) (fun _ h => h)
    | getstatic n => exact am_dst0 _ _ _ _
    | new n => exact am_dst0 _ _ _ _
    | newarray ty =>
      intro K C r h
      simp only [am_step] at h ⊢
      split at h
      · rename_i n r9
        cases h2 : am_in n 20000 <;> simp only [h2, cond_true, cond_false] at h ⊢
        · exact absurd h (by simp)
        · exact Or.inr (Or.inl ⟨_, _, _, _, h, fun _ _ h' => h'⟩)
      · exact absurd h (by simp)
    | anewarray ty =>
      intro K C r h
      simp only [am_step] at h ⊢
      split at h
      · rename_i n r9
        cases h2 : am_in n 20000 <;> simp only [h2, cond_true, cond_false] at h ⊢
        · exact absurd h (by simp)
        · exact Or.inr (Or.inl ⟨_, _, _, _, h, fun _ _ h' => h'⟩)
      · exact absurd h (by simp)
    | invokestatic n =>
      intro K C r h
      simp only [am_step] at h ⊢
      cases h2 : Nat.beq a 901 <;> simp only [h2, cond_true, cond_false] at h ⊢
      · exact am_dst_call a b c (pc + len) ls st σ tb K C r h
      · exact am_dst1 (am_d_inP st) (fun _ => pc + len) (fun _ => ls) (fun r => r) (fun _ => σ) K C r h
    | invokevirtual n => exact am_dst_call a b c (pc + len) ls st σ tb
    | invokespecial n =>
      intro K C r h
      simp only [am_step] at h ⊢
      cases h2 : Nat.beq a 900 <;> simp only [h2, cond_true, cond_false] at h ⊢
      · exact am_dst_call a b c (pc + len) ls st σ tb K C r h
      · split at h
        · rename_i q r9
          cases h3 : Nat.ble r9.length 4 <;> simp only [h3, cond_true, cond_false] at h ⊢
          · exact absurd h (by simp)
          · exact Or.inr (Or.inl ⟨_, _, _, _, h, fun _ _ h' => h'⟩)
        · exact absurd h (by simp)
    | athrow =>
      intro K C r h
      simp only [am_step] at h ⊢
      split at h
      · exact Or.inl fun _ _ => h
      · exact absurd h (by simp)
    | ireturn =>
      intro K C r h
      simp only [am_step] at h ⊢
      split at h
      · exact Or.inl fun _ _ => h
      · exact absurd h (by simp)
    | areturn =>
      intro K C r h
      simp only [am_step] at h ⊢
      split at h
      · exact Or.inl fun _ _ => h
      · exact absurd h (by simp)
    | return_ =>
      intro K C r h
      simp only [am_step] at h ⊢
      split at h
      · exact Or.inl fun _ _ => h
      · exact absurd h (by simp)
    | _ => exact am_dst_none
end
