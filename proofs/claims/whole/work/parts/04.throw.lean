def am_MQ (below : List Frame) (Qc : Array Value → State → Outcome → State → Prop) (a : Array Value) (s : State) (mc ms : Nat) (free : Addr → Prop) : State → Prop := fun t =>
  ∃ o, t.status = .running ∧ Ended t below o ∧ Qc a s o t ∧ ∃ L, am_FE s t L mc ms ∧ ∀ q ∈ L, free q.base
section AmThrow
variable {p : Program} {l : Launch} {e : Env} {R : Room} {s : State} {m : MethodId} {args : Array Value} {below : List Frame} {meth : Method} {c : Code} {H : Heap} {locs : List Loc} {cells slots : Nat} {Q : State → Prop}
theorem am_Wmono {Q2 : State → Prop} {g : JFrame} (h : ∀ t, Q t → Q2 t) (k : W p l e R s m args below meth c H locs cells slots Q g) : W p l e R s m args below meth c H locs cells slots Q2 g := by
  intro T hT X
  obtain ⟨t, a, b⟩ := k T hT X
  exact ⟨t, a, h t b⟩
theorem am_MQ_of {Qc : Array Value → State → Outcome → State → Prop} {mc ms : Nat} {free : Addr → Prop} {a : Array Value} : ∀ t, MQ below Qc a s mc ms free t → am_MQ below Qc a s mc ms free t := by
  intro t hh
  obtain ⟨o, h1, h2, h3, L, ⟨-, h5, h6⟩, h7⟩ := hh
  exact ⟨o, h1, h2, h3, L, ⟨h5, h6⟩, h7⟩
theorem am_ofW {y : MethodName} {ws : List Cond} {rm : Room} {Pc : Array Value → State → Prop} {Qc : Array Value → State → Outcome → State → Prop} {mc ms : Nat} {free : Addr → Prop} {cc : ByteArray} {maxL : Nat} {ret : Option FieldType}
    (hy : plainName y.cls = true)
    (his : ∀ (args : Array Value) (s : State) m, (∀ w ∈ ws, w.before args s = true) → s.methodNamed? y = some m → ∃ meth c, s.vm.method? m = some meth ∧ meth.code = some c ∧ c.code = cc ∧ c.maxLocals = maxL ∧ meth.sig.returnType = ret ∧ meth.locks = false)
    (body : ∀ p e s m args below meth c s₁, BodyLoose p l y (headSpec ws rm) cc maxL ret e s m args below meth c s₁ → c.maxLocals = maxL → Pc args s →
      W p l e rm s m args below meth c s.heap [] 0 0 (am_MQ below Qc args s mc ms free) (entryFrame m args maxL)) : am_Met l y ws rm Pc Qc mc ms free := by
  refine MetFree.of_bodyS (code := cc) (maxLocals := maxL) (ret := ret) hy ?_ ?_
  · intro args s m h hn
    exact his args s m (atoms_spec (ws := ws) h) hn
  · intro p e s m args below meth c s₁ B hml hP _
    have hh0 : s₁.heap = s.heap := by rw [B.state]; rfl
    obtain ⟨t, a1, o, b1, b2, b3⟩ := body p e s m args below meth c s₁ B hml hP s₁ hh0 (Stand.of_body B)
    exact ⟨t, o, a1, b1, b2, ⟨b3.1, b3.2⟩⟩
/-- a throw leaves the method -/
theorem am_WT_leave {Qc : Array Value → State → Outcome → State → Prop} {free : Addr → Prop} {x : Addr} {pc : Nat} {ls : Array Slot} {st : List Value} (hlocks : meth.locks = false)
    (hout : ∀ x ∈ c.exceptionTable.toList, covers x pc = false)
    (hq : ∀ t : State, t.heap = H → s.WarmedH t.vm → Qc args s (.threw x) t) (hf : ∀ q ∈ locs, free q.base) :
    am_WT p l e R s m args below meth c H locs cells slots (am_MQ below Qc args s cells slots free) (F0 m pc ls st) x := by
  intro T hT X
  obtain ⟨h1, h2, h3, h4, h5⟩ := X.leaveThrown x (g := F0 m pc ls st) rfl rfl rfl hout
  exact ⟨_, h1, .threw x, h2, h3, hq _ hT h4, locs, ⟨h4, h5⟩, hf⟩
theorem am_athrow {Qc : Array Value → State → Outcome → State → Prop} {free : Addr → Prop} {x : Addr} {pc : Nat} {ls : Array Slot} {st : List Value} {cc : ByteArray} (hexec : p.tables.exec = Jvm.exec) (hb : c.code = cc) (hlocks : meth.locks = false)
    (hout : ∀ x ∈ c.exceptionTable.toList, covers x pc = false)
    (hq : ∀ t : State, t.heap = H → s.WarmedH t.vm → Qc args s (.threw x) t) (hf : ∀ q ∈ locs, free q.base) (hdg : decode cc pc = .ok (.athrow, 1)) :
    W p l e R s m args below meth c H locs cells slots (am_MQ below Qc args s cells slots free) (F0 m pc ls (.ref x :: st)) := by
  intro T hT X
  obtain ⟨h1, h2, h3, h4, h5⟩ := X.athrowLeaves hexec (g := F0 m pc ls (.ref x :: st)) rfl rfl rfl hout (a := x) (rest := st) rfl (by rw [hb]; exact hdg)
  exact ⟨_, h1, .threw x, h2, h3, hq _ hT h4, locs, ⟨h4, h5⟩, hf⟩
theorem am_stepCatch {e : Env} {s : State} {a : Addr} {f : JFrame} {r : List Frame} {pc : Nat} {vm' : Vm} (hfind : ∀ (Q : Handler → Pre) (E : CtlPost) (d : Bool) (acts : List Action), (∀ d', Q (.found pc) d' acts (s.setVm vm')) → wp (findHandler f a) Q E e d acts s) :
    (stepThrowing e s a (.java f :: r)).Is ((s.setVm vm').setFrames (.java { f with pc := pc, stack := [.ref a] } :: r)) [] := by
  simp only [stepThrowing, searchFrame, vmDo]
  generalize hr : Sem.go _ e false [] s = res
  obtain ⟨as, rfl, ha⟩ := Sem.eq_ok_of hr (a := Handler.found pc) (s' := s.setVm vm') (acts' := []) (by
    rw [wp_bind']
    refine hfind _ _ _ _ ?_
    intro d'
    simp)
  exact ⟨rfl, ha⟩
theorem am_caught {tb : Tables} {e : Env} {s target : State} {g : JFrame} {c : Code} {below : List Frame} {a : Addr} {vm' : Vm} (h : At s g.method c below) {pc : Nat} (hfind : ∀ (Q : Handler → Pre) (E : CtlPost) (d : Bool) (acts : List Action), (∀ d', Q (.found pc) d' acts (((s.setTop g).pushFrame (.throwing a)).setVm vm')) → wp (findHandler g a) Q E e d acts ((s.setTop g).pushFrame (.throwing a)))
    (hrest : Steps tb e below ((s.setVm vm').setTop { g with pc := pc, stack := [.ref a] }) target) :
    Steps tb e below ((s.setTop g).pushFrame (.throwing a)) target := by
  obtain ⟨hgo, hw⟩ := h.throwing a
  refine Steps.head hgo hw ?_
  rw [stepThread_throwing (frames_entered h.top _), (am_stepCatch (s := (s.setTop g).pushFrame (.throwing a)) hfind).1]
  obtain ⟨g₀, hg⟩ := Option.isSome_iff_exists.mp h.top
  obtain ⟨r, hr⟩ := State.topJava?_eq_some.mp hg
  have hr2 : (s.setVm vm').frames = .java g₀ :: r := hr
  rw [State.setTop_of_frames _ hr2] at hrest
  have e1 : (((s.setTop g).pushFrame (.throwing a)).setVm vm').setFrames (.java { g with pc := pc, stack := [.ref a] } :: s.frames.tail) = (s.setVm vm').setFrames (.java { g with pc := pc, stack := [.ref a] } :: r) := by
    rw [State.pushFrame, State.setTop_of_frames _ hr, State.setFrames_setFrames, hr]
    show ((s.setFrames _).setFrames _).setVm vm' = (s.setFrames _).setVm vm'
    rw [State.setFrames_setFrames]
    rfl
  rw [e1]
  exact hrest
theorem am_WT_catch {own C : String} {x : ExceptionTableEntry} {a : Addr} {pc : Nat} {ls : Array Slot} {st : List Value} {cell : Cell}
    (htab : c.exceptionTable.toList = [x]) (hcov : covers x pc = true) (h0 : x.catchType ≠ 0) (hown : s.vm.findClass own = some m.cls) (hcl : (Cond.classLink own x.catchType C).before args s = true)
    (hcell : H[a]? = some cell) (hvm : cell.vm = .none) {cC : ClassId} (hC : ClassAt s C cC) (hcc : cell.cls = cC)
    (kk : W p l e R s m args below meth c H locs cells slots Q (F0 m x.handlerPc ls [.ref a])) :
    am_WT p l e R s m args below meth c H locs cells slots Q (F0 m pc ls st) a := by
  intro T hT X
  subst hT
  have hpl : e.platform.magicAccessors = ({} : Platform).magicAccessors := by rw [X.admits.platform]
  obtain ⟨cc, hfcc, hlk⟩ := Cond.classLink_spec hown hcl e.platform hpl
  cases hC.1.symm.trans hfcc
  obtain ⟨hg₁, hwarm₁, hready₁⟩ := State.classEntry (e := e) X.warmed hlk
  have hsz : (T.vm.noted m.cls x.catchType (.cls cC)).classes.size ≤ T.vm.classes.size := by simp
  obtain ⟨ha, ht⟩ := hg₁.op (op := VmOp.resolveClass m.cls x.catchType) rfl
  obtain ⟨t, a1, b1⟩ := kk (T.setVm (T.vm.noted m.cls x.catchType (.cls cC))) rfl (X.noted hwarm₁)
  refine ⟨t, am_caught (vm' := T.vm.noted m.cls x.catchType (.cls cC)) (g := F0 m pc ls st) X.here ?_ a1, b1⟩
  intro Q E d acts hQ
  have hmt : T.vm.method? m = some meth := X.method'
  rw [W.findHandler_eq (s := (T.setTop (F0 m pc ls st)).pushFrame (.throwing a)) (f := F0 m pc ls st) hmt X.code, htab]
  have hCa : ClassAt (T.setVm (T.vm.noted m.cls x.catchType (.cls cC))) C cC := classAt_moved hwarm₁.alike hC
  have hassign : (T.vm.noted m.cls x.catchType (.cls cC)).assignable cC cC = true := va_assign hCa
  have hk1 : ∃ k, (T.vm.noted m.cls x.catchType (.cls cC)).classes[cC]? = some k := ⟨hCa.2.choose, hCa.2.choose_spec.1⟩
  simp only [covers] at hcov
  have hQ2 := hQ (VmOp.dirties (VmOp.resolveClass m.cls x.catchType) d)
  generalize T.vm.noted m.cls x.catchType (.cls cC) = vm₁ at *
  subst hcc
  have hheap : ((T.setTop (F0 m pc ls st)).pushFrame (.throwing a)).heap = T.heap := rfl
  have hvm2 : ((T.setTop (F0 m pc ls st)).pushFrame (.throwing a)).vm = T.vm := rfl
  simp [findHandler.go, hcov, h0, hheap, hvm2, ha, ht, hsz, hcell, hvm, hk1, hassign]
  exact hQ2
end AmThrow
