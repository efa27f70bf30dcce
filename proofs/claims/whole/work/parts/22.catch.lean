/-! A THROWN OBJECT IS CAUGHT: the rows of a table, one after the other; a class that a row names may be linked only now -/
section CATCH
variable {e : Env} {f : JFrame} {a : Addr} {s : State} {cell : Cell}
/-- the rows lead to the handler at pc -/
def mm_Rw (pl : Platform) (s : State) (d : ClassId) (at9 : Nat) (thrown : ClassId) (pc : Nat) : List ExceptionTableEntry → Prop
  | [] => False
  | x :: t => (covers x at9 = false ∧ mm_Rw pl s d at9 thrown pc t) ∨ (covers x at9 = true ∧ x.catchType ≠ 0 ∧ ∃ c, s.vm.ClassLinks pl d x.catchType c ∧ ((s.vm.assignable thrown c = true ∧ x.handlerPc = pc) ∨ (s.vm.assignable thrown c = false ∧ mm_Rw pl s d at9 thrown pc t)))
theorem mm_find (hobj : ∀ k, cell.vm ≠ .statics k) (hk0 : ∃ k, s.vm.classes[cell.cls]? = some k) {pc : Nat} : ∀ (rows : List ExceptionTableEntry) (U : State), s.WarmedH U.vm → U.heap[a]? = some cell → mm_Rw e.platform s f.method.cls f.pc cell.cls pc rows →
    ∃ vm', s.WarmedH vm' ∧ ∀ (Q : Handler → Pre) (E : CtlPost) (d : Bool) (acts : List Action), wp (findHandler.go f a rows) Q E e d acts U ↔ Q (.found pc) d acts (U.setVm vm') := by
  obtain ⟨k0, hk0⟩ := hk0
  intro rows
  induction rows with
  | nil => intro U _ _ h; exact h.elim
  | cons x t ih =>
    intro U hW hcell h
    obtain ⟨k0', hk0', -⟩ := hW.alike.2.2 _ _ hk0
    rcases h with ⟨hx, h⟩ | ⟨hx, h0, c, hl, h⟩
    · obtain ⟨vm', h1, h2⟩ := ih U hW hcell h
      refine ⟨vm', h1, fun Q E d acts => ?_⟩
      rw [W.findHandler_go_skip hx]
      exact h2 Q E d acts
    · obtain ⟨dk, _, _, kt, hd, _, _, _, _, hkt, _, hopen⟩ := hl.here
      obtain ⟨kt', hkt', -⟩ := hW.alike.2.2 _ _ hkt
      have hlU := hW.classLinks hl
      have hW2 := hW.noted hd hopen (State.rightAt_cls hl)
      obtain ⟨ha9, ht9⟩ := (resolveClass_links e.toSetting hlU).op (op := VmOp.resolveClass f.method.cls x.catchType) rfl
      have hal : U.vm.Alike (U.vm.noted f.method.cls x.catchType (.cls c)) := (Vm.Alike.refl U.vm).noted _ _ _
      obtain ⟨k1, hk1, -⟩ := hal.2.2 _ _ hk0'
      obtain ⟨k2, hk2, -⟩ := hal.2.2 _ _ hkt'
      have hx2 := hx
      simp only [covers] at hx2
      rcases h with ⟨hfit, hpc⟩ | ⟨hno, h⟩
      · have hfit' : (U.vm.noted f.method.cls x.catchType (.cls c)).assignable cell.cls c = true := by rw [hal.assignable, hW.alike.assignable]; exact hfit
        refine ⟨_, hW2, fun Q E d acts => ?_⟩
        rw [← hpc]
        simp [findHandler.go, hx2, h0, ha9, ht9, hcell, hobj, hk1, hk2, hfit', VmOp.dirties, VmOp.acts]
      · have hno' : (U.vm.noted f.method.cls x.catchType (.cls c)).assignable cell.cls c = false := by rw [hal.assignable, hW.alike.assignable]; exact hno
        obtain ⟨vm', h1, h2⟩ := ih (U.setVm (U.vm.noted f.method.cls x.catchType (.cls c))) hW2 hcell h
        refine ⟨vm', h1, fun Q E d acts => ?_⟩
        refine Iff.trans ?_ (h2 Q E d acts)
        simp [findHandler.go, hx2, h0, ha9, ht9, hcell, hobj, hk1, hk2, hno', VmOp.dirties, VmOp.acts]
end CATCH
section CAUGHT
variable {p : Program} {l : Launch} {e : Env} {R : Room} {s : State} {m : MethodId} {args : Array Value} {below : List Frame} {meth : Method} {c : Code} {T : State} {locs : List Loc} {cells slots : Nat}
/-- the frame goes on at the handler, the thrown object alone on its stack -/
theorem mm_caught (X : Stand p l e R s m args below meth c T locs cells slots) {g : JFrame} (hg : g.method = m) {a : Addr} {cell : Cell} (hcell : T.heap[a]? = some cell) (hvm : cell.vm = .none) (hk0 : ∃ k, s.vm.classes[cell.cls]? = some k) {pc : Nat} (h : mm_Rw e.platform s m.cls g.pc cell.cls pc c.exceptionTable.toList) :
    ∃ vm', Stand p l e R s m args below meth c (T.setVm vm') locs cells slots ∧ ∀ tg, Steps p.tables e below ((T.setVm vm').setTop { g with pc := pc, stack := [.ref a] }) tg → Steps p.tables e below ((T.setTop g).pushFrame (.throwing a)) tg := by
  subst hg
  have hAt : At T g.method c below := X.here
  obtain ⟨g₀, hg0⟩ := Option.isSome_iff_exists.mp hAt.top
  obtain ⟨r, hr⟩ := State.topJava?_eq_some.mp hg0
  obtain ⟨vm', hW', hf⟩ := mm_find (e := e) (f := g) (a := a) (s := s) (cell := cell) (fun k q => by rw [hvm] at q; cases q) hk0 c.exceptionTable.toList ((T.setTop g).pushFrame (.throwing a)) X.warmed hcell h
  have hf2 : ∀ (Q : Handler → Pre) (E : CtlPost) (d : Bool) (acts : List Action), wp (findHandler g a) Q E e d acts ((T.setTop g).pushFrame (.throwing a)) ↔ Q (.found pc) d acts (((T.setTop g).pushFrame (.throwing a)).setVm vm') := by
    intro Q E d acts
    rw [W.findHandler_eq (s := (T.setTop g).pushFrame (.throwing a)) (meth := meth) (code := c) X.method' X.code]
    exact hf Q E d acts
  refine ⟨vm', X.noted hW', fun tg hrest => ?_⟩
  obtain ⟨hgo, hw⟩ := hAt.throwing a
  refine Steps.head hgo hw ?_
  rw [stepThread_throwing (frames_entered hAt.top _)]
  have hstep : (stepThrowing e ((T.setTop g).pushFrame (.throwing a)) a (.java g :: T.frames.tail)).1 = (((T.setTop g).pushFrame (.throwing a)).setVm vm').setFrames (.java { g with pc := pc, stack := [.ref a] } :: T.frames.tail) := by
    simp only [stepThrowing, searchFrame, vmDo]
    generalize hres : Sem.go _ e false [] _ = res
    obtain ⟨as, rfl, ha9⟩ := Sem.eq_ok_of hres (a := Handler.found pc) (s' := ((T.setTop g).pushFrame (.throwing a)).setVm vm') (acts' := []) (by simp [hf2 _ _ _ _])
    rfl
  rw [hstep]
  have hr' : (T.setVm vm').frames = .java g₀ :: r := hr
  rw [State.setTop_of_frames _ hr'] at hrest
  have e1 : (((T.setTop g).pushFrame (.throwing a)).setVm vm').setFrames (.java { g with pc := pc, stack := [.ref a] } :: T.frames.tail) = (T.setVm vm').setFrames (.java { g with pc := pc, stack := [.ref a] } :: r) := by
    rw [State.pushFrame, State.setTop_of_frames _ hr, hr, List.tail_cons]
    show (((T.setVm vm').setFrames _).setFrames _).setFrames _ = _
    rw [State.setFrames_setFrames, State.setFrames_setFrames]
  rw [e1]
  exact hrest
end CAUGHT
