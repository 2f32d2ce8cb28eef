/-! The search through a method's table of handlers, past rows that name other classes: own rows (the rounds' library ends short of the shelf where such laws lie; names lx_). -/
def lx_pass (pl : Platform) (s₀ : State) (d : ClassId) (pc : Nat) (thrown : ClassId) (y : ExceptionTableEntry) : Prop :=
  covers y pc = false ∨ (y.catchType ≠ 0 ∧ ∃ c, s₀.vm.ClassLinks pl d y.catchType c ∧ s₀.vm.assignable thrown c = false)
def lx_to (e : Env) (S : State) (f : JFrame) (a : Addr) (rows : List ExceptionTableEntry) (h : Handler) (vm' : Vm) : Prop :=
  ∀ (Q : Handler → Pre) (E : CtlPost) (d : Bool) (acts : List Action), wp (findHandler.go f a rows) Q E e d acts S ↔ Q h d acts (S.setVm vm')
theorem lx_row {Q : Handler → Pre} {E : CtlPost} {e : Env} {d : Bool} {acts : List Action} {s : State} {f : JFrame} {a : Addr} {x : ExceptionTableEntry} {t : List ExceptionTableEntry} {c : ClassId} {cell : Cell} (hx : covers x f.pc = true) (h0 : x.catchType ≠ 0)
    (hl : s.vm.ClassLinks e.platform f.method.cls x.catchType c) (hcell : s.heap[a]? = some cell) (hobj : ∀ k, cell.vm ≠ .statics k)
    (hk : ∃ k, s.vm.classes[cell.cls]? = some k) (hc : ∃ k, s.vm.classes[c]? = some k) :
    (s.vm.assignable cell.cls c = true → (wp (findHandler.go f a (x :: t)) Q E e d acts s ↔ Q (.found x.handlerPc) d acts (s.setVm (s.vm.noted f.method.cls x.catchType (.cls c))))) ∧
    (s.vm.assignable cell.cls c = false → (wp (findHandler.go f a (x :: t)) Q E e d acts s ↔ wp (findHandler.go f a t) Q E e d acts (s.setVm (s.vm.noted f.method.cls x.catchType (.cls c))))) := by
  simp only [covers] at hx
  obtain ⟨ha, ht⟩ := (resolveClass_links e.toSetting hl).op (op := VmOp.resolveClass f.method.cls x.catchType) rfl
  have hal : s.vm.Alike (s.vm.noted f.method.cls x.catchType (.cls c)) := (Vm.Alike.refl s.vm).noted _ _ _
  obtain ⟨k1, hk1⟩ := hk
  obtain ⟨k2, hk2⟩ := hc
  obtain ⟨k1', hk1', -⟩ := hal.2.2 _ _ hk1
  obtain ⟨k2', hk2', -⟩ := hal.2.2 _ _ hk2
  refine ⟨fun h => ?_, fun h => ?_⟩
  · have h' : (s.vm.noted f.method.cls x.catchType (.cls c)).assignable cell.cls c = true := by rw [hal.assignable]; exact h
    simp [findHandler.go, hx, h0, ha, ht, hcell, hobj, hk1', hk2', h', VmOp.dirties, VmOp.acts]
  · have h' : (s.vm.noted f.method.cls x.catchType (.cls c)).assignable cell.cls c = false := by rw [hal.assignable]; exact h
    simp [findHandler.go, hx, h0, ha, ht, hcell, hobj, hk1', hk2', h', VmOp.dirties, VmOp.acts]
theorem lx_go {e : Env} {s₀ : State} {f : JFrame} {a : Addr} {cell : Cell} {h : Handler} {tail : List ExceptionTableEntry} (hobj : ∀ k, cell.vm ≠ .statics k) (hk0 : ∃ k, s₀.vm.classes[cell.cls]? = some k)
    (hend : ∀ S : State, s₀.WarmedH S.vm → S.heap[a]? = some cell → ∃ vm', s₀.WarmedH vm' ∧ lx_to e S f a tail h vm') :
    ∀ (pre : List ExceptionTableEntry) (S : State), s₀.WarmedH S.vm → S.heap[a]? = some cell → (∀ y ∈ pre, lx_pass e.platform s₀ f.method.cls f.pc cell.cls y) → ∃ vm', s₀.WarmedH vm' ∧ lx_to e S f a (pre ++ tail) h vm' := by
  obtain ⟨k0, hk0⟩ := hk0
  intro pre
  induction pre with
  | nil => intro S hW hcell _; exact hend S hW hcell
  | cons y ys ih =>
    intro S hW hcell hpass
    obtain ⟨k0', hk0', -⟩ := hW.alike.2.2 _ _ hk0
    have hrest : ∀ z ∈ ys, lx_pass e.platform s₀ f.method.cls f.pc cell.cls z := fun z hz => hpass z (List.mem_cons_of_mem _ hz)
    by_cases hcov : covers y f.pc = true
    · rcases hpass y List.mem_cons_self with h1 | ⟨h0, c, hl, hno⟩
      · rw [h1] at hcov; cases hcov
      · obtain ⟨dk, _, _, kt, hd, _, _, _, _, hkt, _, hopen⟩ := hl.here
        obtain ⟨kt', hkt', -⟩ := hW.alike.2.2 _ _ hkt
        obtain ⟨vm', hW', hq⟩ := ih (S.setVm (S.vm.noted f.method.cls y.catchType (.cls c))) (hW.noted hd hopen (State.rightAt_cls hl)) hcell hrest
        exact ⟨vm', hW', fun Q E d acts => by
          rw [List.cons_append, (lx_row hcov h0 (hW.classLinks hl) hcell hobj ⟨k0', hk0'⟩ ⟨kt', hkt'⟩).2 (by rw [hW.alike.assignable]; exact hno)]
          exact hq Q E d acts⟩
    · obtain ⟨vm', hW', hq⟩ := ih S hW hcell hrest
      exact ⟨vm', hW', fun Q E d acts => by
        rw [List.cons_append, Jvm.W.findHandler_go_skip (by simpa using hcov)]
        exact hq Q E d acts⟩
section LX
variable {p : Program} {l : Launch} {e : Env} {R : Room} {s : State} {m₀ : MethodId} {args : Array Value} {below : List Frame} {meth : Method} {c : Code} {T : State} {locs : List Loc} {cells slots : Nat}
theorem lx_caught (X : Stand p l e R s m₀ args below meth c T locs cells slots) (a : Addr) {g : JFrame} (hg : g.method = m₀) {s₀ : State} (hcome : Steps p.tables e below s₀ ((T.setTop g).pushFrame (.throwing a)))
    {cell : Cell} (hcell : T.heap[a]? = some cell) (hobj : cell.vm.isStatics = false) (hk0 : ∃ k, s.vm.classes[cell.cls]? = some k)
    (pre : List ExceptionTableEntry) (x : ExceptionTableEntry) (rest : List ExceptionTableEntry) (hsplit : c.exceptionTable.toList = pre ++ x :: rest)
    (hpass : ∀ y ∈ pre, lx_pass e.platform s m₀.cls g.pc cell.cls y) (hx : covers x g.pc = true) (h0 : x.catchType ≠ 0) {ct : ClassId} (hl : s.vm.ClassLinks e.platform m₀.cls x.catchType ct) (hfit : s.vm.assignable cell.cls ct = true) :
    ∃ vm', Stand p l e R s m₀ args below meth c (T.setVm vm') locs cells slots ∧ Steps p.tables e below s₀ ((T.setVm vm').setTop { g with pc := x.handlerPc, stack := [.ref a] }) := by
  subst hg
  have hobj' : ∀ k, cell.vm ≠ .statics k := VmData.ne_statics_of hobj
  obtain ⟨vm', hW', hq⟩ := lx_go (e := e) (s₀ := s) (f := g) (a := a) (cell := cell) (h := .found x.handlerPc) (tail := x :: rest) hobj' hk0 (fun S hW hc => by
    obtain ⟨k0, hk0⟩ := hk0
    obtain ⟨k0', hk0', -⟩ := hW.alike.2.2 _ _ hk0
    obtain ⟨dk, _, _, kt, hd, _, _, _, _, hkt, _, hopen⟩ := hl.here
    obtain ⟨kt', hkt', -⟩ := hW.alike.2.2 _ _ hkt
    exact ⟨_, hW.noted hd hopen (State.rightAt_cls hl), fun Q E d acts => (lx_row hx h0 (hW.classLinks hl) hc hobj' ⟨k0', hk0'⟩ ⟨kt', hkt'⟩).1 (by rw [hW.alike.assignable]; exact hfit)⟩) pre ((T.setTop g).pushFrame (.throwing a)) X.warmed hcell hpass
  have hf : ∀ (Q : Handler → Pre) (E : CtlPost) (d : Bool) (acts : List Action), wp (findHandler g a) Q E e d acts ((T.setTop g).pushFrame (.throwing a)) ↔ Q (.found x.handlerPc) d acts (((T.setTop g).pushFrame (.throwing a)).setVm vm') := fun Q E d acts => by
    rw [Jvm.W.findHandler_eq (s := (T.setTop g).pushFrame (.throwing a)) X.method' X.code, hsplit]; exact hq Q E d acts
  refine ⟨vm', X.noted hW', hcome.trans ?_⟩
  have hA := X.here
  obtain ⟨hgo, hw⟩ := hA.throwing (g := g) a
  refine Steps.head hgo hw ?_
  have key : (stepThrowing e ((T.setTop g).pushFrame (.throwing a)) a (.java g :: (T.frames).tail)).Is ((((T.setTop g).pushFrame (.throwing a)).setVm vm').setFrames (.java { g with pc := x.handlerPc, stack := [.ref a] } :: (T.frames).tail)) [] := by
    simp only [stepThrowing, searchFrame, vmDo]
    generalize hr : Sem.go _ e false [] ((T.setTop g).pushFrame (.throwing a)) = res
    obtain ⟨as, rfl, ha⟩ := Sem.eq_ok_of hr (a := Handler.found x.handlerPc) (s' := ((T.setTop g).pushFrame (.throwing a)).setVm vm') (acts' := []) (by simp [hf _ _ _ _])
    exact ⟨rfl, ha⟩
  rw [stepThread_throwing (frames_entered hA.top _), key.1]
  obtain ⟨g₀, hg0⟩ := Option.isSome_iff_exists.mp hA.top
  obtain ⟨r, hr⟩ := State.topJava?_eq_some.mp hg0
  have hr' : (T.setVm vm').frames = .java g₀ :: r := hr
  rw [State.setTop_of_frames _ hr', hr, List.tail_cons, State.pushFrame, State.setTop_of_frames _ hr]
  have h1 : ∀ (u : State) (F G : List Frame), ((u.setFrames F).setVm vm').setFrames G = (u.setVm vm').setFrames G := fun u F G => by
    rw [show (u.setFrames F).setVm vm' = (u.setVm vm').setFrames F from rfl, State.setFrames_setFrames]
  rw [h1, h1]
  exact Steps.refl _
theorem lx_out (X : Stand p l e R s m₀ args below meth c T locs cells slots) (hlocks : meth.locks = false) (a : Addr) {g : JFrame} (hg : g.method = m₀) (hlocked : g.locked = none) (hentered : g.entered = []) {cell : Cell} (hcell : T.heap[a]? = some cell) (hobj : cell.vm.isStatics = false)
    (hk0 : ∃ k, s.vm.classes[cell.cls]? = some k) (hpass : ∀ y ∈ c.exceptionTable.toList, lx_pass e.platform s m₀.cls g.pc cell.cls y) :
    ∃ vm', s.WarmedH vm' ∧ Stand p l e R s m₀ args below meth c (T.setVm vm') locs cells slots ∧ Steps p.tables e below (T.setFrames (.throwing a :: .java g :: below)) ((T.setVm vm').setFrames (.throwing a :: below)) := by
  subst hg
  obtain ⟨g₀, hg0⟩ := Option.isSome_iff_exists.mp X.here.top
  obtain ⟨rr, hrr⟩ := State.topJava?_eq_some.mp hg0
  have hcur : T.cur < T.threads.size := State.cur_lt_of_frames hrr
  generalize hZ : T.setFrames (.throwing a :: .java g :: below) = Z
  have hF : Z.frames = .throwing a :: .java g :: below := by rw [← hZ]; exact State.frames_setFrames _ hcur
  obtain ⟨vm', hW', hq⟩ := lx_go (e := e) (s₀ := s) (f := g) (a := a) (cell := cell) (h := .none) (tail := []) (VmData.ne_statics_of hobj) hk0 (fun S hW _ => ⟨S.vm, hW, fun Q E d acts => by rw [State.setVm_self]; simp [findHandler.go]⟩) c.exceptionTable.toList Z (by rw [← hZ]; exact X.warmed) (by rw [← hZ]; exact hcell) hpass
  have hf : ∀ (Q : Handler → Pre) (E : CtlPost) (d : Bool) (acts : List Action), wp (findHandler g a) Q E e d acts Z ↔ Q .none d acts (Z.setVm vm') := fun Q E d acts => by
    rw [Jvm.W.findHandler_eq (s := Z) (by rw [← hZ]; exact X.method') X.code]; have h2 := hq Q E d acts; rw [List.append_nil] at h2; exact h2
  refine ⟨vm', hW', X.noted hW', ?_⟩
  have hm : vm'.method? g.method = some meth := by rw [hW'.alike.method?]; exact X.method
  have hgo : Z.goesOn := by rw [← hZ]; exact ⟨X.here.running, by rw [State.curStatus?_setFrames]; exact X.here.runnable, by rw [State.alone_setFrames]; exact X.here.alone⟩
  refine Steps.head hgo ⟨.throwing a :: .java g :: [], by rw [hF]; rfl, by simp, by simp⟩ ?_
  have key : (stepThrowing e Z a (.java g :: below)).1 = (Z.setVm vm').setFrames (.throwing a :: below) := by
    simp only [stepThrowing, searchFrame, vmDo]
    generalize hr : Sem.go _ e false [] Z = res
    obtain ⟨x, s', as, hgo, ha, hs'⟩ := First.eq_ok_of' (P := fun x s' => x = Handler.none ∧ s' = Z.setVm vm') hr
      (by cases hp : e.platform.frameOwnsMonitors <;> simp [hf _ _ _ _, hm, hlocks, hlocked, hentered, hp, leaveIfLocked])
    subst ha; subst hs'; rw [hgo]
  rw [stepThread_throwing hF, key, ← hZ, First.setVm_setFrames]
  exact Steps.refl _
theorem lx_push (X : Stand p l e R s m₀ args below meth c T locs cells slots) (g : JFrame) (a : Addr) : (T.setTop g).pushFrame (.throwing a) = T.setFrames (.throwing a :: .java g :: below) := by
  obtain ⟨g₀, hr⟩ := X.frames_eq
  have hcur : T.cur < T.threads.size := State.cur_lt_of_frames hr
  rw [State.pushFrame, State.setTop_of_frames _ hr, State.frames_setFrames _ hcur, State.setFrames_setFrames]
end LX
