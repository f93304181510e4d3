/-! CATCHING: the search through a method's table, row by row -/
section HPT
variable {Q : Handler → Pre} {E : CtlPost} {e : Env} {d : Bool} {acts : List Action} {s S : State} {f : JFrame} {a : Addr} {cell : Cell}
/-- a row that names a class: the class is linked, then the row takes the object or not -/
theorem vy_row {x : ExceptionTableEntry} {t : List ExceptionTableEntry} {c : ClassId} (hx : covers x f.pc = true) (h0 : x.catchType ≠ 0) (hl : S.vm.ClassLinks e.platform f.method.cls x.catchType c)
    (hcell : S.heap[a]? = some cell) (hobj : ∀ k, cell.vm ≠ .statics k) (hk : ∃ k, S.vm.classes[cell.cls]? = some k) (hc : ∃ k, S.vm.classes[c]? = some k) :
    (S.vm.assignable cell.cls c = true → (wp (findHandler.go f a (x :: t)) Q E e d acts S ↔ Q (.found x.handlerPc) d acts (S.setVm (S.vm.noted f.method.cls x.catchType (.cls c))))) ∧
    (S.vm.assignable cell.cls c = false → (wp (findHandler.go f a (x :: t)) Q E e d acts S ↔ wp (findHandler.go f a t) Q E e d acts (S.setVm (S.vm.noted f.method.cls x.catchType (.cls c))))) := by
  simp only [covers] at hx
  have hal : S.vm.Alike (S.vm.noted f.method.cls x.catchType (.cls c)) := (Vm.Alike.refl S.vm).noted _ _ _
  obtain ⟨ha, ht⟩ := (resolveClass_links e.toSetting hl).op (op := VmOp.resolveClass f.method.cls x.catchType) rfl
  obtain ⟨k1, hk1⟩ := hk
  obtain ⟨k2, hk2⟩ := hc
  obtain ⟨_, z1, -⟩ := hal.2.2 _ _ hk1
  obtain ⟨_, z2, -⟩ := hal.2.2 _ _ hk2
  constructor <;> intro hq <;> rw [← hal.assignable] at hq <;> simp [findHandler.go, hx, h0, ha, ht, hcell, hobj, z1, z2, hq, VmOp.dirties, VmOp.acts]
/-- how a row is passed: it doesn't cover the place, or it names a class that isn't the object's -/
theorem vy_go (hobj : ∀ k, cell.vm ≠ .statics k) (hk0 : ∃ k, s.vm.classes[cell.cls]? = some k) {x : ExceptionTableEntry} {suf : List ExceptionTableEntry} {c : ClassId} (hx : covers x f.pc = true) (h0 : x.catchType ≠ 0)
    (hl : s.vm.ClassLinks e.platform f.method.cls x.catchType c) (hfit : s.vm.assignable cell.cls c = true) :
    ∀ (pre : List ExceptionTableEntry) (S : State), s.WarmedH S.vm → S.heap[a]? = some cell → (∀ y ∈ pre, covers y f.pc = false ∨ (y.catchType ≠ 0 ∧ ∃ c', s.vm.ClassLinks e.platform f.method.cls y.catchType c' ∧ s.vm.assignable cell.cls c' = false)) →
      ∃ vm', s.WarmedH vm' ∧ ∀ (Q : Handler → Pre) (E : CtlPost) (d : Bool) (acts : List Action), wp (findHandler.go f a (pre ++ x :: suf)) Q E e d acts S ↔ Q (.found x.handlerPc) d acts (S.setVm vm') := by
  obtain ⟨k0, hk0⟩ := hk0
  have link : ∀ {y : ExceptionTableEntry} {c' : ClassId} (S : State), s.WarmedH S.vm → s.vm.ClassLinks e.platform f.method.cls y.catchType c' → s.WarmedH (S.vm.noted f.method.cls y.catchType (.cls c')) ∧ (∃ k, S.vm.classes[cell.cls]? = some k) ∧ ∃ k, S.vm.classes[c']? = some k := by
    intro y c' S hW hl
    obtain ⟨_, _, _, kt, hd, _, _, _, _, hkt, _, hopen⟩ := hl.here
    obtain ⟨_, z0, -⟩ := hW.alike.2.2 _ _ hk0
    obtain ⟨_, zt, -⟩ := hW.alike.2.2 _ _ hkt
    exact ⟨hW.noted hd hopen (State.rightAt_cls hl), ⟨_, z0⟩, ⟨_, zt⟩⟩
  intro pre
  induction pre with
  | nil =>
    intro S hW hcell _
    obtain ⟨w1, w2, w3⟩ := link S hW hl
    refine ⟨_, w1, fun Q E d acts => ?_⟩
    rw [List.nil_append]
    exact (vy_row hx h0 (hW.classLinks hl) hcell hobj w2 w3).1 (by rw [hW.alike.assignable]; exact hfit)
  | cons y ys ih =>
    intro S hW hcell hp
    have hr : ∀ z ∈ ys, covers z f.pc = false ∨ (z.catchType ≠ 0 ∧ ∃ c', s.vm.ClassLinks e.platform f.method.cls z.catchType c' ∧ s.vm.assignable cell.cls c' = false) := fun z hz => hp z (List.mem_cons_of_mem _ hz)
    cases hcov : covers y f.pc with
    | false =>
      obtain ⟨vm', w, hq⟩ := ih S hW hcell hr
      refine ⟨vm', w, fun Q E d acts => ?_⟩
      rw [List.cons_append, W.findHandler_go_skip hcov]
      exact hq Q E d acts
    | true =>
      rcases hp y (List.mem_cons_self ..) with h | ⟨y0, c', yl, yn⟩
      · rw [h] at hcov; cases hcov
      · obtain ⟨w1, w2, w3⟩ := link S hW yl
        obtain ⟨vm', w, hq⟩ := ih (S.setVm (S.vm.noted f.method.cls y.catchType (.cls c'))) w1 hcell hr
        refine ⟨vm', w, fun Q E d acts => ?_⟩
        rw [List.cons_append, (vy_row hcov y0 (hW.classLinks yl) hcell hobj w2 w3).2 (by rw [hW.alike.assignable]; exact yn)]
        exact hq Q E d acts
variable {p : Program} {l : Launch} {R : Room} {m : MethodId} {args : Array Value} {below : List Frame} {meth : Method} {c : Code} {T : State} {locs : List Loc} {cells slots : Nat}
/-- the machine's steps from the throw to the handler -/
theorem vy_caught (X : Stand p l e R s m args below meth c T locs cells slots) {g : JFrame} (hg : g.method = m) (hcell : T.heap[a]? = some cell) (hobj : cell.vm.isStatics = false) (hk0 : ∃ k, s.vm.classes[cell.cls]? = some k)
    (pre : List ExceptionTableEntry) (x : ExceptionTableEntry) (suf : List ExceptionTableEntry) (hsplit : c.exceptionTable.toList = pre ++ x :: suf) {cT : ClassId} (hx : covers x g.pc = true) (h0 : x.catchType ≠ 0)
    (hl : s.vm.ClassLinks e.platform m.cls x.catchType cT) (hfit : s.vm.assignable cell.cls cT = true) (hp : ∀ y ∈ pre, covers y g.pc = false ∨ (y.catchType ≠ 0 ∧ ∃ c', s.vm.ClassLinks e.platform m.cls y.catchType c' ∧ s.vm.assignable cell.cls c' = false)) :
    ∃ vm', Stand p l e R s m args below meth c (T.setVm vm') locs cells slots ∧ Steps p.tables e below ((T.setTop g).pushFrame (.throwing a)) ((T.setVm vm').setTop { g with pc := x.handlerPc, stack := [.ref a] }) := by
  subst hg
  obtain ⟨vm', w, hq⟩ := vy_go (f := g) (a := a) (e := e) (suf := suf) (VmData.ne_statics_of hobj) hk0 hx h0 hl hfit pre ((T.setTop g).pushFrame (.throwing a)) X.warmed hcell hp
  refine ⟨vm', X.noted w, ?_⟩
  obtain ⟨hgo, hw⟩ := X.here.throwing a
  refine Steps.head hgo hw ?_
  have fnd : ∀ (Q : Handler → Pre) (E : CtlPost) (d : Bool) (acts : List Action), wp (findHandler g a) Q E e d acts ((T.setTop g).pushFrame (.throwing a)) ↔ Q (.found x.handlerPc) d acts (((T.setTop g).pushFrame (.throwing a)).setVm vm') := fun Q E d acts => by
    rw [W.findHandler_eq (s := (T.setTop g).pushFrame (.throwing a)) (meth := meth) (code := c) X.method' X.code, hsplit]
    exact hq Q E d acts
  have step : (stepThrowing e ((T.setTop g).pushFrame (.throwing a)) a (.java g :: T.frames.tail)).Is ((((T.setTop g).pushFrame (.throwing a)).setVm vm').setFrames (.java { g with pc := x.handlerPc, stack := [.ref a] } :: T.frames.tail)) [] := by
    simp only [stepThrowing, searchFrame, vmDo]
    generalize hr : Sem.go _ e false [] ((T.setTop g).pushFrame (.throwing a)) = res
    obtain ⟨as, rfl, ha⟩ := Sem.eq_ok_of hr (a := Handler.found x.handlerPc) (s' := ((T.setTop g).pushFrame (.throwing a)).setVm vm') (acts' := []) (by simp [fnd _ _ _ _])
    exact ⟨rfl, ha⟩
  rw [stepThread_throwing (frames_entered X.here.top _), step.1]
  obtain ⟨g₀, h1⟩ := Option.isSome_iff_exists.mp X.here.top
  obtain ⟨r, h2⟩ := State.topJava?_eq_some.mp h1
  have h3 : (T.setVm vm').frames = .java g₀ :: r := h2
  have h4 : ∀ (u : State) (F K : List Frame), ((u.setFrames F).setVm vm').setFrames K = (u.setVm vm').setFrames K := fun u F K => by
    rw [show (u.setFrames F).setVm vm' = (u.setVm vm').setFrames F from rfl, State.setFrames_setFrames]
  rw [h2, List.tail_cons, State.setTop_of_frames _ h3, State.pushFrame, h4, State.setTop_of_frames _ h2, h4]
  exact Steps.refl _
end HPT
