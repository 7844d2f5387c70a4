/-! A THROW THAT A ROW OF THE METHOD'S OWN HANDLER TABLE TAKES, behind rows that link to classes which do not take it. My own rows, over ThrowLaws, Cold, ColdWords, ColdKeeps and Stand. -/
section CH
variable {e : Env} {f : JFrame} {a : Addr} {ce : Cell} {Q : Handler → Pre} {E : CtlPost} {d : Bool} {acts : List Action}
theorem ch_row {S : State} {y : ExceptionTableEntry} {t : List ExceptionTableEntry} {k : ClassId} (hy : covers y f.pc = true) (h0 : y.catchType ≠ 0) (hl : S.vm.ClassLinks e.platform f.method.cls y.catchType k)
    (hce : S.heap[a]? = some ce) (hob : ∀ i, ce.vm ≠ .statics i) (hc1 : ∃ i, S.vm.classes[ce.cls]? = some i) (hc2 : ∃ i, S.vm.classes[k]? = some i) {b : Bool} (hb : S.vm.assignable ce.cls k = b) :
    wp (findHandler.go f a (y :: t)) Q E e d acts S ↔
      (if b = true then Q (.found y.handlerPc) d acts (S.setVm (S.vm.noted f.method.cls y.catchType (.cls k)))
        else wp (findHandler.go f a t) Q E e d acts (S.setVm (S.vm.noted f.method.cls y.catchType (.cls k)))) := by
  have hA : S.vm.Alike (S.vm.noted f.method.cls y.catchType (.cls k)) := Vm.Alike.noted (Vm.Alike.refl S.vm) _ _ _
  obtain ⟨i1, h1⟩ := hc1
  obtain ⟨i2, h2⟩ := hc2
  obtain ⟨j1, g1, -⟩ := hA.2.2 _ _ h1
  obtain ⟨j2, g2, -⟩ := hA.2.2 _ _ h2
  have hb' := hb
  rw [← hA.assignable] at hb'
  obtain ⟨r1, r2⟩ := (resolveClass_links e.toSetting hl).op (op := VmOp.resolveClass f.method.cls y.catchType) rfl
  have hp : (decide (y.startPc ≤ f.pc) && decide (f.pc < y.endPc)) = true := hy
  cases b <;> simp [findHandler.go, hp, h0, r1, r2, hce, hob, g1, g2, hb', VmOp.dirties, VmOp.acts]
/-- A row that the object of class 'th' passes, or that takes it ('b'), by the tables of the state s. -/
def ch_P (e : Env) (s : State) (d : ClassId) (th : ClassId) (b : Bool) (y : ExceptionTableEntry) : Prop := y.catchType ≠ 0 ∧ ∃ k, s.vm.ClassLinks e.platform d y.catchType k ∧ s.vm.assignable th k = b
theorem ch_go {s : State} (hob : ∀ i, ce.vm ≠ .statics i) (hth : ∃ i, s.vm.classes[ce.cls]? = some i) {x : ExceptionTableEntry} (hx : covers x f.pc = true) (hxP : ch_P e s f.method.cls ce.cls true x) (t : List ExceptionTableEntry) (L : List ExceptionTableEntry) :
    ∀ S : State, s.WarmedH S.vm → S.heap[a]? = some ce → (∀ y ∈ L, ch_P e s f.method.cls ce.cls false y) → ∃ vm', s.WarmedH vm' ∧ ∀ (Q : Handler → Pre) (E : CtlPost) (d : Bool) (acts : List Action), wp (findHandler.go f a (L ++ x :: t)) Q E e d acts S ↔ Q (.found x.handlerPc) d acts (S.setVm vm') := by
  have key : ∀ (b : Bool) (y : ExceptionTableEntry) (S : State), s.WarmedH S.vm → S.heap[a]? = some ce → ch_P e s f.method.cls ce.cls b y → covers y f.pc = true → ∃ vm', s.WarmedH vm' ∧ ∀ (t : List ExceptionTableEntry) (Q : Handler → Pre) (E : CtlPost) (d : Bool) (acts : List Action),
      (wp (findHandler.go f a (y :: t)) Q E e d acts S ↔ (if b = true then Q (.found y.handlerPc) d acts (S.setVm vm') else wp (findHandler.go f a t) Q E e d acts (S.setVm vm'))) := by
    intro b y S hW hS hP hy
    obtain ⟨h0, k, hl, hb⟩ := hP
    obtain ⟨i, hi⟩ := hth
    obtain ⟨j, hj, -⟩ := hW.alike.2.2 _ _ hi
    obtain ⟨dk, _, _, kt, hd, _, _, _, _, hkt, _, hopen⟩ := hl.here
    obtain ⟨j2, hj2, -⟩ := hW.alike.2.2 _ _ hkt
    exact ⟨_, hW.noted hd hopen (State.rightAt_cls hl), fun t Q E d acts => ch_row hy h0 (hW.classLinks hl) hS hob ⟨j, hj⟩ ⟨j2, hj2⟩ (by rw [hW.alike.assignable]; exact hb)⟩
  induction L with
  | nil =>
    intro S hW hS _
    obtain ⟨vm', h1, h2⟩ := key true x S hW hS hxP hx
    exact ⟨vm', h1, fun Q E d acts => by rw [List.nil_append, h2 t Q E d acts, if_pos rfl]⟩
  | cons y L ih =>
    intro S hW hS hL
    have hL' : ∀ z ∈ L, ch_P e s f.method.cls ce.cls false z := fun z hz => hL z (List.mem_cons_of_mem _ hz)
    cases hc : covers y f.pc with
    | false =>
      obtain ⟨vm', h1, h2⟩ := ih S hW hS hL'
      exact ⟨vm', h1, fun Q E d acts => (W.findHandler_go_skip hc).trans (h2 Q E d acts)⟩
    | true =>
      obtain ⟨vm1, h1, h2⟩ := key false y S hW hS (hL y (List.mem_cons_self ..)) hc
      obtain ⟨vm', h3, h4⟩ := ih (S.setVm vm1) h1 hS hL'
      exact ⟨vm', h3, fun Q E d acts => by rw [List.cons_append, h2 (L ++ x :: t) Q E d acts, if_neg (by decide)]; exact h4 Q E d acts⟩
end CH
section CI
variable {p : Program} {l : Launch} {e : Env} {R : Room} {s : State} {m : MethodId} {args : Array Value} {below : List Frame} {meth : Method} {c : Code} {T : State} {locs : List Loc} {cells slots : Nat}
theorem ch_step {S : State} {q : Addr} {f : JFrame} {r : List Frame} {pc : Nat} {vm' : Vm} (hf : ∀ (Q : Handler → Pre) (E : CtlPost) (d : Bool) (acts : List Action), wp (findHandler f q) Q E e d acts S ↔ Q (.found pc) d acts (S.setVm vm')) :
    (stepThrowing e S q (.java f :: r)).Is ((S.setVm vm').setFrames (.java { f with pc := pc, stack := [.ref q] } :: r)) [] := by
  simp only [stepThrowing, searchFrame, vmDo]
  generalize hr : Sem.go _ e false [] S = res
  obtain ⟨as, rfl, ha⟩ := Sem.eq_ok_of hr (a := Handler.found pc) (s' := S.setVm vm') (acts' := []) (by simp [hf])
  exact ⟨rfl, ha⟩
theorem ch_caught (X : Stand p l e R s m args below meth c T locs cells slots) (q : Addr) {g : JFrame} (hg : g.method = m) {s0 : State} (hcome : Steps p.tables e below s0 ((T.setTop g).pushFrame (.throwing q)))
    {ce : Cell} (hce : T.heap[q]? = some ce) (hob : ce.vm.isStatics = false) (hth : ∃ i, s.vm.classes[ce.cls]? = some i) (L : List ExceptionTableEntry) (x : ExceptionTableEntry) (t : List ExceptionTableEntry) (hsp : c.exceptionTable.toList = L ++ x :: t)
    (hL : ∀ y ∈ L, ch_P e s m.cls ce.cls false y) (hx : covers x g.pc = true) (hxP : ch_P e s m.cls ce.cls true x) :
    ∃ vm', Stand p l e R s m args below meth c (T.setVm vm') locs cells slots ∧ Steps p.tables e below s0 ((T.setVm vm').setTop { g with pc := x.handlerPc, stack := [.ref q] }) := by
  subst hg
  obtain ⟨vm', h1, h2⟩ := ch_go (e := e) (f := g) (a := q) (VmData.ne_statics_of hob) hth hx hxP t L ((T.setTop g).pushFrame (.throwing q)) (by rw [Stand.throwing_vm]; exact X.warmed) (by rw [Stand.throwing_heap]; exact hce) hL
  refine ⟨vm', X.noted h1, hcome.trans ?_⟩
  obtain ⟨hgo, hw⟩ := At.throwing X.here q
  refine Steps.head hgo hw ?_
  have hfind : ∀ (Q : Handler → Pre) (E : CtlPost) (d : Bool) (acts : List Action), wp (findHandler g q) Q E e d acts ((T.setTop g).pushFrame (.throwing q)) ↔ Q (.found x.handlerPc) d acts (((T.setTop g).pushFrame (.throwing q)).setVm vm') := by
    intro Q E d acts
    rw [W.findHandler_eq (meth := meth) (code := c) (by rw [Stand.throwing_vm]; exact X.method') X.code, hsp]
    exact h2 Q E d acts
  rw [stepThread_throwing (frames_entered X.here.top _), (ch_step hfind).1]
  obtain ⟨g0, hfr⟩ := X.frames_eq
  have e1 : (T.setVm vm').frames = Frame.java g0 :: below := hfr
  rw [State.setTop_of_frames _ e1]
  rw [State.pushFrame, State.setTop_of_frames _ hfr, State.setFrames_setFrames]
  have e3 : ∀ F : List Frame, (T.setFrames F).setVm vm' = (T.setVm vm').setFrames F := fun _ => rfl
  rw [e3, State.setFrames_setFrames, hfr]
  exact Steps.refl _
end CI
