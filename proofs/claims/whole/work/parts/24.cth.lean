/-! A CONTRACT OF A METHOD THAT THROWS, and its call under a handler -/
def hv_bump (σ : hv_S) : hv_S := (hv_sh σ, hv_I σ, hv_J σ, hv_R σ, hv_n σ + 1)
def lt_Qt (G : lt_G) (σ : hv_S) (ic : Nat) (σ' : hv_S) : Array Value → State → Outcome → State → Prop := fun _ s0 o t =>
  ∃ (q : Addr) (ce : Cell) (L : List Loc), o = .threw q ∧ (hv_H G σ' t.heap ∧ (∀ (a : Nat) (x : Nat × Nat), hv_sh σ' a = some x → x.1 < 2000 → lt_A σ a) ∧ va_F (lt_A σ) s0 t) ∧ (t.heap[q]? = some ce ∧ ce.vm = .none ∧ s0.vm.findClass (th_E ic) = some ce.cls) ∧
    s0.WarmedH t.vm ∧ s0.sameButNew ({ t with vm := s0.vm } : State) L 1 6 ∧ ∀ z ∈ L, lt_A σ z.base
/-- the contract: from the view σ the method throws the exception that its entry ic makes, with the view σ' -/
def Cth (G : lt_G) (μ : lt_M) (d : Nat) (as : List mV) (σ : hv_S) (ic : Nat) (σ' : hv_S) : Prop :=
  ∀ (l : Launch), l.stackTraces = false → MetFree l μ.1 (headSpec (lt_ws μ) (lt_rm d 1 6)) (lt_Pc G (as.map mv) σ) (fun _ _ _ _ _ => True) (lt_Qt G σ ic σ')
/-- the points where a method throws so -/
def lk_thr (μ : lt_M) (ic : Nat) (σ' : hv_S) : Nat → List (Nat × mV) → List mV → hv_S → Nat → Nat → Prop := fun pc _ st σ mc ms => σ' = hv_bump σ ∧ st = [] ∧ 1 ≤ mc ∧ 6 ≤ ms ∧ (ic = 89 ∨ ic = 114 ∨ ic = 131) ∧
  ∃ (ik is : Nat) (tx : String), th_site μ.2.1 pc ik is ic ∧ (is, tx) ∈ th_tx ∧ Cond.classLink "LinearSearch" ik (th_E ic) ∈ lt_T ∧ Cond.initialized (th_E ic) ∈ lt_T
set_option maxHeartbeats 2000000 in
theorem Cth.of {G : lt_G} {μ : lt_M} {d : Nat} {as : List mV} {σ σ' : hv_S} {ic : Nat} (hG : ∀ s A, G.2.2 s A → th_Y s A) (hcls : μ.1.cls = "LinearSearch") (hy : plainName μ.1.cls = true) (hlen : (as.map mcat).sum ≤ μ.2.2.1) (hd6 : 6 ≤ d) (h : Lk G μ d 0 (mk_args 0 as) [] σ 1 6 (lk_thr μ ic σ')) : Cth G μ d as σ ic σ' := by
  intro l hTr
  refine MetFree.of_bodyS (code := μ.2.1) (maxLocals := μ.2.2.1) (ret := μ.2.2.2) hy ?_ ?_
  · intro args s m h1 hn
    obtain ⟨meth, c, a1, a2, a3, a4, a5, a6, -, -⟩ := Cond.code_spec hn (atoms_spec (ws := lt_ws μ) h1 _ List.mem_cons_self)
    exact ⟨meth, c, a1, a2, a3, a4, a5, a6⟩
  · intro p e s m args below meth c s₁ B hml hv _
    obtain ⟨rfl, hP, hK, hN, hOk, hY⟩ := hv
    have hts := atoms_spec (ws := lt_ws μ) B.pre
    have hT : ∀ w ∈ lt_T, w.before (as.map mv).toArray s = true := fun w hw => hts w (List.mem_cons_of_mem _ hw)
    have hown : s.vm.findClass "LinearSearch" = some m.cls := by rw [← hcls]; exact findClass_of_methodNamed B.named
    have hC : lt_C G μ d p l (headSpec (lt_ws μ) (lt_rm d 1 6)).room s m (as.map mv).toArray meth c := ⟨B.exec, B.bytes, B.returns, hml, findClass_of_methodNamed B.named, hT, hN, hK, B.notSynchronized, (name_of_methodNamed B.named B.method).1, Nat.le_refl _, Nat.le_refl _, hOk, hTr, B.named⟩
    have hl := lv_entry (as.map mv) (n := μ.2.2.1) (by rw [lk_lg_sl]; exact hlen)
    have hh0 : s₁.heap = s.heap := by rw [B.state]; rfl
    have hempty : ∀ x ∈ c.exceptionTable.toList, False := by
      intro x hx
      obtain ⟨meth2, c2, b1, b2, -, -, -, -, b7, -⟩ := Cond.code_spec B.named (hts _ List.mem_cons_self)
      cases B.method.symm.trans b1
      have hc2 : meth.code = some c := (Stand.of_body B).code
      cases hc2.symm.trans b2
      have h0 : c.exceptionTable = #[] := Array.isEmpty_iff.mp b7
      rw [h0] at hx
      cases hx
    have K : W p l e (headSpec (lt_ws μ) (lt_rm d 1 6)).room s m (as.map mv).toArray below meth c s.heap [] 0 0 (fun t => ∃ o, t.status = .running ∧ Ended t below o ∧ lt_Qt G σ ic σ' (as.map mv).toArray s o t) (entryFrame m (as.map mv).toArray μ.2.2.1) := by
      rw [lg_entry_eq]
      rw [mk_args_map] at hl
      refine h p l e _ s m _ below meth c hC (lt_A σ) (fun q hq => Or.inr (by rw [← hP.1]; exact hq)) hY _ ?_ s.heap [] 0 0 _ hl ⟨hP, fun a x hx h2 => Or.inl ⟨x, hx, h2⟩, va_S.rf⟩ (by show 0 + 1 ≤ 1; omega) (by show 0 + 6 ≤ 6; omega)
      intro pc' lo' st' σ1 mc' ms' H' locs' cells' slots' ls' hx hl' hH' g1 g2
      have g1 : cells' + mc' ≤ 1 := g1
      have g2 : slots' + ms' ≤ 6 := g2
      obtain ⟨lo2, st2, rfl, rfl, rfl, rfl, m1, m2, hic, ik, is, tx, hs, htx, hk, hi⟩ := hx
      intro T hTh X
      obtain ⟨U, ce, u1, u2, u3, u4, u5, u6, u7, u8, u9, u10⟩ := th_throw X B.exec hTr B.notSynchronized hown (hG _ _ hY) (by rw [hTh]; exact hH'.2.2) (by rw [B.bytes]; exact hs) hic htx hk hi hT (fun x hx => (hempty x hx).elim) (ls := ls') (by rw [hml]; exact hl'.1) hd6 (by show 128 ≤ 64 * d; omega) (by show cells' + 1 ≤ 1; omega) (by show slots' + 6 ≤ 6; omega)
      have hsz : T.heap.size = hv_n σ1 := by rw [hTh]; exact hH'.1.1
      refine ⟨U, u1, .threw T.heap.size, u2, u3, T.heap.size, ce, locs', rfl, ⟨⟨?_, ?_⟩, fun a x hx h2 => hH'.2.1 a x hx h2, ?_⟩, ⟨u8, u9, u10⟩, u4, u5.mono (by omega) (by omega), hH'.2.2.2.2⟩
      · show U.heap.size = hv_n σ1 + 1
        rw [u6, hsz]
      · intro a x hx
        have h0 := hH'.1.2 a x hx
        refine h0.kept ?_ (fun ty k => by cases ty <;> rfl)
        rw [← hTh]
        exact u7 a (by rw [hTh]; exact h0.lt)
      · refine ⟨?_, fun q h1 h2 => ?_⟩
        · have := hH'.2.2.1
          rw [← hTh] at this
          omega
        · have h3 : q < T.heap.size := by rw [hTh]; exact Nat.lt_of_lt_of_le h1 hH'.2.2.1
          rw [u7 q h3, hTh]
          exact hH'.2.2.2.1 q h1 h2
    obtain ⟨t, a1, o, b1, b2, b3⟩ := K s₁ hh0 (Stand.of_body B)
    exact ⟨t, o, a1, b1, b2, b3⟩
section TC
variable {p : Program} {l : Launch} {e : Env} {R : Room} {s : State} {m : MethodId} {args : Array Value} {below : List Frame} {meth : Method} {c : Code} {T : State} {locs : List Loc} {cells slots : Nat}
set_option maxHeartbeats 2000000 in
/-- a method that throws is invoked: it stands over the caller's frame, thrown -/
theorem th_call {G : lt_G} {μ' : lt_M} {d' : Nat} {as : List mV} {σ σ' : hv_S} {ic len n : Nat} {ig : Instr} (X : Stand p l e R s m args below meth c T locs cells slots) (hl : l.stackTraces = false) (hM : Cth G μ' d' as σ ic σ') (hM0 : lt_M0 μ' n) (hts : ∀ w ∈ lt_T, w.before args s = true)
    (hfr : d' + 1 ≤ R.frames) (hlo : 64 * (d' + 1) ≤ R.locals) (hcells : cells + 1 ≤ R.cells) (hslots : slots + 6 ≤ R.slots) {g : JFrame} {mk : MethodId} (hg : g.method = m) (hsize : g.locals.size = c.maxLocals) (hdg : decode c.code g.pc = .ok (ig, len))
    (hW : 2 * g.monitorRoom + (g.stack.map fun v => v.category).sum ≤ 8) (hn : T.methodNamed? μ'.1 = some mk) (hPc : lt_Pc G (as.map mv) σ (as.map mv).toArray T) :
    ∃ (q : Addr) (ce : Cell) (T' : State) (L : List Loc), Stand p l e R s m args below meth c T' (locs ++ L) (cells + 1) (slots + 6) ∧ (hv_H G σ' T'.heap ∧ (∀ (a : Nat) (x : Nat × Nat), hv_sh σ' a = some x → x.1 < 2000 → lt_A σ a) ∧ T.heap.size ≤ T'.heap.size ∧ ∀ q : Nat, q < T.heap.size → ¬ lt_A σ q → T'.heap[q]? = T.heap[q]?) ∧
      (∀ z ∈ L, lt_A σ z.base) ∧ (T'.heap[q]? = some ce ∧ ce.vm = .none ∧ T.vm.findClass (th_E ic) = some ce.cls) ∧ Steps p.tables e below (doInvoke e (T.setTop g) [] mk (as.map mv).toArray).1 ((T'.setTop g).pushFrame (.throwing q)) := by
  obtain ⟨hcode, hini, -, hnL⟩ := hM0
  have hw : ∀ w ∈ lt_T, w.before (as.map mv).toArray T = true := fun w hm => word_at X.warmed (good_of_word (lt_T_good w hm)) (hts w hm)
  obtain ⟨methY, cY, y1, y2, -, y4, -, -, -, -⟩ := Cond.code_spec hn (hw _ hcode)
  obtain ⟨kY, hkY, -⟩ := className_of_methodNamed hn
  have hinit : kY.init = .initialized := Cond.initialized_spec (findClass_of_methodNamed hn) hkY (hw _ hini)
  have hat : At T g.method c below := by rw [hg]; exact X.here
  have hpre : (headSpec (lt_ws μ') (lt_rm d' 1 6)).pre.before (as.map mv).toArray T = true := atoms_intro fun w hm => by
    rcases List.mem_cons.mp hm with rfl | hm
    · exact hw _ hcode
    · exact hw w hm
  have happ := Spec.appliesLoose_calling (S := headSpec (lt_ws μ') (lt_rm d' 1 6)) (x := μ'.1) (e := e) (g := g) (args := (as.map mv).toArray) hat hdg hn hkY hinit
    (X.room_calling (g := g) (R' := (headSpec (lt_ws μ') (lt_rm d' 1 6)).room) hsize y1 y2 (by show d' + 1 ≤ R.frames; exact hfr) (by rw [y4]; show _ + (μ'.2.2.1 + 11) + 64 * d' ≤ R.locals; omega) hcells hslots) hpre
  obtain ⟨mid, hmid⟩ := hat.above
  have hfs : (T.setTop g).frames = (.java g :: mid) ++ below := by rw [State.frames_setTop' g hat.top, hmid]; rfl
  obtain ⟨o, s₂, hsteps, -, hend, q, ce, L, rfl, ⟨k1, k2, k3⟩, k4, hWm, hsm, hL⟩ := Steps.callFree (hM l hl) p X.admits X.cas X.clock (acts := []) hfs happ (lt_blind G _ σ _ _ g mk hPc) trivial
  obtain ⟨g₀, hg0⟩ := Option.isSome_iff_exists.mp hat.top
  obtain ⟨r, hr⟩ := State.topJava?_eq_some.mp hg0
  have hW' : T.WarmedH s₂.vm := hWm
  have hfr2 : s₂.frames = .throwing q :: .java g :: T.frames.tail := by
    have h0 : s₂.frames = .throwing q :: (T.setTop g).frames := hend
    rw [h0, State.frames_setTop' g hat.top]
  have hT' : (({ T with heap := s₂.heap, slotsUsed := s₂.slotsUsed } : State).setVm s₂.vm).frames = .java g₀ :: r := hr
  have he : s₂ = ((({ T with heap := s₂.heap, slotsUsed := s₂.slotsUsed } : State).setVm s₂.vm).setTop g).pushFrame (.throwing q) := by
    have h2 := congrArg (fun z : State => z.setVm s₂.vm) hsm.1
    refine (show s₂ = ({ s₂ with vm := (T.calling g mk (as.map mv).toArray).vm } : State).setVm s₂.vm from rfl).trans (h2.trans ?_)
    show ({ (T.calling g mk (as.map mv).toArray).setFrames s₂.frames with heap := s₂.heap, slotsUsed := s₂.slotsUsed } : State).setVm s₂.vm = _
    rw [hfr2, State.calling_eq hat.top, State.setFrames_setFrames, State.pushFrame, State.frames_setTop _ hT', State.setTop_of_frames _ hT', State.setFrames_setFrames, hr]
    rfl
  have hsame : T.sameButNew (({ T with heap := s₂.heap, slotsUsed := s₂.slotsUsed } : State).setVm s₂.vm |>.setVm T.vm) L 1 6 := by
    obtain ⟨-, r2⟩ := hsm
    refine ⟨?_, r2⟩
    obtain ⟨t, ht, -⟩ := State.frames_cons hr
    show ({ T with heap := s₂.heap, slotsUsed := s₂.slotsUsed } : State) = { T.setFrames T.frames with heap := s₂.heap, slotsUsed := s₂.slotsUsed }
    rw [State.setFrames_self ht]
  have hAt : At (({ T with heap := s₂.heap, slotsUsed := s₂.slotsUsed } : State).setVm s₂.vm) m c below := (X.here.setHeapUsed s₂.heap s₂.slotsUsed).setVm hW'.alike
  refine ⟨q, ce, ({ T with heap := s₂.heap, slotsUsed := s₂.slotsUsed } : State).setVm s₂.vm, L, X.moved hAt X.tail rfl rfl hW' hsame, ⟨k1, k2, k3.1, k3.2⟩, hL, k4, ?_⟩
  rw [← he]
  exact hsteps
end TC
theorem nE_89 : Cond.initialized (th_E 89) ∈ lt_T := lt_m1 17 rfl rfl
theorem nE_114 : Cond.initialized (th_E 114) ∈ lt_T := lt_m1 18 rfl rfl
theorem nE_131 : Cond.initialized (th_E 131) ∈ lt_T := lt_m1 19 rfl rfl
