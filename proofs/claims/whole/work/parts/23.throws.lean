/-! THROWS: what a method owes where it throws, and 'throw new E("text")' -/
/-- the words of a throw out of LinearSearch, the texts, and the words of catching -/
def th_chain : List String := ["java/lang/RuntimeException", "java/lang/Exception"]
def th_E (ic : Nat) : String := if ic = 89 then "java/lang/IllegalArgumentException" else if ic = 114 then "java/lang/IndexOutOfBoundsException" else "java/lang/IllegalStateException"
def th_ws : List Cond := Bundle.ownAtoms "LinearSearch" 89 (th_E 89) th_chain ++ (Bundle.ownAtoms "LinearSearch" 114 (th_E 114) th_chain ++ Bundle.ownAtoms "LinearSearch" 131 (th_E 131) th_chain)
def th_tx : List (Nat × String) := [(87, "no pattern"), (112, "no such instruction"), (125, "no such what"), (129, "nothing is compiled"), (139, "no such matcher"), (141, "the pattern is not simple"), (171, "no such group")]
/-- pairs of which the one is not the other -/
def th_nc : List (String × String) := [(th_E 131, th_E 89), (th_E 89, th_E 114)]
/-- all that a throw and its catching ask of a state -/
def th_W (U : State) : Prop := (∀ args, ∀ w ∈ th_ws, w.before args U = true) ∧ (∀ q ∈ th_tx, ∃ sa : Addr, ∀ args, (Cond.stringRef "LinearSearch" q.1 q.2).before args U = true ∧ (Term.string "LinearSearch" q.1).eval args U none [] U = some (.ref sa)) ∧ ∀ q ∈ th_nc, va_Nc q.1 q.2 U
/-- the states that are as s is outside of A -/
def th_as (s : State) (A : Nat → Prop) (U : State) : Prop := s.WarmedH U.vm ∧ s.heap.size ≤ U.heap.size ∧ ∀ q : Nat, q < s.heap.size → ¬ A q → U.heap[q]? = s.heap[q]?
def th_Y (s : State) (A : Nat → Prop) : Prop := ∀ U : State, th_as s A U → th_W U
theorem th_Y_ok {s U : State} {A A' : Nat → Prop} (h : th_Y s A) (hW : s.WarmedH U.vm) (hA : ∀ q : Nat, q < s.heap.size → A' q → A q) (hz : s.heap.size ≤ U.heap.size) (hk : ∀ q : Nat, q < s.heap.size → ¬ A q → U.heap[q]? = s.heap[q]?) : th_Y U A' := by
  intro V hV
  obtain ⟨v1, v2, v3⟩ := hV
  refine h V ⟨State.WarmedH.trans hW v1, Nat.le_trans hz v2, fun q h1 h2 => ?_⟩
  rw [v3 q (Nat.lt_of_lt_of_le h1 hz) (fun h9 => h2 (hA q h1 h9))]
  exact hk q h1 h2
section TH
variable {p : Program} {l : Launch} {e : Env} {R : Room} {s : State} {m : MethodId} {args : Array Value} {below : List Frame} {meth : Method} {c : Code} {T : State} {locs : List Loc} {cells slots : Nat}
/-- the state in which the method would stand if it were called now -/
def th_at (s T : State) (m : MethodId) (args : Array Value) (below : List Frame) : State := (T.setVm s.vm).setFrames (.invoking m args :: below)
theorem th_at_frames (X : Stand p l e R s m args below meth c T locs cells slots) : (th_at s T m args below).frames = .invoking m args :: below :=
  State.frames_setFrames _ (State.cur_lt_of_top (s := T.setVm s.vm) X.here.top)
theorem th_bytes (U : State) (F : List Frame) : (U.setFrames F).me.stackBytes = U.me.stackBytes := by
  unfold State.me State.setFrames
  simp only [Array.getElem?_modify]
  cases U.threads[U.cur]? <;> simp
theorem th_room (X : Stand p l e R s m args below meth c T locs cells slots) {k n : Nat} (hk : cells + k ≤ R.cells) (hn : slots + n ≤ R.slots) :
    (th_at s T m args below).hasRoom e.platform { frames := R.frames, cells := k, slots := n, locals := R.locals } = true := by
  have hF := th_at_frames X
  have hroom := X.room
  have hz := X.heapSize
  have hu := X.used
  have e1 : (th_at s T m args below).localsInUse = s.localsInUse :=
    (State.localsInUse_invoking hF X.method X.code).trans (State.localsInUse_invoking X.frames X.method X.code).symm
  have e2 : e.platform.stackLimits (th_at s T m args below).me = e.platform.stackLimits s.me := (State.stackLimits_setFrames _ _ _).trans X.limits
  have e3 : (th_at s T m args below).me.stackBytes = s.me.stackBytes := (th_bytes _ _).trans X.bytes
  have e4 : (th_at s T m args below).frames.length = s.frames.length := by rw [hF, X.frames]
  unfold State.hasRoom at hroom ⊢
  rw [e1, e2, e3, e4]
  simp only [Bool.and_eq_true, decide_eq_true_eq] at hroom ⊢
  refine ⟨⟨⟨hroom.1.1.1, ?_⟩, ?_⟩, X.book⟩
  · show T.heap.size + k ≤ _
    have := hroom.1.1.2
    omega
  · show T.slotsUsed + n ≤ _
    have := hroom.1.2
    omega
theorem th_same (X : Stand p l e R s m args below meth c T locs cells slots) : (th_at s T m args below).sameButNew (T.setVm s.vm) [] 0 0 := by
  obtain ⟨g₀, hg0⟩ := Option.isSome_iff_exists.mp (show (T.setVm s.vm).topJava?.isSome from X.here.top)
  obtain ⟨r, hr⟩ := State.topJava?_eq_some.mp hg0
  obtain ⟨t, ht, -⟩ := State.frames_cons hr
  have hnil : (T.heap.toList.drop T.heap.size) = [] := List.drop_eq_nil_of_le (Nat.le_of_eq Array.length_toList)
  refine ⟨?_, Nat.le_refl _, Nat.le_refl _, ?_, ?_, fun a x hx => ⟨x, hx, rfl, rfl, fun _ _ => rfl⟩⟩
  · have h1 : (th_at s T m args below).setFrames (T.setVm s.vm).frames = T.setVm s.vm := by
      unfold th_at
      rw [State.setFrames_setFrames, State.setFrames_self ht]
    rw [h1]
  · show T.slotsUsed = T.slotsUsed + ((T.heap.toList.drop T.heap.size).map (·.slots.size)).sum
    rw [hnil]; rfl
  · show ((T.heap.toList.drop T.heap.size).map (·.slots.size)).sum ≤ 0
    rw [hnil]; exact Nat.le_refl _
theorem th_stand (X : Stand p l e R s m args below meth c T locs cells slots) {k n : Nat} (hk : cells + k ≤ R.cells) (hn : slots + n ≤ R.slots) :
    Stand p l e { frames := R.frames, cells := k, slots := n, locals := R.locals } (th_at s T m args below) m args below meth c T [] 0 0 where
  admits := X.admits
  cas := X.cas
  clock := X.clock
  frames := th_at_frames X
  room := th_room X hk hn
  hears := X.hears
  method := X.method
  code := X.code
  here := X.here
  tail := X.tail
  warmed := X.warmed
  limits := (State.stackLimits_setFrames _ _ _).symm
  bytes := (th_bytes _ _).symm
  same := th_same X
/-- a site: new E; dup; ldc text; invokespecial E.<init>; athrow, not under a handler -/
def th_site (cc : ByteArray) (pc ik is ic : Nat) : Prop := decode cc pc = .ok (.new ik, 3) ∧ decode cc (pc + 3) = .ok (.dup, 1) ∧ decode cc (pc + 4) = .ok (.ldc is, 2) ∧ decode cc (pc + 6) = .ok (.invokespecial ic, 3) ∧ decode cc (pc + 9) = .ok (.athrow, 1)
set_option maxHeartbeats 2000000 in
/-- 'throw new E("text")' comes to its end: one new cell, all else as it was -/
theorem th_throw (X : Stand p l e R s m args below meth c T locs cells slots) (hexec : p.tables.exec = Jvm.exec) (htr : l.stackTraces = false) (hlocks : meth.locks = false) (hown : s.vm.findClass "LinearSearch" = some m.cls) {A : Nat → Prop} (hY : th_Y s A) (hS : va_S A s.heap T.heap locs)
    {pc ik is ic : Nat} {tx : String} (hsite : th_site c.code pc ik is ic) (hic : ic = 89 ∨ ic = 114 ∨ ic = 131) (htx : (is, tx) ∈ th_tx) (hk : Cond.classLink "LinearSearch" ik (th_E ic) ∈ lt_T) (hini : Cond.initialized (th_E ic) ∈ lt_T) (hts : ∀ w ∈ lt_T, w.before args s = true)
    (hout : ∀ x ∈ c.exceptionTable.toList, covers x (pc + 9) = false) {ls : Array Slot} (hls : ls.size = c.maxLocals) (hf : 6 ≤ R.frames) (hlo : 128 ≤ R.locals) (hcells : cells + 1 ≤ R.cells) (hslots : slots + 6 ≤ R.slots) :
    ∃ (U : State) (ce : Cell), Steps p.tables e below (T.setTop (F0 m pc ls [])) U ∧ U.status = .running ∧ Ended U below (.threw T.heap.size) ∧ s.WarmedH U.vm ∧ s.sameButNew ({ U with vm := s.vm } : State) locs (cells + 1) (slots + 6) ∧
      U.heap.size = T.heap.size + 1 ∧ (∀ q : Nat, q < T.heap.size → U.heap[q]? = T.heap[q]?) ∧ U.heap[T.heap.size]? = some ce ∧ ce.vm = .none ∧ s.vm.findClass (th_E ic) = some ce.cls := by
  have hplat : e.platform.stackTraces = false := (show e.platform.stackTraces = l.stackTraces by rw [X.admits.platform]).trans htr
  obtain ⟨d0, d3, d4, d6, d9⟩ := hsite
  have Y := th_stand X (k := 1) (n := 6) hcells hslots
  have hagree : th_as s A (th_at s T m args below) := ⟨State.WarmedH.refl s, hS.1, hS.2.1⟩
  obtain ⟨hw, hstr, -⟩ := hY _ hagree
  obtain ⟨sa, hsa⟩ := hstr _ htx
  have hfit : Bundle.fit (th_E ic) = true := by rcases hic with rfl | rfl | rfl <;> decide +kernel
  have hnames : ∀ n ∈ th_chain, Bundle.fit n = true := by decide +kernel
  have hat : ∀ w ∈ Bundle.ownAtoms "LinearSearch" ic (th_E ic) th_chain, w.before args (th_at s T m args below) = true := by
    intro w hm
    refine hw args w ?_
    rcases hic with rfl | rfl | rfl
    · exact List.mem_append_left _ hm
    · exact List.mem_append_right _ (List.mem_append_left _ hm)
    · exact List.mem_append_right _ (List.mem_append_right _ hm)
  have hwd : ∀ w ∈ lt_T, w.before args (th_at s T m args below) = true := fun w hm => word_at (U := th_at s T m args below) (State.WarmedH.refl s) (good_of_word (lt_T_good w hm)) (hts w hm)
  have hins : (Cond.instantiable (th_E ic) 6).before args (th_at s T m args below) = true := hat _ (by simp [Bundle.ownAtoms])
  obtain ⟨vm₁, cX, kX, hfX, hkX, -, -, X₁, st1⟩ := Y.newCold hexec (own := "LinearSearch") (C := th_E ic) (index := ik) (n := 6) hown (hwd _ hk) hins (hwd _ hini) (g := F0 m pc ls []) rfl d0 (Nat.le_refl _) (Nat.le_refl _)
  generalize hT1 : (T.setVm vm₁).pushCell { cls := cX, slots := kX.instanceTypes.map defaultValue, vm := .none } = T1 at X₁ st1
  have hcellA : T1.heap[T.heap.size]? = some (freshCell cX kX) := by rw [← hT1]; exact State.heap_pushCell_size _ _
  obtain ⟨U, hsteps, hrun, hend, hW, hsame, ce, hce, hO⟩ := X₁.ctorThrowS hexec hplat (own := "LinearSearch") (cls := th_E ic) (names := th_chain) (ic := ic) hown hfit hnames hat (fun x hx => nomatch hx) hfX hkX hcellA (Nat.le_refl _) (msg := .ref sa) rfl
    (g := F0 m (pc + 6) ls [.ref sa, .ref T.heap.size, .ref T.heap.size]) rfl hls rfl rfl (rest := []) rfl d6 d9 hout (by show 2 + 3 < R.frames; omega) (by show 2 * 0 + (1 + 0) + (13 * (2 + 1) + 42) ≤ R.locals; omega) hlocks
  have hd4 : Steps p.tables e below (T1.setTop (F0 m (pc + 4) ls [.ref T.heap.size, .ref T.heap.size])) U :=
    X₁.ldcString hexec (own := "LinearSearch") (text := tx) (index := is) (a := sa) hown (hsa args).1 (hsa args).2 (g := F0 m (pc + 4) ls [.ref T.heap.size, .ref T.heap.size]) rfl d4 _ hsteps
  have hd3 : Steps p.tables e below (T1.setTop (F0 m (pc + 3) ls [.ref T.heap.size])) U := by
    have h3 : decode c.code (pc + 3) = .ok (.dup, 1) := d3
    jvm_step X₁.here [X₁.here.top, hexec, h3, Value.category]
    exact hd4
  refine ⟨U, ce, st1 _ hd3, hrun, hend, hW, ?_, ?_, ?_, hce, hO.vm, hO.cls⟩
  · have h2 : (T.setVm s.vm).sameButNew ({ U with vm := s.vm } : State) [] (0 + 1) (0 + 6) := by
      obtain ⟨q1, q2⟩ := hsame
      unfold th_at at q1
      rw [State.setFrames_setFrames] at q1
      exact ⟨q1, q2⟩
    have h3 := X.same.trans h2
    rw [List.append_nil] at h3
    exact h3
  · have h1 : U.heap.size ≤ T.heap.size + 1 := hsame.2.2.1
    have h2 : T.heap.size < U.heap.size := (Array.getElem?_eq_some_iff.mp hce).1
    omega
  · intro q hq
    obtain ⟨x, g1, g2, g3, g4⟩ := hsame.2.2.2.2.2 q _ (show T.heap[q]? = some T.heap[q] from Array.getElem?_eq_getElem hq)
    have hx : x.slots = (T.heap[q]).slots := Array.ext_getElem? fun i => g4 i (fun h => nomatch h)
    have hxe : x = T.heap[q] := by rw [hx] at g2; exact g2
    rw [show U.heap[q]? = some x from g1, hxe, Array.getElem?_eq_getElem hq]
end TH
