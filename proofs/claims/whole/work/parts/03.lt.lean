/-! LEADS-TO: Lt says that the machine, at a point of a method (pc, locals, stack, heap view, room left), comes to a point where X holds. All of the machine stands behind it. -/
/-- the view of the heap: shapes, int-like, long and reference slots by address and place, and the next new address -/
abbrev hv_S : Type := (Nat → Option (Nat × Nat)) × (Nat → Nat → Int32) × (Nat → Nat → Int64) × (Nat → Nat → Option Nat) × Nat
abbrev hv_sh (σ : hv_S) : Nat → Option (Nat × Nat) := σ.1
abbrev hv_I (σ : hv_S) : Nat → Nat → Int32 := σ.2.1
abbrev hv_J (σ : hv_S) : Nat → Nat → Int64 := σ.2.2.1
abbrev hv_R (σ : hv_S) : Nat → Nat → Option Nat := σ.2.2.2.1
abbrev hv_n (σ : hv_S) : Nat := σ.2.2.2.2
/-- a value of type ty, read off the view -/
def hv_fv (ty : FieldType) (σ : hv_S) (a k : Nat) : Value := match ty with
  | .long => .long (hv_J σ a k)
  | .object _ => va_rf (hv_R σ a k)
  | .array _ => va_rf (hv_R σ a k)
  | _ => .int (hv_I σ a k)
def hv_u {α : Type} (f : Nat → Nat → α) (a k : Nat) (v : α) : Nat → Nat → α := fun b j => if j = k ∧ b = a then v else f b j
def hv_setI (σ : hv_S) (a k : Nat) (v : Int32) : hv_S := (hv_sh σ, hv_u (hv_I σ) a k v, hv_J σ, hv_R σ, hv_n σ)
def hv_setJ (σ : hv_S) (a k : Nat) (v : Int64) : hv_S := (hv_sh σ, hv_I σ, hv_u (hv_J σ) a k v, hv_R σ, hv_n σ)
def hv_setR (σ : hv_S) (a k : Nat) (v : Option Nat) : hv_S := (hv_sh σ, hv_I σ, hv_J σ, hv_u (hv_R σ) a k v, hv_n σ)
/-- a new cell, all zero -/
def hv_new (σ : hv_S) (x : Nat × Nat) : hv_S := (fun b => if b = hv_n σ then some x else hv_sh σ b, fun b j => if b = hv_n σ then 0 else hv_I σ b j, fun b j => if b = hv_n σ then 0 else hv_J σ b j, fun b j => if b = hv_n σ then none else hv_R σ b j, hv_n σ + 1)
def hv_zero : hv_S := (fun _ => none, fun _ _ => 0, fun _ _ => 0, fun _ _ => none, 0)
/-- the classes' numbers and slots, the array classes, and what is said of the heap outside of the view -/
abbrev lt_G : Type := va_G × (Nat → ClassId) × (State → (Nat → Prop) → Prop)
/-- what is said of the outside holds on, where the outside does -/
def lt_Ok (G : lt_G) : Prop := ∀ (s U : State) (A A' : Nat → Prop), G.2.2 s A → s.WarmedH U.vm → (∀ q : Nat, q < s.heap.size → A' q → A q) → s.heap.size ≤ U.heap.size → (∀ q : Nat, q < s.heap.size → ¬ A q → U.heap[q]? = s.heap[q]?) → G.2.2 U A'
abbrev lt_M : Type := MethodName × ByteArray × Nat × Option FieldType
/-- the cell of shape x at a: an object of class x.1, or (from 1000 on) an array of x.2 elements of the type with number x.1 - 1000, or (2000) an int array that is only read -/
def hv_at (G : lt_G) (σ : hv_S) (a : Nat) (x : Nat × Nat) (H : Heap) : Prop :=
  if x.1 < 1000 then ∃ r : vw_C, lt_cl[x.1]? = some r ∧ t_OB a (G.1.1 x.1) r.2.2 (G.1.2 x.1) H (fun k => hv_fv (lt_ty x.1 k) σ a k)
  else if x.1 < 2000 then H[a]? = some (arrV (G.2.1 (x.1 - 1000)) x.2 (fun j => hv_fv (lt_aty (x.1 - 1000)) σ a j))
  else ∃ scr : Cell, H[a]? = some scr ∧ scr.cls = G.2.1 9 ∧ (∀ k, scr.vm ≠ .statics k) ∧ scr.vm ≠ .unknown ∧ scr.slots.size = x.2 ∧ ∀ j : Nat, j < x.2 → scr.slots[j]? = some (.int (hv_I σ a j))
def hv_H (G : lt_G) (σ : hv_S) (H : Heap) : Prop := H.size = hv_n σ ∧ ∀ (a : Nat) (x : Nat × Nat), hv_sh σ a = some x → hv_at G σ a x H
def lt_tys (G : lt_G) : List (ClassId × FieldType) := lt_codes.map (fun t => (G.2.1 t, lt_aty t))
def lt_K (G : lt_G) (s : State) : Prop := va_K G.1 lt_cl (lt_tys G) s ∧ ArrOfT s (G.2.1 9) .int
def lt_C (G : lt_G) (μ : lt_M) (d : Nat) (p : Program) (l : Launch) (R : Room) (s : State) (m : MethodId) (args : Array Value) (meth : Method) (c : Code) : Prop :=
  p.tables.exec = Jvm.exec ∧ c.code = μ.2.1 ∧ meth.sig.returnType = μ.2.2.2 ∧ c.maxLocals = μ.2.2.1 ∧ s.vm.findClass μ.1.cls = some m.cls ∧ (∀ w ∈ lt_T, w.before args s = true) ∧ (∀ w ∈ lt_N, va_Nw w s) ∧ lt_K G s ∧ meth.locks = false ∧ meth.name = μ.1.name ∧ d ≤ R.frames ∧ 64 * d ≤ R.locals ∧ lt_Ok G ∧ l.stackTraces = false ∧ s.methodNamed? μ.1 = some m
def lt_H (G : lt_G) (σ : hv_S) (s : State) (H : Heap) (locs : List Loc) (A : Nat → Prop) : Prop :=
  hv_H G σ H ∧ (∀ (a : Nat) (x : Nat × Nat), hv_sh σ a = some x → x.1 < 2000 → A a) ∧ va_S A s.heap H locs
def Lt (G : lt_G) (μ : lt_M) (d pc : Nat) (lo : List (Nat × Value)) (st : List Value) (σ : hv_S) (mc ms : Nat) (X : Nat → List (Nat × Value) → List Value → hv_S → Nat → Nat → Prop) : Prop :=
  ∀ (p : Program) (l : Launch) (e : Env) (R : Room) (s : State) (m : MethodId) (args : Array Value) (below : List Frame) (meth : Method) (c : Code), lt_C G μ d p l R s m args meth c → ∀ (A : Nat → Prop), (∀ q : Nat, s.heap.size ≤ q → A q) → G.2.2 s A → ∀ (Q : State → Prop),
  (∀ (pc' : Nat) (lo' : List (Nat × Value)) (st' : List Value) (σ' : hv_S) (mc' ms' : Nat) (H' : Heap) (locs' : List Loc) (cells' slots' : Nat) (ls' : Array Slot), X pc' lo' st' σ' mc' ms' → lv_has ls' μ.2.2.1 lo' → lt_H G σ' s H' locs' A → cells' + mc' ≤ R.cells → slots' + ms' ≤ R.slots → W p l e R s m args below meth c H' locs' cells' slots' Q (F0 m pc' ls' st')) →
  ∀ (H : Heap) (locs : List Loc) (cells slots : Nat) (ls : Array Slot), lv_has ls μ.2.2.1 lo → lt_H G σ s H locs A → cells + mc ≤ R.cells → slots + ms ≤ R.slots → W p l e R s m args below meth c H locs cells slots Q (F0 m pc ls st)
section LT
variable {G : lt_G} {μ : lt_M} {d pc : Nat} {lo lo' : List (Nat × Value)} {st : List Value} {σ : hv_S} {mc ms : Nat} {X : Nat → List (Nat × Value) → List Value → hv_S → Nat → Nat → Prop}
theorem Lt.stop (h : X pc lo st σ mc ms) : Lt G μ d pc lo st σ mc ms X := fun _ _ _ _ _ _ _ _ _ _ _ _ _ _ _ hX H locs cells slots ls hl hH h1 h2 => hX pc lo st σ mc ms H locs cells slots ls h hl hH h1 h2
theorem Lt.trans {Y : Nat → List (Nat × Value) → List Value → hv_S → Nat → Nat → Prop} (h : Lt G μ d pc lo st σ mc ms Y) (k : ∀ pc' lo' st' σ' mc' ms', Y pc' lo' st' σ' mc' ms' → Lt G μ d pc' lo' st' σ' mc' ms' X) : Lt G μ d pc lo st σ mc ms X :=
  fun p l e R s m args below meth c hC A hA hY Q hX H locs cells slots ls hl hH h1 h2 => h p l e R s m args below meth c hC A hA hY Q (fun pc' lo' st' σ' mc' ms' H' locs' cells' slots' ls' hy hl' hH' g1 g2 => k pc' lo' st' σ' mc' ms' hy p l e R s m args below meth c hC A hA hY Q hX H' locs' cells' slots' ls' hl' hH' g1 g2) H locs cells slots ls hl hH h1 h2
theorem Lt.less {mc' ms' : Nat} (hc : mc' ≤ mc) (hs : ms' ≤ ms) (h : Lt G μ d pc lo st σ mc' ms' X) : Lt G μ d pc lo st σ mc ms X :=
  fun p l e R s m args below meth c hC A hA hY Q hX H locs cells slots ls hl hH h1 h2 => h p l e R s m args below meth c hC A hA hY Q hX H locs cells slots ls hl hH (by omega) (by omega)
theorem Lt.sub (ks : List Nat) (hk : lv_pick lo ks = lo') (h : Lt G μ d pc lo' st σ mc ms X) : Lt G μ d pc lo st σ mc ms X :=
  fun p l e R s m args below meth c hC A hA hY Q hX H locs cells slots ls hl hH h1 h2 => h p l e R s m args below meth c hC A hA hY Q hX H locs cells slots ls (lv_sub hl ks hk) hH h1 h2
def ms_ld (lo : List (Nat × Value)) (i : Nat) : Option Value := match lo with
  | [] => none
  | q :: r => if q.1 = i then some q.2 else ms_ld r i
theorem ms_ld_mem : ∀ {lo : List (Nat × Value)} {i : Nat} {v : Value}, ms_ld lo i = some v → (i, v) ∈ lo
  | [], i, v, h => by simp [ms_ld] at h
  | q :: r, i, v, h => by
    unfold ms_ld at h
    split at h
    · next hq => cases h; subst hq; exact List.mem_cons_self
    · exact List.mem_cons_of_mem _ (ms_ld_mem h)
theorem ms_ld_at {ls : Array Slot} {nL : Nat} {lo : List (Nat × Value)} {i : Nat} {v : Value} (h : lv_has ls nL lo) (hi : ms_ld lo i = some v) : ls[i]? = some (.val v) := h.2.2 (i, v) (ms_ld_mem hi)
def ms_s1 (i : Nat) (v : Value) (lo : List (Nat × Value)) : List (Nat × Value) := (i, v) :: lo.filter (fun q => !(q.1 == i) && !(q.1 + 1 == i && q.2.category == 2))
def ms_s2 (i : Nat) (v : Value) (lo : List (Nat × Value)) : List (Nat × Value) := (i, v) :: lo.filter (fun q => !(q.1 == i) && (!(q.1 == i + 1) && !(q.1 + 1 == i && q.2.category == 2)))

theorem lt_iconst {n : Int} {v : Int32} (hd : decode μ.2.1 pc = .ok (.iconst n, 1)) (hv : Int32.ofInt n = v) (kk : Lt G μ d (pc + 1) lo (.int v :: st) σ mc ms X) : Lt G μ d pc lo (st) σ mc ms X :=
  fun p l e R s m args below meth c hC A hA hY Q hX H locs cells slots ls hl hH h1 h2 => lv_iconst hC.1 hC.2.1 hd hv (kk p l e R s m args below meth c hC A hA hY Q hX H locs cells slots ls hl hH h1 h2)
theorem lt_bipush {n : Int} {v : Int32} (hd : decode μ.2.1 pc = .ok (.bipush n, 2)) (hv : (Int8.ofInt n).toInt32 = v) (kk : Lt G μ d (pc + 2) lo (.int v :: st) σ mc ms X) : Lt G μ d pc lo (st) σ mc ms X :=
  fun p l e R s m args below meth c hC A hA hY Q hX H locs cells slots ls hl hH h1 h2 => lv_bipush hC.1 hC.2.1 hd hv (kk p l e R s m args below meth c hC A hA hY Q hX H locs cells slots ls hl hH h1 h2)
theorem lt_sipush {n : Int} {v : Int32} (hd : decode μ.2.1 pc = .ok (.sipush n, 3)) (hv : (Int16.ofInt n).toInt32 = v) (kk : Lt G μ d (pc + 3) lo (.int v :: st) σ mc ms X) : Lt G μ d pc lo (st) σ mc ms X :=
  fun p l e R s m args below meth c hC A hA hY Q hX H locs cells slots ls hl hH h1 h2 => lv_sipush hC.1 hC.2.1 hd hv (kk p l e R s m args below meth c hC A hA hY Q hX H locs cells slots ls hl hH h1 h2)
theorem lt_lconst {n : Fin 2} {v : Int64} (hd : decode μ.2.1 pc = .ok (.lconst n, 1)) (hv : Int64.ofNat (n : Nat) = v) (kk : Lt G μ d (pc + 1) lo (.long v :: st) σ mc ms X) : Lt G μ d pc lo (st) σ mc ms X :=
  fun p l e R s m args below meth c hC A hA hY Q hX H locs cells slots ls hl hH h1 h2 => lv_lconst hC.1 hC.2.1 hd hv (kk p l e R s m args below meth c hC A hA hY Q hX H locs cells slots ls hl hH h1 h2)
theorem lt_null  (hd : decode μ.2.1 pc = .ok (.aconst_null, 1)) (kk : Lt G μ d (pc + 1) lo (.null :: st) σ mc ms X) : Lt G μ d pc lo (st) σ mc ms X :=
  fun p l e R s m args below meth c hC A hA hY Q hX H locs cells slots ls hl hH h1 h2 => lv_null hC.1 hC.2.1 hd (kk p l e R s m args below meth c hC A hA hY Q hX H locs cells slots ls hl hH h1 h2)
theorem lt_iload {i : Nat} {x : Int32} (hd : decode μ.2.1 pc = .ok (.iload i, 2)) (hi : ms_ld lo i = some (.int x)) (kk : Lt G μ d (pc + 2) lo (.int x :: st) σ mc ms X) : Lt G μ d pc lo (st) σ mc ms X :=
  fun p l e R s m args below meth c hC A hA hY Q hX H locs cells slots ls hl hH h1 h2 => lv_iload hC.1 hC.2.1 hd (ms_ld_at hl hi) (kk p l e R s m args below meth c hC A hA hY Q hX H locs cells slots ls hl hH h1 h2)
theorem lt_iload_n {k : Fin 4} {x : Int32} (hd : decode μ.2.1 pc = .ok (.iload_n k, 1)) (hi : ms_ld lo (k : Nat) = some (.int x)) (kk : Lt G μ d (pc + 1) lo (.int x :: st) σ mc ms X) : Lt G μ d pc lo (st) σ mc ms X :=
  fun p l e R s m args below meth c hC A hA hY Q hX H locs cells slots ls hl hH h1 h2 => lv_iload_n hC.1 hC.2.1 hd rfl (ms_ld_at hl hi) (kk p l e R s m args below meth c hC A hA hY Q hX H locs cells slots ls hl hH h1 h2)
theorem lt_lload {i : Nat} {x : Int64} (hd : decode μ.2.1 pc = .ok (.lload i, 2)) (hi : ms_ld lo i = some (.long x)) (kk : Lt G μ d (pc + 2) lo (.long x :: st) σ mc ms X) : Lt G μ d pc lo (st) σ mc ms X :=
  fun p l e R s m args below meth c hC A hA hY Q hX H locs cells slots ls hl hH h1 h2 => lv_lload hC.1 hC.2.1 hd (ms_ld_at hl hi) (kk p l e R s m args below meth c hC A hA hY Q hX H locs cells slots ls hl hH h1 h2)
theorem lt_lload_n {k : Fin 4} {x : Int64} (hd : decode μ.2.1 pc = .ok (.lload_n k, 1)) (hi : ms_ld lo (k : Nat) = some (.long x)) (kk : Lt G μ d (pc + 1) lo (.long x :: st) σ mc ms X) : Lt G μ d pc lo (st) σ mc ms X :=
  fun p l e R s m args below meth c hC A hA hY Q hX H locs cells slots ls hl hH h1 h2 => lv_lload_n hC.1 hC.2.1 hd rfl (ms_ld_at hl hi) (kk p l e R s m args below meth c hC A hA hY Q hX H locs cells slots ls hl hH h1 h2)
theorem lt_aload {i : Nat} {x : Nat} (hd : decode μ.2.1 pc = .ok (.aload i, 2)) (hi : ms_ld lo i = some (.ref x)) (kk : Lt G μ d (pc + 2) lo (.ref x :: st) σ mc ms X) : Lt G μ d pc lo (st) σ mc ms X :=
  fun p l e R s m args below meth c hC A hA hY Q hX H locs cells slots ls hl hH h1 h2 => lv_aload hC.1 hC.2.1 hd (ms_ld_at hl hi) (kk p l e R s m args below meth c hC A hA hY Q hX H locs cells slots ls hl hH h1 h2)
theorem lt_aload_n {k : Fin 4} {x : Nat} (hd : decode μ.2.1 pc = .ok (.aload_n k, 1)) (hi : ms_ld lo (k : Nat) = some (.ref x)) (kk : Lt G μ d (pc + 1) lo (.ref x :: st) σ mc ms X) : Lt G μ d pc lo (st) σ mc ms X :=
  fun p l e R s m args below meth c hC A hA hY Q hX H locs cells slots ls hl hH h1 h2 => lv_aload_n hC.1 hC.2.1 hd rfl (ms_ld_at hl hi) (kk p l e R s m args below meth c hC A hA hY Q hX H locs cells slots ls hl hH h1 h2)
theorem lt_aloadN {i : Nat} (hd : decode μ.2.1 pc = .ok (.aload i, 2)) (hi : ms_ld lo i = some .null) (kk : Lt G μ d (pc + 2) lo (.null :: st) σ mc ms X) : Lt G μ d pc lo (st) σ mc ms X :=
  fun p l e R s m args below meth c hC A hA hY Q hX H locs cells slots ls hl hH h1 h2 => lv_aloadN hC.1 hC.2.1 hd (ms_ld_at hl hi) (kk p l e R s m args below meth c hC A hA hY Q hX H locs cells slots ls hl hH h1 h2)
theorem lt_aload_nN {k : Fin 4} (hd : decode μ.2.1 pc = .ok (.aload_n k, 1)) (hi : ms_ld lo (k : Nat) = some .null) (kk : Lt G μ d (pc + 1) lo (.null :: st) σ mc ms X) : Lt G μ d pc lo (st) σ mc ms X :=
  fun p l e R s m args below meth c hC A hA hY Q hX H locs cells slots ls hl hH h1 h2 => lv_aload_nN hC.1 hC.2.1 hd rfl (ms_ld_at hl hi) (kk p l e R s m args below meth c hC A hA hY Q hX H locs cells slots ls hl hH h1 h2)
theorem lt_istore {i : Nat} {x : Int32} (hd : decode μ.2.1 pc = .ok (.istore i, 2)) (hn : i < μ.2.2.1) (hs : ms_s1 i (.int x) lo = lo') (kk : Lt G μ d (pc + 2) lo' (st) σ mc ms X) : Lt G μ d pc lo (.int x :: st) σ mc ms X :=
  fun p l e R s m args below meth c hC A hA hY Q hX H locs cells slots ls hl hH h1 h2 => lv_istore hC.1 hC.2.1 hd hl hn hs (fun ls' hl' => kk p l e R s m args below meth c hC A hA hY Q hX H locs cells slots ls' hl' hH h1 h2)
theorem lt_istore_n {k : Fin 4} {x : Int32} (hd : decode μ.2.1 pc = .ok (.istore_n k, 1)) (hn : (k : Nat) < μ.2.2.1) (hs : ms_s1 (k : Nat) (.int x) lo = lo') (kk : Lt G μ d (pc + 1) lo' (st) σ mc ms X) : Lt G μ d pc lo (.int x :: st) σ mc ms X :=
  fun p l e R s m args below meth c hC A hA hY Q hX H locs cells slots ls hl hH h1 h2 => lv_istore_n hC.1 hC.2.1 hd rfl hl hn hs (fun ls' hl' => kk p l e R s m args below meth c hC A hA hY Q hX H locs cells slots ls' hl' hH h1 h2)
theorem lt_lstore {i : Nat} {x : Int64} (hd : decode μ.2.1 pc = .ok (.lstore i, 2)) (hn : i + 1 < μ.2.2.1) (hs : ms_s2 i (.long x) lo = lo') (kk : Lt G μ d (pc + 2) lo' (st) σ mc ms X) : Lt G μ d pc lo (.long x :: st) σ mc ms X :=
  fun p l e R s m args below meth c hC A hA hY Q hX H locs cells slots ls hl hH h1 h2 => lv_lstore hC.1 hC.2.1 hd hl hn hs (fun ls' hl' => kk p l e R s m args below meth c hC A hA hY Q hX H locs cells slots ls' hl' hH h1 h2)
theorem lt_lstore_n {k : Fin 4} {x : Int64} (hd : decode μ.2.1 pc = .ok (.lstore_n k, 1)) (hn : (k : Nat) + 1 < μ.2.2.1) (hs : ms_s2 (k : Nat) (.long x) lo = lo') (kk : Lt G μ d (pc + 1) lo' (st) σ mc ms X) : Lt G μ d pc lo (.long x :: st) σ mc ms X :=
  fun p l e R s m args below meth c hC A hA hY Q hX H locs cells slots ls hl hH h1 h2 => lv_lstore_n hC.1 hC.2.1 hd rfl hl hn hs (fun ls' hl' => kk p l e R s m args below meth c hC A hA hY Q hX H locs cells slots ls' hl' hH h1 h2)
theorem lt_astore {i : Nat} {x : Nat} (hd : decode μ.2.1 pc = .ok (.astore i, 2)) (hn : i < μ.2.2.1) (hs : ms_s1 i (.ref x) lo = lo') (kk : Lt G μ d (pc + 2) lo' (st) σ mc ms X) : Lt G μ d pc lo (.ref x :: st) σ mc ms X :=
  fun p l e R s m args below meth c hC A hA hY Q hX H locs cells slots ls hl hH h1 h2 => lv_astore hC.1 hC.2.1 hd hl hn hs (fun ls' hl' => kk p l e R s m args below meth c hC A hA hY Q hX H locs cells slots ls' hl' hH h1 h2)
theorem lt_astore_n {k : Fin 4} {x : Nat} (hd : decode μ.2.1 pc = .ok (.astore_n k, 1)) (hn : (k : Nat) < μ.2.2.1) (hs : ms_s1 (k : Nat) (.ref x) lo = lo') (kk : Lt G μ d (pc + 1) lo' (st) σ mc ms X) : Lt G μ d pc lo (.ref x :: st) σ mc ms X :=
  fun p l e R s m args below meth c hC A hA hY Q hX H locs cells slots ls hl hH h1 h2 => lv_astore_n hC.1 hC.2.1 hd rfl hl hn hs (fun ls' hl' => kk p l e R s m args below meth c hC A hA hY Q hX H locs cells slots ls' hl' hH h1 h2)
theorem lt_astoreN {i : Nat} (hd : decode μ.2.1 pc = .ok (.astore i, 2)) (hn : i < μ.2.2.1) (hs : ms_s1 i .null lo = lo') (kk : Lt G μ d (pc + 2) lo' (st) σ mc ms X) : Lt G μ d pc lo (.null :: st) σ mc ms X :=
  fun p l e R s m args below meth c hC A hA hY Q hX H locs cells slots ls hl hH h1 h2 => lv_astoreN hC.1 hC.2.1 hd hl hn hs (fun ls' hl' => kk p l e R s m args below meth c hC A hA hY Q hX H locs cells slots ls' hl' hH h1 h2)
theorem lt_astore_nN {k : Fin 4} (hd : decode μ.2.1 pc = .ok (.astore_n k, 1)) (hn : (k : Nat) < μ.2.2.1) (hs : ms_s1 (k : Nat) .null lo = lo') (kk : Lt G μ d (pc + 1) lo' (st) σ mc ms X) : Lt G μ d pc lo (.null :: st) σ mc ms X :=
  fun p l e R s m args below meth c hC A hA hY Q hX H locs cells slots ls hl hH h1 h2 => lv_astore_nN hC.1 hC.2.1 hd rfl hl hn hs (fun ls' hl' => kk p l e R s m args below meth c hC A hA hY Q hX H locs cells slots ls' hl' hH h1 h2)
theorem lt_iinc {i : Nat} {n : Int} {x v : Int32} (hd : decode μ.2.1 pc = .ok (.iinc i n, 3)) (hi : ms_ld lo i = some (.int x)) (hv : x + Int32.ofInt n = v) (hn : i < μ.2.2.1) (hs : ms_s1 i (.int v) lo = lo') (kk : Lt G μ d (pc + 3) lo' st σ mc ms X) : Lt G μ d pc lo st σ mc ms X :=
  fun p l e R s m args below meth c hC A hA hY Q hX H locs cells slots ls hl hH h1 h2 => by
    obtain ⟨k, hk⟩ := List.getElem?_of_mem (ms_ld_mem hi)
    exact lv_iinc hC.1 hC.2.1 hd hl hk hv hn hs (fun ls' hl' => kk p l e R s m args below meth c hC A hA hY Q hX H locs cells slots ls' hl' hH h1 h2)
theorem lt_iadd {x y : Int32} (hd : decode μ.2.1 pc = .ok (.iadd, 1)) (kk : Lt G μ d (pc + 1) lo (.int (x + y) :: st) σ mc ms X) : Lt G μ d pc lo (.int y :: .int x :: st) σ mc ms X :=
  fun p l e R s m args below meth c hC A hA hY Q hX H locs cells slots ls hl hH h1 h2 => lv_iadd hC.1 hC.2.1 hd (kk p l e R s m args below meth c hC A hA hY Q hX H locs cells slots ls hl hH h1 h2)
theorem lt_isub {x y : Int32} (hd : decode μ.2.1 pc = .ok (.isub, 1)) (kk : Lt G μ d (pc + 1) lo (.int (x - y) :: st) σ mc ms X) : Lt G μ d pc lo (.int y :: .int x :: st) σ mc ms X :=
  fun p l e R s m args below meth c hC A hA hY Q hX H locs cells slots ls hl hH h1 h2 => lv_isub hC.1 hC.2.1 hd (kk p l e R s m args below meth c hC A hA hY Q hX H locs cells slots ls hl hH h1 h2)
theorem lt_imul {x y : Int32} (hd : decode μ.2.1 pc = .ok (.imul, 1)) (kk : Lt G μ d (pc + 1) lo (.int (x * y) :: st) σ mc ms X) : Lt G μ d pc lo (.int y :: .int x :: st) σ mc ms X :=
  fun p l e R s m args below meth c hC A hA hY Q hX H locs cells slots ls hl hH h1 h2 => lv_imul hC.1 hC.2.1 hd (kk p l e R s m args below meth c hC A hA hY Q hX H locs cells slots ls hl hH h1 h2)
theorem lt_iand {x y : Int32} (hd : decode μ.2.1 pc = .ok (.iand, 1)) (kk : Lt G μ d (pc + 1) lo (.int (x &&& y) :: st) σ mc ms X) : Lt G μ d pc lo (.int y :: .int x :: st) σ mc ms X :=
  fun p l e R s m args below meth c hC A hA hY Q hX H locs cells slots ls hl hH h1 h2 => lv_iand hC.1 hC.2.1 hd (kk p l e R s m args below meth c hC A hA hY Q hX H locs cells slots ls hl hH h1 h2)
theorem lt_ior {x y : Int32} (hd : decode μ.2.1 pc = .ok (.ior, 1)) (kk : Lt G μ d (pc + 1) lo (.int (x ||| y) :: st) σ mc ms X) : Lt G μ d pc lo (.int y :: .int x :: st) σ mc ms X :=
  fun p l e R s m args below meth c hC A hA hY Q hX H locs cells slots ls hl hH h1 h2 => lv_ior hC.1 hC.2.1 hd (kk p l e R s m args below meth c hC A hA hY Q hX H locs cells slots ls hl hH h1 h2)
theorem lt_ixor {x y : Int32} (hd : decode μ.2.1 pc = .ok (.ixor, 1)) (kk : Lt G μ d (pc + 1) lo (.int (x ^^^ y) :: st) σ mc ms X) : Lt G μ d pc lo (.int y :: .int x :: st) σ mc ms X :=
  fun p l e R s m args below meth c hC A hA hY Q hX H locs cells slots ls hl hH h1 h2 => lv_ixor hC.1 hC.2.1 hd (kk p l e R s m args below meth c hC A hA hY Q hX H locs cells slots ls hl hH h1 h2)
theorem lt_ishl {x y : Int32} (hd : decode μ.2.1 pc = .ok (.ishl, 1)) (kk : Lt G μ d (pc + 1) lo (.int (x <<< (y &&& 31)) :: st) σ mc ms X) : Lt G μ d pc lo (.int y :: .int x :: st) σ mc ms X :=
  fun p l e R s m args below meth c hC A hA hY Q hX H locs cells slots ls hl hH h1 h2 => lv_ishl hC.1 hC.2.1 hd (kk p l e R s m args below meth c hC A hA hY Q hX H locs cells slots ls hl hH h1 h2)
theorem lt_ishr {x y : Int32} (hd : decode μ.2.1 pc = .ok (.ishr, 1)) (kk : Lt G μ d (pc + 1) lo (.int (x >>> (y &&& 31)) :: st) σ mc ms X) : Lt G μ d pc lo (.int y :: .int x :: st) σ mc ms X :=
  fun p l e R s m args below meth c hC A hA hY Q hX H locs cells slots ls hl hH h1 h2 => lv_ishr hC.1 hC.2.1 hd (kk p l e R s m args below meth c hC A hA hY Q hX H locs cells slots ls hl hH h1 h2)
theorem lt_ladd {x y : Int64} (hd : decode μ.2.1 pc = .ok (.ladd, 1)) (kk : Lt G μ d (pc + 1) lo (.long (x + y) :: st) σ mc ms X) : Lt G μ d pc lo (.long y :: .long x :: st) σ mc ms X :=
  fun p l e R s m args below meth c hC A hA hY Q hX H locs cells slots ls hl hH h1 h2 => lv_ladd hC.1 hC.2.1 hd (kk p l e R s m args below meth c hC A hA hY Q hX H locs cells slots ls hl hH h1 h2)
theorem lt_lsub {x y : Int64} (hd : decode μ.2.1 pc = .ok (.lsub, 1)) (kk : Lt G μ d (pc + 1) lo (.long (x - y) :: st) σ mc ms X) : Lt G μ d pc lo (.long y :: .long x :: st) σ mc ms X :=
  fun p l e R s m args below meth c hC A hA hY Q hX H locs cells slots ls hl hH h1 h2 => lv_lsub hC.1 hC.2.1 hd (kk p l e R s m args below meth c hC A hA hY Q hX H locs cells slots ls hl hH h1 h2)
theorem lt_lmul {x y : Int64} (hd : decode μ.2.1 pc = .ok (.lmul, 1)) (kk : Lt G μ d (pc + 1) lo (.long (x * y) :: st) σ mc ms X) : Lt G μ d pc lo (.long y :: .long x :: st) σ mc ms X :=
  fun p l e R s m args below meth c hC A hA hY Q hX H locs cells slots ls hl hH h1 h2 => lv_lmul hC.1 hC.2.1 hd (kk p l e R s m args below meth c hC A hA hY Q hX H locs cells slots ls hl hH h1 h2)
theorem lt_land {x y : Int64} (hd : decode μ.2.1 pc = .ok (.land, 1)) (kk : Lt G μ d (pc + 1) lo (.long (x &&& y) :: st) σ mc ms X) : Lt G μ d pc lo (.long y :: .long x :: st) σ mc ms X :=
  fun p l e R s m args below meth c hC A hA hY Q hX H locs cells slots ls hl hH h1 h2 => lv_land hC.1 hC.2.1 hd (kk p l e R s m args below meth c hC A hA hY Q hX H locs cells slots ls hl hH h1 h2)
theorem lt_lor {x y : Int64} (hd : decode μ.2.1 pc = .ok (.lor, 1)) (kk : Lt G μ d (pc + 1) lo (.long (x ||| y) :: st) σ mc ms X) : Lt G μ d pc lo (.long y :: .long x :: st) σ mc ms X :=
  fun p l e R s m args below meth c hC A hA hY Q hX H locs cells slots ls hl hH h1 h2 => lv_lor hC.1 hC.2.1 hd (kk p l e R s m args below meth c hC A hA hY Q hX H locs cells slots ls hl hH h1 h2)
theorem lt_lxor {x y : Int64} (hd : decode μ.2.1 pc = .ok (.lxor, 1)) (kk : Lt G μ d (pc + 1) lo (.long (x ^^^ y) :: st) σ mc ms X) : Lt G μ d pc lo (.long y :: .long x :: st) σ mc ms X :=
  fun p l e R s m args below meth c hC A hA hY Q hX H locs cells slots ls hl hH h1 h2 => lv_lxor hC.1 hC.2.1 hd (kk p l e R s m args below meth c hC A hA hY Q hX H locs cells slots ls hl hH h1 h2)
theorem lt_ineg {x : Int32} (hd : decode μ.2.1 pc = .ok (.ineg, 1)) (kk : Lt G μ d (pc + 1) lo (.int (-x) :: st) σ mc ms X) : Lt G μ d pc lo (.int x :: st) σ mc ms X :=
  fun p l e R s m args below meth c hC A hA hY Q hX H locs cells slots ls hl hH h1 h2 => lv_ineg hC.1 hC.2.1 hd (kk p l e R s m args below meth c hC A hA hY Q hX H locs cells slots ls hl hH h1 h2)
theorem lt_iushr {x y : Int32} (hd : decode μ.2.1 pc = .ok (.iushr, 1)) (kk : Lt G μ d (pc + 1) lo (.int (x.toUInt32 >>> (y.toUInt32 &&& Int32.toUInt32 31)).toInt32 :: st) σ mc ms X) : Lt G μ d pc lo (.int y :: .int x :: st) σ mc ms X :=
  fun p l e R s m args below meth c hC A hA hY Q hX H locs cells slots ls hl hH h1 h2 => lv_iushr hC.1 hC.2.1 hd rfl (kk p l e R s m args below meth c hC A hA hY Q hX H locs cells slots ls hl hH h1 h2)
theorem lt_lushr {x : Int64} {y : Int32} (hd : decode μ.2.1 pc = .ok (.lushr, 1)) (kk : Lt G μ d (pc + 1) lo (.long (x.toUInt64 >>> (y.toInt64.toUInt64 &&& Int64.toUInt64 63)).toInt64 :: st) σ mc ms X) : Lt G μ d pc lo (.int y :: .long x :: st) σ mc ms X :=
  fun p l e R s m args below meth c hC A hA hY Q hX H locs cells slots ls hl hH h1 h2 => lv_lushr hC.1 hC.2.1 hd rfl (kk p l e R s m args below meth c hC A hA hY Q hX H locs cells slots ls hl hH h1 h2)
theorem lt_lshl {x : Int64} {y : Int32} (hd : decode μ.2.1 pc = .ok (.lshl, 1)) (kk : Lt G μ d (pc + 1) lo (.long (x <<< (y.toInt64 &&& 63)) :: st) σ mc ms X) : Lt G μ d pc lo (.int y :: .long x :: st) σ mc ms X :=
  fun p l e R s m args below meth c hC A hA hY Q hX H locs cells slots ls hl hH h1 h2 => lv_lshl hC.1 hC.2.1 hd rfl (kk p l e R s m args below meth c hC A hA hY Q hX H locs cells slots ls hl hH h1 h2)
theorem lt_lshr {x : Int64} {y : Int32} (hd : decode μ.2.1 pc = .ok (.lshr, 1)) (kk : Lt G μ d (pc + 1) lo (.long (x >>> (y.toInt64 &&& 63)) :: st) σ mc ms X) : Lt G μ d pc lo (.int y :: .long x :: st) σ mc ms X :=
  fun p l e R s m args below meth c hC A hA hY Q hX H locs cells slots ls hl hH h1 h2 => lv_lshr hC.1 hC.2.1 hd rfl (kk p l e R s m args below meth c hC A hA hY Q hX H locs cells slots ls hl hH h1 h2)
theorem lt_idiv {x y : Int32} (hd : decode μ.2.1 pc = .ok (.idiv, 1)) (hne : ¬ y = 0) (kk : Lt G μ d (pc + 1) lo (.int (x / y) :: st) σ mc ms X) : Lt G μ d pc lo (.int y :: .int x :: st) σ mc ms X :=
  fun p l e R s m args below meth c hC A hA hY Q hX H locs cells slots ls hl hH h1 h2 => lv_idiv hC.1 hC.2.1 hd hne (kk p l e R s m args below meth c hC A hA hY Q hX H locs cells slots ls hl hH h1 h2)
theorem lt_irem {x y : Int32} (hd : decode μ.2.1 pc = .ok (.irem, 1)) (hne : ¬ y = 0) (kk : Lt G μ d (pc + 1) lo (.int (x - x / y * y) :: st) σ mc ms X) : Lt G μ d pc lo (.int y :: .int x :: st) σ mc ms X :=
  fun p l e R s m args below meth c hC A hA hY Q hX H locs cells slots ls hl hH h1 h2 => lv_irem hC.1 hC.2.1 hd hne (kk p l e R s m args below meth c hC A hA hY Q hX H locs cells slots ls hl hH h1 h2)
theorem lt_i2l {x : Int32} (hd : decode μ.2.1 pc = .ok (.i2l, 1)) (kk : Lt G μ d (pc + 1) lo (.long x.toInt64 :: st) σ mc ms X) : Lt G μ d pc lo (.int x :: st) σ mc ms X :=
  fun p l e R s m args below meth c hC A hA hY Q hX H locs cells slots ls hl hH h1 h2 => lv_i2l hC.1 hC.2.1 hd rfl (kk p l e R s m args below meth c hC A hA hY Q hX H locs cells slots ls hl hH h1 h2)
theorem lt_l2i {x : Int64} (hd : decode μ.2.1 pc = .ok (.l2i, 1)) (kk : Lt G μ d (pc + 1) lo (.int x.toInt32 :: st) σ mc ms X) : Lt G μ d pc lo (.long x :: st) σ mc ms X :=
  fun p l e R s m args below meth c hC A hA hY Q hX H locs cells slots ls hl hH h1 h2 => lv_l2i hC.1 hC.2.1 hd rfl (kk p l e R s m args below meth c hC A hA hY Q hX H locs cells slots ls hl hH h1 h2)
theorem lt_i2b {x : Int32} (hd : decode μ.2.1 pc = .ok (.i2b, 1)) (kk : Lt G μ d (pc + 1) lo (.int x.toInt8.toInt32 :: st) σ mc ms X) : Lt G μ d pc lo (.int x :: st) σ mc ms X :=
  fun p l e R s m args below meth c hC A hA hY Q hX H locs cells slots ls hl hH h1 h2 => lv_i2b hC.1 hC.2.1 hd rfl (kk p l e R s m args below meth c hC A hA hY Q hX H locs cells slots ls hl hH h1 h2)
theorem lt_i2s {x : Int32} (hd : decode μ.2.1 pc = .ok (.i2s, 1)) (kk : Lt G μ d (pc + 1) lo (.int x.toInt16.toInt32 :: st) σ mc ms X) : Lt G μ d pc lo (.int x :: st) σ mc ms X :=
  fun p l e R s m args below meth c hC A hA hY Q hX H locs cells slots ls hl hH h1 h2 => lv_i2s hC.1 hC.2.1 hd rfl (kk p l e R s m args below meth c hC A hA hY Q hX H locs cells slots ls hl hH h1 h2)
theorem lt_i2c {x : Int32} (hd : decode μ.2.1 pc = .ok (.i2c, 1)) (kk : Lt G μ d (pc + 1) lo (.int (x.toUInt32 % 65536).toInt32 :: st) σ mc ms X) : Lt G μ d pc lo (.int x :: st) σ mc ms X :=
  fun p l e R s m args below meth c hC A hA hY Q hX H locs cells slots ls hl hH h1 h2 => lv_i2c hC.1 hC.2.1 hd rfl (kk p l e R s m args below meth c hC A hA hY Q hX H locs cells slots ls hl hH h1 h2)
theorem lt_lcmp {x y : Int64} (hd : decode μ.2.1 pc = .ok (.lcmp, 1)) (kk : Lt G μ d (pc + 1) lo (.int (lg_cmp x y) :: st) σ mc ms X) : Lt G μ d pc lo (.long y :: .long x :: st) σ mc ms X :=
  fun p l e R s m args below meth c hC A hA hY Q hX H locs cells slots ls hl hH h1 h2 => W.lcmp hC.1 hC.2.1 hd (kk p l e R s m args below meth c hC A hA hY Q hX H locs cells slots ls hl hH h1 h2)
theorem lt_dup {a : Value} (hd : decode μ.2.1 pc = .ok (.dup, 1)) (ha : a.category = 1) (kk : Lt G μ d (pc + 1) lo (a :: a :: st) σ mc ms X) : Lt G μ d pc lo (a :: st) σ mc ms X :=
  fun p l e R s m args below meth c hC A hA hY Q hX H locs cells slots ls hl hH h1 h2 => lv_dup hC.1 hC.2.1 hd ha (kk p l e R s m args below meth c hC A hA hY Q hX H locs cells slots ls hl hH h1 h2)
theorem lt_pop {a : Value} (hd : decode μ.2.1 pc = .ok (.pop, 1)) (ha : a.category = 1) (kk : Lt G μ d (pc + 1) lo (st) σ mc ms X) : Lt G μ d pc lo (a :: st) σ mc ms X :=
  fun p l e R s m args below meth c hC A hA hY Q hX H locs cells slots ls hl hH h1 h2 => lv_pop hC.1 hC.2.1 hd ha (kk p l e R s m args below meth c hC A hA hY Q hX H locs cells slots ls hl hH h1 h2)
theorem lt_dup_x1 {a b : Value} (hd : decode μ.2.1 pc = .ok (.dup_x1, 1)) (ha : a.category = 1) (hb : b.category = 1) (kk : Lt G μ d (pc + 1) lo (a :: b :: a :: st) σ mc ms X) : Lt G μ d pc lo (a :: b :: st) σ mc ms X :=
  fun p l e R s m args below meth c hC A hA hY Q hX H locs cells slots ls hl hH h1 h2 => lv_dup_x1 hC.1 hC.2.1 hd ha hb (kk p l e R s m args below meth c hC A hA hY Q hX H locs cells slots ls hl hH h1 h2)
theorem lt_dup_x2 {a b c2 : Value} (hd : decode μ.2.1 pc = .ok (.dup_x2, 1)) (ha : a.category = 1) (hb : b.category = 1) (hc : c2.category = 1) (kk : Lt G μ d (pc + 1) lo (a :: b :: c2 :: a :: st) σ mc ms X) : Lt G μ d pc lo (a :: b :: c2 :: st) σ mc ms X :=
  fun p l e R s m args below meth c hC A hA hY Q hX H locs cells slots ls hl hH h1 h2 => lv_dup_x2 hC.1 hC.2.1 hd ha hb hc (kk p l e R s m args below meth c hC A hA hY Q hX H locs cells slots ls hl hH h1 h2)
theorem lt_dup2_11 {a b : Value} (hd : decode μ.2.1 pc = .ok (.dup2, 1)) (ha : a.category = 1) (hb : b.category = 1) (kk : Lt G μ d (pc + 1) lo (a :: b :: a :: b :: st) σ mc ms X) : Lt G μ d pc lo (a :: b :: st) σ mc ms X :=
  fun p l e R s m args below meth c hC A hA hY Q hX H locs cells slots ls hl hH h1 h2 => lv_dup2_11 hC.1 hC.2.1 hd ha hb (kk p l e R s m args below meth c hC A hA hY Q hX H locs cells slots ls hl hH h1 h2)
theorem lt_dup2_2 {a : Value} (hd : decode μ.2.1 pc = .ok (.dup2, 1)) (ha : a.category = 2) (kk : Lt G μ d (pc + 1) lo (a :: a :: st) σ mc ms X) : Lt G μ d pc lo (a :: st) σ mc ms X :=
  fun p l e R s m args below meth c hC A hA hY Q hX H locs cells slots ls hl hH h1 h2 => lv_dup2_2 hC.1 hC.2.1 hd ha (kk p l e R s m args below meth c hC A hA hY Q hX H locs cells slots ls hl hH h1 h2)
theorem lt_if_eq {x : Int32} {off : Int} {tgt : Nat} (hd : decode μ.2.1 pc = .ok (.ifCond .eq off, 3)) (ht : (pc : Int) + off = (tgt : Int)) (kt : x = 0 → Lt G μ d tgt lo st σ mc ms X) (kf : ¬ x = 0 → Lt G μ d (pc + 3) lo st σ mc ms X) : Lt G μ d pc lo (.int x :: st) σ mc ms X :=
  fun p l e R s m args below meth c hC A hA hY Q hX H locs cells slots ls hl hH h1 h2 => lv_if_eq hC.1 hC.2.1 hd ht (fun h => kt h p l e R s m args below meth c hC A hA hY Q hX H locs cells slots ls hl hH h1 h2) (fun h => kf h p l e R s m args below meth c hC A hA hY Q hX H locs cells slots ls hl hH h1 h2)
theorem lt_icmp_eq {x y : Int32} {off : Int} {tgt : Nat} (hd : decode μ.2.1 pc = .ok (.if_icmp .eq off, 3)) (ht : (pc : Int) + off = (tgt : Int)) (kt : x = y → Lt G μ d tgt lo st σ mc ms X) (kf : ¬ x = y → Lt G μ d (pc + 3) lo st σ mc ms X) : Lt G μ d pc lo (.int y :: .int x :: st) σ mc ms X :=
  fun p l e R s m args below meth c hC A hA hY Q hX H locs cells slots ls hl hH h1 h2 => lv_icmp_eq hC.1 hC.2.1 hd ht (fun h => kt h p l e R s m args below meth c hC A hA hY Q hX H locs cells slots ls hl hH h1 h2) (fun h => kf h p l e R s m args below meth c hC A hA hY Q hX H locs cells slots ls hl hH h1 h2)
theorem lt_if_ne {x : Int32} {off : Int} {tgt : Nat} (hd : decode μ.2.1 pc = .ok (.ifCond .ne off, 3)) (ht : (pc : Int) + off = (tgt : Int)) (kt : ¬ x = 0 → Lt G μ d tgt lo st σ mc ms X) (kf : x = 0 → Lt G μ d (pc + 3) lo st σ mc ms X) : Lt G μ d pc lo (.int x :: st) σ mc ms X :=
  fun p l e R s m args below meth c hC A hA hY Q hX H locs cells slots ls hl hH h1 h2 => lv_if_ne hC.1 hC.2.1 hd ht (fun h => kt h p l e R s m args below meth c hC A hA hY Q hX H locs cells slots ls hl hH h1 h2) (fun h => kf h p l e R s m args below meth c hC A hA hY Q hX H locs cells slots ls hl hH h1 h2)
theorem lt_icmp_ne {x y : Int32} {off : Int} {tgt : Nat} (hd : decode μ.2.1 pc = .ok (.if_icmp .ne off, 3)) (ht : (pc : Int) + off = (tgt : Int)) (kt : ¬ x = y → Lt G μ d tgt lo st σ mc ms X) (kf : x = y → Lt G μ d (pc + 3) lo st σ mc ms X) : Lt G μ d pc lo (.int y :: .int x :: st) σ mc ms X :=
  fun p l e R s m args below meth c hC A hA hY Q hX H locs cells slots ls hl hH h1 h2 => lv_icmp_ne hC.1 hC.2.1 hd ht (fun h => kt h p l e R s m args below meth c hC A hA hY Q hX H locs cells slots ls hl hH h1 h2) (fun h => kf h p l e R s m args below meth c hC A hA hY Q hX H locs cells slots ls hl hH h1 h2)
theorem lt_if_lt {x : Int32} {off : Int} {tgt : Nat} (hd : decode μ.2.1 pc = .ok (.ifCond .lt off, 3)) (ht : (pc : Int) + off = (tgt : Int)) (kt : x < 0 → Lt G μ d tgt lo st σ mc ms X) (kf : ¬ x < 0 → Lt G μ d (pc + 3) lo st σ mc ms X) : Lt G μ d pc lo (.int x :: st) σ mc ms X :=
  fun p l e R s m args below meth c hC A hA hY Q hX H locs cells slots ls hl hH h1 h2 => lv_if_lt hC.1 hC.2.1 hd ht (fun h => kt h p l e R s m args below meth c hC A hA hY Q hX H locs cells slots ls hl hH h1 h2) (fun h => kf h p l e R s m args below meth c hC A hA hY Q hX H locs cells slots ls hl hH h1 h2)
theorem lt_icmp_lt {x y : Int32} {off : Int} {tgt : Nat} (hd : decode μ.2.1 pc = .ok (.if_icmp .lt off, 3)) (ht : (pc : Int) + off = (tgt : Int)) (kt : x < y → Lt G μ d tgt lo st σ mc ms X) (kf : ¬ x < y → Lt G μ d (pc + 3) lo st σ mc ms X) : Lt G μ d pc lo (.int y :: .int x :: st) σ mc ms X :=
  fun p l e R s m args below meth c hC A hA hY Q hX H locs cells slots ls hl hH h1 h2 => lv_icmp_lt hC.1 hC.2.1 hd ht (fun h => kt h p l e R s m args below meth c hC A hA hY Q hX H locs cells slots ls hl hH h1 h2) (fun h => kf h p l e R s m args below meth c hC A hA hY Q hX H locs cells slots ls hl hH h1 h2)
theorem lt_if_ge {x : Int32} {off : Int} {tgt : Nat} (hd : decode μ.2.1 pc = .ok (.ifCond .ge off, 3)) (ht : (pc : Int) + off = (tgt : Int)) (kt : 0 ≤ x → Lt G μ d tgt lo st σ mc ms X) (kf : ¬ 0 ≤ x → Lt G μ d (pc + 3) lo st σ mc ms X) : Lt G μ d pc lo (.int x :: st) σ mc ms X :=
  fun p l e R s m args below meth c hC A hA hY Q hX H locs cells slots ls hl hH h1 h2 => lv_if_ge hC.1 hC.2.1 hd ht (fun h => kt h p l e R s m args below meth c hC A hA hY Q hX H locs cells slots ls hl hH h1 h2) (fun h => kf h p l e R s m args below meth c hC A hA hY Q hX H locs cells slots ls hl hH h1 h2)
theorem lt_icmp_ge {x y : Int32} {off : Int} {tgt : Nat} (hd : decode μ.2.1 pc = .ok (.if_icmp .ge off, 3)) (ht : (pc : Int) + off = (tgt : Int)) (kt : y ≤ x → Lt G μ d tgt lo st σ mc ms X) (kf : ¬ y ≤ x → Lt G μ d (pc + 3) lo st σ mc ms X) : Lt G μ d pc lo (.int y :: .int x :: st) σ mc ms X :=
  fun p l e R s m args below meth c hC A hA hY Q hX H locs cells slots ls hl hH h1 h2 => lv_icmp_ge hC.1 hC.2.1 hd ht (fun h => kt h p l e R s m args below meth c hC A hA hY Q hX H locs cells slots ls hl hH h1 h2) (fun h => kf h p l e R s m args below meth c hC A hA hY Q hX H locs cells slots ls hl hH h1 h2)
theorem lt_if_gt {x : Int32} {off : Int} {tgt : Nat} (hd : decode μ.2.1 pc = .ok (.ifCond .gt off, 3)) (ht : (pc : Int) + off = (tgt : Int)) (kt : 0 < x → Lt G μ d tgt lo st σ mc ms X) (kf : ¬ 0 < x → Lt G μ d (pc + 3) lo st σ mc ms X) : Lt G μ d pc lo (.int x :: st) σ mc ms X :=
  fun p l e R s m args below meth c hC A hA hY Q hX H locs cells slots ls hl hH h1 h2 => lv_if_gt hC.1 hC.2.1 hd ht (fun h => kt h p l e R s m args below meth c hC A hA hY Q hX H locs cells slots ls hl hH h1 h2) (fun h => kf h p l e R s m args below meth c hC A hA hY Q hX H locs cells slots ls hl hH h1 h2)
theorem lt_icmp_gt {x y : Int32} {off : Int} {tgt : Nat} (hd : decode μ.2.1 pc = .ok (.if_icmp .gt off, 3)) (ht : (pc : Int) + off = (tgt : Int)) (kt : y < x → Lt G μ d tgt lo st σ mc ms X) (kf : ¬ y < x → Lt G μ d (pc + 3) lo st σ mc ms X) : Lt G μ d pc lo (.int y :: .int x :: st) σ mc ms X :=
  fun p l e R s m args below meth c hC A hA hY Q hX H locs cells slots ls hl hH h1 h2 => lv_icmp_gt hC.1 hC.2.1 hd ht (fun h => kt h p l e R s m args below meth c hC A hA hY Q hX H locs cells slots ls hl hH h1 h2) (fun h => kf h p l e R s m args below meth c hC A hA hY Q hX H locs cells slots ls hl hH h1 h2)
theorem lt_if_le {x : Int32} {off : Int} {tgt : Nat} (hd : decode μ.2.1 pc = .ok (.ifCond .le off, 3)) (ht : (pc : Int) + off = (tgt : Int)) (kt : x ≤ 0 → Lt G μ d tgt lo st σ mc ms X) (kf : ¬ x ≤ 0 → Lt G μ d (pc + 3) lo st σ mc ms X) : Lt G μ d pc lo (.int x :: st) σ mc ms X :=
  fun p l e R s m args below meth c hC A hA hY Q hX H locs cells slots ls hl hH h1 h2 => lv_if_le hC.1 hC.2.1 hd ht (fun h => kt h p l e R s m args below meth c hC A hA hY Q hX H locs cells slots ls hl hH h1 h2) (fun h => kf h p l e R s m args below meth c hC A hA hY Q hX H locs cells slots ls hl hH h1 h2)
theorem lt_icmp_le {x y : Int32} {off : Int} {tgt : Nat} (hd : decode μ.2.1 pc = .ok (.if_icmp .le off, 3)) (ht : (pc : Int) + off = (tgt : Int)) (kt : x ≤ y → Lt G μ d tgt lo st σ mc ms X) (kf : ¬ x ≤ y → Lt G μ d (pc + 3) lo st σ mc ms X) : Lt G μ d pc lo (.int y :: .int x :: st) σ mc ms X :=
  fun p l e R s m args below meth c hC A hA hY Q hX H locs cells slots ls hl hH h1 h2 => lv_icmp_le hC.1 hC.2.1 hd ht (fun h => kt h p l e R s m args below meth c hC A hA hY Q hX H locs cells slots ls hl hH h1 h2) (fun h => kf h p l e R s m args below meth c hC A hA hY Q hX H locs cells slots ls hl hH h1 h2)
theorem lt_acmp_eq {rx ry : Option Nat} {vx vy : Value} {off : Int} {tgt : Nat} (hd : decode μ.2.1 pc = .ok (.if_acmp .eq off, 3)) (ht : (pc : Int) + off = (tgt : Int)) (ex : vx = va_rf rx) (ey : vy = va_rf ry) (kt : rx = ry → Lt G μ d tgt lo st σ mc ms X) (kf : ¬ rx = ry → Lt G μ d (pc + 3) lo st σ mc ms X) : Lt G μ d pc lo (vy :: vx :: st) σ mc ms X := by
  subst ex; subst ey
  exact fun p l e R s m args below meth c hC A hA hY Q hX H locs cells slots ls hl hH h1 h2 => lv_acmp_eq hC.1 hC.2.1 hd ht (fun h => kt h p l e R s m args below meth c hC A hA hY Q hX H locs cells slots ls hl hH h1 h2) (fun h => kf h p l e R s m args below meth c hC A hA hY Q hX H locs cells slots ls hl hH h1 h2)
theorem lt_acmp_ne {rx ry : Option Nat} {vx vy : Value} {off : Int} {tgt : Nat} (hd : decode μ.2.1 pc = .ok (.if_acmp .ne off, 3)) (ht : (pc : Int) + off = (tgt : Int)) (ex : vx = va_rf rx) (ey : vy = va_rf ry) (kt : ¬ rx = ry → Lt G μ d tgt lo st σ mc ms X) (kf : rx = ry → Lt G μ d (pc + 3) lo st σ mc ms X) : Lt G μ d pc lo (vy :: vx :: st) σ mc ms X := by
  subst ex; subst ey
  exact fun p l e R s m args below meth c hC A hA hY Q hX H locs cells slots ls hl hH h1 h2 => lv_acmp_ne hC.1 hC.2.1 hd ht (fun h => kt h p l e R s m args below meth c hC A hA hY Q hX H locs cells slots ls hl hH h1 h2) (fun h => kf h p l e R s m args below meth c hC A hA hY Q hX H locs cells slots ls hl hH h1 h2)
theorem lt_goto {off : Int} {tgt : Nat} (hd : decode μ.2.1 pc = .ok (.goto off, 3)) (ht : (pc : Int) + off = (tgt : Int)) (kk : Lt G μ d tgt lo st σ mc ms X) : Lt G μ d pc lo st σ mc ms X :=
  fun p l e R s m args below meth c hC A hA hY Q hX H locs cells slots ls hl hH h1 h2 => lv_goto hC.1 hC.2.1 hd ht (kk p l e R s m args below meth c hC A hA hY Q hX H locs cells slots ls hl hH h1 h2)
theorem lt_ifnonnull {x : Nat} {off : Int} {tgt : Nat} (hd : decode μ.2.1 pc = .ok (.ifnonnull off, 3)) (ht : (pc : Int) + off = (tgt : Int)) (kk : Lt G μ d tgt lo st σ mc ms X) : Lt G μ d pc lo (.ref x :: st) σ mc ms X :=
  fun p l e R s m args below meth c hC A hA hY Q hX H locs cells slots ls hl hH h1 h2 => lv_ifnonnull hC.1 hC.2.1 hd ht (kk p l e R s m args below meth c hC A hA hY Q hX H locs cells slots ls hl hH h1 h2)
theorem lt_ifnull {x : Nat} {off : Int} (hd : decode μ.2.1 pc = .ok (.ifnull off, 3)) (kk : Lt G μ d (pc + 3) lo st σ mc ms X) : Lt G μ d pc lo (.ref x :: st) σ mc ms X :=
  fun p l e R s m args below meth c hC A hA hY Q hX H locs cells slots ls hl hH h1 h2 => lv_ifnull hC.1 hC.2.1 hd (kk p l e R s m args below meth c hC A hA hY Q hX H locs cells slots ls hl hH h1 h2)
theorem lt_ifnullN {off : Int} {tgt : Nat} (hd : decode μ.2.1 pc = .ok (.ifnull off, 3)) (ht : (pc : Int) + off = (tgt : Int)) (kk : Lt G μ d tgt lo st σ mc ms X) : Lt G μ d pc lo (.null :: st) σ mc ms X :=
  fun p l e R s m args below meth c hC A hA hY Q hX H locs cells slots ls hl hH h1 h2 => lv_ifnullN hC.1 hC.2.1 hd ht (kk p l e R s m args below meth c hC A hA hY Q hX H locs cells slots ls hl hH h1 h2)
theorem lt_ifnonnullN {off : Int} (hd : decode μ.2.1 pc = .ok (.ifnonnull off, 3)) (kk : Lt G μ d (pc + 3) lo st σ mc ms X) : Lt G μ d pc lo (.null :: st) σ mc ms X :=
  fun p l e R s m args below meth c hC A hA hY Q hX H locs cells slots ls hl hH h1 h2 => lv_ifnonnullN hC.1 hC.2.1 hd (kk p l e R s m args below meth c hC A hA hY Q hX H locs cells slots ls hl hH h1 h2)
theorem lt_lookup {dflt : Int} {ps : Array (Int × Int)} {len : Nat} {x : Int32} {off : Int} {tgt : Nat} (hd : decode μ.2.1 pc = .ok (.lookupswitch dflt ps, len)) (hp : (ps.toList.zip (ps.toList.drop 1)).all (fun (a, next) => a.1 < next.1) = true) (ho : Op.lookupswitch.offset ps.toList dflt x.toInt = off) (ht : (pc : Int) + off = (tgt : Int)) (kk : Lt G μ d tgt lo st σ mc ms X) : Lt G μ d pc lo (.int x :: st) σ mc ms X :=
  fun p l e R s m args below meth c hC A hA hY Q hX H locs cells slots ls hl hH h1 h2 => lv_lookup hC.1 hC.2.1 hd hp ho ht (kk p l e R s m args below meth c hC A hA hY Q hX H locs cells slots ls hl hH h1 h2)
theorem lt_tableOut {dflt tl th : Int} {offs : Array Int} {len : Nat} {x : Int32} {tgt : Nat} (hd : decode μ.2.1 pc = .ok (.tableswitch dflt tl th offs, len)) (h : x.toInt < tl ∨ th < x.toInt) (ht : (pc : Int) + dflt = (tgt : Int)) (kk : Lt G μ d tgt lo st σ mc ms X) : Lt G μ d pc lo (.int x :: st) σ mc ms X :=
  fun p l e R s m args below meth c hC A hA hY Q hX H locs cells slots ls hl hH h1 h2 => lv_tableOut hC.1 hC.2.1 hd h ht (kk p l e R s m args below meth c hC A hA hY Q hX H locs cells slots ls hl hH h1 h2)
theorem lt_tableIn {dflt tl th : Int} {offs : Array Int} {len : Nat} {x : Int32} {off : Int} {tgt : Nat} (hd : decode μ.2.1 pc = .ok (.tableswitch dflt tl th offs, len)) (g1 : ¬ x.toInt < tl) (g2 : ¬ th < x.toInt) (ho : offs[(x.toInt - tl).toNat]? = some off) (ht : (pc : Int) + off = (tgt : Int)) (kk : Lt G μ d tgt lo st σ mc ms X) : Lt G μ d pc lo (.int x :: st) σ mc ms X :=
  fun p l e R s m args below meth c hC A hA hY Q hX H locs cells slots ls hl hH h1 h2 => lv_tableIn hC.1 hC.2.1 hd g1 g2 ho ht (kk p l e R s m args below meth c hC A hA hY Q hX H locs cells slots ls hl hH h1 h2)
theorem lt_ldc2 {idx : Nat} {v : Int64} (hc : Cond.constantLong μ.1.cls idx v ∈ lt_T) (hd : decode μ.2.1 pc = .ok (.ldc2_w idx, 3)) (kk : Lt G μ d (pc + 3) lo (.long v :: st) σ mc ms X) : Lt G μ d pc lo st σ mc ms X :=
  fun p l e R s m args below meth c hC A hA hY Q hX H locs cells slots ls hl hH h1 h2 => lv_ldc2 hC.1 hC.2.1 hC.2.2.2.2.1 (hC.2.2.2.2.2.1 _ hc) hd (kk p l e R s m args below meth c hC A hA hY Q hX H locs cells slots ls hl hH h1 h2)
theorem lt_ldc {idx : Nat} {v : Int32} (hc : Cond.constant μ.1.cls idx v ∈ lt_T) (hd : decode μ.2.1 pc = .ok (.ldc idx, 2)) (kk : Lt G μ d (pc + 2) lo (.int v :: st) σ mc ms X) : Lt G μ d pc lo st σ mc ms X :=
  fun p l e R s m args below meth c hC A hA hY Q hX H locs cells slots ls hl hH h1 h2 => lv_ldc hC.1 hC.2.1 hC.2.2.2.2.1 (hC.2.2.2.2.2.1 _ hc) hd (kk p l e R s m args below meth c hC A hA hY Q hX H locs cells slots ls hl hH h1 h2)
end LT
