/-! THE CLAIM OUT OF ONE WALK OF THE LAW'S BODY. Your part is whole_start (and what it stands on); all else here is the same for every law, but numbers. -/
def R_law : String := "LinearSearchLaw"
def lw_P (b : Addr) (xs : List Int32) (args : Array Value) (s : State) : Prop := args = #[.ref b] ∧ s.IntsAt b xs ∧ xs.length ≤ 1537 ∧ (Jvm.Cond.and given_1 narrow_1).before args s = true
def lw_Q (_ : Array Value) (s : State) (o : Outcome) (t : State) : Prop := o = .returned (some (.int 1)) ∧ Framed s o t [] 601024 7293000
def lw_Z (below : List Frame) (a : Array Value) (s : State) : State → Prop := fun t => ∃ o, t.status = .running ∧ Ended t below o ∧ lw_Q a s o t
/-- the law's own end, with 1 on the stack, nothing written that was there before, its room as the claim has it -/
theorem lw_ret {p : Program} {l : Launch} {e : Env} {s : State} {m : MethodId} {below : List Frame} {meth : Method} {c : Code} {b : Nat} (hx : p.tables.exec = Jvm.exec) (hb : c.code = code) (hr : meth.sig.returnType = ret) (hlocks : meth.locks = false) {pc : Nat} {H : Heap} {ls : Array Slot} (hdg : decode code pc = .ok (.ireturn, 1)) : W p l e room_1 s m #[Value.ref b] below meth c H [] 601024 7293000 (lw_Z below #[Value.ref b] s) (F0 m pc ls [.int 1]) := by
  intro T hT X
  obtain ⟨fs, hret, hrun, hended, hW, hframe⟩ := X.leave (v := some (.int 1)) (hlocks := hlocks) (fun h => by rw [hr] at h; cases h)
  have hmeth' : T.vm.method? m = some meth := X.method'
  refine ⟨T.setFrames fs, ?_, .returned (some (.int 1)), hrun, hended, rfl, ⟨_, rfl⟩, hW, hframe⟩
  jvm_step X.here [X.here.top, hx, hb, hdg, hmeth', hr, ret, narrow_b1]
  (try refine ⟨rfl, ?_⟩); (try refine ⟨rfl, ?_⟩)
  first | (intro acts; rw [hret _ acts rfl rfl rfl]) | rw [hret _ _ rfl rfl rfl]
  exact Steps.refl _
/-- what holds at the law's entry: the machine, the code, the tables' words (any of lw_tbl by 'hts w (by decide +kernel)'), the script of L ints xs at the cell b, what the Statement gives of the start (any of its parts by flat_of_before) -/
def lw_At (p : Program) (s : State) (m : MethodId) (meth : Method) (c : Code) (b L : Nat) (xs : Nat → Int32) : Prop :=
  p.tables.exec = Jvm.exec ∧ c.code = code ∧ meth.sig.returnType = ret ∧ c.maxLocals = 7 ∧ s.vm.findClass R_law = some m.cls ∧ (∀ w ∈ lw_tbl, w.before #[Value.ref b] s = true) ∧ va_X b L xs s s.heap ∧ b < s.heap.size ∧ meth.locks = false ∧ (Jvm.Cond.and given_1 narrow_1).before #[Value.ref b] s = true
/-- from the entry, for every script of at most 1537 ints, the law comes to its end with true -/
theorem whole_start {p : Program} {e : Env} {s : State} {m : MethodId} {below : List Frame} {meth : Method} {c : Code} (l : Launch) (hTr : l.stackTraces = false) {b L : Nat} {xs : Nat → Int32} (hL : L ≤ 1537) (C0 : lw_At p s m meth c b L xs) (hnm : meth.name = "law") (hnamed : s.methodNamed? x = some m) : W p l e room_1 s m #[Value.ref b] below meth c s.heap [] 0 0 (lw_Z below #[Value.ref b] s) (entryFrame m ([Value.ref b] : List Value).toArray 7) := by
  obtain ⟨hx, hb, hr, hml, hown, hts, hX, hbl, hlocks, hgv⟩ := id C0
  obtain ⟨scr, hcb, hof, hkn, hsz, hval⟩ := hX
  have htT : ∀ w ∈ lt_T, w.before #[Value.ref b] s = true := fun w hw => hts w (List.mem_filter.mp hw).1
  have htb : ∀ w ∈ tables_1, w.before #[Value.ref b] s = true := fun w hw => hts w (List.mem_append_right _ hw)
  obtain ⟨D, hD⟩ := st_K htT
  obtain ⟨aI, hI1, hI2⟩ := st_arr (ty := .int) (fun C h => by cases h) (htT _ ac_int)
  obtain ⟨aJ, hJ1, hJ2⟩ := st_arr (ty := .long) (fun C h => by cases h) (htT _ ac_long)
  obtain ⟨aC, hC1, hC2⟩ := st_arr (ty := .char) (fun C h => by cases h) (htT _ ac_char)
  obtain ⟨aZ, hZ1, hZ2⟩ := st_arr (ty := .boolean) (fun C h => by cases h) (htT _ ac_boolean)
  obtain ⟨aS, hS1, hS2⟩ := st_arrO (C := "LinearSearch$State") (htb _ (List.mem_filter.mp ao_St).1)
  have hcur : ∃ cur, s.vm.findClass "LinearSearch" = some cur := ⟨_, (hD 0 _ rfl).2.1⟩
  have hA : ∀ q : Nat, s.heap.size ≤ q → (fun q : Nat => s.heap.size ≤ q) q := fun _ h => h
  have hY : th_Y s (fun q : Nat => s.heap.size ≤ q) := st_Y (fun q hq => Nat.not_le.mpr hq) htb hgv hcur
  obtain ⟨F, f0, f1, f2, f3, f9, f20⟩ : ∃ F : Nat → ClassId, F 0 = aI ∧ F 1 = aJ ∧ F 2 = aC ∧ F 3 = aZ ∧ F 9 = scr.cls ∧ F 20 = aS := ⟨fun t => if t = 0 then aI else if t = 1 then aJ else if t = 2 then aC else if t = 3 then aZ else if t = 9 then scr.cls else aS, rfl, rfl, rfl, rfl, rfl, rfl⟩
  obtain ⟨G, hG⟩ : ∃ G : lt_G, G = (D, F, th_Y) := ⟨_, rfl⟩
  have hK : lt_K G s := by
    subst hG
    refine ⟨⟨hD, fun k q hq => ?_⟩, ?_⟩
    · have hmem : q ∈ lt_tys (D, F, th_Y) := List.mem_of_getElem? hq
      simp only [lt_tys, lt_codes, List.map_cons, List.map_nil, List.mem_cons, List.not_mem_nil, or_false] at hmem
      rcases hmem with rfl | rfl | rfl | rfl | rfl
      · show ArrOfT s (F 0) .int ∧ va_RA s (F 0) .int
        rw [f0]; exact ⟨hI1, hI2⟩
      · show ArrOfT s (F 1) .long ∧ va_RA s (F 1) .long
        rw [f1]; exact ⟨hJ1, hJ2⟩
      · show ArrOfT s (F 2) .char ∧ va_RA s (F 2) .char
        rw [f2]; exact ⟨hC1, hC2⟩
      · show ArrOfT s (F 3) .boolean ∧ va_RA s (F 3) .boolean
        rw [f3]; exact ⟨hZ1, hZ2⟩
      · show ArrOfT s (F 20) (.object "LinearSearch$State") ∧ va_RA s (F 20) (.object "LinearSearch$State")
        rw [f20]; exact ⟨hS1, hS2⟩
    · show ArrOfT s (F 9) .int
      rw [f9]
      intro n z
      obtain ⟨-, k, hk, comp, hkind⟩ := hof
      exact ⟨(fun k h => by cases h), k, hk, comp, hkind⟩
  have hOk : lt_Ok G := by
    subst hG
    exact fun s U A A' h hW hA hz hk => th_Y_ok h hW hA hz hk
  have hYG : G.2.2 s (fun q : Nat => s.heap.size ≤ q) := by subst hG; exact hY
  have hC : lt_C G m_La_law 39 p l room_1 s m #[Value.ref b] meth c := ⟨hx, hb, hr, hml, hown, htT, st_N htb, hK, hlocks, hnm, (by decide), (by decide), hOk, hTr, hnamed⟩
  obtain ⟨σ', hf⟩ := pure_goal (c := b) (b := s.heap.size) (L := L) (sh := fun a => if a = b then some (2000, L) else none) (I := fun a k => if a = b then xs k else 0) (J := fun _ _ => 0) (R := fun _ _ => none) hbl (if_pos rfl) hL
  have K := c_La_law (G := G) (by subst hG; exact fun _ _ h => h) hf
  have hH : lt_H G (fun a => if a = b then some (2000, L) else none, fun a k => if a = b then xs k else 0, fun _ _ => 0, fun _ _ => none, s.heap.size) s s.heap [] (fun q : Nat => s.heap.size ≤ q) := by
    refine ⟨⟨rfl, fun a q hq => ?_⟩, fun a q hq h2 => ?_, va_S.rf⟩
    · have hq : (if a = b then some (2000, L) else none) = some q := hq
      by_cases hab : a = b
      · rw [if_pos hab] at hq
        cases hq
        subst hab
        unfold hv_at
        rw [if_neg (show ¬ 2000 < 1000 by decide), if_neg (show ¬ 2000 < 2000 by decide)]
        refine ⟨scr, hcb, (by subst hG; exact f9.symm), hof.1, hkn, hsz, fun j hj => ?_⟩
        rw [hval j hj]
        show some (Value.int (xs j)) = some (Value.int (if a = a then xs j else 0))
        rw [if_pos rfl]
      · rw [if_neg hab] at hq
        cases hq
    · have hq : (if a = b then some (2000, L) else none) = some q := hq
      by_cases hab : a = b
      · rw [if_pos hab] at hq
        cases hq
        exact absurd h2 (show ¬ 2000 < 2000 by decide)
      · rw [if_neg hab] at hq
        cases hq
  have hl := lv_entry ([.ref b]) (n := 7) (Nat.le_of_ble_eq_true rfl)
  rw [lg_entry_eq]
  generalize (lg_sl ([.ref b]) ++ List.replicate (7 - (lg_sl ([.ref b])).length) Slot.unset).toArray = ls at hl ⊢
  have hl : lv_has ls 7 [(0, .ref b)] := hl
  refine K p l e room_1 s m #[Value.ref b] below meth c hC (fun q : Nat => s.heap.size ≤ q) hA hYG (lw_Z below #[Value.ref b] s) ?_ s.heap [] 0 0 ls hl hH (by decide) (by decide)
  intro pc' lo' st' σ2 mc' ms' H' locs' cells' slots' ls' hX2 hl' hH' g1 g2
  obtain ⟨lo2, st2, -, rfl, -, hend⟩ := hX2
  have g1 : cells' + mc' ≤ 601024 := g1
  have g2 : slots' + ms' ≤ 7293000 := g2
  rcases hend with ⟨-, -, -, h⟩ | ⟨v, ty, hd, -, -, hst, h⟩ | ⟨v, -, -, -, h⟩ | ⟨v, n, -, -, -, h⟩
  · cases h
  · cases h
    subst hst
    exact va_forget (fun q hq => hH'.2.2.2.2 q hq) (W.widen (k := 601024) (n := 7293000) (by omega) (by omega) (lw_ret hx hb hr hlocks hd))
  · cases h
  · cases h
set_option maxHeartbeats 4000000 in
theorem lw_walk (l : Launch) (hTr : l.stackTraces = false) (b : Addr) (xs : List Int32) : MetFree l x (headSpec (Jvm.Cond.code x code maxLocals ret :: tables_1) room_1) (lw_P b xs) (fun _ _ _ _ _ => True) lw_Q := by
  refine MetFree.of_bodyS (code := code) (maxLocals := maxLocals) (ret := ret) (by decide) ?_ ?_
  · intro args s m h hn
    obtain ⟨meth, c, h1, h2, h3, h4, h5, h6, -, -⟩ := Cond.code_spec hn (atoms_spec (ws := Jvm.Cond.code x code maxLocals ret :: tables_1) h _ List.mem_cons_self)
    exact ⟨meth, c, h1, h2, h3, h4, h5, h6⟩
  · intro p e s m args below meth c s₁ B hml0 hP _
    obtain ⟨rfl, hx, hbd, hgv⟩ := hP
    obtain ⟨scr, harrAt, hlist, hof, hsmall⟩ := hx
    obtain ⟨hcb, hkn, -, -⟩ := State.arrayAt?_spec harrAt
    have hown : s.vm.findClass R_law = some m.cls := findClass_of_methodNamed B.named
    have hts0 : ∀ c ∈ (Jvm.Cond.code x code maxLocals ret :: tables_1), c.before #[Value.ref b] s = true := atoms_spec (ws := Jvm.Cond.code x code maxLocals ret :: tables_1) B.pre
    have hts : ∀ w ∈ lw_tbl, w.before #[Value.ref b] s = true := k2_hts_sels lw_privs (fun w hw => hts0 w (List.mem_cons_of_mem _ hw)) lw_privs_ok
    have hml : c.maxLocals = 7 := B.maxLocals_eq (hts0 _ List.mem_cons_self)
    have X₀ : Stand p l e room_1 s m #[Value.ref b] below meth c s₁ [] 0 0 := Stand.of_body B
    have hh0 : s₁.heap = s.heap := by rw [B.state]; rfl
    have hsz : scr.slots.size = xs.length := by rw [← Array.length_toList, hlist, List.length_map]
    have hval : ∀ j : Nat, j < xs.length → scr.slots[j]? = some (.int (xs.getD j 0)) := fun j hj => by
      rw [← Array.getElem?_toList, hlist]
      simp [hj]
    have hbl : b < s.heap.size := (Array.getElem?_eq_some_iff.mp hcb).1
    have hX : va_X b xs.length (fun j => xs.getD j 0) s s.heap := ⟨scr, hcb, hof, hkn, hsz, hval⟩
    have K : W p l e room_1 s m #[Value.ref b] below meth c s₁.heap [] 0 0 (lw_Z below #[Value.ref b] s) (entryFrame m ([Value.ref b] : List Value).toArray 7) := by
      rw [hh0]
      exact whole_start l hTr hbd ⟨B.exec, B.bytes, B.returns, hml, hown, hts, hX, hbl, B.notSynchronized, hgv⟩ (name_of_methodNamed B.named B.method).1 B.named
    obtain ⟨t, a1, o, b1, b2, b3⟩ := K s₁ rfl X₀
    exact ⟨t, o, a1, b1, b2, b3⟩
theorem lw_pre_spec {args : Array Value} {s : State} (h : (Jvm.Cond.and given_1 narrow_1).before args s = true) (hr : rest_1_c.before args s = true) : ∃ (b : Addr) (xs : List Int32), lw_P b xs args s := by
  have hs := flat_of_before _ h
  have hq := flat_of_before _ hr
  have hc : (Cond.count 1).before args s = true := hs _ (by decide +kernel)
  have harr : (Cond.arrayOf (.arg 0) .int).before args s = true := hs _ (by decide +kernel)
  have hle : (Cond.le (.length (.arg 0)) (.int 1537)).before args s = true := hs _ (by decide +kernel)
  have hlen : (Cond.isInt (.length (.arg 0))).before args s = true := hq _ (by decide +kernel)
  have hall : (Cond.all (.arg 0) (.isInt (.elem (.arg 0) (.index 0)))).before args s = true := hq _ (by decide +kernel)
  obtain ⟨b, xs, hb, hx⟩ := State.ints_of_pre rfl harr hlen hall
  have hsm : xs.length < 2 ^ 31 := hx.choose_spec.2.2.2
  have hev : (Term.length (.arg 0)).eval args s none [] s = some (.int xs.length.toInt32) := hx.length_eval hb
  have hv := Cond.le_ints hev (show (Term.int 1537).eval args s none [] s = some (.int 1537) from rfl)
  have hd : xs.length.toInt32 ≤ 1537 := by
    simpa [Cond.before, Cond.holds, hv] using hle
  have hN : xs.length ≤ 1537 := (Int32.ofNat_le_ofNat hsm (by decide)).mp (show Int32.ofNat xs.length ≤ Int32.ofNat 1537 from hd)
  exact ⟨b, xs, Cond.one_arg hc (show args[0]? = some (.ref b) from hb), hx, hN, h⟩
theorem lw_comes (l : Launch) (hTr : l.stackTraces = false) : Comes l x (Jvm.Cond.code x code maxLocals ret :: tables_1) room_1 (fun tb e args s => Calls_1 tb e args s ∧ rest_1 tb e args s ∧ Pre_1 tb e args s)
    (fun _ _ args s o t => lw_Q args s o t) := by
  intro p e ha hc hk s m args below hf hfit hheap happ hpre
  obtain ⟨b, xs, hP⟩ := lw_pre_spec hpre.2.2 hpre.2.1
  obtain ⟨k, o, h1, h2, h3, hQ⟩ := lw_walk l hTr b xs p e ha hc hk s m args below hf ((Spec.applies_iff_loose hf).mp happ).1 hP trivial
  exact ⟨k, o, h1, h2, h3, hQ⟩
theorem lw_frame {s t : State} {o : Outcome} {args : Array Value} (h : Framed s o t [] 601024 7293000) :
    Framed s o t (fieldLocs frame_1_writes args s ++ arrayLocs frame_1_arrays args s ++ staticLocs frame_1_statics s) 601024 7293000 := h
theorem lw_limb (L : Cond) (hL : ∀ (args : Array Value) (s t : State), L.after args s (.returned (some (.int 1))) t = true) :
    ArmFor flags0 classFile x code maxLocals ret World_1 tables_1 room_1 Calls_1 rest_1 Pre_1
      (fun tb e a s o t => postC L tb e a s o t ∧ Framed s o t (fieldLocs frame_1_writes a s ++ arrayLocs frame_1_arrays a s ++ staticLocs frame_1_statics s) 601024 7293000) := by
  intro l hfl _ _ p e ha hc hk s m args below hf hfit hheap happ hpre
  have hTr : l.stackTraces = false := by
    unfold Launch.stackTraces
    rw [hfl]
    decide +kernel
  obtain ⟨k, o, h1, h2, h3, rfl, hF⟩ := lw_comes l hTr p e ha hc hk s m args below hf hfit hheap happ hpre
  exact ⟨k, _, h1, h2, h3, hL args s _, lw_frame hF⟩
theorem i_vc : Claimed_1_1 ∧ Claimed_1_2 := ⟨lw_limb limb_1_1 (fun args s t => by simp [limb_1_1, Cond.after, Cond.holds, Cond.value]), lw_limb limb_1_2 (fun args s t => Cond.after_iff.mpr (by
  first | (rw [show limb_1_2 = Cond.eq .result (.int 1) from rfl, Cond.eq_ints (x := 1) (y := 1) rfl rfl]; simp; done) | (simp [limb_1_2, Cond.value, Term.eval]; done)))⟩
