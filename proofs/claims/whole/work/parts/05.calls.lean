/-! CONTRACTS AND CALLS: Ct says of a method what Lt says of a point; the rows of the five kinds of call -/
def lt_ws (μ : lt_M) : List Cond := Cond.code μ.1 μ.2.1 μ.2.2.1 μ.2.2.2 :: lt_T
def lt_rm (d mc ms : Nat) : Room := { frames := d, cells := mc, slots := ms, locals := 64 * d }
def lt_A (σ : hv_S) : Nat → Prop := fun q => (∃ x : Nat × Nat, hv_sh σ q = some x ∧ x.1 < 2000) ∨ hv_n σ ≤ q
def lt_Pc (G : lt_G) (as : List Value) (σ : hv_S) : Array Value → State → Prop := va_Pc as (fun U => hv_H G σ U.heap ∧ lt_K G U ∧ (∀ w ∈ lt_N, va_Nw w U) ∧ lt_Ok G ∧ G.2.2 U (lt_A σ))
def lt_Qc (G : lt_G) (σ : hv_S) (Qr : Option Value → hv_S → Prop) : Array Value → State → Outcome → State → Prop := fun _ s0 oc t =>
  (∃ (r : Option Value) (σ' : hv_S), oc = .returned r ∧ Qr r σ' ∧ hv_H G σ' t.heap ∧ ∀ (a : Nat) (x : Nat × Nat), hv_sh σ' a = some x → x.1 < 2000 → lt_A σ a) ∧ va_F (lt_A σ) s0 t
/-- the contract: from the view σ with the arguments as, within depth d, mc new cells of ms slots, the method returns r with the view σ', and Qr r σ' -/
def Ct (G : lt_G) (μ : lt_M) (d mc ms : Nat) (as : List Value) (σ : hv_S) (Qr : Option Value → hv_S → Prop) : Prop :=
  ∀ (l : Launch), l.stackTraces = false → Met l μ.1 (lt_ws μ) (lt_rm d mc ms) (lt_Pc G as σ) (lt_Qc G σ Qr) mc ms (lt_A σ)
/-- the points where a method returns -/
def lt_end (μ : lt_M) (Qr : Option Value → hv_S → Prop) : Nat → List (Nat × Value) → List Value → hv_S → Nat → Nat → Prop := fun pc _ st σ _ _ =>
  (decode μ.2.1 pc = .ok (.return_, 1) ∧ μ.2.2.2 = none ∧ st = [] ∧ Qr none σ) ∨
  (∃ (v : Int32) (ty : FieldType), decode μ.2.1 pc = .ok (.ireturn, 1) ∧ μ.2.2.2 = some ty ∧ narrow ty (.int v) = .int v ∧ st = [.int v] ∧ Qr (some (.int v)) σ) ∨
  (∃ v : Int64, decode μ.2.1 pc = .ok (.lreturn, 1) ∧ μ.2.2.2 = some .long ∧ st = [.long v] ∧ Qr (some (.long v)) σ) ∨
  (∃ (r : Option Nat) (rt : FieldType), decode μ.2.1 pc = .ok (.areturn, 1) ∧ μ.2.2.2 = some rt ∧ ((∃ n, rt = .object n) ∨ ∃ t, rt = .array t) ∧ st = [va_rf r] ∧ Qr (some (va_rf r)) σ)
theorem lt_Nmove {w : Cond} (hw : lt_isN w = true) {s U : State} (hW : s.WarmedH U.vm) (h : va_Nw w s) : va_Nw w U := by
  cases w <;> first | exact va_Nw.warmF hW h | exact va_Nw.warmM hW h | skip
  case arrayOver ty => cases ty <;> first | exact va_AO.moved hW.alike h | (simp [lt_isN] at hw)
  all_goals (simp [lt_isN] at hw)
theorem lt_Nsame {w : Cond} (hw : lt_isN w = true) {s U : State} (hv : s.vm = U.vm) (h : va_Nw w s) : va_Nw w U := by
  have hA : s.vm.Alike U.vm := by rw [hv]; exact Vm.Alike.refl _
  cases w <;> first | (exact va_Nw.same rfl hv h) | skip
  all_goals first | (simp [lt_isN] at hw; done) | skip
  case arrayOver ty => cases ty <;> first | exact va_AO.moved hA h | (simp [lt_isN] at hw)
theorem lt_K.moved {G : lt_G} {u U : State} (hvm : u.vm.Alike U.vm) (h : lt_K G u) : lt_K G U := ⟨va_K.moved hvm h.1, arrOfT_moved hvm h.2⟩
theorem lt_blind (G : lt_G) (as : List Value) (σ : hv_S) : FrameBlind (lt_Pc G as σ) := by
  intro a U g mk h
  obtain ⟨h0, h2, h3, h4, h5, h6⟩ := h
  exact ⟨h0, h2, lt_K.moved (u := U) (U := U.calling g mk a) (Vm.Alike.refl U.vm) h3, fun w hw => lt_Nsame (s := U) (lt_N_ok w hw) rfl (h4 w hw), h5, h5 U (U.calling g mk a) _ _ h6 (State.WarmedH.refl U) (fun _ _ h => h) (Nat.le_refl _) (fun _ _ _ => rfl)⟩
theorem lt_good {μ : lt_M} (h : Cond.code μ.1 μ.2.1 μ.2.2.1 μ.2.2.2 ∈ lt_T) : GoodIn lt_T (lt_ws μ) := by
  intro w hw
  have hm : w ∈ lt_T := by
    rcases List.mem_cons.mp hw with e | hw
    · rw [e]; exact h
    · exact hw
  exact ⟨hm, good_of_word (lt_T_good w hm)⟩
set_option maxHeartbeats 2000000 in
theorem Ct.of {G : lt_G} {μ : lt_M} {d mc ms : Nat} {as : List Value} {σ : hv_S} {Qr : Option Value → hv_S → Prop} (hy : plainName μ.1.cls = true) (hlen : (lg_sl as).length ≤ μ.2.2.1) (h : Lt G μ d 0 (lv_args 0 as) [] σ mc ms (lt_end μ Qr)) : Ct G μ d mc ms as σ Qr := by
  intro l hTr
  refine Met.ofW (cc := μ.2.1) (maxL := μ.2.2.1) (ret := μ.2.2.2) hy rfl ?_
  intro p e s m args below meth c s₁ B hml hv
  obtain ⟨rfl, hP, hK, hN, hOk, hY⟩ := hv
  have hts := atoms_spec (ws := lt_ws μ) B.pre
  have hlocks := B.notSynchronized
  have hx := B.exec
  have hb := B.bytes
  have hr := B.returns
  have hC : lt_C G μ d p l (headSpec (lt_ws μ) (lt_rm d mc ms)).room s m as.toArray meth c := ⟨B.exec, B.bytes, B.returns, hml, findClass_of_methodNamed B.named, fun w hw => hts w (List.mem_cons_of_mem _ hw), hN, hK, B.notSynchronized, (name_of_methodNamed B.named B.method).1, Nat.le_refl _, Nat.le_refl _, hOk, hTr, B.named⟩
  have hl := lv_entry as (n := μ.2.2.1) hlen
  rw [lg_entry_eq]
  refine h p l e _ s m _ below meth c hC (lt_A σ) (fun q hq => Or.inr (by rw [← hP.1]; exact hq)) hY _ ?_ s.heap [] 0 0 _ hl ⟨hP, fun a x hx h2 => Or.inl ⟨x, hx, h2⟩, va_S.rf⟩ (by show 0 + mc ≤ mc; omega) (by show 0 + ms ≤ ms; omega)
  intro pc' lo' st' σ' mc' ms' H' locs' cells' slots' ls' hX hl' hH' g1 g2
  have g1 : cells' + mc' ≤ mc := g1
  have g2 : slots' + ms' ≤ ms := g2
  refine W.widen (k := mc) (n := ms) (by omega) (by omega) ?_
  rcases hX with ⟨hd, h1, rfl, hq⟩ | ⟨v, ty, hd, h1, hn, rfl, hq⟩ | ⟨v, hd, h1, rfl, hq⟩ | ⟨v, rt, hd, h1, hrt, rfl, hq⟩
  · exact W.vret hx hb (hr.trans h1) (fun t ht hW => ⟨⟨_, σ', rfl, hq, by rw [ht]; exact hH'.1, hH'.2.1⟩, hH'.2.2.F ht⟩) hH'.2.2.2.2 hd
  · exact W.zret hx hb (hr.trans h1) hn (fun t ht hW => ⟨⟨_, σ', rfl, hq, by rw [ht]; exact hH'.1, hH'.2.1⟩, hH'.2.2.F ht⟩) hH'.2.2.2.2 hd
  · exact W.lret hx hb (hr.trans h1) (fun t ht hW => ⟨⟨_, σ', rfl, hq, by rw [ht]; exact hH'.1, hH'.2.1⟩, hH'.2.2.F ht⟩) hH'.2.2.2.2 hd
  · exact W.aret hx hb (hr.trans h1) hrt (by cases v with | none => exact Or.inl rfl | some a => exact Or.inr ⟨a, rfl⟩) (fun t ht hW => ⟨⟨_, σ', rfl, hq, by rw [ht]; exact hH'.1, hH'.2.1⟩, hH'.2.2.F ht⟩) hH'.2.2.2.2 hd
theorem Ct.mono {G : lt_G} {μ : lt_M} {d mc ms : Nat} {as : List Value} {σ : hv_S} {Qr Qr' : Option Value → hv_S → Prop} (h : Ct G μ d mc ms as σ Qr) (k : ∀ r σ', Qr r σ' → Qr' r σ') : Ct G μ d mc ms as σ Qr' := by
  intro l hTr p e ha hc hk s m args below hf happ hpre htr
  obtain ⟨n, o, h1, h2, h3, ⟨⟨⟨r, σ', q1, q2, q3⟩, q4⟩, q5⟩⟩     := h l hTr p e ha hc hk s m args below hf happ hpre htr
  exact ⟨n, o, h1, h2, h3, ⟨⟨⟨r, σ', q1, k r σ' q2, q3⟩, q4⟩, q5⟩⟩
def lt_lkM (own : String) (idx : Nat) (y : MethodName) : Prop := (Cond.methodLink own idx y ∈ lt_T) ∨ ∃ host : String, Cond.methodLinkNest own idx y host ∈ lt_N
/-- what the tables say of a method that is called with n arguments -/
def lt_M0 (μ : lt_M) (n : Nat) : Prop := Cond.code μ.1 μ.2.1 μ.2.2.1 μ.2.2.2 ∈ lt_T ∧ Cond.initialized μ.1.cls ∈ lt_T ∧ (μ.1.cls ≠ "java/lang/invoke/MethodHandle" ∧ μ.1.cls ≠ "java/lang/invoke/VarHandle" ∧ (parseMethodDescriptor μ.1.desc).map (fun d => d.parameters.length) = some n) ∧ μ.2.2.1 ≤ 45
section LTC
variable {p : Program} {l : Launch} {e : Env} {R : Room} {s : State} {m : MethodId} {args : Array Value} {below : List Frame} {meth : Method} {c : Code} {H : Heap} {locs : List Loc} {cells slots : Nat} {Q : State → Prop}
/-- behind a call -/
theorem lt_ran {G : lt_G} {σ : hv_S} {Qr : Option Value → hv_S → Prop} {pc mc' ms' : Nat} {ls : Array Slot} {st0 rest : List Value} {a : Array Value} {A : Nat → Prop} (hA : ∀ q : Nat, s.heap.size ≤ q → A q) (hH : lt_H G σ s H locs A)
    (hr : va_Run p l e R s m args below meth c H locs cells slots mc' ms' (F0 m pc ls st0) rest (lt_Qc G σ Qr a) (lt_A σ))
    (kk : ∀ (r : Option Value) (σ' : hv_S) (H' : Heap) (locs' : List Loc), Qr r σ' → lt_H G σ' s H' locs' A → W p l e R s m args below meth c H' locs' (cells + mc') (slots + ms') Q (F0 m (pc + 3) ls (r.toList ++ rest))) : W p l e R s m args below meth c H locs cells slots Q (F0 m pc ls st0) := by
  intro T hT X
  obtain ⟨v, st₀, t, T', L, h0, X', hL, e1, e2, ⟨⟨r, σ', hv, hq, hH', hdom⟩, hz, hk⟩, st⟩ := hr T hT X
  cases hv
  rw [h0] at hz hk
  have hAA : ∀ q, lt_A σ q → A q := by
    intro q hq
    rcases hq with ⟨x, hx, h2⟩ | hq
    · exact hH.2.1 q x hx h2
    · exact hA q (Nat.le_trans hH.2.2.1 (by rw [hH.1.1]; exact hq))
  have hS := hH.2.2
  obtain ⟨t2, a1, b1⟩ := kk v σ' T'.heap (locs ++ L) hq ⟨by rw [e1]; exact hH', fun b x hx h2 => hAA b (hdom b x hx h2),
    ⟨Nat.le_trans hS.1 (by rw [e1]; exact hz), fun q h1 h2 => by rw [e1, hk q (Nat.lt_of_lt_of_le h1 hS.1) (fun z => h2 (hAA q z))]; exact hS.2.1 q h1 h2, fun q hq => by
      rcases List.mem_append.mp hq with h | h
      · exact hS.2.2 q h
      · exact hAA _ (hL q h)⟩⟩ T' rfl X'
  exact ⟨t2, st t2 a1, b1⟩
theorem lt_pre {G : lt_G} {as : List Value} {σ : hv_S} {A : Nat → Prop} (hH : lt_H G σ s H locs A) (hK : lt_K G s) (hN : ∀ w ∈ lt_N, va_Nw w s) (hOk : lt_Ok G) (hY : G.2.2 s A) : ∀ U : State, U.heap = H → s.WarmedH U.vm → lt_Pc G as σ as.toArray U :=
  fun U hU hW => ⟨rfl, by rw [hU]; exact hH.1, lt_K.moved hW.alike hK, fun w hw => lt_Nmove (lt_N_ok w hw) hW (hN w hw), hOk, hOk s U A (lt_A σ) hY hW (fun q hq hA => hA.elim (fun h => by obtain ⟨x, hx, h2⟩ := h; exact hH.2.1 q x hx h2) (fun h => absurd (Nat.lt_of_lt_of_le hq (Nat.le_trans hH.2.2.1 (by rw [hH.1.1]; exact h))) (Nat.lt_irrefl _))) (by rw [hU]; exact hH.2.2.1) (fun q h1 h2 => by rw [hU]; exact hH.2.2.2.1 q h1 h2)⟩
end LTC
section LTD
variable {G : lt_G} {μ μ' : lt_M} {d d' pc : Nat} {lo lo' : List (Nat × Value)} {st0 rest as : List Value} {σ : hv_S} {mc ms mc' ms' : Nat} {X : Nat → List (Nat × Value) → List Value → hv_S → Nat → Nat → Prop} {Qr : Option Value → hv_S → Prop}
set_option maxHeartbeats 2000000 in
theorem lt_callV {b ci n idx : Nat} {C : String} {T : u_T} {N : Nat} (hd : decode μ.2.1 pc = .ok (.invokevirtual idx, 3)) (hct : Ct G μ' d' mc' ms' (.ref b :: as) σ Qr) (hdd : d' + 1 ≤ d) (hst : st0 = as.reverse ++ .ref b :: rest) (hM : lt_M0 μ' as.length) (hlk : lt_lkM μ.1.cls idx μ'.1) (hin : Cond.instanceMethod μ'.1 ∈ lt_T) (hse : Cond.selects C μ'.1 μ'.1 ∈ lt_T)
    (hsh : hv_sh σ b = some (ci, n)) (hci : ci < 1000) (hcl : lt_cl[ci]? = some (C, T, N)) (hcat : (rest.map fun v => v.category).sum ≤ 8)
    (kk : ∀ (r : Option Value) (σ' : hv_S), Qr r σ' → Lt G μ d (pc + 3) lo (r.toList ++ rest) σ' mc ms X) : Lt G μ d pc lo st0 σ (mc + mc') (ms + ms') X := by
  intro p l e R s m args below meth c hC A hA hY Q hX H locs cells slots ls hl hH h1 h2
  have kk' := fun r σ' hq H' locs' hH' => kk r σ' hq p l e R s m args below meth c hC A hA hY Q hX H' locs' (cells + mc') (slots + ms') ls hl hH' (by omega) (by omega)
  obtain ⟨hx, hb, -, hml, hown, hts, hnw, hK, -, -, hfr, hlo, hOk, hTr, -⟩ := hC
  obtain ⟨hcode, hini, hnm, hnL⟩ := hM
  have hP := hH.1.2 b _ hsh
  unfold hv_at at hP
  rw [if_pos hci] at hP
  obtain ⟨r, hr, cell, q1, q2, q3, q4⟩ := hP
  have hrecv : ∃ cellB : Cell, H[b]? = some cellB ∧ cellB.vm.isStatics = false ∧ s.vm.findClass C = some cellB.cls := ⟨cell, q1, by rw [q3]; rfl, by rw [q2]; exact (hK.1.1 ci _ hcl).2.1⟩
  have hG := lt_good hcode
  refine lt_ran (a := (Value.ref b :: as).toArray) hA hH ?_ (fun r σ' H' locs' hq hH' => kk' r σ' hq H' locs' hH')
  rcases hlk with h | ⟨host, h⟩
  · exact va_runV (As := as) (rest := rest) (n := as.length) ⟨hx, hb, hml, hown, hts⟩ (hct l hTr) ⟨callB_of as.length hts hG rfl rfl rfl (hts _ hini) (hts _ h) hnm ⟨by show d' + 1 ≤ R.frames; omega, by show 8 + (μ'.2.2.1 + 11) + 64 * d' ≤ R.locals; omega⟩, hts _ hin, hts _ hse⟩ ⟨lt_blind G _ σ, hrecv, lt_pre hH hK hnw hOk hY⟩ rfl rfl hl.1 hst (lv_room hcat) hd ⟨by omega, by omega⟩
  · exact va_runVN (As := as) (rest := rest) (n := as.length) ⟨hx, hb, hml, hown, hts⟩ (hct l hTr) ⟨va_cnB as.length hts hG rfl rfl rfl (hnw _ h) (hts _ hini) hnm ⟨by show d' + 1 ≤ R.frames; omega, by show 8 + (μ'.2.2.1 + 11) + 64 * d' ≤ R.locals; omega⟩, hts _ hin, hts _ hse⟩ ⟨lt_blind G _ σ, hrecv, lt_pre hH hK hnw hOk hY⟩ rfl rfl hl.1 hst (lv_room hcat) hd ⟨by omega, by omega⟩
set_option maxHeartbeats 2000000 in
theorem lt_callS {idx : Nat} (hd : decode μ.2.1 pc = .ok (.invokestatic idx, 3)) (hct : Ct G μ' d' mc' ms' as σ Qr) (hdd : d' + 1 ≤ d) (hst : st0 = as.reverse ++ rest) (hM : lt_M0 μ' as.length) (hlk : lt_lkM μ.1.cls idx μ'.1) (hstc : Cond.static μ'.1 ∈ lt_T) (hcat : (rest.map fun v => v.category).sum ≤ 8)
    (kk : ∀ (r : Option Value) (σ' : hv_S), Qr r σ' → Lt G μ d (pc + 3) lo (r.toList ++ rest) σ' mc ms X) : Lt G μ d pc lo st0 σ (mc + mc') (ms + ms') X := by
  intro p l e R s m args below meth c hC A hA hY Q hX H locs cells slots ls hl hH h1 h2
  have kk' := fun r σ' hq H' locs' hH' => kk r σ' hq p l e R s m args below meth c hC A hA hY Q hX H' locs' (cells + mc') (slots + ms') ls hl hH' (by omega) (by omega)
  obtain ⟨hx, hb, -, hml, hown, hts, hnw, hK, -, -, hfr, hlo, hOk, hTr, -⟩ := hC
  obtain ⟨hcode, hini, hnm, hnL⟩ := hM
  have hG := lt_good hcode
  refine lt_ran (a := as.toArray) hA hH ?_ (fun r σ' H' locs' hq hH' => kk' r σ' hq H' locs' hH')
  rcases hlk with h | ⟨host, h⟩
  · exact va_runS (As := as) (rest := rest) (n := as.length) ⟨hx, hb, hml, hown, hts⟩ (hct l hTr) ⟨callB_of as.length hts hG rfl rfl rfl (hts _ hini) (hts _ h) hnm ⟨by show d' + 1 ≤ R.frames; omega, by show 8 + (μ'.2.2.1 + 11) + 64 * d' ≤ R.locals; omega⟩, hts _ hstc⟩ ⟨lt_blind G _ σ, lt_pre hH hK hnw hOk hY⟩ rfl rfl hl.1 hst (lv_room hcat) hd ⟨by omega, by omega⟩
  · exact va_runSN (As := as) (rest := rest) (n := as.length) ⟨hx, hb, hml, hown, hts⟩ (hct l hTr) ⟨va_cnB as.length hts hG rfl rfl rfl (hnw _ h) (hts _ hini) hnm ⟨by show d' + 1 ≤ R.frames; omega, by show 8 + (μ'.2.2.1 + 11) + 64 * d' ≤ R.locals; omega⟩, hts _ hstc, trivial⟩ ⟨lt_blind G _ σ, lt_pre hH hK hnw hOk hY⟩ rfl rfl hl.1 hst (lv_room hcat) hd ⟨by omega, by omega⟩
set_option maxHeartbeats 2000000 in
theorem lt_callI {y : MethodName} {cc : ByteArray} {nL b idx : Nat} (hd : decode μ.2.1 pc = .ok (.invokespecial idx, 3)) (hct : Ct G (y, cc, nL, none) d' mc' ms' (.ref b :: as) σ Qr) (hdd : d' + 1 ≤ d) (hst : st0 = as.reverse ++ .ref b :: rest) (hM : lt_M0 (y, cc, nL, none) as.length) (hlk : lt_lkM μ.1.cls idx y) (hin : Cond.instanceMethod y ∈ lt_T) (hname : y.name = "<init>") (hcat : (rest.map fun v => v.category).sum ≤ 8)
    (kk : ∀ (r : Option Value) (σ' : hv_S), Qr r σ' → Lt G μ d (pc + 3) lo (r.toList ++ rest) σ' mc ms X) : Lt G μ d pc lo st0 σ (mc + mc') (ms + ms') X := by
  intro p l e R s m args below meth c hC A hA hY Q hX H locs cells slots ls hl hH h1 h2
  have kk' := fun r σ' hq H' locs' hH' => kk r σ' hq p l e R s m args below meth c hC A hA hY Q hX H' locs' (cells + mc') (slots + ms') ls hl hH' (by omega) (by omega)
  obtain ⟨hx, hb, -, hml, hown, hts, hnw, hK, -, -, hfr, hlo, hOk, hTr, -⟩ := hC
  obtain ⟨hcode, hini, hnm, hnL⟩ := hM
  have hG := lt_good hcode
  have hnL : nL ≤ 45 := hnL
  refine lt_ran (a := (Value.ref b :: as).toArray) hA hH ?_ (fun r σ' H' locs' hq hH' => kk' r σ' hq H' locs' hH')
  rcases hlk with h | ⟨host, h⟩
  · exact va_runI (As := as) (rest := rest) (n := as.length) ⟨hx, hb, hml, hown, hts⟩ (hct l hTr) ⟨callB_of as.length hts hG rfl rfl rfl (hts _ hini) (hts _ h) hnm ⟨by show d' + 1 ≤ R.frames; omega, by show 8 + (nL + 11) + 64 * d' ≤ R.locals; omega⟩, hname, hts _ hin⟩ ⟨lt_blind G _ σ, lt_pre hH hK hnw hOk hY⟩ rfl rfl hl.1 hst (lv_room hcat) hd ⟨by omega, by omega⟩
  · exact va_runIN (As := as) (rest := rest) (n := as.length) ⟨hx, hb, hml, hown, hts⟩ (hct l hTr) ⟨va_cnB as.length hts hG rfl rfl rfl (hnw _ h) (hts _ hini) hnm ⟨by show d' + 1 ≤ R.frames; omega, by show 8 + (nL + 11) + 64 * d' ≤ R.locals; omega⟩, hname, hts _ hin⟩ ⟨lt_blind G _ σ, lt_pre hH hK hnw hOk hY⟩ rfl rfl hl.1 hst (lv_room hcat) hd ⟨by omega, by omega⟩
/-- Object.<init> -/
theorem lt_objInit {b idx : Nat} (hd : decode μ.2.1 pc = .ok (.invokespecial idx, 3)) (hlk : Cond.methodLink μ.1.cls idx Lib.objectInit ∈ lt_T) (hin : Cond.instanceMethod Lib.objectInit ∈ lt_T) (hco : Cond.code Lib.objectInit ⟨#[0xb1]⟩ 1 none ∈ lt_T) (hdd : 1 ≤ d) (hcat : (rest.map fun v => v.category).sum ≤ 8) (kk : Lt G μ d (pc + 3) lo rest σ mc ms X) : Lt G μ d pc lo (.ref b :: rest) σ mc ms X := by
  intro p l e R s m args below meth c hC A hA hY Q hX H locs cells slots ls hl hH h1 h2
  have kk' := kk p l e R s m args below meth c hC A hA hY Q hX H locs cells slots ls hl hH h1 h2
  obtain ⟨hx, hb, -, hml, hown, hts, hnw, hK, -, -, hfr, hlo, hOk, hTr, -⟩ := hC
  exact W.objInit hx hb hown (hts _ hlk) (hts _ hin) (hts _ hco) rfl (by rw [hml]; exact hl.1) rfl hd (by omega) (by show 2 * 0 + _ + 12 ≤ R.locals; omega) kk'
end LTD
