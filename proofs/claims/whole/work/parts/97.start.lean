/-! AT THE LAW'S ENTRY: what a throw asks, the classes, the arrays -/
theorem st_ws {s : State} {a0 : Array Value} (hts : ∀ w ∈ tables_1, w.before a0 s = true) (h1 : th_r1.before a0 s = true) (h2 : th_r2.before a0 s = true) : ∀ w ∈ th_ws, w.before a0 s = true := by
  have hok : ∀ w, th_ok w = true → w.before a0 s = true := by
    intro w h
    unfold th_ok at h
    simp only [Bool.or_eq_true, decide_eq_true_eq] at h
    rcases h with (h | h) | h
    · exact hts w h
    · rw [h]; exact h1
    · rw [h]; exact h2
  intro w hw
  rcases List.mem_append.mp hw with hw | hw
  · exact hok w (List.all_eq_true.mp th_in1 w hw)
  · rcases List.mem_append.mp hw with hw | hw
    · exact hok w (List.all_eq_true.mp th_in2 w hw)
    · exact hok w (List.all_eq_true.mp th_in3 w hw)
theorem st_lays {s U : State} {a0 : Array Value} {C n d : String} (hW : s.WarmedH U.vm) (hk : ∀ q : Nat, q < s.heap.size → U.heap[q]? = s.heap[q]?) (h : (Cond.laysStatic C n d).before a0 s = true) (args : Array Value) : (Cond.laysStatic C n d).before args U = true := by
  obtain ⟨c, k, i, f, a, cell, hc, hi, hst, ha, hcell, hs, hcls, hlt, hty⟩ := Cond.laysStatic_spec (Cond.laysStatic_setVm hW.alike h)
  have hcell' : s.heap[a]? = some cell := hcell
  exact Cond.laysStatic_of (s := U) hc hi hst ha (by rw [hk a (Array.getElem?_eq_some_iff.mp hcell').1]; exact hcell') hs hcls hlt hty
theorem st_isRef {s U : State} {a0 : Array Value} {C n d : String} (hW : s.WarmedH U.vm) (hk : ∀ q : Nat, q < s.heap.size → U.heap[q]? = s.heap[q]?) (hl : (Cond.laysStatic C n d).before a0 s = true) (h : (Cond.isRef (.static C n d)).before a0 s = true) (args : Array Value) : (Cond.isRef (.static C n d)).before args U = true := by
  cases hv : (Term.static C n d).eval a0 s none [] s with
  | none => simp [Cond.before, Cond.holds, Cond.value, hv] at h
  | some v =>
    have hv2 := Term.static_setVm hW.alike hv
    obtain ⟨c, k, i, f, a, cell, hc, hi, hst, ha, hcell, hs, hcls, hlt, hty⟩ := Cond.laysStatic_spec (Cond.laysStatic_setVm hW.alike hl)
    obtain ⟨hst', a', cell', ha', hcell', -, hslot⟩ := Term.static_spec hi hv2
    cases ha.symm.trans ha'
    cases hcell.symm.trans hcell'
    have hcs : s.heap[a]? = some cell := hcell
    have hU : (Term.static C n d).eval args U none [] U = some v := Term.static_eval (s := U) hi hst ha (by rw [hk a (Array.getElem?_eq_some_iff.mp hcs).1]; exact hcs) hs hslot
    simp only [Cond.before, Cond.holds, Cond.value, hv] at h
    simp only [Cond.before, Cond.holds, Cond.value, hU]
    exact h
set_option maxRecDepth 100000 in
theorem st_tx : th_tx.all (fun q => decide (Cond.stringRef "LinearSearch" q.1 q.2 ∈ tables_1)) = true := by decide +kernel
set_option maxRecDepth 100000 in
theorem st_nc : th_nc.all (fun q => decide (Cond.not (.castable q.1 q.2) ∈ flatC (Jvm.Cond.and given_1 narrow_1))) = true := by decide +kernel
set_option maxRecDepth 100000 in
theorem st_r1 : th_r1 ∈ flatC (Jvm.Cond.and given_1 narrow_1) := by decide +kernel
set_option maxRecDepth 100000 in
theorem st_r2 : th_r2 ∈ flatC (Jvm.Cond.and given_1 narrow_1) := by decide +kernel
theorem st_Y {s : State} {a0 : Array Value} {A : Nat → Prop} (hA : ∀ q : Nat, q < s.heap.size → ¬ A q) (hts : ∀ w ∈ tables_1, w.before a0 s = true) (hgv : (Jvm.Cond.and given_1 narrow_1).before a0 s = true) (hcur : ∃ cur, s.vm.findClass "LinearSearch" = some cur) : th_Y s A := by
  intro U hU
  obtain ⟨hW, hz, hk0⟩ := hU
  have hk : ∀ q : Nat, q < s.heap.size → U.heap[q]? = s.heap[q]? := fun q hq => hk0 q hq (hA q hq)
  have hf := flat_of_before _ hgv
  have h1 : th_r1.before a0 s = true := hf _ st_r1
  have h2 : th_r2.before a0 s = true := hf _ st_r2
  have hws := st_ws hts h1 h2
  obtain ⟨cur, hcur⟩ := hcur
  have hs1m : th_s1 ∈ th_ws := List.mem_append_left _ (by unfold Bundle.ownAtoms Bundle.throwableAtoms; simp [th_s1, Bundle.tN, Bundle.steD])
  have hs2m : th_s2 ∈ th_ws := List.mem_append_left _ (by unfold Bundle.ownAtoms Bundle.throwableAtoms; simp [th_s2, Bundle.tN, Bundle.listD])
  have hs1 : th_s1.before a0 s = true := hws _ hs1m
  have hs2 : th_s2.before a0 s = true := hws _ hs2m
  refine ⟨fun args w hw => ?_, fun q hq => ?_, fun q hq => ?_⟩
  · have hb := hws w hw
    have hkd := List.all_eq_true.mp th_kd0 w hw
    unfold th_kd at hkd
    simp only [Bool.or_eq_true, Bool.and_eq_true, decide_eq_true_eq] at hkd
    rcases hkd with (((⟨g1, g2⟩ | g) | g) | g) | g
    · exact va_tabs g1 (rfl : (s.setVm U.vm).vm = U.vm) (Cond.before_shiftedFace (State.Shifted.of_warmed hW) w g2 hb)
    · rw [g]; exact st_isRef hW hk hs1 h1 args
    · rw [g]; exact st_isRef hW hk hs2 h2 args
    · rw [g]; exact st_lays hW hk hs1 args
    · rw [g]; exact st_lays hW hk hs2 args
  · have hm := List.all_eq_true.mp st_tx q hq
    simp only [decide_eq_true_eq] at hm
    have hb := hts _ hm
    obtain ⟨k, cf, i, a, -, -, -, -, -, he⟩ := Cond.stringRef_spec hcur (show (Cond.stringRef "LinearSearch" q.1 q.2).holds a0 s none s [] = true from hb)
    have hv := vk_R.warm hW (vk_R.of hb he)
    exact ⟨a, fun args => ⟨hv.1, hv.2⟩⟩
  · have hm := List.all_eq_true.mp st_nc q hq
    simp only [decide_eq_true_eq] at hm
    exact va_Nc.moved hW.alike (va_Nc.of (hf _ hm))
/-- the classes as the tables have them -/
theorem st_K {s : State} {a0 : Array Value} (hts : ∀ w ∈ lt_T, w.before a0 s = true) : ∃ D : va_G, ∀ (k : Nat) (q : vw_C), lt_cl[k]? = some q → u_Kn s q.1 q.2.1 q.2.2 (D.1 k) (D.2 k) := by
  have hall : ∀ q ∈ lt_cl, ∃ (cC : ClassId) (iS : Nat → Nat), u_Kn s q.1 q.2.1 q.2.2 cC iS := by
    intro q hq
    simp only [lt_cl, List.mem_cons, List.not_mem_nil, or_false] at hq
    rcases hq with rfl | rfl | rfl | rfl | rfl | rfl | rfl | rfl | rfl | rfl | rfl | rfl
    · exact u_known (C := R_C) (T := F_C) (N := 14) (n := 14) hts i_C (hts _ ic_C)
    · exact u_known (C := R_Wr) (T := F_Wr) (N := 5) (n := 5) hts i_Wr (hts _ ic_Wr)
    · exact u_known (C := R_Tx) (T := F_Tx) (N := 2) (n := 2) hts i_Tx (hts _ ic_Tx)
    · exact u_known (C := R_Ls) (T := F_Ls) (N := 4) (n := 4) hts i_Ls (hts _ ic_Ls)
    · exact u_known (C := R_Fo) (T := F_Fo) (N := 9) (n := 9) hts i_Fo (hts _ ic_Fo)
    · exact u_known (C := R_TL) (T := F_TL) (N := 3) (n := 3) hts i_TL (hts _ ic_TL)
    · exact u_known (C := R_Ma) (T := F_Ma) (N := 8) (n := 8) hts i_Ma (hts _ ic_Ma)
    · exact u_known (C := R_Si) (T := F_Si) (N := 6) (n := 6) hts i_Si (hts _ ic_Si)
    · exact u_known (C := R_Pr) (T := F_Pr) (N := 4) (n := 4) hts i_Pr (hts _ ic_Pr)
    · exact u_known (C := R_Au) (T := F_Au) (N := 8) (n := 8) hts i_Au (hts _ ic_Au)
    · exact u_known (C := R_St) (T := F_St) (N := 5) (n := 5) hts i_St (hts _ ic_St)
    · exact u_known (C := R_Mo) (T := F_Mo) (N := 45) (n := 45) hts i_Mo (hts _ ic_Mo)
  have hch : ∀ k : Nat, ∃ p : ClassId × (Nat → Nat), ∀ q : vw_C, lt_cl[k]? = some q → u_Kn s q.1 q.2.1 q.2.2 p.1 p.2 := by
    intro k
    cases hk : lt_cl[k]? with
    | none => exact ⟨(0, fun _ => 0), fun q hq => by cases hq⟩
    | some q =>
      obtain ⟨cC, iS, h⟩ := hall q (List.mem_of_getElem? hk)
      exact ⟨(cC, iS), fun q' hq' => by cases hq'; exact h⟩
  obtain ⟨f, hf⟩ := Classical.axiomOfChoice hch
  exact ⟨(fun k => (f k).1, fun k => (f k).2), fun k q hq => hf k q hq⟩
theorem st_arr {s : State} {a0 : Array Value} {ty : FieldType} (hty : ∀ C, ty ≠ .object C) (h : (Cond.arrayClass ty).before a0 s = true) : ∃ cA : ClassId, ArrOfT s cA ty ∧ va_RA s cA ty := by
  obtain ⟨c, k, comp, h1, h2, h3⟩ := Cond.arrayClass_spec h
  refine ⟨c, fun n z => ⟨(fun k h => by cases h), k, h2, comp, h3⟩, ?_⟩
  unfold va_RA
  split
  · next C => exact absurd rfl (hty C)
  · exact h1
theorem st_arrO {s : State} {a0 : Array Value} {C : String} (h : (Cond.arrayOver (.object C)).before a0 s = true) : ∃ cA : ClassId, ArrOfT s cA (.object C) ∧ va_RA s cA (.object C) := by
  obtain ⟨comp, c, k, h1, h2, h3, h4, h5⟩ := Cond.arrayOver_spec h
  exact ⟨c, fun n z => ⟨(fun k h => by cases h), k, h3, comp, h4⟩, k, comp, h3, h4, h1, h5⟩
theorem st_N {s : State} {a0 : Array Value} (hts : ∀ w ∈ tables_1, w.before a0 s = true) : ∀ w ∈ lt_N, va_Nw w s := by
  intro w hw
  have hk := lt_N_ok w hw
  have hb := hts w (List.mem_filter.mp hw).1
  cases w
  case fieldLinkNest a i b n d h => exact va_Nw.of rfl hb
  case methodLinkNest a i b h => exact va_Nw.of rfl hb
  case arrayOver ty =>
    cases ty
    case object C => exact hb
    all_goals (simp [lt_isN] at hk)
  all_goals (simp [lt_isN] at hk)
