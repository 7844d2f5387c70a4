/-! METHODS WITH A TABLE OF HANDLERS: their contracts and their calls -/
def lt_wsW (μ : lt_M) (hh : List (Nat × Nat × Nat × Nat)) : List Cond := Cond.codeWith μ.1 μ.2.1 μ.2.2.1 μ.2.2.2 hh :: lt_T
def CkW (G : lt_G) (μ : lt_M) (hh : List (Nat × Nat × Nat × Nat)) (d mc ms : Nat) (as : List mV) (σ : hv_S) (r : Option mV) (σ' : hv_S) : Prop :=
  ∀ (l : Launch), l.stackTraces = false → Met l μ.1 (lt_wsW μ hh) (lt_rm d mc ms) (lt_Pc G (as.map mv) σ) (lt_Qc G σ (fun r' s => r' = r.map mv ∧ s = σ')) mc ms (lt_A σ)
set_option maxHeartbeats 2000000 in
theorem CkW.of {G : lt_G} {μ : lt_M} {hh : List (Nat × Nat × Nat × Nat)} {d mc ms : Nat} {as : List mV} {σ σ' : hv_S} {r : Option mV} (hy : plainName μ.1.cls = true) (hlen : (as.map mcat).sum ≤ μ.2.2.1) (h : Lk G μ d 0 (mk_args 0 as) [] σ mc ms (lk_end μ r σ')) : CkW G μ hh d mc ms as σ r σ' := by
  intro l hTr
  refine va_MetW (cc := μ.2.1) (maxL := μ.2.2.1) (ret := μ.2.2.2) (hh := hh) hy rfl ?_
  intro p e s m args below meth c s₁ B hml hv
  obtain ⟨rfl, hP, hK, hN, hOk, hY⟩ := hv
  have hts := atoms_spec (ws := lt_wsW μ hh) B.pre
  have hlocks := B.notSynchronized
  have hx := B.exec
  have hb := B.bytes
  have hr := B.returns
  have hC : lt_C G μ d p l (headSpec (lt_wsW μ hh) (lt_rm d mc ms)).room s m (as.map mv).toArray meth c := ⟨B.exec, B.bytes, B.returns, hml, findClass_of_methodNamed B.named, fun w hw => hts w (List.mem_cons_of_mem _ hw), hN, hK, B.notSynchronized, (name_of_methodNamed B.named B.method).1, Nat.le_refl _, Nat.le_refl _, hOk, hTr, B.named⟩
  have hl := lv_entry (as.map mv) (n := μ.2.2.1) (by rw [lk_lg_sl]; exact hlen)
  rw [lg_entry_eq]
  rw [mk_args_map] at hl
  refine h p l e _ s m _ below meth c hC (lt_A σ) (fun q hq => Or.inr (by rw [← hP.1]; exact hq)) hY _ ?_ s.heap [] 0 0 _ hl ⟨hP, fun a x hx h2 => Or.inl ⟨x, hx, h2⟩, va_S.rf⟩ (by show 0 + mc ≤ mc; omega) (by show 0 + ms ≤ ms; omega)
  intro pc' lo' st' σ1 mc' ms' H' locs' cells' slots' ls' hX hl' hH' g1 g2
  have g1 : cells' + mc' ≤ mc := g1
  have g2 : slots' + ms' ≤ ms := g2
  obtain ⟨lo2, st2, rfl, rfl, rfl, hX⟩ := hX
  refine W.widen (k := mc) (n := ms) (by omega) (by omega) ?_
  rcases hX with ⟨hd, h1, rfl, rfl⟩ | ⟨v, ty, hd, h1, hn, rfl, rfl⟩ | ⟨v, hd, h1, rfl, rfl⟩ | ⟨v, n, hd, h1, rfl, rfl⟩
  · exact W.vret hx hb (hr.trans h1) (fun t ht hW => ⟨⟨_, σ1, rfl, ⟨rfl, rfl⟩, by rw [ht]; exact hH'.1, hH'.2.1⟩, hH'.2.2.F ht⟩) hH'.2.2.2.2 hd
  · exact W.zret hx hb (hr.trans h1) hn (fun t ht hW => ⟨⟨_, σ1, rfl, ⟨rfl, rfl⟩, by rw [ht]; exact hH'.1, hH'.2.1⟩, hH'.2.2.F ht⟩) hH'.2.2.2.2 hd
  · exact W.lret hx hb (hr.trans h1) (fun t ht hW => ⟨⟨_, σ1, rfl, ⟨rfl, rfl⟩, by rw [ht]; exact hH'.1, hH'.2.1⟩, hH'.2.2.F ht⟩) hH'.2.2.2.2 hd
  · exact W.aret (v := va_rf v) hx hb (hr.trans h1) (Or.inl ⟨n, rfl⟩) (by cases v with | none => exact Or.inl rfl | some a => exact Or.inr ⟨a, rfl⟩) (fun t ht hW => ⟨⟨_, σ1, rfl, ⟨rfl, rfl⟩, by rw [ht]; exact hH'.1, hH'.2.1⟩, hH'.2.2.F ht⟩) hH'.2.2.2.2 hd
/-- what the tables say of such a method -/
def lt_MW (μ : lt_M) (hh : List (Nat × Nat × Nat × Nat)) (n : Nat) : Prop := Cond.codeWith μ.1 μ.2.1 μ.2.2.1 μ.2.2.2 hh ∈ lt_T ∧ Cond.initialized μ.1.cls ∈ lt_T ∧ (μ.1.cls ≠ "java/lang/invoke/MethodHandle" ∧ μ.1.cls ≠ "java/lang/invoke/VarHandle" ∧ (parseMethodDescriptor μ.1.desc).map (fun d => d.parameters.length) = some n) ∧ μ.2.2.1 ≤ 45
section TW
variable {G : lt_G} {μ μ' : lt_M} {d d' pc : Nat} {lo : List (Nat × mV)} {st0 st as : List mV} {σ σ1 : hv_S} {mc ms mc' ms' : Nat} {X : Nat → List (Nat × mV) → List mV → hv_S → Nat → Nat → Prop} {r : Option mV}
set_option maxHeartbeats 4000000 in
theorem lk_callSW {idx : Nat} {hh : List (Nat × Nat × Nat × Nat)} (hd : decode μ.2.1 pc = .ok (.invokestatic idx, 3)) (hct : CkW G μ' hh d' mc' ms' as σ r σ1) (hdd : d' + 1 ≤ d) (hst : st0 = as.reverse ++ st) (hM : lt_MW μ' hh as.length) (hlk : Cond.methodLink μ.1.cls idx μ'.1 ∈ lt_T) (hstc : Cond.static μ'.1 ∈ lt_T)
    (hcat : (st.map mcat).sum ≤ 8) (kk : Lk G μ d (pc + 3) lo (r.toList ++ st) σ1 mc ms X) : Lk G μ d pc lo st0 σ (mc + mc') (ms + ms') X := by
  intro p l e R s m args below meth c hC A hA hY Q hX H locs cells slots ls hl hH h1 h2
  have kk' := fun H' locs' hH' => kk p l e R s m args below meth c hC A hA hY Q hX H' locs' (cells + mc') (slots + ms') ls hl hH' (by omega) (by omega)
  obtain ⟨hex, hb, -, hml, hown, hts, hnw, hK, -, -, hfr, hlo, hOk, hTr, -⟩ := hC
  obtain ⟨hcode, hini, hnm, hnL⟩ := hM
  have hGd : ∀ w ∈ lt_wsW μ' hh, w ∈ lt_T ∧ ((w.onTables && w.keeps) = true ∨ ∃ ty, w = .arrayClass ty) := by
    intro w hw
    have hm : w ∈ lt_T := by
      rcases List.mem_cons.mp hw with e1 | hw
      · rw [e1]; exact hcode
      · exact hw
    exact ⟨hm, good_of_word (lt_T_good w hm)⟩
  have hstk : st0.map mv = (as.map mv).reverse ++ st.map mv := by rw [hst]; simp
  rw [hstk]
  refine lt_ran (a := (as.map mv).toArray) (rest := st.map mv) (mc' := mc') (ms' := ms') (Qr := fun r' s => r' = r.map mv ∧ s = σ1) hA hH ?_ (fun r' σ' H' locs' hq hH' => by
    obtain ⟨rfl, rfl⟩ := hq
    rw [mk_rest]
    exact kk' H' locs' hH')
  intro Tt hT Xs
  obtain ⟨mk, methM, cM, hnM, hmM, hcM, -, -, -, -, -, hsigM⟩ := Cond.codeWith_spec (hts _ hcode)
  have hstatic : methM.isStatic = true := Cond.static_spec hnM hmM (hts _ hstc)
  obtain ⟨kP, hkP, -⟩ := className_of_methodNamed hnM
  have hinitP : kP.init = .initialized := Cond.initialized_spec (findClass_of_methodNamed hnM) hkP (hts _ hini)
  have hlen : (as.map mv).length = methM.sig.parameters.length := by
    have h9 := hnm.2.2
    rw [hsigM] at h9
    rw [List.length_map]
    exact (Option.some.inj h9).symm
  obtain ⟨vm₁, X₁, hstep⟩ := Xs.invokestatic hex hown (hts _ hlk) hnM hmM hstatic hkP hinitP ⟨hnm.1, hnm.2.1⟩ (g := F0 m pc ls ((as.map mv).reverse ++ st.map mv)) rfl (argsL := as.map mv) (rest := st.map mv) hlen rfl (by rw [hb]; exact hd)
  have hBk : Back l R p e below s args μ'.1 3 8 (PreOf R mc' ms' (lt_Pc G (as.map mv) σ)) (PostOf (lt_Qc G σ (fun r' s => r' = r.map mv ∧ s = σ1)) mc' ms' (lt_A σ)) :=
    va_backW (bytes := μ'.2.1) (maxL := μ'.2.2.1) (ret := μ'.2.2.2) (hh := hh) (hct l hTr) (lt_blind G _ σ) rfl rfl (by show d' + 1 ≤ R.frames; omega) (by show 8 + (μ'.2.2.1 + 11) + 64 * d' ≤ R.locals; omega) (pay_in hts hGd) List.mem_cons_self
      (fun a' U hW => word_at hW (good_of_word (lt_T_good _ hini)) (hts _ hini))
  obtain ⟨v, B, X', hpost, hsteps⟩ := hBk m meth c ⟨Tt.setVm vm₁, locs, cells, slots⟩ (F0 m pc ls (st.map mv)) (.invokestatic idx) mk (as.map mv).toArray X₁ rfl (hl.1.trans hml.symm) (by rw [hb]; exact hd) (lv_room (by rw [mk_cats]; exact hcat)) (X₁.named hnM) ⟨by show cells + mc' ≤ R.cells; omega, by show slots + ms' ≤ R.slots; omega, lt_pre hH hK hnw hOk hY (Tt.setVm vm₁) hT X₁.warmed⟩
  obtain ⟨U', l2, c2, s2⟩ := B
  obtain ⟨g', mk', t, L, e1, e2, hq, w1, hL, w2, w3⟩ := hpost
  dsimp only [Pt.U, Pt.locs, Pt.cells, Pt.slots] at X' e1 e2 w1 w2 w3 hsteps
  subst w1; subst w2; subst w3
  exact ⟨v, (Tt.setVm vm₁).calling g' mk' (as.map mv).toArray, t, U', L, hT, X', hL, e1, e2, hq, fun target h => hstep _ fun acts => by rw [doInvoke_state]; exact hsteps.trans h⟩
theorem lkn_callSW (mc ms : Nat) {MC MS idx : Nat} {hh : List (Nat × Nat × Nat × Nat)} (hd : decode μ.2.1 pc = .ok (.invokestatic idx, 3)) (hct : CkW G μ' hh d' 1 6 as σ r σ1) (hdd : d' + 1 ≤ d) (hst : st0 = as.reverse ++ st) (hM : lt_MW μ' hh as.length) (hlk : Cond.methodLink μ.1.cls idx μ'.1 ∈ lt_T) (hstc : Cond.static μ'.1 ∈ lt_T)
    (hcat : (st.map mcat).sum ≤ 8) (hmc : MC = mc + 1) (hms : MS = ms + 6) (kk : Lk G μ d (pc + 3) lo (r.toList ++ st) σ1 mc ms X) : Lk G μ d pc lo st0 σ MC MS X := by
  subst hmc; subst hms
  exact lk_callSW hd hct hdd hst hM hlk hstc hcat kk
end TW
