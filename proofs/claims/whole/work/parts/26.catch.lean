/-! A CALL THAT THROWS UNDER A HANDLER (over part 00's ch_caught) -/
section TD
variable {G : lt_G} {μ μ' : lt_M} {d d' pc : Nat} {lo : List (Nat × mV)} {st0 st as : List mV} {σ σ' : hv_S} {mc ms : Nat} {X : Nat → List (Nat × mV) → List mV → hv_S → Nat → Nat → Prop}
theorem th_castable {ic : Nat} (hic : ic = 89 ∨ ic = 114 ∨ ic = 131) : Cond.castable (th_E ic) (th_E ic) ∈ th_ws := by
  have h : Cond.castable (th_E ic) (th_E ic) ∈ Bundle.ownAtoms "LinearSearch" ic (th_E ic) th_chain := by simp [Bundle.ownAtoms]
  rcases hic with rfl | rfl | rfl
  · exact List.mem_append_left _ h
  · exact List.mem_append_right _ (List.mem_append_left _ h)
  · exact List.mem_append_right _ (List.mem_append_right _ h)
theorem th_split {α β : Type} {f : α → β} {L : List α} {pre suf : List β} {x : β} (h : L.map f = pre ++ x :: suf) : ∃ (L1 : List α) (y : α) (L2 : List α), L = L1 ++ y :: L2 ∧ L1.map f = pre ∧ f y = x := by
  obtain ⟨L1, L3, h1, h2, h3⟩ := List.map_eq_append_iff.mp h
  obtain ⟨y, L2, h4, h5, h6⟩ := List.map_eq_cons_iff.mp h3
  exact ⟨L1, y, L2, by rw [h1, h4], h2, h5⟩
set_option maxHeartbeats 4000000 in
theorem lk_callT {ci b idx ic : Nat} {rr : Option Nat} {C : String} {T : u_T} {N : Nat} {hh : List (Nat × Nat × Nat × Nat)} (hG : ∀ s A, G.2.2 s A → th_Y s A) (hd : decode μ.2.1 pc = .ok (.invokevirtual idx, 3)) (hx : x_ob σ ci rr = some b) (hct : Cth G μ' d' (vR (some b) :: as) σ ic σ') (hic : ic = 89 ∨ ic = 114 ∨ ic = 131) (hdd : d' + 1 ≤ d) (hst : st0 = as.reverse ++ vR rr :: st) (hM : lt_M0 μ' as.length) (hlk : Cond.methodLink μ.1.cls idx μ'.1 ∈ lt_T) (hin : Cond.instanceMethod μ'.1 ∈ lt_T) (hse : Cond.selects C μ'.1 μ'.1 ∈ lt_T)
    (hci : ci < 1000) (hcl : lt_cl[ci]? = some (C, T, N)) (hcat : (st.map mcat).sum ≤ 8) (hcw : Cond.codeWith μ.1 μ.2.1 μ.2.2.1 μ.2.2.2 hh ∈ lt_T) (pre : List (Nat × Nat × Nat × Nat)) (x : Nat × Nat × Nat × Nat) (suf : List (Nat × Nat × Nat × Nat)) (hsplit : hh = pre ++ x :: suf)
    (hpass : ∀ z ∈ pre, z.2.2.2 ≠ 0 ∧ ∃ nm : String, Cond.classLink μ.1.cls z.2.2.2 nm ∈ lt_T ∧ (th_E ic, nm) ∈ th_nc) (hcov : x.1 ≤ pc ∧ pc < x.2.1) (h0 : x.2.2.2 ≠ 0) (hlink : Cond.classLink μ.1.cls x.2.2.2 (th_E ic) ∈ lt_T)
    (kk : ∀ q : Nat, Lk G μ d x.2.2.1 lo [vR (some q)] σ' mc ms X) : Lk G μ d pc lo st0 σ (mc + 1) (ms + 6) X := by
  obtain ⟨rfl, hs⟩ := x_ob_some hx
  intro p l e R s m args below meth c hC A hA hY Q hX H locs cells slots ls hl hH h1 h2
  have kk' := fun q H' locs' hH' => kk q p l e R s m args below meth c hC A hA hY Q hX H' locs' (cells + 1) (slots + 6) ls hl hH' (by omega) (by omega)
  obtain ⟨hex, hb, -, hml, hown, hts, hnw, hK, -, -, hfr, hlo, hOk, hTr, hnamed⟩ := hC
  obtain ⟨hw, -, hnc⟩ := hG s A hY s ⟨State.WarmedH.refl s, Nat.le_refl _, fun _ _ _ => rfl⟩
  have hP := hH.1.2 b _ hs
  unfold hv_at at hP
  rw [if_pos hci] at hP
  obtain ⟨r, hr, cell, z1, z2, z3, -⟩ := hP
  have hC1 : s.vm.findClass C = some cell.cls := by rw [z2]; exact (hK.1.1 ci _ hcl).2.1
  intro Tt hT Xs
  obtain ⟨mk, methM, hnM, hmM, hstM, habM⟩ := Cond.instanceMethod_spec (hts _ hin)
  obtain ⟨methM', cM, hmM', -, -, -, -, -, -, hsigM⟩ := Cond.code_spec hnM (hts _ hM.1)
  cases hmM.symm.trans hmM'
  obtain ⟨c2, r2, m2, q1, q2, q3, q4, kP, hkP, hkPi⟩ := Cond.selects_spec (hts _ hse)
  cases hC1.symm.trans q1
  cases (State.methodFound?_of_named hnM ⟨hM.2.2.1.1, hM.2.2.1.2.1⟩).symm.trans q2
  cases hnM.symm.trans q3
  have hsel : selectMethod e.platform s.vm cell.cls mk = .method mk := by rw [Launch.admits_selectMethod Xs.admits]; exact q4
  have hlen : (as.map mv).length = methM.sig.parameters.length := by
    have h9 := hM.2.2.1.2.2
    rw [hsigM] at h9
    rw [List.length_map]
    exact (Option.some.inj h9).symm
  have hstk : st0.map mv = (as.map mv).reverse ++ Value.ref b :: st.map mv := by rw [hst]; simp [mv, va_rf]
  rw [hstk]
  obtain ⟨vm₁, X₁, hstep⟩ := Xs.invokevirtual hex hown (hts _ hlk) hnM hmM hstM hkP hkPi ⟨hM.2.2.1.1, hM.2.2.1.2.1⟩ (a := b) (cell := cell) (by rw [hT]; exact z1)
    (fun k h => by rw [z3] at h; cases h) hsel hmM habM hkP hkPi (g := F0 m pc ls ((as.map mv).reverse ++ Value.ref b :: st.map mv)) rfl (argsL := as.map mv) (rest := st.map mv) hlen rfl (by rw [hb]; exact hd)
  have hPc : lt_Pc G ((vR (some b) :: as).map mv) σ ((vR (some b) :: as).map mv).toArray (Tt.setVm vm₁) := lt_pre hH hK hnw hOk hY (Tt.setVm vm₁) hT X₁.warmed
  obtain ⟨q, ce, T', L, X', ⟨k1, k2, k3, k4⟩, hL, ⟨e1, e2, e3⟩, hsteps⟩ := th_call (n := as.length) (len := 3) (ig := .invokevirtual idx) X₁ hTr hct hM hts (by omega) (by omega) (by omega) (by omega) (g := F0 m pc ls (st.map mv)) (mk := mk) rfl (hl.1.trans hml.symm) (by rw [hb]; exact hd) (lv_room (by rw [mk_cats]; exact hcat)) (X₁.named hnM) hPc
  have hcome : Steps p.tables e below (Tt.setTop (F0 m pc ls ((as.map mv).reverse ++ Value.ref b :: st.map mv))) ((T'.setTop (F0 m pc ls (st.map mv))).pushFrame (.throwing q)) := hstep _ fun acts => by rw [doInvoke_state]; exact hsteps
  obtain ⟨m9, meth9, c9, n1, n2, n3, -, -, n6, -⟩ := Cond.codeWith_spec (hts _ hcw)
  cases n1.symm.trans hnamed
  cases n2.symm.trans Xs.method
  cases n3.symm.trans Xs.code
  rw [hsplit] at n6
  obtain ⟨L1, y, L2, l1, l2, l3⟩ := th_split n6
  have hpl : e.platform.magicAccessors = ({} : Platform).magicAccessors := by rw [Xs.admits.platform]
  have hEc : s.vm.findClass (th_E ic) = some ce.cls := by
    have h9 := e3
    rw [X₁.warmed.alike.findClass] at h9
    exact h9
  have hy4 : y.catchType = x.2.2.2 := by rw [← l3]
  obtain ⟨cE, hcE, hclE⟩ := Cond.classLink_spec hown (hts _ hlink) e.platform hpl
  obtain ⟨ca, cb, f1, f2, f3⟩ := Cond.castable_spec (hw args _ (th_castable hic))
  cases Option.some.inj (f1.symm.trans hEc)
  cases Option.some.inj (f2.symm.trans hEc)
  cases Option.some.inj (hcE.symm.trans hEc)
  obtain ⟨kE, hkE, -⟩ := Vm.findClass_spec hEc
  obtain ⟨vm', XV, hfin⟩ := ch_caught X' q (g := F0 m pc ls (st.map mv)) rfl hcome e1 (by rw [e2]; rfl) ⟨kE, hkE⟩ L1 y L2 l1
    (fun z hz => by
      have hz2 : (z.startPc, z.endPc, z.handlerPc, z.catchType) ∈ pre := by rw [← l2]; exact List.mem_map.mpr ⟨z, hz, rfl⟩
      obtain ⟨g0, nm, g1, g2⟩ := hpass _ hz2
      obtain ⟨cN, hcN, hclN⟩ := Cond.classLink_spec hown (hts _ g1) e.platform hpl
      obtain ⟨a8, b8, j1, j2, j3⟩ := hnc _ g2
      cases Option.some.inj (j1.symm.trans hEc)
      cases Option.some.inj (j2.symm.trans hcN)
      exact ⟨g0, _, hclN, j3⟩)
    (by
      have y1 : y.startPc = x.1 := by rw [← l3]
      have y2 : y.endPc = x.2.1 := by rw [← l3]
      show covers y pc = true
      simp [covers, y1, y2, hcov.1, hcov.2])
    ⟨by rw [hy4]; exact h0, _, by rw [hy4]; exact hclE, f3⟩
  have hAA : ∀ q, lt_A σ q → A q := by
    intro q hq
    rcases hq with ⟨x9, hx9, h9⟩ | hq
    · exact hH.2.1 q x9 hx9 h9
    · exact hA q (Nat.le_trans hH.2.2.1 (by rw [hH.1.1]; exact hq))
  have hS := hH.2.2
  have hTh : (Tt.setVm vm₁).heap = H := hT
  rw [hTh] at k3 k4
  have hy3 : y.handlerPc = x.2.2.1 := by rw [← l3]
  obtain ⟨t2, a1, b1⟩ := kk' q T'.heap (locs ++ L) ⟨k1, fun a9 x9 hx9 h9 => hAA a9 (k2 a9 x9 hx9 h9), ⟨Nat.le_trans hS.1 k3, fun q9 h8 h9 => by rw [k4 q9 (Nat.lt_of_lt_of_le h8 hS.1) (fun z => h9 (hAA q9 z))]; exact hS.2.1 q9 h8 h9, fun q9 hq9 => by
      rcases List.mem_append.mp hq9 with h8 | h8
      · exact hS.2.2 q9 h8
      · exact hAA _ (hL q9 h8)⟩⟩ (T'.setVm vm') rfl XV
  rw [← hy3] at a1
  exact ⟨t2, hfin.trans a1, b1⟩
end TD
