/-! THE REFERENCE: next states and ends -/
def dI : Option (Option Nat) → Int32
  | none => -2
  | some e => oI e
section ME
variable {sh : Nat → Option (Nat × Nat)} {I : Nat → Nat → Int32} {J : Nat → Nat → Int64} {R : Nat → Nat → Option Nat} {n g lim : Nat} {P : pg_P} {T : tx_T}
/-- stamp + 1, fresh = 0 -/
theorem rr_new {S : Nat} (hS : S + 1 < 2 ^ 31) (h : sm_R I g S) : ∃ S1, S1 ≤ S ∧ I g 16 = nI S1 ∧ rr_R P (hv_u (hv_u I g 16 (nI (S1 + 1))) g 34 0) g (S1 + 1) (fun _ => false, []) := by
  obtain ⟨⟨S1, m, h1, h2⟩, hn⟩ := h
  refine ⟨S1, h1, h2.2.1, ⟨by rw [ev_us]; rfl, fun j e he => by simp [tr] at he⟩, fun _ => ?_, ⟨fun _ => false, ?_⟩, nw_mono (fun k => by rw [ev_ua (by omega), ev_ua (by omega)]) hn⟩
  · exact mm_R_mono (fun j => ev_ua (by omega)) (ev_uk (by omega)) (mm_R_inc (by omega) h2)
  · exact mm_R_mono (fun j => ev_ua (by omega)) (ev_uk (by omega)) (mm_R_inc (by omega) h2)
theorem rr_sm {S : Nat} {s : ro_T} (h : rr_R P I g S s) : sm_R I g S := by
  obtain ⟨-, -, ⟨m, hm⟩, hn⟩ := h
  exact ⟨⟨S, m, Nat.le_refl _, hm⟩, hn⟩
theorem sm_mono {I' : Nat → Nat → Int32} {S S' : Nat} (hS : S ≤ S') (h : ∀ a k, (a = g ∧ k = 16) ∨ a = g + 9 ∨ a = g + 13 → I' a k = I a k) (hs : sm_R I g S) : sm_R I' g S' := by
  obtain ⟨⟨S1, m, h1, h2⟩, hn⟩ := hs
  exact ⟨⟨S1, m, by omega, mm_R_mono (fun j => h _ _ (by omega)) (h _ _ (by omega)) h2⟩, nw_mono (fun k => h _ _ (by omega)) hn⟩
theorem sx_st {I' : Nat → Nat → Int32} (h : ∀ a k, (a ≠ g ∨ (k ≠ 27 ∧ k ≠ 28 ∧ k ≠ 29 ∧ k ≠ 36)) → (a < g + 18 ∨ g + 21 < a) → I' a k = I a k) : sx_K g I I' := fun a k h1 h2 => h a k (by omega) (by omega)
theorem e_Mo_firstState {S fed : Nat} {U : au_A} (hl : ly_M sh R g) (hl1 : 1 ≤ lim) (hlim : lim ≤ 19) (hW : pg_W P) (hfb : fed < 31) (hS : S + 1 < 2 ^ 31) (hp : mo_P I g P) (hf4 : I g 4 = nI fed) (hk : kp_R I g lim U) (hI : au_I P lim U) (hsf : U.2.2.1 < 3) (hs : sm_R I g S) :
    ∃ I', f_Mo_firstState g (sh, I, J, R, n) = some (oI (au_1 P lim U).1, (sh, I', J, R, n)) ∧ kp_R I' g lim (au_1 P lim U).2 ∧ sm_R I' g (S + 1) ∧ sx_K g I I' := by
  obtain ⟨S1, hS1, h16, hr⟩ := rr_new (P := P) hS hs
  have K0 : ∀ a k, (a ≠ g ∨ (k ≠ 16 ∧ k ≠ 34)) → (hv_u (hv_u I g 16 (nI (S1 + 1))) g 34 0) a k = I a k := fun a k h => by
    by_cases ha : a = g
    · rw [ev_uk (by omega), ev_uk (by omega)]
    · rw [ev_ua ha, ev_ua ha]
  unfold f_Mo_firstState
  simp only [ev_ob (ms_o hl), ev_b, ev_I, ev_sI, h16, nI_1]
  generalize hv_u (hv_u I g 16 (nI (S1 + 1))) g 34 0 = I0 at hr K0 ⊢
  have X0 : sx_K g I I0 := fun a k h1 h2 => K0 a k (by omega)
  have hk0 : kp_R I0 g lim U := by
    obtain ⟨q1, q2, q3, q4, q5, q6⟩ := hk
    exact ⟨(K0 _ _ (by omega)).trans q1, (K0 _ _ (by omega)).trans q2, (K0 _ _ (by omega)).trans q3, (K0 _ _ (by omega)).trans q4, (K0 _ _ (by omega)).trans q5, fun k s hks => ks_mono (hI.2 s (List.mem_of_getElem? hks)).1 (fun a j q => K0 _ _ (by omega)) (q6 k s hks)⟩
  obtain ⟨I1, e1, r1, K1⟩ := e_Mo_followRow (J := J) (n := n) (fst := true) hl hW hfb hW.1 (ro_J0 hW) (mo_P_s X0 hp) ((K0 _ _ (by omega)).trans hf4) hr
  have e1' : f_Mo_followRow g 0 1 (sh, I0, J, R, n) = some (sh, I1, J, R, n) := e1
  rw [if_pos rfl] at r1
  obtain ⟨I2, e2, k2, K2⟩ := e_Mo_stateOf (J := J) (n := n) (b := true) (m := (ro_F P 0 2 0 (fun _ => false, [])).1) (l := (ro_F P 0 2 0 (fun _ => false, [])).2) hl hl1 hlim hW (ro_FJ hW (ro_J0 hW) hW.1) r1.1 (kp_fr hI K1 hk0) hI hsf
  have e2' : f_Mo_stateOf g 1 (sh, I1, J, R, n) = _ := e2
  simp only [e1', ev_b, ev_ob (ms_o hl), e2']
  exact ⟨I2, rfl, k2, sm_mono (by omega) (fun a k h => K2 a k (by omega) (by omega)) (rr_sm r1), sx_trans X0 (sx_trans (sx_fr K1) (sx_st K2))⟩
theorem e_Mo_nloop {S fed c y : Nat} {s : au_S} (hl : ly_M sh R g) (hW : pg_W P) (hfb : fed < 31) (hc : c < 8) (hy : y < 19) (h25 : s.1.length ≤ 25) (hlt : ∀ e, e ∈ s.1 → e < P.1) :
    ∀ (rest pre : List Nat) (N : Nat) (s0 : ro_T) (I : Nat → Nat → Int32), rest.length < N → s.1 = pre ++ rest → mo_P I g P → I g 4 = nI fed → ks_R I g y s → rr_R P I g S s0 → ro_J P s0 →
    ∃ I', L_Mo_nextState_44 N (some g) (nI y) (nI c) (nI pre.length) (sh, I, J, R, n) = some (sh, I', J, R, n) ∧ rr_R P I' g S (ro_g P 1 2 (tkl P c) rest s0) ∧ fr_K g I I'
  | rest, pre, 0, _, _, h, _, _, _, _, _, _ => by omega
  | [], pre, N + 1, s0, I, hN, hs, hp, hf4, hks, hr, hJ => by
    rw [L_Mo_nextState_44]
    simp only [ev_ob (ms_o hl), ev_b, ev_R, mr_30 hl, ev_ar0 (ms_18 hl), ev_ix hy (show 19 < 2 ^ 31 by omega), ev_I, hks.1]
    rw [hs, List.append_nil] at h25 ⊢
    rw [if_pos (by rw [nI_leI (by omega) (by omega)]; exact Nat.le_refl _)]
    exact ⟨I, rfl, hr, fr_refl⟩
  | e :: rest, pre, N + 1, s0, I, hN, hs, hp, hf4, hks, hr, hJ => by
    have h49 := hW.2.1
    have hge : s.1[pre.length]? = some e := by rw [hs]; simp
    have hk := gl hge
    have he : e < P.1 := hlt e (List.mem_of_getElem? hge)
    have hrow := hks.2.1 _ _ hge
    obtain ⟨w7, wf, w2, w3, w4, w0⟩ := hW.2.2.1 e he
    have x1 := ev_ix (N := 1216) (k := 64 * y + pre.length) (by omega) (by omega)
    have x2 := ev_ix (N := 64) (k := e) (by omega) (by omega)
    rw [L_Mo_nextState_44]
    simp only [ev_ob (ms_o hl), ev_b, ev_R, mr_30 hl, ev_ar0 (ms_18 hl), ev_ix hy (show 19 < 2 ^ 31 by omega), ev_I, hks.1]
    rw [if_neg (by rw [nI_leI (by omega) (by omega)]; omega)]
    simp only [mr_31 hl, mr_7 hl, mr_8 hl, ev_ar0 (ms_19 hl), ev_ar0 (ms_3 hl), ev_ar0 (ms_4 hl), ev_b, li_64, pk_mul, nI_add, x1, hrow, x2, (hp.2 e he).1, (hp.2 e he).2.1, nI_1]
    unfold ro_g
    have hgo : ∃ I1, ((if nI (P.2.1 e) = 1 then (f_Mo_followRow g (nI (e + 1)) 0 (sh, I, J, R, n)).bind fun p14 => some p14 else if nI (P.2.1 e) = 0 then if nI (P.2.2.1 e) = nI c then (f_Mo_followRow g (nI (e + 1)) 0 (sh, I, J, R, n)).bind fun p18 => some p18 else some (sh, I, J, R, n) else some (sh, I, J, R, n)) : Option hv_S) = some (sh, I1, J, R, n) ∧ rr_R P I1 g S (if tkl P c e then ro_F P 1 2 (e + 1) s0 else s0) ∧ ro_J P (if tkl P c e then ro_F P 1 2 (e + 1) s0 else s0) ∧ fr_K g I I1 := by
      by_cases ht : tkl P c e = true
      · have h7e := tkl7 ht
        have he1 : e + 1 < P.1 := by
          have : ¬ e + 1 = P.1 := fun q => h7e (wf.2 q)
          omega
        rw [if_pos ht]
        obtain ⟨I1, e1, r1, K1⟩ := e_Mo_followRow (J := J) (n := n) (fst := false) (i := e + 1) hl hW hfb he1 hJ hp hf4 hr
        have e1' : f_Mo_followRow g (nI (e + 1)) 0 (sh, I, J, R, n) = some (sh, I1, J, R, n) := e1
        rw [e1']
        rw [if_neg (by simp)] at r1
        refine ⟨I1, ?_, r1, ro_FJ hW hJ he1, K1⟩
        unfold tkl at ht
        rw [decide_eq_true_eq] at ht
        rcases ht with h | ⟨h, h'⟩
        · rw [if_pos (by rw [h]; rfl)]; rfl
        · rw [if_neg (by rw [h]; decide), if_pos (by rw [h]; rfl), if_pos (by rw [h'])]; rfl
      · rw [if_neg ht]
        refine ⟨I, ?_, hr, hJ, fr_refl⟩
        unfold tkl at ht
        rw [decide_eq_true_eq] at ht
        rw [if_neg (by rw [li_1, nI_eq (by omega) (by omega)]; omega)]
        by_cases h0 : P.2.1 e = 0
        · rw [if_pos (by rw [h0]; rfl), if_neg (by rw [nI_eq (by have := w0 h0; omega) (by omega)]; omega)]
        · rw [if_neg (by rw [li_0, nI_eq (by omega) (by omega)]; exact h0)]
    obtain ⟨I1, e1, r1, hJ1, K1⟩ := hgo
    rw [e1, ev_b]
    obtain ⟨I2, e2, r2, K2⟩ := e_Mo_nloop hl hW hfb hc hy h25 hlt rest (pre ++ [e]) N _ I1 (by simp at hN; omega) (by rw [hs]; simp) (mo_P_f K1 hp) ((K1 _ _ (by omega) (by omega) (by omega)).trans hf4) (ks_mono h25 (fun a j q => K1 _ _ (by omega) (by omega) (by omega)) hks) r1 hJ1
    rw [List.length_append] at e2
    exact ⟨I2, e2, r2, fr_trans K1 K2⟩
theorem e_Mo_isFinal {y : Nat} {s : au_S} {m : Nat} (hl : ly_M sh R g) (hW : pg_W P) (hy : y < 19) (hp : mo_P I g P) (hks : ks_R I g y s) (hsI : au_sI P m s) : f_Mo_isFinal g (nI y) (sh, I, J, R, n) = some (bI (hf P s.1), (sh, I, J, R, n)) := by
  have h25 := hsI.1
  have e1 := e_Mo_hasFound (J := J) (n := n) (o := 64 * y) hl hW hp (ms_19 hl) (by omega) hks.2.1 hsI.2.2.1 hsI.2.1 (by omega)
  unfold f_Mo_isFinal
  simp only [ev_ob (ms_o hl), ev_b, ev_R, mr_30 hl, mr_31 hl, ev_ar0 (ms_18 hl), ev_ix hy (show 19 < 2 ^ 31 by omega), ev_I, hks.1, li_64, pk_mul, e1, x_zb]
theorem e_Mo_nextState {S fed c y B : Nat} {U : au_A} (hl : ly_M sh R g) (hl1 : 1 ≤ lim) (hlim : lim ≤ 19) (hW : pg_W P) (hfb : fed < 31) (hS : S + 1 < 2 ^ 31) (hc : c < 8) (hp : mo_P I g P) (hf4 : I g 4 = nI fed) (hk : kp_R I g lim U) (hV : au_V P lim B (some y) U) (hB : B < 2 ^ 30) (hs : sm_R I g S) :
    ∃ I', f_Mo_nextState g (nI y) (nI c) (sh, I, J, R, n) = some (oI (au_n P lim c y U).1, (sh, I', J, R, n)) ∧ kp_R I' g lim (au_n P lim c y U).2 ∧ sm_R I' g (S + 1) ∧ sx_K g I I' := by
  obtain ⟨hI, hfl, h3, hx, hy⟩ := hV
  have hy := hy y rfl
  have hsf : U.2.2.1 < 3 := by
    by_cases h : U.2.2.1 < 3
    · exact h
    · cases hx.2 h
  have hlen := hI.1
  have hy19 : y < 19 := by omega
  have hss : U.1[y]? = some U.1[y] := List.getElem?_eq_getElem hy
  have hks := hk.2.2.2.2.2 y _ hss
  have hsI := hI.2 _ (List.mem_of_getElem? hss)
  generalize U.1[y] = s at hss hks hsI
  have x1 := ev_ix (N := 152) (k := 8 * y + c) (by omega) (by omega)
  unfold f_Mo_nextState
  simp only [ev_ob (ms_o hl), ev_b, ev_R, mr_33 hl, ev_ar0 (ms_21 hl), li_8, pk_mul, nI_add, x1, ev_I, hks.2.2.2 c hc]
  unfold au_n
  rw [hss]
  dsimp only
  match hld : s.2.2 c with
  | some j =>
    have hj := hsI.2.2.2 c j hld
    rw [if_neg (show ¬ oI (some j) = -1 by show ¬ nI j = -1; rw [ev_n1 (by omega)]; exact not_false), if_pos (by simp)]
    exact ⟨I, rfl, hk, sm_mono (by omega) (fun _ _ _ => rfl) hs, sx_refl⟩
  | none =>
    rw [if_pos (show oI none = -1 from rfl), if_neg (by simp)]
    obtain ⟨S1, hS1, h16, hr⟩ := rr_new (P := P) hS hs
    have K0 : ∀ a k, (a ≠ g ∨ (k ≠ 16 ∧ k ≠ 34)) → (hv_u (hv_u I g 16 (nI (S1 + 1))) g 34 0) a k = I a k := fun a k h => by
      by_cases ha : a = g
      · rw [ev_uk (by omega), ev_uk (by omega)]
      · rw [ev_ua ha, ev_ua ha]
    simp only [ev_sI, h16, nI_1]
    generalize hv_u (hv_u I g 16 (nI (S1 + 1))) g 34 0 = I0 at hr K0 ⊢
    have X0 : sx_K g I I0 := fun a k h1 h2 => K0 a k (by omega)
    have hk0 : kp_R I0 g lim U := by
      obtain ⟨q1, q2, q3, q4, q5, q6⟩ := hk
      exact ⟨(K0 _ _ (by omega)).trans q1, (K0 _ _ (by omega)).trans q2, (K0 _ _ (by omega)).trans q3, (K0 _ _ (by omega)).trans q4, (K0 _ _ (by omega)).trans q5, fun k s hks => ks_mono (hI.2 s (List.mem_of_getElem? hks)).1 (fun a j q => K0 _ _ (by omega)) (q6 k s hks)⟩
    have hp0 := mo_P_s X0 hp
    have hf0 : I0 g 4 = nI fed := (K0 _ _ (by omega)).trans hf4
    obtain ⟨I1, e1, r1, K1⟩ := e_Mo_nloop (J := J) (n := n) (c := c) hl hW hfb hc hy19 hsI.1 hsI.2.1 s.1 [] 100000 (fun _ => false, []) I0 (by have := hsI.1; omega) rfl hp0 hf0 (hk0.2.2.2.2.2 y s hss) hr (ro_J0 hW)
    have e1' : L_Mo_nextState_44 100000 (some g) (nI y) (nI c) 0 (sh, I0, J, R, n) = some (sh, I1, J, R, n) := e1
    have r1 : rr_R P I1 g (S1 + 1) (au_r P c s) := r1
    have hp1 := mo_P_f K1 hp0
    have hf1 : I1 g 4 = nI fed := (K1 _ _ (by omega) (by omega) (by omega)).trans hf0
    have hk1 := kp_fr hI K1 hk0
    have hks1 := hk1.2.2.2.2.2 y s hss
    have hJ0 : ro_J P (au_r P c s) := ro_gJ hW (fun e h => tkl7 h) s.1 _ hsI.2.1 (ro_J0 hW)
    have e2 := e_Mo_isFinal (J := J) (n := n) hl hW hy19 hp1 hks1 hsI
    have e3 : ((if bI s.2.1 = 0 then some (0, (sh, I1, J, R, n)) else (f_Mo_isFinal g (nI y) (sh, I1, J, R, n)).bind fun p24 => if p24.1 = 0 then some (1, p24.2) else some (0, p24.2)) : Option (Int32 × hv_S)) = some (bI (au_o P s), (sh, I1, J, R, n)) := by
      rw [e2]
      unfold au_o
      cases s.2.1 <;> cases hf P s.1 <;> rfl
    have e4 : ∃ I2, ((if bI (au_o P s) = 0 then some (sh, I1, J, R, n) else (x_ob (sh, I1, J, R, n) 11 (some g)).bind fun a26 => (f_Mo_followRow a26 0 0 (sh, I1, J, R, n)).bind fun p27 => some p27) : Option hv_S) = some (sh, I2, J, R, n) ∧ rr_R P I2 g (S1 + 1) (au_r2 P c s) ∧ fr_K g I1 I2 := by
      unfold au_r2
      by_cases ho : au_o P s = true
      · rw [ho, if_neg (show ¬ bI true = 0 by decide), if_pos rfl]
        obtain ⟨I2, e2, r2, K2⟩ := e_Mo_followRow (J := J) (n := n) (fst := false) (i := 0) hl hW hfb hW.1 hJ0 hp1 hf1 r1
        have e2' : f_Mo_followRow g 0 0 (sh, I1, J, R, n) = some (sh, I2, J, R, n) := e2
        simp only [ev_ob (ms_o hl), ev_b, e2']
        rw [if_neg (by simp)] at r2
        exact ⟨I2, rfl, r2, K2⟩
      · have ho' : au_o P s = false := by simpa using ho
        rw [ho', if_pos (show bI false = 0 by decide), if_neg (by simp)]
        exact ⟨I1, rfl, r1, fr_refl⟩
    obtain ⟨I2, e4, r2, K2⟩ := e4
    have hk2 := kp_fr hI K2 hk1
    have hJ2 := au_rJ (c := c) hW hsI
    obtain ⟨I3, e5, k3, K3⟩ := e_Mo_stateOf (J := J) (n := n) (b := au_o P s) (m := (au_r2 P c s).1) (l := (au_r2 P c s).2) hl hl1 hlim hW hJ2 r2.1 hk2 hI hsf
    obtain ⟨k1, k2, k3'⟩ := au_kI (b := au_o P s) hl1 hJ2 hI rfl
    obtain ⟨z1, z2, z3⟩ := au_ksf (lim := lim) (r := tr P (au_r2 P c s).2) (b := au_o P s) hsf
    simp only [e1', ev_b, ev_ob (ms_o hl), ev_R, mr_32 hl, ev_ar3 (ms_20 hl), ev_ix hy19 (show 19 < 2 ^ 31 by omega), ev_I, hks1.2.2.1]
    rw [e3, ev_b]
    simp only [ev_b, ev_ob (ms_o hl)] at e4
    simp only [ev_ob (ms_o hl), ev_b]
    rw [e4, ev_b]
    simp only [ev_ob (ms_o hl), ev_b, ev_I, e5, hk2.2.1, k3.2.1, ev_R, mr_33 hl, ev_ar0 (ms_21 hl), li_8, pk_mul, nI_add, x1, ev_sI]
    have XX : sx_K g I I3 := sx_trans X0 (sx_trans (sx_fr K1) (sx_trans (sx_fr K2) (sx_st K3)))
    have hsm3 : sm_R I3 g (S + 1) := sm_mono (by omega) (fun a k h => K3 a k (by omega) (by omega)) (rr_sm r2)
    generalize hq : au_k lim (tr P (au_r2 P c s).2) (au_o P s) U = q at *
    unfold au_w
    by_cases hflq : q.2.2.1 = U.2.1
    · rw [if_pos (by rw [hflq]), if_pos hflq, ev_b]
      obtain ⟨⟨v, hv⟩, K, hK⟩ := k3' hflq
      have hylq : y < q.2.1.length := by rw [hK, List.length_append]; omega
      have hqy : q.2.1[y]? = some s := by rw [hK, List.getElem?_append_left hy]; exact hss
      have hql := k1.1
      obtain ⟨w1, w2, w3, w4, w5, w6⟩ := k3
      have H : ∀ a k, (a ≠ g + 21 ∨ k ≠ 8 * y + c) → (hv_u I3 (g + 21) (8 * y + c) (oI q.1)) a k = I3 a k := fun a k h => by
        rcases h with h | h
        · rw [ev_ua h]
        · rw [ev_uk h]
      refine ⟨_, rfl, ⟨?_, (H _ _ (by omega)).trans w2, (H _ _ (by omega)).trans w3, (H _ _ (by omega)).trans w4, (H _ _ (by omega)).trans w5, fun k s' hs' => ?_⟩, sm_mono (by omega) (fun a k h => H _ _ (by omega)) hsm3, sx_trans XX (fun a k h1 h2 => H _ _ (by omega))⟩
      · rw [H _ _ (by omega), w1]
        show _ = nI (q.2.1.set y _).length
        rw [List.length_set]
      · have hs' : (q.2.1.set y (s.1, s.2.1, fun j => if j = c then q.1 else s.2.2 j))[k]? = some s' := hs'
        rw [List.getElem?_set] at hs'
        by_cases hky : y = k
        · subst hky
          rw [if_pos rfl, if_pos hylq] at hs'
          injection hs' with hs'
          subst hs'
          obtain ⟨t1, t2, t3, t4⟩ := w6 y s hqy
          refine ⟨(H _ _ (by omega)).trans t1, fun j e he => (H _ _ (by omega)).trans (t2 j e he), (H _ _ (by omega)).trans t3, fun j hj => ?_⟩
          show _ = oI (if j = c then q.1 else s.2.2 j)
          by_cases e : j = c
          · rw [if_pos e, e, ev_us]
          · rw [if_neg e, H _ _ (by omega)]; exact t4 j hj
        · rw [if_neg hky] at hs'
          exact ks_mono (k1.2 s' (List.mem_of_getElem? hs')).1 (fun a j q => H _ _ (by omega)) (w6 k s' hs')
    · rw [if_neg (by rw [nI_eq (by omega) (by omega)]; exact hflq), if_neg hflq]
      exact ⟨I3, rfl, k3, hsm3, XX⟩
end ME
