/-! THE REFERENCE: where the last match ends -/
def eb_K (g : Nat) (I I' : Nat → Nat → Int32) : Prop := ∀ a k, (a ≠ g ∨ k ≠ 18) → (a < g + 9 ∨ g + 16 < a) → I' a k = I a k
section MB
variable {sh : Nat → Option (Nat × Nat)} {I : Nat → Nat → Int32} {J : Nat → Nat → Int64} {R : Nat → Nat → Option Nat} {n g lim : Nat} {P : pg_P} {T : tx_T}
theorem e_Mo_h80 {l : List (Nat × Int64)} {xa xb : Int32} (hl : ly_M sh R g) (hW : pg_W P) (hp : mo_P I g P) (h25 : l.length ≤ 25) (hlt : ∀ e, e ∈ l → e.1 < P.1) (hm : ml_R I g 0 l) :
    ∀ (rest pre : List (Nat × Int64)) (N : Nat) (f : Bool), rest.length < N → l = pre ++ rest →
    L_Mo_endsBehind_80 N (some g) xa (bI f) xb (nI pre.length) (sh, I, J, R, n) = some (bI (f || hf P (rest.map (fun e => e.1))), (sh, I, J, R, n))
  | rest, pre, 0, _, h, _ => by omega
  | [], pre, N + 1, f, hN, hs => by
    have x0 : x_ix 2 0 = some 0 := by decide
    rw [L_Mo_endsBehind_80]
    simp only [ev_ob (ms_o hl), ev_b, ev_R, mr_23 hl, ev_ar0 (ms_14 hl), x0, ev_I, hm.1]
    rw [hs, List.append_nil] at h25 ⊢
    rw [if_pos (by rw [nI_leI (by omega) (by omega)]; exact Nat.le_refl _)]
    simp [hf]
  | e :: rest, pre, N + 1, f, hN, hs => by
    have h49 := hW.2.1
    have x0 : x_ix 2 0 = some 0 := by decide
    have hge : l[pre.length]? = some e := by rw [hs]; simp
    have hk := gl hge
    have he : e.1 < P.1 := hlt e (List.mem_of_getElem? hge)
    have hk7 := (hW.2.2.1 e.1 he).1
    have hen := (hm.2 _ _ hge).1
    rw [Nat.mul_zero, Nat.zero_add] at hen
    have x1 := ev_ix (N := 128) (k := pre.length) (by omega) (by omega)
    have x2 := ev_ix (N := 64) (k := e.1) (by omega) (by omega)
    rw [L_Mo_endsBehind_80]
    simp only [ev_ob (ms_o hl), ev_b, ev_R, mr_23 hl, ev_ar0 (ms_14 hl), x0, ev_I, hm.1]
    rw [if_neg (by rw [nI_leI (by omega) (by omega)]; omega)]
    have ee : ((if bI f = 0 then (x_ar (sh, I, J, R, n) 0 (some (g + 15))).bind fun q19 => (x_ix q19.2 (nI pre.length)).bind fun k20 => (x_ar (sh, I, J, R, n) 0 (some (g + 3))).bind fun q21 => (x_ix q21.2 (I q19.1 k20)).bind fun k22 => if I q21.1 k22 = 7 then some 1 else some 0 else some 1) : Option Int32) = some (bI (f || decide (P.2.1 e.1 = 7))) := by
      cases f with
      | true => rw [if_neg (show ¬ bI true = 0 by decide), Bool.true_or]; rfl
      | false =>
        rw [if_pos (show bI false = 0 by decide), Bool.false_or]
        simp only [ev_ar0 (ms_15 hl), ev_ar0 (ms_3 hl), ev_b, x1, hen, x2, (hp.2 e.1 he).1]
        by_cases h7 : P.2.1 e.1 = 7
        · rw [if_pos (by rw [h7]; rfl), decide_eq_true h7]; rfl
        · rw [if_neg (by rw [li_7, nI_eq (by omega) (by omega)]; exact h7), decide_eq_false h7]; rfl
    simp only [mr_24 hl, mr_7 hl]
    rw [ee, ev_b, nI_1]
    have ih := e_Mo_h80 (xa := xa) (xb := xb) hl hW hp h25 hlt hm rest (pre ++ [e]) N (f || decide (P.2.1 e.1 = 7)) (by simp at hN; omega) (by rw [hs]; simp)
    rw [List.length_append] at ih
    rw [show (f || hf P ((e :: rest).map (fun e => e.1))) = (f || decide (P.2.1 e.1 = 7) || hf P (rest.map (fun e => e.1))) from by rw [List.map_cons, hf_c, Bool.or_assoc]]
    exact ih
theorem e_Mo_bloop {S y : Nat} {s : au_S} (hl : ly_M sh R g) (hW : pg_W P) (hT : T.1 ≤ 20) (hy : y < 19) (h25 : s.1.length ≤ 25) (hlt : ∀ e, e ∈ s.1 → e < P.1) :
    ∀ (rest pre : List Nat) (N : Nat) (M : Nat → Bool) (L : List Nat) (I : Nat → Nat → Int32), rest.length < N → s.1 = pre ++ rest → mo_P I g P → I g 4 = nI T.1 → ks_R I g y s → mm_R I g S M → ro_J P (M, L) → nw_R I g →
    ∃ I', L_Mo_endsBehind_14 N (some g) (nI y) (bI (hf P L)) (nI pre.length) (sh, I, J, R, n) = some (bI (hf P (ro_g P T.1 1 (fun e => decide (P.2.1 e = 6)) rest (M, L)).2), (sh, I', J, R, n)) ∧ (∃ M', mm_R I' g S M') ∧ nw_R I' g ∧ eb_K g I I'
  | rest, pre, 0, _, _, _, h, _, _, _, _, _, _, _ => by omega
  | [], pre, N + 1, M, L, I, hN, hs, hp, hf4, hks, hm, hJ, hn => by
    rw [L_Mo_endsBehind_14]
    simp only [ev_ob (ms_o hl), ev_b, ev_R, mr_30 hl, ev_ar0 (ms_18 hl), ev_ix hy (show 19 < 2 ^ 31 by omega), ev_I, hks.1]
    rw [hs, List.append_nil] at h25 ⊢
    rw [if_pos (by rw [nI_leI (by omega) (by omega)]; exact Nat.le_refl _)]
    exact ⟨I, rfl, ⟨M, hm⟩, hn, fun _ _ _ _ => rfl⟩
  | e :: rest, pre, N + 1, M, L, I, hN, hs, hp, hf4, hks, hm, hJ, hn => by
    have h49 := hW.2.1
    have x0 : x_ix 2 0 = some 0 := by decide
    have hge : s.1[pre.length]? = some e := by rw [hs]; simp
    have hk := gl hge
    have he : e < P.1 := hlt e (List.mem_of_getElem? hge)
    have hrow := hks.2.1 _ _ hge
    obtain ⟨w7, wf, w2, w3, w4, w0⟩ := hW.2.2.1 e he
    have x1 := ev_ix (N := 1216) (k := 64 * y + pre.length) (by omega) (by omega)
    have x2 := ev_ix (N := 64) (k := e) (by omega) (by omega)
    rw [L_Mo_endsBehind_14]
    simp only [ev_ob (ms_o hl), ev_b, ev_R, mr_30 hl, ev_ar0 (ms_18 hl), ev_ix hy (show 19 < 2 ^ 31 by omega), ev_I, hks.1]
    rw [if_neg (by rw [nI_leI (by omega) (by omega)]; omega)]
    simp only [mr_31 hl, mr_7 hl, ev_ar0 (ms_19 hl), ev_ar0 (ms_3 hl), ev_b, li_64, pk_mul, nI_add, x1, hrow, x2, (hp.2 e he).1]
    unfold ro_g
    by_cases h6 : P.2.1 e = 6
    · have he1 : e + 1 < P.1 := by
        have : ¬ e + 1 = P.1 := fun q => by have := wf.2 q; omega
        omega
      rw [if_pos (by rw [h6]; rfl), if_pos (decide_eq_true h6)]
      have K0 : ∀ a k, (a ≠ g + 14 ∨ k ≠ 0) → (hv_u I (g + 14) 0 0) a k = I a k := fun a k h => by
        rcases h with h | h
        · rw [ev_ua h]
        · rw [ev_uk h]
      have hml0 : ml_R (hv_u I (g + 14) 0 0) g 0 [] := ⟨by rw [ev_us]; rfl, fun k e he => by simp at he⟩
      simp only [mr_23 hl, ev_ar0 (ms_14 hl), ev_b, x0, ev_sI, ev_R, mr_31 hl, ev_ar0 (ms_19 hl), x1, ev_I, ev_ua (show g + 19 ≠ g + 14 by omega), ev_ua (show g ≠ g + 14 by omega), hrow, hf4, nI_1]
      generalize hv_u I (g + 14) 0 0 = I0 at K0 hml0 ⊢
      have E0 : eb_K g I I0 := fun a k h1 h2 => K0 a k (by omega)
      obtain ⟨w, hw⟩ := hn
      have hp0 : mo_P I0 g P := by
        obtain ⟨p0, p1⟩ := hp
        refine ⟨(K0 _ _ (by omega)).trans p0, fun i hi => ?_⟩
        obtain ⟨a, b, c⟩ := p1 i hi
        exact ⟨(K0 _ _ (by omega)).trans a, (K0 _ _ (by omega)).trans b, (K0 _ _ (by omega)).trans c⟩
      have hz0 : ro_J P (er2 (M, false, ([] : List (Nat × Int64)))) := ⟨by have := hJ.1; simp only [er2] at this ⊢; simp; omega, fun e he => by simp [er2] at he⟩
      obtain ⟨I1, e1, m1, l1, K1, n1⟩ := e_Mo_followN (J := J) (n := n) (i := e + 1) (w := w) (pl := T.1) (fed := T.1) (li := 0) (s := (M, false, [])) hl hW (by omega) (by omega) (by omega) he1 (er_J hz0) hp0 ((K0 _ _ (by omega)).trans hf4) (fun k hk => (K0 _ _ (by omega)).trans (hw k hk)) (mm_R_mono (fun j => K0 _ _ (by omega)) (K0 _ _ (by omega)) hm) hml0
      rw [if_pos rfl] at m1 l1
      have eF := er_F (P := P) (pl := T.1) (ru := 1) (i := e + 1) (w := w) (s := (M, false, []))
      have eF1 : er2 (M, false, ([] : List (Nat × Int64))) = (M, []) := rfl
      rw [eF1] at eF
      have hJF := ro_FJ (pl := T.1) (ru := 1) hW hz0 he1
      rw [eF1, ← eF] at hJF
      have hJFo := er_J hJF
      have hp1 := mo_P_K K1 hp0
      have e1' : f_Mo_follow g (nI (e + 1)) (nI T.1) 0 (sh, I0, J, R, n) = some (sh, I1, J, R, n) := e1
      have e2 := e_Mo_h80 (J := J) (n := n) (xa := nI y) (xb := nI pre.length) hl hW hp1 (by have := hJFo.1; omega) hJFo.2 l1 (fo_F P T.1 1 (e + 1) w (M, false, [])).2.2 [] 100000 (hf P L) (by have := hJFo.1; omega) rfl
      have e2' : L_Mo_endsBehind_80 100000 (some g) (nI y) (bI (hf P L)) (nI pre.length) 0 (sh, I1, J, R, n) = _ := e2
      rw [e1', ev_b, e2', ev_b]
      have hL2 : (ro_F P T.1 1 (e + 1) (M, L)) = ((fo_F P T.1 1 (e + 1) w (M, false, [])).1, L ++ (fo_F P T.1 1 (e + 1) w (M, false, [])).2.2.map (fun e => e.1)) := by
        rw [ro_Fapp, ← eF]; rfl
      have hJ2 := ro_FJ (pl := T.1) (ru := 1) hW hJ he1
      rw [hL2] at hJ2 ⊢
      have E1 : eb_K g I I1 := fun a k h1 h2 => (K1 a k h1 (by omega) (by omega) (by omega) (by omega)).trans (K0 a k (by omega))
      obtain ⟨I2, e3, m3, n3, K3⟩ := e_Mo_bloop hl hW hT hy h25 hlt rest (pre ++ [e]) N _ _ I1 (by simp at hN; omega) (by rw [hs]; simp) hp1 ((E1 _ _ (by omega) (by omega)).trans hf4) (ks_mono h25 (fun a j q => E1 _ _ (by omega) (by omega)) hks) m1 hJ2 n1
      rw [List.length_append, hf_a] at e3
      rw [ev_b]
      exact ⟨I2, e3, m3, n3, fun a k h1 h2 => (K3 a k h1 h2).trans (E1 a k h1 h2)⟩
    · rw [if_neg (by rw [li_6, nI_eq (by omega) (by omega)]; exact h6), if_neg (by simpa using h6), ev_b, nI_1]
      obtain ⟨I2, e3, m3, n3, K3⟩ := e_Mo_bloop hl hW hT hy h25 hlt rest (pre ++ [e]) N M L I (by simp at hN; omega) (by rw [hs]; simp) hp hf4 hks hm hJ hn
      rw [List.length_append] at e3
      exact ⟨I2, e3, m3, n3, K3⟩
theorem e_Mo_endsBehind {S y : Nat} {s : au_S} {U : au_A} (hl : ly_M sh R g) (hW : pg_W P) (hlim : lim ≤ 19) (hS : S + 1 < 2 ^ 31) (hI : au_I P lim U) (hs : U.1[y]? = some s) (hp : mo_P I g P) (ht : mo_X I g T) (hk : kp_R I g lim U) (hsm : sm_R I g S) :
    ∃ I', f_Mo_endsBehind g (nI y) (sh, I, J, R, n) = some (bI (au_b P T s.1), (sh, I', J, R, n)) ∧ kp_R I' g lim U ∧ sm_R I' g (S + 1) ∧ sx_K g I I' := by
  have hsI := hI.2 s (List.mem_of_getElem? hs)
  have hy : y < 19 := by have := gl hs; have := hI.1; omega
  obtain ⟨⟨S1, m, hS1, hm⟩, hn⟩ := hsm
  have K0 : ∀ a k, (a ≠ g ∨ k ≠ 16) → (hv_u I g 16 (nI (S1 + 1))) a k = I a k := fun a k h => by
    rcases h with h | h
    · rw [ev_ua h]
    · rw [ev_uk h]
  have hm0 := mm_R_inc (by omega) hm
  have h16 := hm.2.1
  unfold f_Mo_endsBehind
  simp only [ev_ob (ms_o hl), ev_b, ev_I, ev_sI, h16, nI_1]
  generalize hv_u I g 16 (nI (S1 + 1)) = I0 at K0 hm0 ⊢
  have X0 : sx_K g I I0 := fun a k h1 h2 => K0 a k (by omega)
  have kpE : ∀ I1, (∀ a k, (a ≠ g ∨ (k ≠ 16 ∧ k ≠ 18)) → (a < g + 9 ∨ g + 16 < a) → I1 a k = I a k) → kp_R I1 g lim U := fun I1 h => by
    obtain ⟨q1, q2, q3, q4, q5, q6⟩ := hk
    exact ⟨(h _ _ (by omega) (by omega)).trans q1, (h _ _ (by omega) (by omega)).trans q2, (h _ _ (by omega) (by omega)).trans q3, (h _ _ (by omega) (by omega)).trans q4, (h _ _ (by omega) (by omega)).trans q5, fun k s hks => ks_mono (hI.2 s (List.mem_of_getElem? hks)).1 (fun a j q => h _ _ (by omega) (by omega)) (q6 k s hks)⟩
  have hk0 := kpE I0 (fun a k h1 h2 => K0 a k (by omega))
  obtain ⟨I1, e1, ⟨M1, m1⟩, n1, K1⟩ := e_Mo_bloop (J := J) (n := n) (T := T) hl hW ht.2.1 hy hsI.1 hsI.2.1 s.1 [] 100000 (fun _ => false) [] I0 (by have := hsI.1; omega) rfl (mo_P_s X0 hp) (mo_X_s X0 ht).1 (hk0.2.2.2.2.2 y s hs) hm0 (ro_J0 hW) (nw_mono (fun k => K0 _ _ (by omega)) hn)
  have e1' : L_Mo_endsBehind_14 100000 (some g) (nI y) 0 0 (sh, I0, J, R, n) = _ := e1
  rw [e1', ev_b, x_zb, ev_b]
  exact ⟨I1, rfl, kpE I1 (fun a k h1 h2 => (K1 a k (by omega) (by omega)).trans (K0 a k (by omega))), ⟨⟨S1 + 1, M1, by omega, m1⟩, n1⟩, sx_trans X0 (fun a k h1 h2 => K1 a k (by omega) (by omega))⟩
theorem e_Mo_eloop {B : Nat} (hl : ly_M sh R g) (hl1 : 1 ≤ lim) (hlim : lim ≤ 19) (hW : pg_W P) (hB : B < 2 ^ 30) :
    ∀ (k N p S : Nat) (en xo : Option Nat) (U : au_A) (I : Nat → Nat → Int32), k < N → p + k = T.1 + 1 → 1 ≤ k → S + 2 * k < 2 ^ 31 → mo_P I g P → mo_X I g T → au_V P lim B xo U → kp_R I g lim U → sm_R I g S →
    ∃ I', ((L_Mo_endByStates_14 N (some g) (oI en) (oI xo) (nI p) (sh, I, J, R, n)).bind fun e20r => e20r.elim (fun e20 => some (((-2) : Int32), e20)) (fun w => some w)) = some (dI (au_e P T lim k p en xo U).1, (sh, I', J, R, n)) ∧ kp_R I' g lim (au_e P T lim k p en xo U).2 ∧ sm_R I' g (S + 2 * k) ∧ sx_K g I I'
  | k, 0, _, _, _, _, _, _, h, _, _, _, _, _, _, _, _ => by omega
  | 0, N + 1, p, S, en, xo, U, I, hN, hpk, hk1, _, _, _, _, _, _ => by omega
  | k + 1, N + 1, p, S, en, none, U, I, hN, hpk, hk1, hS, hp, ht, hV, hk, hs => by
    have t20 := ht.2.1
    rw [L_Mo_endByStates_14]
    simp only [ev_ob (ms_o hl), ev_b, ev_I, ht.1]
    rw [if_neg (by rw [nI_ltI (by omega) (by omega)]; omega), if_pos (show oI none = -1 from rfl)]
    exact ⟨I, rfl, hk, sm_mono (by omega) (fun _ _ _ => rfl) hs, sx_refl⟩
  | k + 1, N + 1, p, S, en, some y, U, I, hN, hpk, hk1, hS, hp, ht, hV, hk, hsm => by
    have t20 := ht.2.1
    have hVV := hV
    obtain ⟨hI, hfl, h3, hxo, hy⟩ := hV
    have hy := hy y rfl
    have hlen := hI.1
    have hy19 : y < 19 := by omega
    have hss : U.1[y]? = some U.1[y] := List.getElem?_eq_getElem hy
    have hks := hk.2.2.2.2.2 y _ hss
    have hsI := hI.2 _ (List.mem_of_getElem? hss)
    generalize U.1[y] = s at hss hks hsI
    have hae : au_e P T lim (k + 1) p en (some y) U = if p = T.1 ∨ (s.2.1 = false ∧ s.1 = []) then (some (au_en P T p s en), U) else au_e P T lim k (p + 1) (au_en P T p s en) (au_n P lim (T.2 p) y U).1 (au_n P lim (T.2 p) y U).2 := by
      conv => lhs; unfold au_e
      rw [hss]
    rw [L_Mo_endByStates_14]
    simp only [ev_ob (ms_o hl), ev_b, ev_I, ht.1]
    rw [if_neg (by rw [nI_ltI (by omega) (by omega)]; omega), if_neg (show ¬ oI (some y) = -1 by show ¬ nI y = -1; rw [ev_n1 (by omega)]; exact not_false)]
    have e0 := e_Mo_isFinal (J := J) (n := n) hl hW hy19 hp hks hsI
    have e0' : f_Mo_isFinal g (oI (some y)) (sh, I, J, R, n) = some (bI (hf P s.1), (sh, I, J, R, n)) := e0
    rw [e0', ev_b]
    have e1 : ∃ I1, ((if bI (hf P s.1) = 0 then (x_ob (sh, I, J, R, n) 11 (some g)).bind fun a6 => if nI p = hv_I (sh, I, J, R, n) a6 4 then (f_Mo_endsBehind a6 (oI (some y)) (sh, I, J, R, n)).bind fun p7 => if p7.1 = 0 then some (oI en, p7.2) else some (nI p, p7.2) else some (oI en, (sh, I, J, R, n)) else some (nI p, (sh, I, J, R, n))) : Option (Int32 × hv_S)) = some (oI (au_en P T p s en), (sh, I1, J, R, n)) ∧ kp_R I1 g lim U ∧ sm_R I1 g (S + 1) ∧ sx_K g I I1 := by
      have hsm1 : sm_R I g (S + 1) := sm_mono (by omega) (fun _ _ _ => rfl) hsm
      unfold au_en
      by_cases hf1 : hf P s.1 = true
      · rw [hf1, if_neg (show ¬ bI true = 0 by decide), Bool.true_or, if_pos rfl]
        exact ⟨I, rfl, hk, hsm1, sx_refl⟩
      · have hf0 : hf P s.1 = false := by simpa using hf1
        rw [hf0, if_pos (show bI false = 0 by decide), Bool.false_or]
        simp only [ev_ob (ms_o hl), ev_b, ev_I, ht.1]
        by_cases hpe : p = T.1
        · rw [if_pos (by rw [hpe]), decide_eq_true hpe, Bool.true_and]
          obtain ⟨I1, e1, k1, m1, K1⟩ := e_Mo_endsBehind (J := J) (n := n) hl hW hlim (show S + 1 < 2 ^ 31 by omega) hI hss hp ht hk hsm
          have e1' : f_Mo_endsBehind g (oI (some y)) (sh, I, J, R, n) = _ := e1
          rw [e1', ev_b]
          cases hb : au_b P T s.1 with
          | true => exact ⟨I1, by rw [if_neg (show ¬ bI true = 0 by decide)]; rfl, k1, m1, K1⟩
          | false => exact ⟨I1, by rw [if_pos (show bI false = 0 by decide)]; rfl, k1, m1, K1⟩
        · rw [if_neg (by rw [nI_eq (by omega) (by omega)]; exact hpe), decide_eq_false hpe, Bool.false_and]
          exact ⟨I, rfl, hk, hsm1, sx_refl⟩
    obtain ⟨I1, e1, k1, m1, K1⟩ := e1
    simp only [ev_ob (ms_o hl), ev_b, ev_I] at e1
    simp only [ev_ob (ms_o hl), ev_b, ev_I]
    rw [e1, ev_b]
    have hp1 := mo_P_s K1 hp
    have ht1 := mo_X_s K1 ht
    have hks1 := k1.2.2.2.2.2 y s hss
    simp only [ev_ob (ms_o hl), ev_b, ev_I, ht1.1]
    by_cases hpe : p = T.1
    · rw [if_pos (by rw [hpe]), hae, if_pos (Or.inl hpe)]
      exact ⟨I1, rfl, k1, sm_mono (by omega) (fun _ _ _ => rfl) m1, K1⟩
    · rw [if_neg (by rw [nI_eq (by omega) (by omega)]; exact hpe)]
      have hpT : p < T.1 := by omega
      have xs : x_ix 19 (oI (some y)) = some y := ev_ix hy19 (by omega)
      have xp := ev_ix (N := 20) (k := p) (by omega) (by omega)
      simp only [ev_R, mr_32 hl, mr_30 hl, mr_5 hl, ev_ar3 (ms_20 hl), ev_ar0 (ms_18 hl), ev_ar0 (ms_2 hl), ev_b, xs, xp, ev_I, hks1.1, hks1.2.2.1, (ht1.2.2 p hpT).1]
      obtain ⟨I2, e2, k2, m2, K2⟩ := e_Mo_nextState (J := J) (n := n) (c := T.2 p) hl hl1 hlim hW (show T.1 < 31 by omega) (show S + 1 + 1 < 2 ^ 31 by omega) (ht.2.2 p hpT).2 hp1 ht1.1 k1 hVV hB m1
      have e2' : f_Mo_nextState g (oI (some y)) (nI (T.2 p)) (sh, I1, J, R, n) = _ := e2
      have hgo : ¬ (s.2.1 = false ∧ s.1 = []) → ∃ I', (((f_Mo_nextState g (oI (some y)) (nI (T.2 p)) (sh, I1, J, R, n)).bind fun p14 => L_Mo_endByStates_14 N (some g) (oI (au_en P T p s en)) p14.1 (nI p + 1) p14.2).bind fun e20r => e20r.elim (fun e20 => some (((-2) : Int32), e20)) (fun w => some w)) = some (dI (au_e P T lim (k + 1) p en (some y) U).1, (sh, I', J, R, n)) ∧ kp_R I' g lim (au_e P T lim (k + 1) p en (some y) U).2 ∧ sm_R I' g (S + 2 * (k + 1)) ∧ sx_K g I I' := fun hov => by
        rw [hae, if_neg (fun e => e.elim hpe hov), e2', ev_b, nI_1]
        obtain ⟨I3, e3, k3, m3, K3⟩ := e_Mo_eloop hl hl1 hlim hW hB k N (p + 1) (S + 1 + 1) (au_en P T p s en) (au_n P lim (T.2 p) y U).1 (au_n P lim (T.2 p) y U).2 I2 (by omega) (by omega) (by omega) (by omega) (mo_P_s K2 hp1) (mo_X_s K2 ht1) (au_nV hW hl1 hVV) k2 m2
        exact ⟨I3, e3, k3, sm_mono (by omega) (fun _ _ _ => rfl) m3, sx_trans K1 (sx_trans K2 K3)⟩
      cases hb : s.2.1 with
      | true =>
        rw [if_neg (show ¬ bI true = 0 by decide)]
        exact hgo (fun e => by rw [hb] at e; cases e.1)
      | false =>
        rw [if_pos (show bI false = 0 by decide)]
        by_cases hn : s.1 = []
        · rw [if_pos (by rw [hn]; rfl), hae, if_pos (Or.inr ⟨hb, hn⟩)]
          exact ⟨I1, rfl, k1, sm_mono (by omega) (fun _ _ _ => rfl) m1, K1⟩
        · rw [if_neg (by rw [li_0, nI_eq (by have := hsI.1; omega) (by omega)]; exact fun e => hn (List.length_eq_zero_iff.mp e))]
          exact hgo (fun e => hn e.2)
theorem e_Mo_endByStates {B S : Nat} {U : au_A} (hl : ly_M sh R g) (hl1 : 1 ≤ lim) (hlim : lim ≤ 19) (hW : pg_W P) (hB : B < 2 ^ 30) (hS : S + 100 < 2 ^ 31) (hp : mo_P I g P) (ht : mo_X I g T) (hI : au_I P lim U) (hf : U.2.1 ≤ B) (hk : kp_R I g lim U) (h36 : I g 36 = nI 0) (hs : sm_R I g S) :
    ∃ I', f_Mo_endByStates g (sh, I, J, R, n) = some (dI (au_E P T lim U).1, (sh, I', J, R, n)) ∧ kp_R I' g lim (au_E P T lim U).2 ∧ sm_R I' g (S + 50) ∧ sx_K g I I' := by
  have t20 := ht.2.1
  have K0 : ∀ a k, (a ≠ g ∨ k ≠ 29) → (hv_u I g 29 0) a k = I a k := fun a k h => by
    rcases h with h | h
    · rw [ev_ua h]
    · rw [ev_uk h]
  have hk0 : kp_R (hv_u I g 29 0) g lim (U.1, U.2.1, 0, 0) := by
    obtain ⟨q1, q2, q3, q4, q5, q6⟩ := hk
    exact ⟨(K0 _ _ (by omega)).trans q1, (K0 _ _ (by omega)).trans q2, by rw [ev_us]; rfl, (K0 _ _ (by omega)).trans h36, (K0 _ _ (by omega)).trans q5, fun k s hks => ks_mono (hI.2 s (List.mem_of_getElem? hks)).1 (fun a j q => K0 _ _ (by omega)) (q6 k s hks)⟩
  unfold f_Mo_endByStates
  simp only [ev_ob (ms_o hl), ev_b, ev_sI]
  generalize hv_u I g 29 0 = I0 at K0 hk0 ⊢
  have X0 : sx_K g I I0 := fun a k h1 h2 => K0 a k (by omega)
  have hI0 : au_I P lim (U.1, U.2.1, 0, 0) := hI
  obtain ⟨I1, e1, k1, m1, K1⟩ := e_Mo_firstState (J := J) (n := n) hl hl1 hlim hW (show T.1 < 31 by omega) (show S + 1 < 2 ^ 31 by omega) (mo_P_s X0 hp) (mo_X_s X0 ht).1 hk0 hI0 (by show 0 < 3; omega) (sm_mono (Nat.le_refl _) (fun a k h => K0 _ _ (by omega)) hs)
  have hV1 := au_1V (B := B) hW hl1 hI0 (by show U.2.1 ≤ B + 0; omega) (by show 0 < 3; omega)
  obtain ⟨I2, e2, k2, m2, K2⟩ := e_Mo_eloop (J := J) (n := n) (T := T) hl hl1 hlim hW hB (T.1 + 1) 100000 0 (S + 1) none _ _ I1 (by omega) (by omega) (by omega) (by omega) (mo_P_s K1 (mo_P_s X0 hp)) (mo_X_s K1 (mo_X_s X0 ht)) hV1 k1 m1
  have e2' : ((L_Mo_endByStates_14 100000 (some g) (-1) (oI (au_1 P lim (U.1, U.2.1, 0, 0)).1) 0 (sh, I1, J, R, n)).bind fun e20r => e20r.elim (fun e20 => some (((-2) : Int32), e20)) (fun w => some w)) = _ := e2
  rw [e1, ev_b, e2']
  exact ⟨I2, rfl, k2, sm_mono (by omega) (fun _ _ _ => rfl) m2, sx_trans X0 (sx_trans K1 K2)⟩
end MB
