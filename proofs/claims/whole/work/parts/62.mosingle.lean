/-! THE REFERENCE'S SINGLE THREAD -/
def cj_R (l : List (Nat × Int64)) (x : Int32) : Option (Nat × Int64) → Prop
  | none => x = -1
  | some e => ∃ j, x = nI j ∧ l[j]? = some e
section SM
variable {sh : Nat → Option (Nat × Nat)} {I : Nat → Nat → Int32} {J : Nat → Nat → Int64} {R : Nat → Nat → Option Nat} {n g : Nat} {P : pg_P} {T : tx_T}
theorem e_Mo_sgo {p : Nat} {x1 : Int32} {l : List (Nat × Int64)} (hl : ly_M sh R g) (hW : pg_W P) (hp31 : p < 31) (h25 : l.length ≤ 25) (hlt : ∀ e, e ∈ l → e.1 < P.1 ∧ sl_B 0 p e.2) :
    ∀ (rest pre : List (Nat × Int64)) (N : Nat) (ch : Option (Nat × Int64)) (b : Int64) (x : Int32) (I : Nat → Nat → Int32), rest.length + 1 < N → l = pre ++ rest → mo_P I g P → mo_X I g T → ml_R I g 0 l → cj_R l x ch → bs_R I g b →
    ∃ x' I', L_Mo_runSingle_63 N (some g) x1 (nI p) x (nI pre.length) (sh, I, J, R, n) = some (x', (sh, I', J, R, n)) ∧ cj_R l x' (si_g P T p rest ch b).1 ∧ bs_R I' g (si_g P T p rest ch b).2 ∧ (∀ a k, a ≠ g + 13 → a ≠ g + 23 → (a ≠ g ∨ k ≠ 39) → (a ≠ g + 14 ∨ k ≠ 0) → I' a k = I a k) ∧ (nw_R I g → nw_R I' g)
  | rest, pre, 0, _, _, _, _, h, _, _, _, _, _, _ => by omega
  | [], pre, N + 1, ch, b, x, I, hN, hs, hp, ht, hm, hch, hb => by
    have x0 : x_ix 2 0 = some 0 := by decide
    rw [L_Mo_runSingle_63]
    simp only [ev_ob (ms_o hl), ev_b, ev_R, mr_23 hl, ev_ar0 (ms_14 hl), x0, ev_I, hm.1]
    rw [if_pos (by rw [hs, List.append_nil] at h25 ⊢; rw [nI_leI (by omega) (by omega)]; exact Nat.le_refl _)]
    exact ⟨x, I, rfl, hch, hb, fun _ _ _ _ _ _ => rfl, fun h => h⟩
  | (i, w) :: rest, pre, N + 1, ch, b, x, I, hN, hs, hp, ht, hm, hch, hb => by
    have h49 := hW.2.1
    have x0 : x_ix 2 0 = some 0 := by decide
    have hge : l[pre.length]? = some (i, w) := by rw [hs]; simp
    have hk := gl hge
    obtain ⟨hi, hw⟩ := hlt (i, w) (List.mem_of_getElem? hge)
    have hi : i < P.1 := hi
    have hk7 := (hW.2.2.1 i hi).1
    obtain ⟨q1, q2⟩ := hm.2 _ _ hge
    rw [Nat.mul_zero, Nat.zero_add] at q1 q2
    have x1' := ev_ix (N := 128) (k := pre.length) (by omega) (by omega)
    have x2 := ev_ix (N := 64) (k := i) (by omega) (by omega)
    rw [L_Mo_runSingle_63]
    simp only [ev_ob (ms_o hl), ev_b, ev_R, mr_23 hl, ev_ar0 (ms_14 hl), x0, ev_I, hm.1]
    rw [if_neg (by rw [nI_leI (by omega) (by omega)]; omega), if_neg (nI_pos (by omega))]
    simp only [mr_24 hl, mr_7 hl, ev_ar0 (ms_15 hl), ev_ar0 (ms_3 hl), ev_b, x1', q1, x2, (hp.2 i hi).1]
    unfold si_g
    by_cases h7 : P.2.1 i = 7
    · rw [if_pos (by rw [h7]; rfl), if_pos h7]
      rw [e_Mo_take hl (show pre.length < 128 by omega)]
      have hn1 : sl_R (cpk I (g + 13) 0 (g + 16) (8 * pre.length) 8) (g + 13) 0 w := fun k hk => by
        rw [Nat.zero_add, cpk_i0 hk]; exact q2 k hk
      have K1 : ∀ a k, a ≠ g + 13 → (cpk I (g + 13) 0 (g + 16) (8 * pre.length) 8) a k = I a k := fun a k h => cpk_c h
      generalize cpk I (g + 13) 0 (g + 16) (8 * pre.length) 8 = I1 at hn1 K1 ⊢
      obtain ⟨I2, e2, f2, s2, k2⟩ := e_Mo_note (J := J) (n := n) hl hp31 hn1
      simp only [ev_b, ev_ob (ms_o hl), e2, ev_R, mr_23 hl, ev_ar0 (ms_14 hl), x0, ev_sI]
      match N, hN with
      | N + 1, hN =>
        have K3 : ∀ a k, (a ≠ g + 14 ∨ k ≠ 0) → (hv_u I2 (g + 14) 0 0) a k = I2 a k := fun a k h => by
          rcases h with h | h
          · rw [ev_ua h]
          · rw [ev_uk h]
        have e3 : L_Mo_runSingle_63 (N + 1) (some g) x1 (nI p) x (nI pre.length + 1) (sh, hv_u I2 (g + 14) 0 0, J, R, n) = some (x, (sh, hv_u I2 (g + 14) 0 0, J, R, n)) := by
          rw [L_Mo_runSingle_63]
          simp only [ev_ob (ms_o hl), ev_b, ev_R, mr_23 hl, ev_ar0 (ms_14 hl), x0, ev_I, ev_us]
          rw [if_pos (by rw [nI_1, li_0, nI_leI (by omega) (by omega)]; omega)]
        refine ⟨x, _, e3, hch, ?_, fun a k h1 h2 h3 h4 => ?_, fun _ => ⟨w, fun k hk => ?_⟩⟩
        · refine Or.inr ⟨?_, by rw [K3 _ _ (by omega)]; exact f2, fun k hk => by rw [K3 _ _ (by omega)]; exact s2 k hk⟩
          obtain ⟨bq, b1, b2, b3⟩ := hw
          exact sl_ne (p := bq) (by rw [sl_gw (by omega) (by omega) (by omega), if_neg (by omega)]; exact b3) (by omega)
        · rw [K3 _ _ h4, k2 _ _ h2 h3, K1 _ _ h1]
        · rw [K3 _ _ (by omega), k2 _ _ (by omega) (by omega)]; exact hn1 k hk
      | 0, hN => simp at hN
    · rw [if_neg (by rw [li_7, nI_eq (by omega) (by omega)]; exact h7), if_neg h7]
      simp only [e_Mo_isRight hl hp hW ht hi hp31, ev_b]
      by_cases htk : tk P T i p = true
      · rw [htk, if_neg (show ¬ bI true = 0 by decide), if_pos rfl, ev_b]
        obtain ⟨x', I2, e2, c2, b2, K2, n2⟩ := e_Mo_sgo hl hW hp31 h25 hlt rest (pre ++ [(i, w)]) N (some (i, w)) b (nI pre.length) I (by simp at hN; omega) (by rw [hs]; simp) hp ht hm ⟨pre.length, rfl, hge⟩ hb
        rw [List.length_append] at e2
        rw [nI_1]
        exact ⟨x', I2, e2, c2, b2, K2, n2⟩
      · have htk' : tk P T i p = false := by simpa using htk
        rw [htk', if_pos (show bI false = 0 by decide), if_neg (show ¬ false = true by decide), ev_b]
        obtain ⟨x', I2, e2, c2, b2, K2, n2⟩ := e_Mo_sgo hl hW hp31 h25 hlt rest (pre ++ [(i, w)]) N ch b x I (by simp at hN; omega) (by rw [hs]; simp) hp ht hm hch hb
        rw [List.length_append] at e2
        rw [nI_1]
        exact ⟨x', I2, e2, c2, b2, K2, n2⟩
theorem e_Mo_sfloop (hl : ly_M sh R g) (hW : pg_W P) :
    ∀ (k N p i c S : Nat) (w b : Int64) (I : Nat → Nat → Int32), k + 1 < N → p + k = T.1 + 1 → i < P.1 → sl_B 0 p w → (b = 0 ∨ sl_B 0 p b) → S + k < 2 ^ 31 → mo_P I g P → mo_X I g T → (∃ m, mm_R I g S m) → sl_R I (g + 13) 0 w → bs_R I g b → I g 36 = nI c →
    ∃ I' S', L_Mo_runSingle_19 N (some g) (nI i) (nI p) (sh, I, J, R, n) = some (sh, I', J, R, n) ∧ bs_R I' g (si_f P T k p i w b c).1 ∧ I' g 36 = nI (si_f P T k p i w b c).2 ∧ S' ≤ S + k ∧ (∃ m, mm_R I' g S' m) ∧ nw_R I' g ∧ rl_K g I I'
  | k, 0, _, _, _, _, _, _, _, h, _, _, _, _, _, _, _, _, _, _, _ => by omega
  | 0, N + 1, p, i, c, S, w, b, I, hN, hpk, hi, hw, hb0, hS, hp, ht, hm, hn, hb, hc => by
    have t20 := ht.2.1
    rw [L_Mo_runSingle_19]
    simp only [ev_ob (ms_o hl), ev_b, ev_I, ht.1]
    rw [if_pos (by rw [nI_ltI (by omega) (by omega)]; omega)]
    exact ⟨I, S, rfl, hb, hc, Nat.le_refl _, hm, ⟨w, hn⟩, rl_K_refl⟩
  | k + 1, N + 1, p, i, c, S, w, b, I, hN, hpk, hi, hw, hb0, hS, hp, ht, hm, hn, hb, hc => by
    have t20 := ht.2.1
    have h49 := hW.2.1
    have x0 : x_ix 2 0 = some 0 := by decide
    obtain ⟨m, hm⟩ := hm
    have hmS := hm.2.1
    have hm1 : mm_R (hv_u (hv_u I g 16 (nI (S + 1))) (g + 14) 0 0) g (S + 1) (fun _ => false) := mm_R_mono (fun j => ev_ua (by omega)) (ev_ua (by omega)) (mm_R_inc (by omega) hm)
    have hml0 : ml_R (hv_u (hv_u I g 16 (nI (S + 1))) (g + 14) 0 0) g 0 [] := ⟨by rw [ev_us]; rfl, fun k e he => by simp at he⟩
    have K1 : ∀ a k, (a ≠ g ∨ k ≠ 16) → (a ≠ g + 14 ∨ k ≠ 0) → (hv_u (hv_u I g 16 (nI (S + 1))) (g + 14) 0 0) a k = I a k := fun a k h1 h2 => by
      have : (hv_u (hv_u I g 16 (nI (S + 1))) (g + 14) 0 0) a k = (hv_u I g 16 (nI (S + 1))) a k := by
        rcases h2 with h2 | h2
        · rw [ev_ua h2]
        · rw [ev_uk h2]
      rw [this]
      rcases h1 with h1 | h1
      · rw [ev_ua h1]
      · rw [ev_uk h1]
    rw [L_Mo_runSingle_19]
    simp only [ev_ob (ms_o hl), ev_b, ev_I, ht.1]
    rw [if_neg (by rw [nI_ltI (by omega) (by omega)]; omega), if_neg (by rw [ev_n1 (by omega)]; exact not_false)]
    simp only [hmS, nI_1, ev_sI, ev_R, mr_23 hl, ev_ar0 (ms_14 hl), ev_b, x0]
    generalize hv_u (hv_u I g 16 (nI (S + 1))) (g + 14) 0 0 = I1 at hm1 hml0 K1 ⊢
    have R1 : rl_K g I I1 := fun a k h1 h2 h3 => K1 a k (by omega) (by omega)
    have hp1 := mo_P_r R1 hp
    have ht1 := mo_X_r R1 ht
    obtain ⟨I2, e2, m2, l2, K2, n2⟩ := e_Mo_followN (J := J) (n := n) (i := i) (w := w) (pl := p) (fed := T.1) (li := 0) (s := fo_0) hl hW (by omega) (by omega) (by omega) hi (fo_J0 hW) hp1 ht1.1 (fun k hk => (K1 _ _ (by omega) (by omega)).trans (hn k hk)) hm1 hml0
    have e2' : f_Mo_follow g (nI i) (nI p) 0 (sh, I1, J, R, n) = some (sh, I2, J, R, n) := e2
    rw [e2', ev_b]
    have l2 : ml_R I2 g 0 (fo_F P p (tx_r T p) i w fo_0).2.2 := l2
    have hI3 : ls_I P 0 p (fo_F P p (tx_r T p) i w fo_0) := ls_IF hW (by omega) hi hw (ls_I0 hW)
    have hl25 : (fo_F P p (tx_r T p) i w fo_0).2.2.length ≤ 25 := by have := hI3.1.1; omega
    have R2 := rl_K_trans R1 (rl_K_fl K2)
    have hb2 : bs_R I2 g b := bs_R_mono ((K2 _ _ (by omega) (by omega) (by omega) (by omega) (by omega)).trans (K1 _ _ (by omega) (by omega))) (fun k => (K2 _ _ (by omega) (by omega) (by omega) (by omega) (by omega)).trans (K1 _ _ (by omega) (by omega))) hb
    have hc2 : I2 g 36 = nI c := (K2 _ _ (by omega) (by omega) (by omega) (by omega) (by omega)).trans ((K1 _ _ (by omega) (by omega)).trans hc)
    obtain ⟨x3, I3, e3, c3, b3, K3, n3⟩ := e_Mo_sgo (J := J) (n := n) (T := T) (p := p) (x1 := -1) hl hW (by omega) hl25 (fun e he => ⟨hI3.1.2 e he, hI3.2 e he⟩) (fo_F P p (tx_r T p) i w fo_0).2.2 [] 100000 none b (-1) I2 (by omega) rfl (mo_P_r R2 hp) (mo_X_r R2 ht) l2 rfl hb2
    have e3' : L_Mo_runSingle_63 100000 (some g) (-1) (nI p) (-1) 0 (sh, I2, J, R, n) = some (x3, (sh, I3, J, R, n)) := e3
    rw [e3', ev_b]
    have R3 : rl_K g I I3 := rl_K_trans R2 (fun a k h1 h2 h3 => K3 a k (by omega) h3 (by omega) (by omega))
    have hc3 : I3 g 36 = nI c := (K3 _ _ (by omega) (by omega) (by omega) (by omega)).trans hc2
    have hm3 : mm_R I3 g (S + 1) (fo_F P p (tx_r T p) i w fo_0).1 := mm_R_mono (fun j => K3 _ _ (by omega) (by omega) (by omega) (by omega)) (K3 _ _ (by omega) (by omega) (by omega) (by omega)) m2
    obtain ⟨gc1, gc2⟩ := si_gc (T := T) hW (fo_F P p (tx_r T p) i w fo_0).2.2 none b (fun e he => ⟨hI3.1.2 e he, hI3.2 e he⟩) (fun e h => by cases h) hb0 (by omega)
    unfold si_f
    generalize hl' : (fo_F P p (tx_r T p) i w fo_0).2.2 = l' at *
    generalize hq : si_g P T p l' none b = q at *
    obtain ⟨ch, b'⟩ := q
    match ch with
    | none =>
      have c3 : x3 = -1 := c3
      rw [if_pos c3, ev_b]
      match N, hN with
      | N + 1, hN =>
        refine ⟨I3, S + 1, ?_, b3, hc3, by omega, ⟨_, hm3⟩, n3 n2, R3⟩
        rw [L_Mo_runSingle_19]
        simp only [ev_ob (ms_o hl), ev_b]
        split
        · rfl
        · rw [if_pos trivial]
      | 0, hN => omega
    | some e =>
      obtain ⟨j, hx3, hj⟩ := c3
      subst hx3
      have hjl := gl hj
      have ge := gc1 e rfl
      obtain ⟨q1, q2⟩ := l2.2 _ _ hj
      rw [Nat.mul_zero, Nat.zero_add] at q1 q2
      have q1' : I3 (g + 15) j = nI e.1 := (K3 _ _ (by omega) (by omega) (by omega) (by omega)).trans q1
      have xj := ev_ix (N := 128) (k := j) (by omega) (by omega)
      rw [if_neg (by rw [ev_n1 (by omega)]; exact not_false)]
      simp only [ev_ob (ms_o hl), ev_b, e_Mo_take hl (show j < 128 by omega)]
      have hn4 : sl_R (cpk I3 (g + 13) 0 (g + 16) (8 * j) 8) (g + 13) 0 e.2 := fun k hk => by
        rw [Nat.zero_add, cpk_i0 hk, K3 _ _ (by omega) (by omega) (by omega) (by omega)]; exact q2 k hk
      have K4 : ∀ a k, a ≠ g + 13 → (cpk I3 (g + 13) 0 (g + 16) (8 * j) 8) a k = I3 a k := fun a k h => cpk_c h
      generalize cpk I3 (g + 13) 0 (g + 16) (8 * j) 8 = I4 at hn4 K4 ⊢
      have q1'' : I4 (g + 15) j = nI e.1 := (K4 _ _ (by omega)).trans q1'
      have hc4 : I4 g 36 = nI c := (K4 _ _ (by omega)).trans hc3
      simp only [ev_R, mr_24 hl, ev_ar0 (ms_15 hl), ev_b, xj, ev_I, q1'', nI_1, hc4, ev_sI]
      have K5 : ∀ a k, (a ≠ g ∨ k ≠ 36) → (hv_u I4 g 36 (nI (c + 1))) a k = I4 a k := fun a k h => by
        rcases h with h | h
        · rw [ev_ua h]
        · rw [ev_uk h]
      have R5 : rl_K g I (hv_u I4 g 36 (nI (c + 1))) := rl_K_trans R3 (fun a k h1 h2 h3 => (K5 a k (by omega)).trans (K4 a k (by omega)))
      obtain ⟨I6, S6, e6, b6, c6, s6, m6, n6, K6⟩ := e_Mo_sfloop hl hW k N (p + 1) (e.1 + 1) (c + 1) (S + 1) e.2 b' (hv_u I4 g 36 (nI (c + 1))) (by omega) (by omega) ge.1 (sl_B_le (by omega) ge.2.2) (gc2.imp id (sl_B_le (by omega))) (by omega) (mo_P_r R5 hp) (mo_X_r R5 ht) ⟨_, mm_R_mono (fun j => (K5 _ _ (by omega)).trans (K4 _ _ (by omega))) ((K5 _ _ (by omega)).trans (K4 _ _ (by omega))) hm3⟩ (fun k hk => (K5 _ _ (by omega)).trans (hn4 k hk)) (bs_R_mono ((K5 _ _ (by omega)).trans (K4 _ _ (by omega))) (fun k => (K5 _ _ (by omega)).trans (K4 _ _ (by omega))) b3) ev_us
      exact ⟨I6, S6, e6, b6, c6, by omega, m6, n6, rl_K_trans R5 K6⟩
theorem e_Mo_runSingle {S : Nat} (hl : ly_M sh R g) (hW : pg_W P) (hS : S + 30 < 2 ^ 31) (hp : mo_P I g P) (ht : mo_X I g T) (hm : ∃ m, mm_R I g S m) :
    ∃ I' S', f_Mo_runSingle g (sh, I, J, R, n) = some (sh, I', J, R, n) ∧ bs_R I' g (si_F P T 1).1 ∧ I' g 36 = nI (si_F P T 1).2 ∧ S' ≤ S + 30 ∧ (∃ m, mm_R I' g S' m) ∧ nw_R I' g ∧ rl_K g I I' := by
  have t20 := ht.2.1
  obtain ⟨m, hm⟩ := hm
  obtain ⟨I1, e1, n1, k1⟩ := e_Mo_begin (I := hv_u (hv_u I g 39 0) g 36 1) (J := J) (n := n) (p := 0) hl (by omega)
  have e1' : f_Mo_begin g 0 (sh, hv_u (hv_u I g 39 0) g 36 1, J, R, n) = some (sh, I1, J, R, n) := e1
  have K0 : ∀ a k, (a ≠ g ∨ (k ≠ 39 ∧ k ≠ 36)) → a ≠ g + 13 → I1 a k = I a k := fun a k h1 h2 => by
    rw [k1 a k h2]
    by_cases ha : a = g
    · rw [ev_uk (by omega), ev_uk (by omega)]
    · rw [ev_ua ha, ev_ua ha]
  have R1 : rl_K g I I1 := fun a k h1 h2 h3 => K0 a k (by omega) (by omega)
  obtain ⟨I2, S2, e2, b2, c2, s2, m2, n2, K2⟩ := e_Mo_sfloop (J := J) (n := n) (T := T) hl hW (T.1 + 1) 100000 0 0 1 S (sl_w 0 0 0) 0 I1 (by omega) (by omega) hW.1 (sl_B_0 (by omega) (by omega)) (Or.inl rfl) (by omega) (mo_P_r R1 hp) (mo_X_r R1 ht) ⟨m, mm_R_mono (fun j => K0 _ _ (by omega) (by omega)) (K0 _ _ (by omega) (by omega)) hm⟩ n1 (Or.inl ⟨rfl, by rw [k1 _ _ (by omega), ev_uk (by omega), ev_us]⟩) (by rw [k1 _ _ (by omega), ev_us]; rfl)
  have e2' : L_Mo_runSingle_19 100000 (some g) 0 0 (sh, I1, J, R, n) = some (sh, I2, J, R, n) := e2
  unfold f_Mo_runSingle
  simp only [ev_ob (ms_o hl), ev_b, ev_sI, e1', e2']
  exact ⟨I2, S2, rfl, b2, c2, by omega, m2, n2, rl_K_trans R1 K2⟩
theorem si_fc {P : pg_P} {T : tx_T} : ∀ (k p i : Nat) (w b : Int64) (c d : Nat), (si_f P T k p i w b c).1 = (si_f P T k p i w b d).1 ∧ (si_f P T k p i w b c).2 + d = (si_f P T k p i w b d).2 + c
  | 0, p, i, w, b, c, d => ⟨rfl, by show c + d = d + c; omega⟩
  | k + 1, p, i, w, b, c, d => by
    unfold si_f
    generalize si_g P T p (fo_F P p (tx_r T p) i w fo_0).2.2 none b = q
    obtain ⟨ch, b'⟩ := q
    match ch with
    | none => exact ⟨rfl, by show c + d = d + c; omega⟩
    | some e =>
      obtain ⟨h1, h2⟩ := si_fc (P := P) (T := T) k (p + 1) (e.1 + 1) e.2 b' (c + 1) (d + 1)
      exact ⟨h1, by show (si_f P T k (p + 1) (e.1 + 1) e.2 b' (c + 1)).2 + d = (si_f P T k (p + 1) (e.1 + 1) e.2 b' (d + 1)).2 + c; omega⟩
end SM
