/-! A SINGLE THREAD -/
def si_g (P : pg_P) (T : tx_T) (p : Nat) : List (Nat × Int64) → Option (Nat × Int64) → Int64 → Option (Nat × Int64) × Int64
  | [], ch, b => (ch, b)
  | (i, w) :: r, ch, b => if P.2.1 i = 7 then (ch, sl_w w 1 p) else si_g P T p r (if tk P T i p then some (i, w) else ch) b
noncomputable def si_f (P : pg_P) (T : tx_T) : Nat → Nat → Nat → Int64 → Int64 → Nat → Int64 × Nat
  | 0, _, _, _, b, c => (b, c)
  | k + 1, p, i, w, b, c =>
    match si_g P T p (fo_F P p (tx_r T p) i w fo_0).2.2 none b with
    | (none, b') => (b', c)
    | (some e, b') => si_f P T k (p + 1) (e.1 + 1) e.2 b' (c + 1)
noncomputable def si_F (P : pg_P) (T : tx_T) (c : Nat) : Int64 × Nat := si_f P T (T.1 + 1) 0 0 (sl_w 0 0 0) 0 c
def ly_Z (sh : Nat → Option (Nat × Nat)) (R : Nat → Nat → Option Nat) (s : Nat) : Prop := sh s = some (7, 0) ∧ ly_F sh R (s + 1) ∧ ly_T sh R (s + 4) ∧ R s 0 = some (s + 1) ∧ R s 1 = some (s + 4)
def ch_R (I : Nat → Nat → Int32) (J : Nat → Nat → Int64) (s : Nat) : Option (Nat × Int64) → Prop
  | none => I s 4 = -1
  | some e => I s 4 = nI (e.1 + 1) ∧ J s 5 = e.2
theorem si_gc {P : pg_P} {T : tx_T} {p : Nat} (hW : pg_W P) : ∀ (l : List (Nat × Int64)) (ch : Option (Nat × Int64)) (b : Int64), (∀ e, e ∈ l → e.1 < P.1 ∧ sl_B 0 p e.2) → (∀ e, ch = some e → e.1 + 1 < P.1 ∧ p < T.1 ∧ sl_B 0 p e.2) → (b = 0 ∨ sl_B 0 p b) → (p < 31) → (∀ e, (si_g P T p l ch b).1 = some e → e.1 + 1 < P.1 ∧ p < T.1 ∧ sl_B 0 p e.2) ∧ ((si_g P T p l ch b).2 = 0 ∨ sl_B 0 p (si_g P T p l ch b).2)
  | [], ch, b, _, h2, h3, _ => ⟨h2, h3⟩
  | (i, w) :: r, ch, b, h1, h2, h3, hp => by
    have hi := h1 (i, w) List.mem_cons_self
    unfold si_g
    split
    · refine ⟨h2, Or.inr ?_⟩
      obtain ⟨q, q1, q2, q3⟩ := hi.2
      exact ⟨q, q1, q2, by rw [sl_gw (by omega) (by omega) hp, if_neg (by omega)]; exact q3⟩
    · refine si_gc hW r _ b (fun e he => h1 e (List.mem_cons_of_mem _ he)) (fun e he => ?_) h3 hp
      split at he
      · next ht =>
        injection he with he
        subst he
        obtain ⟨z1, z2⟩ := tk_lt hW hi.1 ht
        exact ⟨z1, z2, hi.2⟩
      · exact h2 e he
section SI
variable {sh : Nat → Option (Nat × Nat)} {I : Nat → Nat → Int32} {J : Nat → Nat → Int64} {R : Nat → Nat → Option Nat} {n g x s : Nat} {P : pg_P} {T : tx_T}
theorem e_Si_go {p : Nat} {l : List (Nat × Int64)} (hZ : ly_Z sh R s) (hG : ly_P sh R g) (dg : g + 3 < s ∨ s + 6 < g) (hW : pg_W P) (hT : ∀ k, k < T.1 → T.2 k < 8) (hp31 : p < 31) (h25 : l.length ≤ 25) (hlt : ∀ e, e ∈ l → e.1 < P.1) :
    ∀ (rest pre : List (Nat × Int64)) (N : Nat) (ch : Option (Nat × Int64)) (b : Int64) (I : Nat → Nat → Int32) (J : Nat → Nat → Int64), rest.length < N → l = pre ++ rest → pg_R I g P → ls_R I J (s + 4) l → ch_R I J s ch → J s 3 = b →
    ∃ I' J', ((L_Si_goThrough_3 N (some s) (some g) (if p < T.1 then nI (T.2 p) else -1) (nI p) (nI pre.length) (sh, I, J, R, n)).bind fun e24r => e24r.elim (fun e24 => some e24) (fun w => some w)) = some (sh, I', J', R, n) ∧ ch_R I' J' s (si_g P T p rest ch b).1 ∧ J' s 3 = (si_g P T p rest ch b).2 ∧ I' s 2 = I s 2 ∧ (∀ a k, a ≠ s → I' a k = I a k ∧ J' a k = J a k)
  | rest, pre, 0, _, _, _, _, h, _, _, _, _, _ => by omega
  | [], pre, N + 1, ch, b, I, J, hN, hs, hp, hl, hch, hb => by
    rw [L_Si_goThrough_3]
    simp only [ev_ob hZ.1, ev_b, ev_R, hZ.2.2.2.2, ev_ob hZ.2.2.1.1, e_TL_size hZ.2.2.1 hl.1]
    rw [hs, List.append_nil] at h25 ⊢
    rw [if_pos (by rw [nI_leI (by omega) (by omega)]; exact Nat.le_refl _)]
    exact ⟨I, J, rfl, hch, hb, rfl, fun _ _ _ => ⟨rfl, rfl⟩⟩
  | (i, w) :: rest, pre, N + 1, ch, b, I, J, hN, hs, hp, hl, hch, hb => by
    have hge : l[pre.length]? = some (i, w) := by rw [hs]; simp
    have hk := gl hge
    have hi : i < P.1 := hlt (i, w) (List.mem_of_getElem? hge)
    have h49 := hW.2.1
    have hk7 := (hW.2.2.1 i hi).1
    have a1 := e_TL_instructionAt (J := J) (n := n) hZ.2.2.1 hl.1 h25 hk
    have a2 := e_TL_slotsAt (J := J) (n := n) hZ.2.2.1 hl.1 h25 hk
    rw [(hl.2 _ _ hge).1] at a1
    rw [(hl.2 _ _ hge).2] at a2
    rw [L_Si_goThrough_3]
    simp only [ev_ob hZ.1, ev_b, ev_R, hZ.2.2.2.2, ev_ob hZ.2.2.1.1, e_TL_size hZ.2.2.1 hl.1]
    rw [if_neg (by rw [nI_leI (by omega) (by omega)]; omega)]
    simp only [a1, ev_b, ev_ob hG.1, e_Pr_kindAt hG hp hi]
    unfold si_g
    by_cases h7 : P.2.1 i = 7
    · rw [if_pos (by rw [h7]; rfl), if_pos h7]
      have e3 : f_C_withSlot w 1 (nI p) (sh, I, J, R, n) = _ := sl_wf w 1 p _
      simp only [ev_R, hZ.2.2.2.2, ev_ob hZ.2.2.1.1, a2, ev_b, e3, ev_ob hZ.1, ev_sJ]
      refine ⟨I, _, rfl, ?_, ev_us, rfl, fun a k ha => ⟨rfl, by rw [ev_ua ha]⟩⟩
      match ch with
      | none => exact hch
      | some e => exact ⟨hch.1, by rw [ev_uk (by omega)]; exact hch.2⟩
    · rw [if_neg (by rw [li_7, nI_eq (by omega) (by omega)]; exact h7), if_neg h7, e_Pr_takes hG hp hW hT hi, ev_b]
      by_cases htk : tk P T i p = true
      · rw [htk, if_neg (show ¬ bI true = 0 by decide), if_pos rfl]
        have hl1 : ls_R (hv_u I s 4 (nI (i + 1))) J (s + 4) l := ls_R_mono (fun a k g1 g2 => ⟨by rw [ev_ua (by omega)], rfl⟩) hl
        have a3 := e_TL_slotsAt (I := hv_u I s 4 (nI (i + 1))) (J := J) (n := n) hZ.2.2.1 hl1.1 h25 hk
        rw [(hl1.2 _ _ hge).2] at a3
        simp only [ev_ob hZ.1, ev_b, ev_sI, ev_R, hZ.2.2.2.2, ev_ob hZ.2.2.1.1, nI_1, a3, ev_sJ]
        obtain ⟨I2, J2, e2, c2, b2, i2, K2⟩ := e_Si_go hZ hG dg hW hT hp31 h25 hlt rest (pre ++ [(i, w)]) N (some (i, w)) b (hv_u I s 4 (nI (i + 1))) (hv_u J s 5 w) (by simp at hN; omega) (by rw [hs]; simp) (by
          obtain ⟨p0, p1, p2⟩ := hp
          exact ⟨by rw [ev_ua (by omega)]; exact p0, p1, fun j hj => ⟨by rw [ev_ua (by omega)]; exact (p2 j hj).1, by rw [ev_ua (by omega)]; exact (p2 j hj).2.1, by rw [ev_ua (by omega)]; exact (p2 j hj).2.2⟩⟩) (ls_R_mono (fun a k g1 g2 => ⟨by rw [ev_ua (by omega)], by rw [ev_ua (by omega)]⟩) hl) ⟨ev_us, ev_us⟩ (by rw [ev_uk (by omega)]; exact hb)
        rw [List.length_append] at e2
        exact ⟨I2, J2, e2, c2, b2, i2.trans (ev_uk (by omega)), fun a k ha => ⟨(K2 a k ha).1.trans (ev_ua ha), (K2 a k ha).2.trans (ev_ua ha)⟩⟩
      · have htk' : tk P T i p = false := by simpa using htk
        rw [htk', if_pos (show bI false = 0 by decide), if_neg (show ¬ false = true by decide)]
        simp only [ev_b, nI_1]
        obtain ⟨I2, J2, e2, c2, b2, i2, K2⟩ := e_Si_go hZ hG dg hW hT hp31 h25 hlt rest (pre ++ [(i, w)]) N ch b I J (by simp at hN; omega) (by rw [hs]; simp) hp hl hch hb
        rw [List.length_append] at e2
        exact ⟨I2, J2, e2, c2, b2, i2, K2⟩
theorem ly_Z_R {R' : Nat → Nat → Option Nat} (h : ∀ a k, (a ≠ s + 1 ∨ (k ≠ 5 ∧ k ≠ 6)) → R' a k = R a k) (hZ : ly_Z sh R s) : ly_Z sh R' s := by
  obtain ⟨z0, z1, z2, z3, z4⟩ := hZ
  obtain ⟨a1, a2, a3, a4, a5⟩ := z1
  obtain ⟨b1, b2, b3, b4, b5⟩ := z2
  exact ⟨z0, ⟨a1, a2, a3, (h _ _ (by omega)).trans a4, (h _ _ (by omega)).trans a5⟩, ⟨b1, b2, b3, (h _ _ (by omega)).trans b4, (h _ _ (by omega)).trans b5⟩, (h _ _ (by omega)).trans z3, (h _ _ (by omega)).trans z4⟩
theorem e_Si_floop (dg : g + 3 < s ∨ s + 6 < g) (dx : x + 1 < s ∨ s + 6 < x) (hW : pg_W P) :
    ∀ (k N p i c : Nat) (w b : Int64) (I : Nat → Nat → Int32) (J : Nat → Nat → Int64) (R : Nat → Nat → Option Nat), k < N → p + k = T.1 + 1 → i < P.1 → sl_B 0 p w → (b = 0 ∨ sl_B 0 p b) → ly_Z sh R s → ly_P sh R g → ly_X sh R x → pg_R I g P → tx_R I x T → I s 4 = nI i → J s 5 = w → J s 3 = b → I s 2 = nI c →
    ∃ I' J' R', L_Si_find_25 N (some s) (some g) (some x) (nI p) (sh, I, J, R, n) = some (sh, I', J', R', n) ∧ J' s 3 = (si_f P T k p i w b c).1 ∧ I' s 2 = nI (si_f P T k p i w b c).2 ∧ ly_Z sh R' s ∧ kq_K s (s + 6) I I' J J' ∧ (∀ a k, a ≠ s + 1 → R' a k = R a k)
  | k, 0, _, _, _, _, _, _, _, _, h, _, _, _, _, _, _, _, _, _, _, _, _, _ => by omega
  | 0, N + 1, p, i, c, w, b, I, J, R, hN, hpk, hi, hw, hb0, hZ, hG, hX, hp, ht, h4, h5, h3, h2 => by
    have t20 := ht.2.1
    rw [L_Si_find_25]
    simp only [ev_ob hX.1, ev_b, e_Tx_length hX ht]
    rw [if_pos (by rw [nI_ltI (by omega) (by omega)]; omega)]
    exact ⟨I, J, R, rfl, h3, h2, hZ, kq_refl, fun _ _ _ => rfl⟩
  | k + 1, N + 1, p, i, c, w, b, I, J, R, hN, hpk, hi, hw, hb0, hZ, hG, hX, hp, ht, h4, h5, h3, h2 => by
    have t20 := ht.2.1
    have h49 := hW.2.1
    have hru := tx_r2 T p
    obtain ⟨I1, J1, R1, e1, f1, p7, p8, K1, s5, s6, KR⟩ := e_Fo_begin (sh := sh) (I := I) (J := J) (R := R) (n := n) (f := s + 1) (t := s + 4) (g := g) (pl := p) (ru := tx_r T p) hZ.2.1 hZ.2.2.1 (by omega)
    have hZ1 := ly_Z_R KR hZ
    have hKR : ∀ a k, a ≠ s + 1 → R1 a k = R a k := fun a k h => KR a k (Or.inl h)
    have hG1 : ly_P sh R1 g := by
      obtain ⟨g0, g1, g2, g3, g4, g5, g6⟩ := hG
      exact ⟨g0, g1, g2, g3, (hKR _ _ (by omega)).trans g4, (hKR _ _ (by omega)).trans g5, (hKR _ _ (by omega)).trans g6⟩
    have hX1 : ly_X sh R1 x := ⟨hX.1, hX.2.1, (hKR _ _ (by omega)).trans hX.2.2⟩
    have Kq1 : kq_K s (s + 6) I I1 J J1 := fun a k h => K1 a k (by omega) (by omega)
    have hp1 := pg_R_q Kq1 dg hp
    have hC : fo_C sh R1 (s + 1) (s + 4) g := ⟨hZ1.2.1, hZ1.2.2.1, hG1, s5, s6, by omega, by omega, by omega⟩
    obtain ⟨I2, J2, e2, f2, K2⟩ := e_Fo_follow (n := n) (i := i) (w := w) hC hp1 hW p7 p8 (by omega) (by omega) hi (fo_J0 (t := false) hW) f1
    have f2 : fo_R I2 J2 (s + 1) (s + 4) ([], fo_F P p (tx_r T p) i w fo_0) := f2
    have hI3 : ls_I P 0 p (fo_F P p (tx_r T p) i w fo_0) := ls_IF hW (by omega) hi hw (ls_I0 hW)
    have g4 : I1 s 4 = nI i := (K1 _ _ (by omega) (by omega)).1.trans h4
    have g5 : J1 s 5 = w := (K1 _ _ (by omega) (by omega)).2.trans h5
    have Kq2 : kq_K s (s + 6) I I2 J J2 := kq_trans Kq1 (fun a k h => K2.1 a k (by omega) (by omega))
    have Kq3 : kq_K s (s + 6) I (hv_u I2 s 4 (-1)) J J2 := fun a k h => ⟨by rw [ev_ua (by omega)]; exact (Kq2 a k h).1, (Kq2 a k h).2⟩
    have hls : ls_R (hv_u I2 s 4 (-1)) J2 (s + 4) (fo_F P p (tx_r T p) i w fo_0).2.2 := ls_R_mono (fun a k g1 g2 => ⟨by rw [ev_ua (by omega)], rfl⟩) f2.2.2.2.2
    have hb2 : J2 s 3 = b := (K2.1 _ _ (by omega) (by omega)).2.trans ((K1 _ _ (by omega) (by omega)).2.trans h3)
    have hc2 : (hv_u I2 s 4 (-1)) s 2 = nI c := by rw [ev_uk (by omega)]; exact (K2.1 _ _ (by omega) (by omega)).1.trans ((K1 _ _ (by omega) (by omega)).1.trans h2)
    have hl25 : (fo_F P p (tx_r T p) i w fo_0).2.2.length ≤ 25 := by have := hI3.1.1; omega
    obtain ⟨I4, J4, e4, c4, b4, d4, K4⟩ := e_Si_go (n := n) (T := T) (p := p) hZ1 hG1 dg hW (fun k hk => (ht.2.2 k hk).2) (by omega) hl25 hI3.1.2 (fo_F P p (tx_r T p) i w fo_0).2.2 [] 100000 none b (hv_u I2 s 4 (-1)) J2 (by omega) rfl (pg_R_q Kq3 dg hp) hls ev_us hb2
    have e4' : f_Si_goThrough s (some g) (if p < T.1 then nI (T.2 p) else -1) (nI p) (sh, hv_u I2 s 4 (-1), J2, R1, n) = some (sh, I4, J4, R1, n) := by
      unfold f_Si_goThrough
      exact e4
    have ht3 := tx_R_q Kq3 dx ht
    have e5 := e_Tx_letterAt (J := J2) (n := n) hX1 ht3 (show p < 31 by omega)
    rw [L_Si_find_25]
    simp only [ev_ob hX.1, ev_b, e_Tx_length hX ht]
    rw [if_neg (by rw [nI_ltI (by omega) (by omega)]; omega)]
    simp only [ev_ob hZ.1, ev_b, e_Fo_ruleAt hX ht (show p < 31 by omega), ev_R, hZ.2.2.2.1, hZ.2.2.2.2, ev_ob hZ.2.1.1, e1, hZ1.2.2.2.1, ev_I, ev_J, g4, g5, e2, ev_sI, ev_ob hX.1, e5, e4']
    have Kq4 : kq_K s (s + 6) I I4 J J4 := fun a k h => ⟨(K4 a k (by omega)).1.trans (Kq3 a k h).1, (K4 a k (by omega)).2.trans (Kq3 a k h).2⟩
    obtain ⟨gc1, gc2⟩ := si_gc (T := T) hW (fo_F P p (tx_r T p) i w fo_0).2.2 none b (fun e he => ⟨hI3.1.2 e he, hI3.2 e he⟩) (fun e h => by cases h) hb0 (by omega)
    unfold si_f
    generalize hq : si_g P T p (fo_F P p (tx_r T p) i w fo_0).2.2 none b = q at *
    obtain ⟨ch, b'⟩ := q
    match ch with
    | none =>
      have c4 : I4 s 4 = -1 := c4
      rw [if_pos c4]
      exact ⟨I4, J4, R1, rfl, b4, d4.trans hc2, hZ1, Kq4, hKR⟩
    | some e =>
      obtain ⟨c41, c42⟩ := c4
      have ge := gc1 e rfl
      rw [if_neg (by rw [c41, ev_n1 (by omega)]; exact not_false), d4, hc2, nI_1, nI_1]
      have Kq5 : kq_K s (s + 6) I (hv_u I4 s 2 (nI (c + 1))) J J4 := fun a k h => ⟨by rw [ev_ua (by omega)]; exact (Kq4 a k h).1, (Kq4 a k h).2⟩
      obtain ⟨I6, J6, R6, e6, b6, c6, hZ6, K6, KR6⟩ := e_Si_floop dg dx hW k N (p + 1) (e.1 + 1) (c + 1) e.2 b' (hv_u I4 s 2 (nI (c + 1))) J4 R1 (by omega) (by omega) ge.1 (sl_B_le (by omega) ge.2.2) (gc2.imp id (sl_B_le (by omega))) hZ1 hG1 hX1 (pg_R_q Kq5 dg hp) (tx_R_q Kq5 dx ht) (by rw [ev_uk (by omega)]; exact c41) c42 b4 ev_us
      exact ⟨I6, J6, R6, e6, b6, c6, hZ6, kq_trans Kq5 K6, fun a k h => (KR6 a k h).trans (hKR a k h)⟩
theorem e_Si_find (dg : g + 3 < s ∨ s + 6 < g) (dx : x + 1 < s ∨ s + 6 < x) (hW : pg_W P) (hZ : ly_Z sh R s) (hG : ly_P sh R g) (hX : ly_X sh R x) (hp : pg_R I g P) (ht : tx_R I x T) :
    ∃ I' J' R', f_Si_find s (some g) (some x) (sh, I, J, R, n) = some ((si_F P T 0).1, (sh, I', J', R', n)) ∧ I' s 2 = nI (si_F P T 0).2 ∧ ly_Z sh R' s ∧ kq_K s (s + 6) I I' J J' ∧ (∀ a k, a ≠ s + 1 → R' a k = R a k) := by
  have t20 := ht.2.1
  have K0 : kq_K s (s + 6) I (hv_u (hv_u I s 2 0) s 4 0) J (hv_u (hv_u J s 3 0) s 5 (sl_w 0 0 0)) := fun a k h => ⟨by rw [ev_ua (by omega), ev_ua (by omega)], by rw [ev_ua (by omega), ev_ua (by omega)]⟩
  obtain ⟨I1, J1, R1, e1, b1, c1, hZ1, K1, KR⟩ := e_Si_floop (n := n) (T := T) dg dx hW (T.1 + 1) 100000 0 0 0 (sl_w 0 0 0) 0 (hv_u (hv_u I s 2 0) s 4 0) (hv_u (hv_u J s 3 0) s 5 (sl_w 0 0 0)) R (by omega) (by omega) hW.1 (sl_B_0 (by omega) (by omega)) (Or.inl rfl) hZ hG hX (pg_R_q K0 dg hp) (tx_R_q K0 dx ht) (by rw [ev_us]; rfl) ev_us (by rw [ev_uk (by omega), ev_us]) (by rw [ev_uk (by omega), ev_us]; rfl)
  have e1' : L_Si_find_25 100000 (some s) (some g) (some x) 0 (sh, hv_u (hv_u I s 2 0) s 4 0, hv_u (hv_u J s 3 0) s 5 (sl_w 0 0 0), R, n) = some (sh, I1, J1, R1, n) := e1
  have e0 : f_C_withSlot 0 0 0 (sh, hv_u (hv_u I s 2 0) s 4 0, hv_u J s 3 0, R, n) = some (sl_w 0 0 0, (sh, hv_u (hv_u I s 2 0) s 4 0, hv_u J s 3 0, R, n)) := sl_wf 0 0 0 _
  unfold f_Si_find f_C_slotsFrom
  simp only [ev_ob hZ.1, ev_b, ev_sI, ev_sJ, e0, e1', ev_J, b1]
  exact ⟨I1, J1, R1, rfl, c1, hZ1, kq_trans K0 K1, KR⟩
end SI
