/-! THE REFERENCE READS A PATTERN: the loop -/
section R5
variable {sh : Nat → Option (Nat × Nat)} {I : Nat → Nat → Int32} {J : Nat → Nat → Int64} {R : Nat → Nat → Option Nat} {n g : Nat} {s : sc_T}
theorem ch_ne {ch m : Nat} (h : ch < 65536) (hm : m < 65536) (hne : ch ≠ m) : ¬ nI ch = nI m := by rw [nI_eq (by omega) (by omega)]; exact hne
theorem e_Mo_rdloop (hl : ly_M sh R g) :
    ∀ (k N a : Nat) (c : cd) (d nn : Nat) (sq op gr : Nat → Nat) (I : Nat → Nat → Int32), s.1 + 1 ≤ a + k → k < N → mI s a c d nn sq op gr → rd_R I g s a c d sq op gr →
    ∃ I' r, ((L_Mo_read_21 N (some g) (nI d) (nI nn) (sh, I, J, R, n)).bind (rd_E g)) = some (bI r, (sh, I', J, R, n)) ∧ rd_K g I I' ∧ (∀ c', mr s k a c d nn sq op gr = some c' → r = true ∧ nd_R I' g c') ∧ (mr s k a c d nn sq op gr = none → r = false)
  | k, 0, _, _, _, _, _, _, _, _, _, h, _, _ => by omega
  | 0, N + 1, a, c, d, nn, sq, op, gr, I, hk, hN, hI, hR => by have := hI.1; omega
  | k + 1, N + 1, a, c, d, nn, sq, op, gr, I, hk, hN, hI, hR => by
    obtain ⟨hp, h14, hnd, hsq, hog⟩ := hR
    have hII := hI
    obtain ⟨i1, i2, i3, i4, i5, i6, i7, i8, i9⟩ := hI
    have hlen := i3.1
    have hok := i3.2.2.2
    have hsqd := (i6 d (Nat.le_refl _)).2
    rw [L_Mo_read_21]
    simp only [ev_ob (ms_o hl), ev_b, ev_I, hp.1, h14]
    by_cases ha : a < s.1
    · have hsp : sp s a = some (s.2 a) := by unfold sp; rw [if_pos ha]
      obtain ⟨hpa, hch⟩ := hp.2.2 a ha
      generalize s.2 a = ch at hsp hpa hch
      have xa := ev_ix (N := 24) (k := a) (by omega) (by omega)
      rw [if_neg (by rw [nI_leI (by omega) (by omega)]; omega)]
      have A0 : ∀ x k, (x ≠ g ∨ k ≠ 14) → (hv_u I g 14 (nI (a + 1))) x k = I x k := fun x k q => by
        rcases q with q | q
        · rw [ev_ua q]
        · rw [ev_uk q]
      have hnd0 : nd_R (hv_u I g 14 (nI (a + 1))) g c := ⟨(A0 _ _ (by omega)).trans hnd.1, fun k i hk => en_mono (fun a g1 g2 => A0 _ _ (by omega)) (hnd.2 k i hk)⟩
      have hp0 : pt_R (hv_u I g 14 (nI (a + 1))) g s := ⟨(A0 _ _ (by omega)).trans hp.1, hp.2.1, fun k hk => ⟨(A0 _ _ (by omega)).trans (hp.2.2 k hk).1, (hp.2.2 k hk).2⟩⟩
      have hsq0 : ∀ f, f ≤ d → (hv_u I g 14 (nI (a + 1))) (g + 24) f = nI (sq f) := fun f hf => (A0 _ _ (by omega)).trans (hsq f hf)
      have hog0 : ∀ f, 1 ≤ f → f ≤ d → (hv_u I g 14 (nI (a + 1))) (g + 25) f = nI (op f) ∧ (hv_u I g 14 (nI (a + 1))) (g + 26) f = nI (gr f) := fun f h1 h2 => ⟨(A0 _ _ (by omega)).trans (hog f h1 h2).1, (A0 _ _ (by omega)).trans (hog f h1 h2).2⟩
      have h140 : (hv_u I g 14 (nI (a + 1))) g 14 = nI (a + 1) := ev_us
      have KA : rd_K g I (hv_u I g 14 (nI (a + 1))) := fun x k q1 q2 => A0 _ _ (by omega)
      simp only [ev_R, mr_3 hl, ev_ar0 (ms_1 hl), ev_b, xa, hpa, ev_sI, nI_1, ev_I, hnd0.1]
      generalize hv_u I g 14 (nI (a + 1)) = I0 at A0 hnd0 hp0 hsq0 hog0 h140 KA ⊢
      have hmr : mr s (k + 1) a c d nn sq op gr = if ch = 124 then mr s k (a + 1) (cs_i (sq d) (sq d + 1) (c.length + 2) c ++ [(8, d, 0)]) d nn (fu sq d (c.length + 2)) op gr else if ch = 40 ∧ nn < 3 then mr s k (a + 1) (c ++ [(4, 2 * (nn + 1), 0)]) (d + 1) (nn + 1) (fu sq (d + 1) (c.length + 1)) (fu op (d + 1) c.length) (fu gr (d + 1) (nn + 1)) else if ch = 41 ∧ 0 < d then mr s k (sg_a s (a + 1)) (sg_c s (a + 1) (op d) (cs_l d c ++ [(4, 2 * gr d + 1, 0)])) (d - 1) nn sq op gr else match atm ch with | some ky => mr s k (sg_a s (a + 1)) (sg_c s (a + 1) c.length (c ++ [(ky.1, ky.2, 0)])) d nn sq op gr | none => none := by
        conv => lhs; unfold mr
        rw [hsp]
        rfl
      by_cases c124 : ch = 124
      · -- bar
        have hIb := mI_bar hII (by rw [hsp, c124])
        have e124 : nI ch = 124 := by rw [c124]; rfl
        rw [if_pos e124, hmr, if_pos c124]
        have xd := ev_ix (N := 4) (k := d) (by omega) (by omega)
        obtain ⟨I1, e1, r1, K1⟩ := e_Mo_push (J := J) (n := n) (I := I0) (b := sq d) (d := d) hl hsqd (by omega) (by omega) hok hnd0
        obtain ⟨I2, e2, r2, K2⟩ := e_Mo_emit (J := J) (n := n) (I := I1) (i := (8, d, 0)) (x1 := 3) (x2 := -1 - nI d) (x3 := 0) hl (by rw [cs_il hsqd]; omega) rfl rfl rfl r1
        have q24 : ∀ f, f ≤ d → I2 (g + 24) f = nI (sq f) := fun f hf => (K2 _ _ (by omega) (by omega)).trans ((K1 _ _ (by omega) (by omega)).trans (hsq0 f hf))
        have xs := ev_ix (N := 64) (k := sq d) (by omega) (by omega)
        have l2 := r2.1
        rw [List.length_append, cs_il hsqd] at l2
        have l2 : I2 g 10 = nI (c.length + 2) := l2
        have hs0 := hsq0 d (Nat.le_refl _)
        have hs2 := q24 d (Nat.le_refl _)
        simp only [mr_41 hl, ev_R, ev_ar0 (ms_24 hl), ev_b, xd, ev_I, hs0, e1, ev_ob (ms_o hl), e2, hs2, mr_13 hl, ev_ar0 (ms_8 hl), xs, l2, ev_sI, ev_ua (show g ≠ g + 8 by omega), ev_ua (show g + 24 ≠ g + 8 by omega)]
        have E1 := r2.2 (sq d) (2, sq d + 1, 0) (by rw [List.getElem?_append_left (by rw [cs_il hsqd]; omega), cs_ig hsqd, if_neg (Nat.lt_irrefl _), if_pos rfl])
        have r3 : nd_R (hv_u I2 (g + 8) (sq d) (nI (c.length + 2))) g (cs_i (sq d) (sq d + 1) (c.length + 2) c ++ [(8, d, 0)]) := nd_aim1 hsqd r2 (by rw [ev_ua (by omega)]; exact E1.2.1) ev_us (ev_ua (by omega)) (ev_ua (by omega)) (fun x k q1 q2 q3 => by rw [ev_uk q3])
        have K4 : ∀ x k, (x ≠ g ∨ k ≠ 10) → (x < g + 6 ∨ g + 8 < x) → (x ≠ g + 24 ∨ k ≠ d) → (hv_u (hv_u I2 (g + 8) (sq d) (nI (c.length + 2))) (g + 24) d (nI (c.length + 2))) x k = I0 x k := fun x k q1 q2 q3 => by
          have e : (hv_u (hv_u I2 (g + 8) (sq d) (nI (c.length + 2))) (g + 24) d (nI (c.length + 2))) x k = (hv_u I2 (g + 8) (sq d) (nI (c.length + 2))) x k := by
            rcases q3 with q | q
            · rw [ev_ua q]
            · rw [ev_uk q]
          rw [e, ev_ua (by omega)]
          exact (K2 _ _ q1 q2).trans (K1 _ _ q1 q2)
        have r4 : nd_R (hv_u (hv_u I2 (g + 8) (sq d) (nI (c.length + 2))) (g + 24) d (nI (c.length + 2))) g (cs_i (sq d) (sq d + 1) (c.length + 2) c ++ [(8, d, 0)]) := ⟨by rw [ev_ua (by omega)]; exact r3.1, fun k i hk => en_mono (fun x g1 g2 => ev_ua (by omega)) (r3.2 k i hk)⟩
        have s4 : (hv_u (hv_u I2 (g + 8) (sq d) (nI (c.length + 2))) (g + 24) d (nI (c.length + 2))) (g + 24) d = nI (c.length + 2) := ev_us
        generalize hv_u (hv_u I2 (g + 8) (sq d) (nI (c.length + 2))) (g + 24) d (nI (c.length + 2)) = I4 at K4 r4 s4 ⊢
        obtain ⟨I5, r, e5, K5, w1, w2⟩ := e_Mo_rdloop hl k N (a + 1) _ d nn (fu sq d (c.length + 2)) op gr I4 (by omega) (by omega) hIb ⟨⟨(K4 _ _ (by omega) (by omega) (by omega)).trans hp0.1, hp0.2.1, fun k hk => ⟨(K4 _ _ (by omega) (by omega) (by omega)).trans (hp0.2.2 k hk).1, (hp0.2.2 k hk).2⟩⟩, (K4 _ _ (by omega) (by omega) (by omega)).trans h140, r4, fun f hf => by
          unfold fu
          by_cases e : f = d
          · rw [if_pos e, e]; exact s4
          · rw [if_neg e, K4 _ _ (by omega) (by omega) (by omega)]; exact hsq0 f hf, fun f h1 h2 => ⟨(K4 _ _ (by omega) (by omega) (by omega)).trans (hog0 f h1 h2).1, (K4 _ _ (by omega) (by omega) (by omega)).trans (hog0 f h1 h2).2⟩⟩
        exact ⟨I5, r, e5, rd_trans KA (rd_trans (fun x k q1 q2 => K4 x k (by omega) (by omega) (by omega)) K5), w1, w2⟩
      · have n124 : ¬ nI ch = 124 := ch_ne (m := 124) hch (by omega) c124
        rw [if_neg n124]
        rw [if_neg c124] at hmr
        by_cases c40 : ch = 40 ∧ nn < 3
        · -- open
          obtain ⟨c40, hn3⟩ := c40
          have hIo := mI_open hII (by rw [hsp, c40]) hn3
          have e40 : nI ch = 40 := by rw [c40]; rfl
          rw [if_pos e40, if_neg (by rw [li_3, nI_leI (by omega) (by omega)]; omega), hmr, if_pos ⟨c40, hn3⟩]
          have xd := ev_ix (N := 4) (k := d + 1) (by omega) (by omega)
          obtain ⟨I1, e1, r1, K1⟩ := e_Mo_emit (J := J) (n := n) (I := I0) (i := (4, 2 * (nn + 1), 0)) (x1 := 4) (x2 := nI (2 * (nn + 1))) (x3 := 0) hl (by omega) rfl rfl rfl hnd0
          have l1 := r1.1
          rw [List.length_append] at l1
          have l1 : I1 g 10 = nI (c.length + 1) := l1
          have h2n : (2 : Int32) * nI (nn + 1) = nI (2 * (nn + 1)) := by rw [li_2, pk_mul]
          simp only [nI_1, h2n, e1, ev_b, ev_ob (ms_o hl), ev_R, mr_42 hl, mr_43 hl, mr_41 hl, ev_ar0 (ms_25 hl), ev_ar0 (ms_26 hl), ev_ar0 (ms_24 hl), xd, ev_sI, ev_I, ev_ua (show g ≠ g + 26 by omega), ev_ua (show g ≠ g + 25 by omega), l1]
          have K4 : ∀ x k, (x ≠ g ∨ k ≠ 10) → (x < g + 6 ∨ g + 8 < x) → (x < g + 24 ∨ g + 26 < x ∨ k ≠ d + 1) → (hv_u (hv_u (hv_u I1 (g + 25) (d + 1) (nI c.length)) (g + 26) (d + 1) (nI (nn + 1))) (g + 24) (d + 1) (nI (c.length + 1))) x k = I0 x k := fun x k q1 q2 q3 => by
            have e : (hv_u (hv_u (hv_u I1 (g + 25) (d + 1) (nI c.length)) (g + 26) (d + 1) (nI (nn + 1))) (g + 24) (d + 1) (nI (c.length + 1))) x k = I1 x k := by
              by_cases hk : k = d + 1
              · rw [ev_ua (by omega), ev_ua (by omega), ev_ua (by omega)]
              · rw [ev_uk hk, ev_uk hk, ev_uk hk]
            rw [e]; exact K1 _ _ q1 q2
          have r4 : nd_R (hv_u (hv_u (hv_u I1 (g + 25) (d + 1) (nI c.length)) (g + 26) (d + 1) (nI (nn + 1))) (g + 24) (d + 1) (nI (c.length + 1))) g (c ++ [(4, 2 * (nn + 1), 0)]) := ⟨by rw [ev_ua (by omega), ev_ua (by omega), ev_ua (by omega)]; exact r1.1, fun k i hk => en_mono (fun x g1 g2 => by rw [ev_ua (by omega), ev_ua (by omega), ev_ua (by omega)]) (r1.2 k i hk)⟩
          have s24 : (hv_u (hv_u (hv_u I1 (g + 25) (d + 1) (nI c.length)) (g + 26) (d + 1) (nI (nn + 1))) (g + 24) (d + 1) (nI (c.length + 1))) (g + 24) (d + 1) = nI (c.length + 1) := ev_us
          have s25 : (hv_u (hv_u (hv_u I1 (g + 25) (d + 1) (nI c.length)) (g + 26) (d + 1) (nI (nn + 1))) (g + 24) (d + 1) (nI (c.length + 1))) (g + 25) (d + 1) = nI c.length := by rw [ev_ua (by omega), ev_ua (by omega), ev_us]
          have s26 : (hv_u (hv_u (hv_u I1 (g + 25) (d + 1) (nI c.length)) (g + 26) (d + 1) (nI (nn + 1))) (g + 24) (d + 1) (nI (c.length + 1))) (g + 26) (d + 1) = nI (nn + 1) := by rw [ev_ua (by omega), ev_us]
          generalize hv_u (hv_u (hv_u I1 (g + 25) (d + 1) (nI c.length)) (g + 26) (d + 1) (nI (nn + 1))) (g + 24) (d + 1) (nI (c.length + 1)) = I4 at K4 r4 s24 s25 s26 ⊢
          obtain ⟨I5, r, e5, K5, w1, w2⟩ := e_Mo_rdloop hl k N (a + 1) _ (d + 1) (nn + 1) (fu sq (d + 1) (c.length + 1)) (fu op (d + 1) c.length) (fu gr (d + 1) (nn + 1)) I4 (by omega) (by omega) hIo ⟨⟨(K4 _ _ (by omega) (by omega) (by omega)).trans hp0.1, hp0.2.1, fun k hk => ⟨(K4 _ _ (by omega) (by omega) (by omega)).trans (hp0.2.2 k hk).1, (hp0.2.2 k hk).2⟩⟩, (K4 _ _ (by omega) (by omega) (by omega)).trans h140, r4, fun f hf => by
            unfold fu
            by_cases e : f = d + 1
            · rw [if_pos e, e]; exact s24
            · rw [if_neg e, K4 _ _ (by omega) (by omega) (by omega)]; exact hsq0 f (by omega), fun f h1 h2 => by
            unfold fu
            by_cases e : f = d + 1
            · rw [if_pos e, if_pos e, e]; exact ⟨s25, s26⟩
            · rw [if_neg e, if_neg e, K4 _ _ (by omega) (by omega) (by omega), K4 _ _ (by omega) (by omega) (by omega)]; exact hog0 f h1 (by omega)⟩
          exact ⟨I5, r, e5, rd_trans KA (rd_trans (fun x k q1 q2 => K4 x k (by omega) (by omega) (by omega)) K5), w1, w2⟩
        · rw [if_neg c40] at hmr
          by_cases c41 : ch = 41 ∧ 0 < d
          · -- close
            obtain ⟨c41, hd0⟩ := c41
            have hIc := mI_close hII (by rw [hsp, c41]) hd0
            have n40 : ¬ nI ch = 40 := ch_ne (m := 40) hch (by omega) (by omega)
            have e41 : nI ch = 41 := by rw [c41]; rfl
            rw [if_neg n40, if_pos e41, if_neg (by rw [li_0, nI_leI (by omega) (by omega)]; omega), hmr, if_pos ⟨c41, hd0⟩]
            have xd := ev_ix (N := 4) (k := d) (by omega) (by omega)
            obtain ⟨I1, e1, r1, K1⟩ := e_Mo_land (J := J) (n := n) (I := I0) (d := d) (dd := d) hl (by omega) (by omega) (by omega) hok hnd0
            have g26 : I1 (g + 26) d = nI (gr d) := (K1 _ _ (by omega) (by omega)).trans (hog0 d hd0 (Nat.le_refl _)).2
            have h2g : (2 : Int32) * nI (gr d) + 1 = nI (2 * gr d + 1) := by rw [li_2, pk_mul, nI_1]
            obtain ⟨I2, e2, r2, K2⟩ := e_Mo_emit (J := J) (n := n) (I := I1) (i := (4, 2 * gr d + 1, 0)) (x1 := 4) (x2 := nI (2 * gr d + 1)) (x3 := 0) hl (by rw [cs_ll]; omega) rfl rfl rfl r1
            have K12 := em_trans K1 K2
            have g25 : I2 (g + 25) d = nI (op d) := (K12 _ _ (by omega) (by omega)).trans (hog0 d hd0 (Nat.le_refl _)).1
            have hop := i7 (d - 1) (by omega)
            rw [show d - 1 + 1 = d from by omega] at hop
            have hl2 : (cs_l d c ++ [(4, 2 * gr d + 1, 0)]).length = c.length + 1 := by rw [List.length_append, cs_ll]; rfl
            have hc1 : ci (cs_l d c ++ [(4, 2 * gr d + 1, 0)]) (a + 1) (d - 1) := ci_a1 (ci_l i3 hd0) (by omega) (fun _ => by have := i8 d (by omega) (Nat.le_refl _); omega) (fun h => by omega)
            have hp2 : pt_R I2 g s := ⟨(K12 _ _ (by omega) (by omega)).trans hp0.1, hp0.2.1, fun k hk => ⟨(K12 _ _ (by omega) (by omega)).trans (hp0.2.2 k hk).1, (hp0.2.2 k hk).2⟩⟩
            obtain ⟨I3, e3, r3, a3, K3⟩ := e_Mo_sign (J := J) (n := n) (I := I2) (b := op d) (d := d - 1) hl hp2 ((K12 _ _ (by omega) (by omega)).trans h140) (by omega) (by rw [hl2]; omega) (by rw [hl2]; omega) (by omega) hc1.2.2.2 r2
            have hdec : nI d + -1 = nI (d - 1) := by
              have : nI d - 1 = nI (d - 1) := by rw [li_1, pk_sub (by omega)]
              rw [← this, Int32.sub_eq_add_neg]
            simp only [e1, ev_b, ev_ob (ms_o hl), ev_R, mr_43 hl, mr_42 hl, ev_ar0 (ms_26 hl), ev_ar0 (ms_25 hl), xd, ev_I, g26, h2g, e2, g25, e3, hdec]
            have K03 : ∀ x k, (x ≠ g ∨ (k ≠ 10 ∧ k ≠ 14)) → (x < g + 6 ∨ g + 8 < x) → I3 x k = I0 x k := fun x k q1 q2 => (K3 x k q1 q2).trans (K12 x k (by omega) q2)
            obtain ⟨I5, r, e5, K5, w1, w2⟩ := e_Mo_rdloop hl k N (sg_a s (a + 1)) _ (d - 1) nn sq op gr I3 (by have := (sg_a_le (s := s) (a := a + 1) (by omega)).1; omega) (by omega) hIc ⟨⟨(K03 _ _ (by omega) (by omega)).trans hp0.1, hp0.2.1, fun k hk => ⟨(K03 _ _ (by omega) (by omega)).trans (hp0.2.2 k hk).1, (hp0.2.2 k hk).2⟩⟩, a3, r3, fun f hf => (K03 _ _ (by omega) (by omega)).trans (hsq0 f (by omega)), fun f h1 h2 => ⟨(K03 _ _ (by omega) (by omega)).trans (hog0 f h1 (by omega)).1, (K03 _ _ (by omega) (by omega)).trans (hog0 f h1 (by omega)).2⟩⟩
            exact ⟨I5, r, e5, rd_trans KA (rd_trans (fun x k q1 q2 => K03 x k (by omega) (by omega)) K5), w1, w2⟩
          · rw [if_neg c41] at hmr
            -- an atom or nothing
            have isL := e_Mo_isLetter (ch := ch) (σ := (sh, I0, J, R, n)) hch
            have hat : ∀ ky : Nat × Nat, atm ch = some ky → ∃ I' r, ((((f_Mo_emit g (nI ky.1) (nI ky.2) 0 (sh, I0, J, R, n)).bind fun p19 => (x_ob p19 11 (some g)).bind fun a20 => (f_Mo_sign a20 (nI c.length) p19).bind fun p21 => L_Mo_read_21 N (some g) (nI d) (nI nn) p21).bind (rd_E g)) = some (bI r, (sh, I', J, R, n)) ∧ rd_K g I I' ∧ (∀ c', mr s (k + 1) a c d nn sq op gr = some c' → r = true ∧ nd_R I' g c') ∧ (mr s (k + 1) a c d nn sq op gr = none → r = false)) := fun ky hky => by
              rw [hmr, hky]
              have hIa := mI_atom hII hsp hky
              have hk8 : ky.1 ≠ 8 := by
                unfold atm at hky
                split at hky
                · injection hky with hky; subst hky; exact fun h => (by cases h)
                · split at hky
                  · injection hky with hky; subst hky; exact fun h => (by cases h)
                  · split at hky
                    · injection hky with hky; subst hky; exact fun h => (by cases h)
                    · split at hky
                      · injection hky with hky; subst hky; exact fun h => (by cases h)
                      · cases hky
              have hkk : (ky.1 = 0 ∨ ky.1 = 1 ∨ ky.1 = 4 ∨ ky.1 = 5 ∨ ky.1 = 6) ∧ (ky.1 = 4 → 2 ≤ ky.2 ∧ ky.2 < 8) ∧ (ky.1 = 0 → ky.2 < 8) := by
                unfold atm at hky
                split at hky
                · injection hky with hky; subst hky; exact ⟨Or.inl rfl, fun h => (by cases h), fun _ => by show ch - 97 < 8; omega⟩
                · split at hky
                  · injection hky with hky; subst hky; exact ⟨Or.inr (Or.inl rfl), fun h => (by cases h), fun h => (by cases h)⟩
                  · split at hky
                    · injection hky with hky; subst hky; exact ⟨Or.inr (Or.inr (Or.inr (Or.inl rfl))), fun h => (by cases h), fun h => (by cases h)⟩
                    · split at hky
                      · injection hky with hky; subst hky; exact ⟨Or.inr (Or.inr (Or.inr (Or.inr rfl))), fun h => (by cases h), fun h => (by cases h)⟩
                      · cases hky
              have hc1 : ci (c ++ [(ky.1, ky.2, 0)]) (a + 1) d := ci_a1 i3 hkk.1 hkk.2.1 hkk.2.2
              have hl2 : (c ++ [(ky.1, ky.2, 0)]).length = c.length + 1 := by simp
              obtain ⟨I1, e1, r1, K1⟩ := e_Mo_emit (J := J) (n := n) (I := I0) (i := (ky.1, ky.2, 0)) (x1 := nI ky.1) (x2 := nI ky.2) (x3 := 0) hl (by omega) (by unfold ck; rw [if_neg hk8]) (by unfold rx; rw [if_neg hk8]) rfl hnd0
              have hp2 : pt_R I1 g s := ⟨(K1 _ _ (by omega) (by omega)).trans hp0.1, hp0.2.1, fun k hk => ⟨(K1 _ _ (by omega) (by omega)).trans (hp0.2.2 k hk).1, (hp0.2.2 k hk).2⟩⟩
              obtain ⟨I3, e3, r3, a3, K3⟩ := e_Mo_sign (J := J) (n := n) (I := I1) (b := c.length) (d := d) hl hp2 ((K1 _ _ (by omega) (by omega)).trans h140) (by omega) (by rw [hl2]; omega) (by rw [hl2]; omega) (by omega) hc1.2.2.2 r1
              simp only [e1, ev_b, ev_ob (ms_o hl), e3]
              have K03 : ∀ x k, (x ≠ g ∨ (k ≠ 10 ∧ k ≠ 14)) → (x < g + 6 ∨ g + 8 < x) → I3 x k = I0 x k := fun x k q1 q2 => (K3 x k q1 q2).trans (K1 x k (by omega) q2)
              obtain ⟨I5, r, e5, K5, w1, w2⟩ := e_Mo_rdloop hl k N (sg_a s (a + 1)) _ d nn sq op gr I3 (by have := (sg_a_le (s := s) (a := a + 1) (by omega)).1; omega) (by omega) hIa ⟨⟨(K03 _ _ (by omega) (by omega)).trans hp0.1, hp0.2.1, fun k hk => ⟨(K03 _ _ (by omega) (by omega)).trans (hp0.2.2 k hk).1, (hp0.2.2 k hk).2⟩⟩, a3, r3, fun f hf => (K03 _ _ (by omega) (by omega)).trans (hsq0 f hf), fun f h1 h2 => ⟨(K03 _ _ (by omega) (by omega)).trans (hog0 f h1 h2).1, (K03 _ _ (by omega) (by omega)).trans (hog0 f h1 h2).2⟩⟩
              exact ⟨I5, r, e5, rd_trans KA (rd_trans (fun x k q1 q2 => K03 x k (by omega) (by omega)) K5), w1, w2⟩
            have hno : atm ch = none → ∃ I' r, (((some (.inr ((0 : Int32), (sh, I0, J, R, n))) : Option ((Int32 × hv_S) ⊕ (Int32 × hv_S))).bind (rd_E g)) = some (bI r, (sh, I', J, R, n)) ∧ rd_K g I I' ∧ (∀ c', mr s (k + 1) a c d nn sq op gr = some c' → r = true ∧ nd_R I' g c') ∧ (mr s (k + 1) a c d nn sq op gr = none → r = false)) := fun hn => by
              rw [hmr, hn]
              exact ⟨I0, false, rfl, KA, fun c' h => (by cases h), fun _ => rfl⟩
            by_cases hL : 97 ≤ ch ∧ ch ≤ 104
            · have n40 : ¬ nI ch = 40 := ch_ne (m := 40) hch (by omega) (by omega)
              have n41 : ¬ nI ch = 41 := ch_ne (m := 41) hch (by omega) (by omega)
              have hx : nI ch - 97 = nI (ch - 97) := by
                have : (97 : Int32) = nI 97 := rfl
                rw [this, pk_sub (by omega)]
              have hb1 : ¬ bI (decide (97 ≤ ch ∧ ch ≤ 104)) = 0 := by rw [decide_eq_true hL]; decide
              have := hat (0, ch - 97) (by unfold atm; rw [if_pos hL])
              simp only [if_neg n40, if_neg n41, isL, ev_b, if_neg hb1, ev_ob (ms_o hl), hx]
              exact this
            · have hb0 : bI (decide (97 ≤ ch ∧ ch ≤ 104)) = 0 := by rw [decide_eq_false hL]; rfl
              by_cases h46 : ch = 46
              · have n40 : ¬ nI ch = 40 := ch_ne (m := 40) hch (by omega) (by omega)
                have n41 : ¬ nI ch = 41 := ch_ne (m := 41) hch (by omega) (by omega)
                have e46 : nI ch = 46 := by rw [h46]; rfl
                have := hat (1, 0) (by unfold atm; rw [if_neg hL, if_pos h46])
                simp only [if_neg n40, if_neg n41, isL, ev_b, if_pos hb0, if_pos e46, ev_ob (ms_o hl)]
                exact this
              · have n46 : ¬ nI ch = 46 := ch_ne (m := 46) hch (by omega) h46
                by_cases h94 : ch = 94
                · have n40 : ¬ nI ch = 40 := ch_ne (m := 40) hch (by omega) (by omega)
                  have n41 : ¬ nI ch = 41 := ch_ne (m := 41) hch (by omega) (by omega)
                  have e94 : nI ch = 94 := by rw [h94]; rfl
                  have := hat (5, 0) (by unfold atm; rw [if_neg hL, if_neg h46, if_pos h94])
                  simp only [if_neg n40, if_neg n41, isL, ev_b, if_pos hb0, if_neg n46, if_pos e94, ev_ob (ms_o hl)]
                  exact this
                · have n94 : ¬ nI ch = 94 := ch_ne (m := 94) hch (by omega) h94
                  by_cases h36 : ch = 36
                  · have n40 : ¬ nI ch = 40 := ch_ne (m := 40) hch (by omega) (by omega)
                    have n41 : ¬ nI ch = 41 := ch_ne (m := 41) hch (by omega) (by omega)
                    have e36 : nI ch = 36 := by rw [h36]; rfl
                    have := hat (6, 0) (by unfold atm; rw [if_neg hL, if_neg h46, if_neg h94, if_pos h36])
                    simp only [if_neg n40, if_neg n41, isL, ev_b, if_pos hb0, if_neg n46, if_neg n94, if_pos e36, ev_ob (ms_o hl)]
                    exact this
                  · have n36 : ¬ nI ch = 36 := ch_ne (m := 36) hch (by omega) h36
                    have := hno (by unfold atm; rw [if_neg hL, if_neg h46, if_neg h94, if_neg h36])
                    by_cases h40 : ch = 40
                    · have e40 : nI ch = 40 := by rw [h40]; rfl
                      have n41 : ¬ nI ch = 41 := ch_ne (m := 41) hch (by omega) (by omega)
                      have h3 : (3 : Int32) ≤ nI nn := by rw [li_3, nI_leI (by omega) (by omega)]; omega
                      simp only [if_pos e40, if_pos h3, if_neg n41, isL, ev_b, if_pos hb0, if_neg n46, if_neg n94, if_neg n36]
                      exact this
                    · have n40 : ¬ nI ch = 40 := ch_ne (m := 40) hch (by omega) h40
                      by_cases h41 : ch = 41
                      · have e41 : nI ch = 41 := by rw [h41]; rfl
                        have hd0 : nI d ≤ 0 := by rw [li_0, nI_leI (by omega) (by omega)]; omega
                        simp only [if_neg n40, if_pos e41, if_pos hd0, isL, ev_b, if_pos hb0, if_neg n46, if_neg n94, if_neg n36]
                        exact this
                      · have n41 : ¬ nI ch = 41 := ch_ne (m := 41) hch (by omega) h41
                        simp only [if_neg n40, if_neg n41, isL, ev_b, if_pos hb0, if_neg n46, if_neg n94, if_neg n36]
                        exact this
    · -- the end
      have hsp : sp s a = none := by unfold sp; rw [if_neg ha]
      rw [if_pos (by rw [nI_leI (by omega) (by omega)]; omega)]
      have hmr : mr s (k + 1) a c d nn sq op gr = if d = 0 then some (cs_l 0 c ++ [(7, 0, 0)]) else none := by
        conv => lhs; unfold mr
        rw [hsp]
      rw [hmr]
      obtain ⟨I1, e1, r1, K1⟩ := e_Mo_land (J := J) (n := n) (I := I) (d := 0) (dd := d) hl (by omega) (by omega) (by omega) hok hnd
      obtain ⟨I2, e2, r2, K2⟩ := e_Mo_emit (J := J) (n := n) (I := I1) (i := (7, 0, 0)) (x1 := 7) (x2 := 0) (x3 := 0) hl (by rw [cs_ll]; omega) rfl rfl rfl r1
      have e1' : f_Mo_land g 0 (sh, I, J, R, n) = some (sh, I1, J, R, n) := e1
      refine ⟨I2, decide (d = 0), ?_, em_rd (em_trans K1 K2), fun c' h => ?_, fun h => ?_⟩
      · unfold rd_E
        simp only [ev_b, Sum.elim_inl, ev_ob (ms_o hl), e1', e2]
        by_cases hd : d = 0
        · rw [if_pos (by rw [hd]; rfl), decide_eq_true hd]; rfl
        · rw [if_neg (by rw [li_0, nI_eq (by omega) (by omega)]; exact hd), decide_eq_false hd]; rfl
      · by_cases hd : d = 0
        · rw [if_pos hd] at h
          injection h with h
          subst h
          exact ⟨decide_eq_true hd, r2⟩
        · rw [if_neg hd] at h; cases h
      · by_cases hd : d = 0
        · rw [if_pos hd] at h; cases h
        · exact decide_eq_false hd
/-- the program of a pattern, if it is one -/
def mR (s : sc_T) : Option cd := mr s (s.1 + 1) 0 [] 0 0 (fun _ => 0) (fun _ => 0) (fun _ => 0)
theorem mI_0 (h : s.1 ≤ 24) : mI s 0 [] 0 0 (fun _ => 0) (fun _ => 0) (fun _ => 0) := by
  refine ⟨Nat.zero_le _, h, ⟨Nat.zero_le _, Nat.zero_le _, Nat.zero_le _, fun i hi => by cases hi⟩, by omega, Nat.le_refl _, fun f hf => ?_, fun f hf => by omega, fun f h1 h2 => by omega, fun k i hk => by simp at hk⟩
  have : f = 0 := by omega
  subst this
  exact ⟨Nat.le_refl _, Nat.le_refl _⟩
theorem e_Mo_read (hl : ly_M sh R g) (hp : pt_R I g s) :
    ∃ I' r, f_Mo_read g (sh, I, J, R, n) = some (bI r, (sh, I', J, R, n)) ∧ rd_K g I I' ∧ (∀ c', mR s = some c' → r = true ∧ nd_R I' g c') ∧ (mR s = none → r = false) := by
  have x0 : x_ix 4 0 = some 0 := by decide
  have K0 : rd_K g I (hv_u (hv_u (hv_u I g 10 0) g 14 0) (g + 24) 0 0) := fun a k q1 q2 => by
    by_cases ha : a = g
    · subst ha
      rw [ev_ua (by omega), ev_uk (by omega), ev_uk (by omega)]
    · rw [ev_ua (by omega), ev_ua ha, ev_ua ha]
  have h24 := hp.2.1
  obtain ⟨I1, r, e1, K1, w1, w2⟩ := e_Mo_rdloop (J := J) (n := n) (s := s) hl (s.1 + 1) 100000 0 [] 0 0 (fun _ => 0) (fun _ => 0) (fun _ => 0) (hv_u (hv_u (hv_u I g 10 0) g 14 0) (g + 24) 0 0) (by omega) (by omega) (mI_0 h24) ⟨pt_K K0 hp, by rw [ev_ua (by omega), ev_us]; rfl, ⟨by rw [ev_ua (by omega), ev_uk (by omega), ev_us]; rfl, fun k i hk => by simp at hk⟩, fun f hf => by
    have : f = 0 := by omega
    subst this
    rw [ev_us]; rfl, fun f h1 h2 => by omega⟩
  unfold f_Mo_read
  simp only [ev_ob (ms_o hl), ev_b, ev_sI, ev_R, mr_41 hl, ev_ar0 (ms_24 hl), x0]
  exact ⟨I1, r, e1, rd_trans K0 K1, w1, w2⟩
end R5
