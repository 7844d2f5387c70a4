/-! BREAKS, the reference's side -/
section MBR
variable {sh : Nat → Option (Nat × Nat)} {I I' : Nat → Nat → Int32} {J : Nat → Nat → Int64} {R : Nat → Nat → Option Nat} {n g lim B S : Nat} {Q : Qs} {P : pg_P} {T : tx_T}
theorem e_Mo_br32 {x1 : Int32} (hl : ly_M sh R g) : ∀ (k N i : Nat) (I : Nat → Nat → Int32), k < N → i + k = 8 → (∀ j, j < i → I (g + 27) j = I (g + 23) j) →
    ∃ I', L_Mo_breaks_32 N (some g) x1 (nI i) (sh, I, J, R, n) = some (sh, I', J, R, n) ∧ (∀ a j, a ≠ g + 27 → I' a j = I a j) ∧ (∀ j, j < 8 → I' (g + 27) j = I (g + 23) j)
  | k, 0, _, _, h, _, _ => by omega
  | 0, N + 1, i, I, hN, hk, hc => by
    rw [L_Mo_breaks_32, if_pos (by rw [li_8, nI_leI (by omega) (by omega)]; omega)]
    exact ⟨I, rfl, fun _ _ _ => rfl, fun j hj => hc j (by omega)⟩
  | k + 1, N + 1, i, I, hN, hk, hc => by
    rw [L_Mo_breaks_32, if_neg (by rw [li_8, nI_leI (by omega) (by omega)]; omega), ev_ob (ms_o hl), ev_b, ev_R, mr_40 hl, ev_ar0 (ms_23 hl), ev_b, ev_ix (by omega) (by omega), ev_b, mr_44 hl, ev_ar0 (ms_27 hl), ev_b, ev_ix (by omega) (by omega), ev_b, ev_sI, ev_b, ev_I, nI_1]
    obtain ⟨I2, e2, K2, C2⟩ := e_Mo_br32 hl k N (i + 1) (hv_u I (g + 27) i (I (g + 23) i)) (by omega) (by omega) (fun j hj => by
      rw [ev_ua (a := g + 27) (b := g + 23) (by omega)]
      by_cases hji : j = i
      · rw [hji, ev_us]
      · rw [ev_uk hji]; exact hc j (by omega))
    exact ⟨I2, e2, fun a j q => (K2 a j q).trans (ev_ua q), fun j hj => (C2 j hj).trans (ev_ua (by omega))⟩
theorem e_Mo_br179 {x1 : Int32} (hl : ly_M sh R g) : ∀ (k N i : Nat) (I : Nat → Nat → Int32), k < N → i + k = 8 → (∀ j, j < i → I (g + 23) j = I (g + 27) j) →
    ∃ I', L_Mo_breaks_179 N (some g) x1 (nI i) (sh, I, J, R, n) = some (sh, I', J, R, n) ∧ (∀ a j, a ≠ g + 23 → I' a j = I a j) ∧ (∀ j, j < 8 → I' (g + 23) j = I (g + 27) j)
  | k, 0, _, _, h, _, _ => by omega
  | 0, N + 1, i, I, hN, hk, hc => by
    rw [L_Mo_breaks_179, if_pos (by rw [li_8, nI_leI (by omega) (by omega)]; omega)]
    exact ⟨I, rfl, fun _ _ _ => rfl, fun j hj => hc j (by omega)⟩
  | k + 1, N + 1, i, I, hN, hk, hc => by
    rw [L_Mo_breaks_179, if_neg (by rw [li_8, nI_leI (by omega) (by omega)]; omega), ev_ob (ms_o hl), ev_b, ev_R, mr_44 hl, ev_ar0 (ms_27 hl), ev_b, ev_ix (by omega) (by omega), ev_b, mr_40 hl, ev_ar0 (ms_23 hl), ev_b, ev_ix (by omega) (by omega), ev_b, ev_sI, ev_b, ev_I, nI_1]
    obtain ⟨I2, e2, K2, C2⟩ := e_Mo_br179 hl k N (i + 1) (hv_u I (g + 23) i (I (g + 27) i)) (by omega) (by omega) (fun j hj => by
      rw [ev_ua (a := g + 23) (b := g + 27) (by omega)]
      by_cases hji : j = i
      · rw [hji, ev_us]
      · rw [ev_uk hji]; exact hc j (by omega))
    exact ⟨I2, e2, fun a j q => (K2 a j q).trans (ev_ua q), fun j hj => (C2 j hj).trans (ev_ua (by omega))⟩
theorem e_Mo_brloop {x1 : Int32} (hl : ly_M sh R g) (hW : pg_W P) :
    ∀ (k N ct fr c S : Nat) (la : Int32) (I : Nat → Nat → Int32), k < N → T.1 + 1 ≤ fr + k → fr ≤ 21 → S + 30 * k + 30 < 2 ^ 31 → mo_P I g P → mo_X I g T → (∃ m, mm_R I g S m) → I g 36 = nI c → nw_R I g →
    ∃ I' S' c', L_Mo_breaks_63 N (some g) x1 (nI ct) la (nI fr) (sh, I, J, R, n) = some (nI (br P T k ct la fr), (sh, I', J, R, n)) ∧ rl_K g I I' ∧ S' ≤ S + 30 * k ∧ (∃ m, mm_R I' g S' m) ∧ I' g 36 = nI c' ∧ nw_R I' g
  | k, 0, _, _, _, _, _, _, h, _, _, _, _, _, _, _, _ => by omega
  | k, N + 1, ct, fr, c, S, la, I, hN, hk, hf21, hS, hp, hx, hm, h36, hnw => by
    have t20 := hx.2.1
    rw [L_Mo_breaks_63, ev_ob (ms_o hl), ev_b, ev_I, hx.1]
    by_cases hfr : T.1 < fr
    · have hout : br P T k ct la fr = ct := by
        cases k with
        | zero => rfl
        | succ k => unfold br; rw [if_pos hfr]
      rw [if_pos (by rw [nI_ltI (by omega) (by omega)]; exact hfr), hout]
      exact ⟨I, S, c, rfl, rl_K_refl, by omega, hm, h36, hnw⟩
    · match k, hk, hN, hS with
      | 0, hk, hN, hS => omega
      | k + 1, hk, hN, hS =>
        rw [if_neg (by rw [nI_ltI (by omega) (by omega)]; exact hfr)]
        obtain ⟨m, hm⟩ := hm
        obtain ⟨I1, S1, m1, e1, c1, b1, s1, mm1, K1, n1⟩ := e_Mo_runLists (J := J) (n := n) (fr := fr) (c := c) (on := true) hl hW (show fr ≤ T.1 + 1 by omega) (show S + 30 < 2 ^ 31 by omega) hp hx hm h36
        have e1' : f_Mo_runLists g (nI fr) 0 (sh, I, J, R, n) = some (sh, I1, J, R, n) := e1
        rw [ls_fc _ _ _ _ 0] at b1
        have b1 : bs_R I1 g (ls_F P T true fr).1 := b1
        have hp1 := mo_P_r K1 hp
        have hx1 := mo_X_r K1 hx
        rw [e1', ev_b, ev_ob (ms_o hl), ev_b, ev_I]
        unfold br
        rw [if_neg hfr]
        have hx0 : x_ix 8 0 = some 0 := by decide
        have hx1' : x_ix 8 1 = some 1 := by decide
        rcases b1 with ⟨b1, b2⟩ | ⟨b1, b2, b3⟩
        · rw [if_pos b2, if_pos b1, hx1.1, nI_1, ev_b]
          obtain ⟨N', rfl⟩ : ∃ N', N = N' + 1 := ⟨N - 1, by omega⟩
          rw [L_Mo_breaks_63, ev_ob (ms_o hl), ev_b, ev_I, hx1.1, if_pos (by rw [nI_ltI (by omega) (by omega)]; omega)]
          exact ⟨I1, S1, _, rfl, K1, by omega, ⟨m1, mm1⟩, c1, n1⟩
        · rw [if_neg (by rw [b2]; decide), if_neg b1]
          obtain ⟨b0, e0, g1, g2, g3, z0, z1⟩ := (ls_FR (on := true) hW t20 (show fr ≤ T.1 by omega)).resolve_left b1
          have w0 : I1 (g + 23) 0 = nI b0 := (b3 0 (by omega)).trans z0
          have w1 : I1 (g + 23) 1 = nI e0 := (b3 1 (by omega)).trans z1
          have w0' : I1 ((g + 23, 8) : Nat × Nat).1 0 = nI b0 := w0
          have w1' : I1 ((g + 23, 8) : Nat × Nat).1 1 = nI e0 := w1
          rw [ev_R, mr_40 hl, ev_ar0 (ms_23 hl), ev_b]
          rw [hx0, ev_b, hx1', ev_b, w0, w1, z0, z1, nI_clamp (by omega)]
          have hbe : (nI b0 = nI e0) ↔ b0 = e0 := by rw [nI_eq (by omega) (by omega)]
          by_cases he : b0 = e0
          · rw [if_pos (hbe.mpr he), if_pos (hbe.mpr he), if_pos (hbe.mpr he), ev_b, if_neg (show ¬ (1 : Int32) = 0 by decide), if_neg (show ¬ (1 : Int32) = 0 by decide), ev_b]
            by_cases hla : nI b0 = la
            · rw [if_pos (show I1 ((g + 23, 8) : Nat × Nat).1 0 = la by rw [w0']; exact hla), if_pos hla, ev_b, ev_b, ev_b, ev_b, ev_b, ev_b, w1', li_0, nI_add, nI_1]
              obtain ⟨I2, S2, c2, e2, K2, s2, m2, h2, n2⟩ := e_Mo_brloop hl hW k N ct (e0 + 1) _ S1 (nI e0) I1 (by omega) (by omega) (by omega) (by omega) hp1 hx1 ⟨m1, mm1⟩ c1 n1
              exact ⟨I2, S2, c2, e2, rl_K_trans K1 K2, by omega, m2, h2, n2⟩
            · rw [if_neg (show ¬ I1 ((g + 23, 8) : Nat × Nat).1 0 = la by rw [w0']; exact hla), if_neg hla, ev_b, ev_b, ev_b, ev_b, ev_b, ev_b, w1', nI_1, nI_1]
              obtain ⟨I2, S2, c2, e2, K2, s2, m2, h2, n2⟩ := e_Mo_brloop hl hW k N (ct + 1) (e0 + 1) _ S1 (nI e0) I1 (by omega) (by omega) (by omega) (by omega) hp1 hx1 ⟨m1, mm1⟩ c1 n1
              exact ⟨I2, S2, c2, e2, rl_K_trans K1 K2, by omega, m2, h2, n2⟩
          · rw [if_neg (fun h => he (hbe.mp h)), if_neg (fun h => he (hbe.mp h)), if_neg (fun h => he (hbe.mp h)), ev_b, if_pos rfl, if_pos rfl, ev_b, ev_b, ev_b, ev_b, ev_b, ev_b, w1', nI_1, li_0, nI_add]
            obtain ⟨I2, S2, c2, e2, K2, s2, m2, h2, n2⟩ := e_Mo_brloop hl hW k N (ct + 1) e0 _ S1 (nI e0) I1 (by omega) (by omega) (by omega) (by omega) hp1 hx1 ⟨m1, mm1⟩ c1 n1
            exact ⟨I2, S2, c2, e2, rl_K_trans K1 K2, by omega, m2, h2, n2⟩
end MBR
