/-! BREAKS -/
def ls_r (T : tx_T) (fr : Nat) (w : Int64) : Prop := ∃ b e, fr ≤ b ∧ b ≤ e ∧ e ≤ T.1 ∧ sl_g w 0 = nI b ∧ sl_g w 1 = nI e
section BR
variable {P : pg_P} {T : tx_T}
theorem ls_res {on : Bool} {fr : Nat} (hW : pg_W P) (h20 : T.1 ≤ 20) : ∀ (k p : Nat) (b : Int64) (c : Nat) (l : List (Nat × Int64)), p + k = T.1 + 1 → fr ≤ p → (∀ e, e ∈ l → e.1 < P.1 ∧ sl_B fr p e.2) → (b = 0 ∨ ls_r T fr b) → (ls_f P T on k p b c l).1 = 0 ∨ ls_r T fr (ls_f P T on k p b c l).1
  | 0, p, b, c, l, _, _, _, hb => by unfold ls_f; exact hb
  | k + 1, p, b, c, l, hk, hfr, hl, hb => by
    rw [ls_fs]
    have hI := ls_gI (T := T) (fr := fr) hW (show p < 30 by omega) l c fo_0 hl (ls_I0 hW)
    obtain ⟨hI, hw⟩ := hI
    have hb' : ls_b (ls_g P T p l c fo_0).1 b p = 0 ∨ ls_r T fr (ls_b (ls_g P T p l c fo_0).1 b p) := by
      unfold ls_b
      by_cases h0 : (ls_g P T p l c fo_0).1 = 0
      · rw [if_pos h0]; exact hb
      · rw [if_neg h0]
        obtain ⟨b0, g1, g2, g3⟩ := hw.resolve_left h0
        right
        exact ⟨b0, p, g1, g2, by omega, by rw [sl_gw (by omega) (by omega) (by omega), if_neg (by omega)]; exact g3, by rw [sl_gw (by omega) (by omega) (by omega), if_pos rfl]⟩
    refine ls_res hW h20 k (p + 1) _ _ _ (by omega) (by omega) ?_ hb'
    have hJ : ls_I P fr (p + 1) (ls_o P T on p (ls_b (ls_g P T p l c fo_0).1 b p) (ls_g P T p l c fo_0).2.2) := by
      unfold ls_o
      split
      · exact ls_IF hW (by omega) hW.1 (sl_B_0 (by omega) (by omega)) hI
      · exact hI
    exact fun e he => ⟨hJ.1.2 e he, hJ.2 e he⟩
theorem ls_FR {on : Bool} {fr : Nat} (hW : pg_W P) (h20 : T.1 ≤ 20) (hfr : fr ≤ T.1) : (ls_F P T on fr).1 = 0 ∨ ls_r T fr (ls_F P T on fr).1 := by
  unfold ls_F
  have hI : ls_I P fr fr (fo_F P fr (tx_r T fr) 0 (sl_w 0 0 fr) fo_0) := ls_IF hW (by omega) hW.1 (sl_B_0 (by omega) (Nat.le_refl _)) (ls_I0 hW)
  exact ls_res hW h20 _ _ _ _ _ (by omega) (Nat.le_refl _) (fun e he => ⟨hI.1.2 e he, hI.2 e he⟩) (Or.inl rfl)
/-- how many matches, one behind the other -/
noncomputable def br (P : pg_P) (T : tx_T) : Nat → Nat → Int32 → Nat → Nat
  | 0, ct, _, _ => ct
  | k + 1, ct, la, fr =>
    if T.1 < fr then ct
    else if (ls_F P T true fr).1 = 0 then ct
    else br P T k (if sl_g (ls_F P T true fr).1 0 = sl_g (ls_F P T true fr).1 1 then (if sl_g (ls_F P T true fr).1 0 = la then ct else ct + 1) else ct + 1) (sl_g (ls_F P T true fr).1 1) (if sl_g (ls_F P T true fr).1 0 = sl_g (ls_F P T true fr).1 1 then (sl_g (ls_F P T true fr).1 1).toNatClampNeg + 1 else (sl_g (ls_F P T true fr).1 1).toNatClampNeg)
end BR
noncomputable def br_A (Q : Qs) : Int32 ⊕ Nat :=
  match Q.2.2.1 with
  | none => .inr 131
  | some P => .inl (nI (br P Q.2.1 (Q.2.1.1 + 1) 0 (-1) 0))
section BS
variable {sh : Nat → Option (Nat × Nat)} {I I' : Nat → Nat → Int32} {J J' : Nat → Nat → Int64} {R R' : Nat → Nat → Option Nat} {n b g lim B S pr dr : Nat} {Q Q' : Qs} {P : pg_P}
/-- the class looks from fr on: nothing else changes -/
theorem e_C_find {fr : Nat} (hA : AU lim B Q) (hq : Q.2.2.1 = some P) (hW : pg_W P) (hfr : fr ≤ Q.2.1.1 + 1) (hl : cl_L sh R b pr dr) (hv : cl_V sh I J R b lim pr Q) :
    ∃ I' J' R', f_Ls_find (b + 5) (some pr) (some (b + 3)) (nI fr) 1 (sh, I, J, R, n) = some ((ls_F P Q.2.1 true fr).1, (sh, I', J', R', n)) ∧ cl_L sh R' b pr dr ∧ cl_V sh I' J' R' b lim pr Q ∧ cK b lim I I' J J' R R' := by
  have hLL := hl
  obtain ⟨q1, q2, q3, q4, q5⟩ := cl_pr hl
  obtain ⟨c0, c1, c2, c3, c4, c5, c6, c7, ⟨t1, t2, c8⟩, c9, c10, c11, c12, c13, c14, c15, c16, c17, c18⟩ := hl
  have hp := hv.2.2.2.2.1
  rw [hq] at hp
  obtain ⟨I1, J1, R1, t1', t2', e1, r1, l1, K1, KR1⟩ := e_Ls_find (n := n) (J := J) (L := b + 5) (fr := fr) (on := true) (by omega) (by omega) hW hfr c8 q2 c6 hp.2.1 hv.2.2.2.1
  have e1' : f_Ls_find (b + 5) (some pr) (some (b + 3)) (nI fr) 1 (sh, I, J, R, n) = _ := e1
  have hRb : ∀ k, R1 b k = R b k := fun k => KR1 _ _ (by omega) (by omega)
  have hl1 : cl_L sh R1 b pr dr := cl_L_of hLL hRb (fun a k g1 g2 => KR1 _ _ (by omega) (by omega)) (fun k => KR1 _ _ (by omega) (by omega)) ⟨t1', t2', l1⟩ (ly_K_R (fun k => KR1 _ _ (by omega) (by omega)) c10) (ly_Z_R2 (fun a k g1 g2 => KR1 _ _ (by omega) (by omega)) c12)
  refine ⟨I1, J1, R1, e1', hl1, ?_, fun a k q => ⟨(K1 _ _ (by omega)).1, (K1 _ _ (by omega)).2, KR1 _ _ (by omega) (by omega)⟩⟩
  obtain ⟨h1, h2, h3, h4, h5, h6, h7, h8, h9⟩ := hv
  have K1' : ∀ a k, (a < b + 5 ∨ b + 14 < a) → I1 a k = I a k := fun a k q => (K1 a k (by omega)).1
  refine ⟨(K1' _ _ (by omega)).trans h1, h2, fun k hk => ⟨(K1' _ _ (by omega)).trans (h3 k hk).1, (h3 k hk).2⟩, ⟨(K1' _ _ (by omega)).trans h4.1, h4.2.1, fun k hk => ⟨(K1' _ _ (by omega)).trans (h4.2.2 k hk).1, (h4.2.2 k hk).2⟩⟩, ?_, au_X_mono hA.1 (fun a k q => K1' _ _ (by omega)) (fun a k q => KR1 _ _ (by omega) (by omega)) h6, ((K1 _ _ (by omega)).2).trans h7, (K1' _ _ (by omega)).trans h8, (K1' _ _ (by omega)).trans h9⟩
  rw [hq] at h5 ⊢
  obtain ⟨q1, q2, q3⟩ := h5
  exact ⟨q1, ⟨(K1' _ _ (by omega)).trans q2.1, q2.2.1, fun i hi' => ⟨(K1' _ _ (by omega)).trans (q2.2.2 i hi').1, (K1' _ _ (by omega)).trans (q2.2.2 i hi').2.1, (K1' _ _ (by omega)).trans (q2.2.2 i hi').2.2⟩⟩, (K1' _ _ (by omega)).trans q3⟩
theorem e_C_brloop (hA : AU lim B Q) (hq : Q.2.2.1 = some P) (hW : pg_W P) :
    ∀ (k N ct fr x4 : Nat) (la : Int32) (I : Nat → Nat → Int32) (J : Nat → Nat → Int64) (R : Nat → Nat → Option Nat), k < N → Q.2.1.1 + 1 ≤ fr + k → x4 ≤ fr → fr ≤ 21 → x4 ≤ 21 → cl_L sh R b pr dr → cl_V sh I J R b lim pr Q →
    ∃ I' J' R', L_C_breaks_29 N (some b) (nI ct) la (nI fr) (nI x4) (sh, I, J, R, n) = some (nI (br P Q.2.1 k ct la fr), (sh, I', J', R', n)) ∧ cl_L sh R' b pr dr ∧ cl_V sh I' J' R' b lim pr Q ∧ cK b lim I I' J J' R R'
  | k, 0, _, _, _, _, _, _, _, h, _, _, _, _, _, _ => by omega
  | k, N + 1, ct, fr, x4, la, I, J, R, hN, hk, hx, hf21, hx21, hl, hv => by
    have t20 := hv.2.2.2.1.2.1
    have hid : cK b lim I I J J R R := fun _ _ _ => ⟨rfl, rfl, rfl⟩
    obtain ⟨q1, q2, -⟩ := cl_pr hl
    have hLL := hl
    obtain ⟨c0, c1, c2, c3, c4, c5, c6, c7, ⟨t1, t2, c8⟩, c9, c10, c11, c12, c13, c14, c15, c16, c17, c18⟩ := hl
    have hout : Q.2.1.1 < fr → br P Q.2.1 k ct la fr = ct := fun h => by
      cases k with
      | zero => rfl
      | succ k => unfold br; rw [if_pos h]
    rw [L_C_breaks_29]
    by_cases h20 : 20 < x4
    · rw [if_pos (by rw [li_20, nI_ltI (by omega) (by omega)]; exact h20), hout (by omega)]
      exact ⟨I, J, R, rfl, hLL, hv, hid⟩
    · rw [if_neg (by rw [li_20, nI_ltI (by omega) (by omega)]; exact h20), ev_ob c0, ev_b, ev_R, c5, ev_ob c6.1, ev_b, e_Tx_length c6 hv.2.2.2.1, ev_b]
      by_cases hfr : Q.2.1.1 < fr
      · rw [if_pos (by rw [nI_ltI (by omega) (by omega)]; exact hfr), hout hfr]
        exact ⟨I, J, R, rfl, hLL, hv, hid⟩
      · match k, hk, hN with
        | 0, hk, hN => omega
        | k + 1, hk, hN =>
          rw [if_neg (by rw [nI_ltI (by omega) (by omega)]; exact hfr), ev_ob c0, ev_b, ev_R, c7, ev_ob c8.1, ev_b, c14, c5]
          obtain ⟨I1, J1, R1, e1, l1, v1, K1⟩ := e_C_find (n := n) (fr := fr) hA hq hW (by omega) hLL hv
          rw [e1, ev_b]
          unfold br
          rw [if_neg hfr]
          by_cases hz : (ls_F P Q.2.1 true fr).1 = 0
          · rw [if_pos ((lg_c0 _).mpr hz), if_pos hz]
            exact ⟨I1, J1, R1, rfl, l1, v1, K1⟩
          · rw [if_neg (fun e => hz ((lg_c0 _).mp e)), if_neg hz]
            obtain ⟨b0, e0, g1, g2, g3, s0, s1⟩ := (ls_FR (on := true) hW t20 (show fr ≤ Q.2.1.1 by omega)).resolve_left hz
            have eg0 : f_C_placeIn (ls_F P Q.2.1 true fr).1 0 (sh, I1, J1, R1, n) = some (sl_g (ls_F P Q.2.1 true fr).1 0, (sh, I1, J1, R1, n)) := sl_gf _ 0 _
            have eg1 : f_C_placeIn (ls_F P Q.2.1 true fr).1 1 (sh, I1, J1, R1, n) = some (sl_g (ls_F P Q.2.1 true fr).1 1, (sh, I1, J1, R1, n)) := sl_gf _ 1 _
            rw [eg0, ev_b, eg1, ev_b, s0, s1, nI_clamp (by omega)]
            have hbe : (nI b0 = nI e0) ↔ b0 = e0 := by rw [nI_eq (by omega) (by omega)]
            by_cases he : b0 = e0
            · rw [if_pos (hbe.mpr he), if_pos (hbe.mpr he), if_pos (hbe.mpr he), ev_b, if_neg (show ¬ (1 : Int32) = 0 by decide), if_neg (show ¬ (1 : Int32) = 0 by decide), nI_1, nI_1, nI_1]
              by_cases hla : nI b0 = la
              · rw [if_pos hla, if_pos hla, ev_b, ev_b]
                obtain ⟨I2, J2, R2, e2, l2, v2, K2⟩ := e_C_brloop hA hq hW k N ct (e0 + 1) (x4 + 1) (nI e0) I1 J1 R1 (by omega) (by omega) (by omega) (by omega) (by omega) l1 v1
                exact ⟨I2, J2, R2, e2, l2, v2, cK_trans K1 K2⟩
              · rw [if_neg hla, if_neg hla, ev_b, ev_b]
                obtain ⟨I2, J2, R2, e2, l2, v2, K2⟩ := e_C_brloop hA hq hW k N (ct + 1) (e0 + 1) (x4 + 1) (nI e0) I1 J1 R1 (by omega) (by omega) (by omega) (by omega) (by omega) l1 v1
                exact ⟨I2, J2, R2, e2, l2, v2, cK_trans K1 K2⟩
            · rw [if_neg (fun h => he (hbe.mp h)), if_neg (fun h => he (hbe.mp h)), if_neg (fun h => he (hbe.mp h)), ev_b, if_pos rfl, if_pos rfl, ev_b, ev_b, nI_1, nI_1]
              obtain ⟨I2, J2, R2, e2, l2, v2, K2⟩ := e_C_brloop hA hq hW k N (ct + 1) e0 (x4 + 1) (nI e0) I1 J1 R1 (by omega) (by omega) (by omega) (by omega) (by omega) l1 v1
              exact ⟨I2, J2, R2, e2, l2, v2, cK_trans K1 K2⟩
theorem e_C_breaks (hA : AU lim B Q) (hc : CL sh I J R b lim Q) :
    ∃ I' J' R' n', f_C_breaks b (sh, I, J, R, n) = some (br_A Q, (sh, I', J', R', n')) ∧ CL sh I' J' R' b lim Q ∧ cK b lim I I' J J' R R' ∧ n ≤ n' := by
  have hcc := hc
  obtain ⟨pr, dr, hl, hv⟩ := hc
  have hLL := hl
  obtain ⟨q1, q2, -⟩ := cl_pr hl
  obtain ⟨c0, c1, c2, c3, c4, c5, c6, c7, c8, c9, c10, c11, c12, c13, c14, c15, c16, c17, c18⟩ := hl
  have hbump : hv_bump (sh, I, J, R, n) = (sh, I, J, R, n + 1) := rfl
  have t20 := hv.2.2.2.1.2.1
  unfold f_C_breaks br_A
  rw [ev_ob c0, ev_b, ev_R, c14, ev_ob q2.1, ev_b, C_size q2 (CL_size hv), ev_b]
  have h := hv.2.2.2.2.1
  match hq : Q.2.2.1 with
  | none =>
    rw [if_pos (show nI (Option.getD none p0).1 = 0 from rfl), hbump]
    exact ⟨I, J, R, n + 1, rfl, hcc, fun _ _ _ => ⟨rfl, rfl, rfl⟩, by omega⟩
  | some P =>
    rw [hq] at h
    have h49 := h.1.2.1
    have h1 := h.1.1
    rw [if_neg (show ¬ nI (Option.getD (some P) p0).1 = 0 by show ¬ nI P.1 = 0; rw [li_0, nI_eq (by omega) (by omega)]; omega)]
    obtain ⟨I1, J1, R1, e1, l1, v1, K1⟩ := e_C_brloop (n := n) hA hq h.1 (Q.2.1.1 + 1) 100000 0 0 0 (-1) I J R (by omega) (by omega) (by omega) (by omega) (by omega) hLL hv
    have e1' : L_C_breaks_29 100000 (some b) 0 (-1) 0 0 (sh, I, J, R, n) = _ := e1
    rw [e1', ev_b]
    exact ⟨I1, J1, R1, n, rfl, ⟨pr, dr, l1, v1⟩, K1, Nat.le_refl _⟩
end BS
