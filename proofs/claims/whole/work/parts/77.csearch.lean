/-! THE CLASS'S SEARCH -/
section CS
variable {sh : Nat → Option (Nat × Nat)} {I I' : Nat → Nat → Int32} {J J' : Nat → Nat → Int64} {R R' : Nat → Nat → Option Nat} {n b lim pr dr : Nat} {Q : Qs} {P : pg_P} {T : tx_T}
theorem e_C_lmloop {en : Nat} (hW : pg_W P) (hen : en ≤ T.1) :
    ∀ (k N fr : Nat) (I : Nat → Nat → Int32) (J : Nat → Nat → Int64) (R : Nat → Nat → Option Nat), k < N → fr + k = en + 1 → cl_L sh R b pr dr → pg_R I pr P → tx_R I (b + 3) T →
    ∃ I' J' R', ((L_C_leftmostEndingAt_2 N (some b) (nI en) (nI fr) (sh, I, J, R, n)).bind fun e5r => e5r.elim (fun e5 => some ((0 : Int64), e5)) (fun w => some w)) = some (lm P T en k fr, (sh, I', J', R', n)) ∧ cl_L sh R' b pr dr ∧ (∀ a k, (a < b + 5 ∨ b + 14 < a) → I' a k = I a k ∧ J' a k = J a k) ∧ (∀ a k, a ≠ b + 5 → a ≠ b + 6 → R' a k = R a k)
  | k, 0, _, _, _, _, h, _, _, _, _ => by omega
  | 0, N + 1, fr, I, J, R, hN, hk, hl, hp, ht => by
    have t20 := ht.2.1
    rw [L_C_leftmostEndingAt_2, if_pos (by rw [nI_ltI (by omega) (by omega)]; omega)]
    exact ⟨I, J, R, rfl, hl, fun _ _ _ => ⟨rfl, rfl⟩, fun _ _ _ _ => rfl⟩
  | k + 1, N + 1, fr, I, J, R, hN, hk, hl, hp, ht => by
    have t20 := ht.2.1
    have hLL := hl
    obtain ⟨q1, q2, q3, q4, q5⟩ := cl_pr hl
    obtain ⟨c0, c1, c2, c3, c4, c5, c6, c7, ⟨t1, t2, c8⟩, c9, c10, c11, c12, c13, c14, c15, c16, c17, c18⟩ := hl
    obtain ⟨I1, J1, R1, t1', t2', e1, r1, l1, K1, KR1⟩ := e_Ls_find (n := n) (J := J) (L := b + 5) (fr := fr) (on := false) (by omega) (by omega) hW (show fr ≤ T.1 + 1 by omega) c8 q2 c6 hp ht
    have e1' : f_Ls_find (b + 5) (some pr) (some (b + 3)) (nI fr) 0 (sh, I, J, R, n) = _ := e1
    have hl1 : cl_L sh R1 b pr dr := cl_L_of hLL (fun k => KR1 _ _ (by omega) (by omega)) (fun a k g1 g2 => KR1 _ _ (by omega) (by omega)) (fun k => KR1 _ _ (by omega) (by omega)) ⟨t1', t2', l1⟩ (ly_K_R (fun k => KR1 _ _ (by omega) (by omega)) c10) (ly_Z_R2 (fun a k g1 g2 => KR1 _ _ (by omega) (by omega)) c12)
    have K1' : ∀ a k, (a < b + 5 ∨ b + 14 < a) → I1 a k = I a k ∧ J1 a k = J a k := fun a k q => K1 a k (by omega)
    obtain ⟨I2, J2, R2, e2, hl2, K2, KR2⟩ := e_C_lmloop hW hen k N (fr + 1) I1 J1 R1 (by omega) (by omega) hl1 (pg_R_L K1 (by omega) hp) (tx_R_L K1 (by omega) ht)
    have K12 : ∀ a k, (a < b + 5 ∨ b + 14 < a) → I2 a k = I a k ∧ J2 a k = J a k := fun a k q => ⟨(K2 a k q).1.trans (K1' a k q).1, (K2 a k q).2.trans (K1' a k q).2⟩
    have KR12 : ∀ a k, a ≠ b + 5 → a ≠ b + 6 → R2 a k = R a k := fun a k g1 g2 => (KR2 a k g1 g2).trans (KR1 a k g1 g2)
    rw [L_C_leftmostEndingAt_2, if_neg (by rw [nI_ltI (by omega) (by omega)]; omega)]
    simp only [ev_ob c0, ev_b, ev_R, c7, ev_ob c8.1, c14, c5, e1', nI_1]
    have eg : f_C_placeIn (ls_F P T false fr).1 1 (sh, I1, J1, R1, n) = some (sl_g (ls_F P T false fr).1 1, (sh, I1, J1, R1, n)) := sl_gf _ 1 _
    unfold lm
    by_cases hz : (ls_F P T false fr).1 = 0
    · rw [if_pos ((lg_c0 _).mpr hz), if_neg (fun h => h.1 hz)]
      exact ⟨I2, J2, R2, e2, hl2, K12, KR12⟩
    · rw [if_neg (fun e => hz ((lg_c0 _).mp e)), eg, ev_b]
      by_cases he : sl_g (ls_F P T false fr).1 1 = nI en
      · rw [if_pos he, if_pos ⟨hz, he⟩]
        exact ⟨I1, J1, R1, rfl, hl1, K1', KR1⟩
      · rw [if_neg he, if_neg (fun h => he h.2)]
        exact ⟨I2, J2, R2, e2, hl2, K12, KR12⟩
theorem e_C_runAutomaton {B : Nat} (hB : B + 3 < 1000000) (hA : AU lim B Q) (hl1 : 1 ≤ lim) (hlim : lim ≤ 19) (hq : Q.2.2.1 = some P) (hW : pg_W P) (hc : CL sh I J R b lim Q) :
    ∃ I' J' R', f_C_runAutomaton b (sh, I, J, R, n) = some (sh, I', J', R', n) ∧ CL sh I' J' R' b lim (Q.1, Q.2.1, Q.2.2.1, (au_E P Q.2.1 lim Q.2.2.2.1).2, (rs_F P Q.2.1 lim Q.2.2.2.1).1, nI (rs_F P Q.2.1 lim Q.2.2.2.1).2, if (au_E P Q.2.1 lim Q.2.2.2.1).1 = none then 0 else 2) ∧ cK b lim I I' J J' R R' ∧ AU lim (B + 3) (Q.1, Q.2.1, Q.2.2.1, (au_E P Q.2.1 lim Q.2.2.2.1).2, (rs_F P Q.2.1 lim Q.2.2.2.1).1, nI (rs_F P Q.2.1 lim Q.2.2.2.1).2, if (au_E P Q.2.1 lim Q.2.2.2.1).1 = none then 0 else 2) := by
  obtain ⟨pr, dr, hl, hv⟩ := hc
  have hLL := hl
  obtain ⟨q1, q2, q3, q4, q5⟩ := cl_pr hl
  obtain ⟨c0, c1, c2, c3, c4, c5, c6, c7, ⟨t1, t2, c8⟩, c9, c10, c11, c12, c13, c14, c15, c16, c17, c18⟩ := hl
  have hp := hv.2.2.2.2.1
  rw [hq] at hp
  have hX := hv.2.2.2.2.2.1
  have hgp : Q.2.2.1.getD p0 = P := by rw [hq]; rfl
  obtain ⟨a1, a2, a3⟩ := hA
  rw [hgp] at hX a1 a2
  have t20 := hv.2.2.2.1.2.1
  obtain ⟨I1, J1, R1, e1, x1, i1, z1, z2, z3, z4, K1⟩ := e_Au_lastEnd (n := n) (J := J) (A := b + 35) (B := B) hl1 hlim hW (by omega) (by omega) (by omega) q2 c6 hp.2.1 hv.2.2.2.1 a1 a3 hX
  obtain ⟨hC1, -⟩ := au_EC (T := Q.2.1) hW hl1 t20 a1 a2
  have hAU : AU lim (B + 3) (Q.1, Q.2.1, Q.2.2.1, (au_E P Q.2.1 lim Q.2.2.2.1).2, (rs_F P Q.2.1 lim Q.2.2.2.1).1, nI (rs_F P Q.2.1 lim Q.2.2.2.1).2, if (au_E P Q.2.1 lim Q.2.2.2.1).1 = none then 0 else 2) := by
    refine ⟨?_, ?_, z2⟩
    · show au_I (Q.2.2.1.getD p0) lim _
      rw [hgp]; exact i1
    · show au_C (Q.2.2.1.getD p0) _
      rw [hgp]; exact hC1
  obtain ⟨K1q, K1R⟩ := K1
  have hRb : ∀ k, R1 b k = R b k := fun k => K1R _ _ (by omega) (by omega) (by omega)
  have hl1' : cl_L sh R1 b pr dr := cl_L_of hLL hRb (fun a k g1 g2 => K1R _ _ (by omega) (by omega) (by omega)) (fun k => K1R _ _ (by omega) (by omega) (by omega)) ⟨t1, t2, ly_L_R2 (fun a k g1 g2 => K1R _ _ (by omega) (by omega) (by omega)) c8⟩ (ly_K_R (fun k => K1R _ _ (by omega) (by omega) (by omega)) c10) (ly_Z_R2 (fun a k g1 g2 => K1R _ _ (by omega) (by omega) (by omega)) c12)
  have x1' := x1
  obtain ⟨ad, sp, xL, xR⟩ := x1
  have eg := e_Au_gaveUp (J := J1) (R := R1) (n := n) xL.1 xR.2.2.1 (by omega)
  unfold f_C_runAutomaton
  simp only [ev_ob c0, ev_b, ev_R, c13, ev_ob xL.1, c14, c5, e1, hRb, eg]
  by_cases hg : (au_E P Q.2.1 lim Q.2.2.2.1).1 = none
  · -- it gave up: lists
    have h3 : 3 ≤ (au_E P Q.2.1 lim Q.2.2.2.1).2.2.2.1 := by have := z1.mp hg; omega
    rw [decide_eq_true h3, if_neg (show ¬ bI true = 0 by decide)]
    have hcl1 : CL sh I1 J1 R1 b lim (Q.1, Q.2.1, Q.2.2.1, (au_E P Q.2.1 lim Q.2.2.2.1).2, Q.2.2.2.2.1, Q.2.2.2.2.2.1, Q.2.2.2.2.2.2) := cl_make (I := I) (J := J) (R := R) hl1' hv (fun a k q => (K1q a k (by omega)).1) (by rw [hgp]; exact x1') ((K1q _ _ (by omega)).2.trans hv.2.2.2.2.2.2.1) ((K1q _ _ (by omega)).1.trans hv.2.2.2.2.2.2.2.1) ((K1q _ _ (by omega)).1.trans hv.2.2.2.2.2.2.2.2)
    obtain ⟨I2, J2, R2, e2, r2, K2⟩ := e_C_runLists (n := n) (P := P) (Q := (Q.1, Q.2.1, Q.2.2.1, (au_E P Q.2.1 lim Q.2.2.2.1).2, Q.2.2.2.2.1, Q.2.2.2.2.2.1, Q.2.2.2.2.2.2)) ⟨hAU.1, hAU.2.1, by have := hAU.2.2; show (au_E P Q.2.1 lim Q.2.2.2.1).2.2.1 ≤ _; omega⟩ hq hW hcl1
    rw [e2, ev_b]
    have hrs : rs_F P Q.2.1 lim Q.2.2.2.1 = ls_F P Q.2.1 true 0 := by unfold rs_F; rw [hg]
    rw [if_pos hg] at hAU ⊢
    rw [hrs] at hAU ⊢
    exact ⟨I2, J2, R2, rfl, r2, cK_trans (fun a k q => ⟨(K1q a k (by omega)).1, (K1q a k (by omega)).2, K1R a k (by omega) (by omega) (by omega)⟩) K2, hAU⟩
  · have h3 : ¬ 3 ≤ (au_E P Q.2.1 lim Q.2.2.2.1).2.2.2.1 := fun h => hg (z1.mpr (by omega))
    rw [decide_eq_false h3, if_pos (show bI false = 0 by decide)]
    rw [if_neg hg] at hAU ⊢
    -- the best match
    have hbest : ∃ I2 J2 R2, ((if cI (au_E P Q.2.1 lim Q.2.2.2.1).1 = -1 then some ((0 : Int64), (sh, I1, J1, R1, n)) else (x_ob (sh, I1, J1, R1, n) 0 (some b)).bind fun a7 => (f_C_leftmostEndingAt a7 (cI (au_E P Q.2.1 lim Q.2.2.2.1).1) (sh, I1, J1, R1, n)).bind fun p8 => some (p8.1, p8.2)) : Option (Int64 × hv_S)) = some ((rs_F P Q.2.1 lim Q.2.2.2.1).1, (sh, I2, J2, R2, n)) ∧ cl_L sh R2 b pr dr ∧ (∀ a k, (a < b + 5 ∨ b + 14 < a) → I2 a k = I1 a k ∧ J2 a k = J1 a k) ∧ (∀ a k, a ≠ b + 5 → a ≠ b + 6 → R2 a k = R1 a k) ∧ (rs_F P Q.2.1 lim Q.2.2.2.1).2 = (au_E P Q.2.1 lim Q.2.2.2.1).2.2.2.2 := by
      unfold rs_F
      match hE : (au_E P Q.2.1 lim Q.2.2.2.1).1 with
      | none => exact absurd hE hg
      | some none =>
        rw [if_pos (show cI (some none) = -1 from rfl)]
        exact ⟨I1, J1, R1, rfl, hl1', fun _ _ _ => ⟨rfl, rfl⟩, fun _ _ _ _ => rfl, rfl⟩
      | some (some e) =>
        have he := z4 e hE
        rw [if_neg (show ¬ cI (some (some e)) = -1 by show ¬ nI e = -1; rw [ev_n1 (by omega)]; exact not_false)]
        obtain ⟨I2, J2, R2, e2, l2, K2, KR2⟩ := e_C_lmloop (n := n) (J := J1) (I := I1) (R := R1) (T := Q.2.1) hW he (e + 1) 100000 0 (by omega) (by omega) hl1' (pg_R_q K1q (by omega) hp.2.1) (tx_R_q K1q (by omega) hv.2.2.2.1)
        have e2' : f_C_leftmostEndingAt b (cI (some (some e))) (sh, I1, J1, R1, n) = some (lm P Q.2.1 e (e + 1) 0, (sh, I2, J2, R2, n)) := by
          unfold f_C_leftmostEndingAt
          exact e2
        simp only [ev_ob c0, ev_b, e2']
        exact ⟨I2, J2, R2, rfl, l2, K2, KR2, trivial⟩
    obtain ⟨I2, J2, R2, e2, l2, K2, KR2, hcnt⟩ := hbest
    simp only [ev_ob c0, ev_b] at e2
    rw [e2, ev_b]
    have x7 : I2 (b + 35) 7 = nI (au_E P Q.2.1 lim Q.2.2.2.1).2.2.2.2 := (K2 _ _ (by omega)).1.trans xR.2.2.2.1
    have r7 : R2 b 7 = some (b + 35) := (KR2 _ _ (by omega) (by omega)).trans ((hRb _).trans c13)
    unfold f_Au_statesMade
    simp only [ev_ob c0, ev_b, ev_sJ, ev_R, r7, ev_ob xL.1, ev_I, x7, e_C_note c0]
    rw [hcnt]
    rw [hcnt] at hAU
    have hIq : ∀ a k, (a < b + 5 ∨ (b + 14 < a ∧ a < b + 35)) → (a ≠ b ∨ (k ≠ 12 ∧ k ≠ 13)) → (hv_u (hv_u I2 b 13 2) b 12 (nI (au_E P Q.2.1 lim Q.2.2.2.1).2.2.2.2)) a k = I a k := fun a k q1 q2 => by
      have e : (hv_u (hv_u I2 b 13 2) b 12 (nI (au_E P Q.2.1 lim Q.2.2.2.1).2.2.2.2)) a k = I2 a k := by
        by_cases ha : a = b
        · rw [ev_uk (by omega), ev_uk (by omega)]
        · rw [ev_ua ha, ev_ua ha]
      rw [e, (K2 _ _ (by omega)).1]; exact (K1q _ _ (by omega)).1
    refine ⟨_, _, R2, rfl, cl_make (I := I) (J := J) (R := R) l2 hv (fun a k q => hIq a k (by omega) (by omega)) ?_ ev_us ev_us (by rw [ev_uk (by omega), ev_us]), fun a k q => ⟨?_, ?_, ?_⟩, hAU⟩
    · rw [hgp]
      exact au_X_mono i1 (fun a k q => by rw [ev_ua (by omega), ev_ua (by omega)]; exact (K2 _ _ (by omega)).1) (fun a k q => KR2 _ _ (by omega) (by omega)) x1'
    · rw [ev_ua (by omega), ev_ua (by omega), (K2 _ _ (by omega)).1]; exact (K1q _ _ (by omega)).1
    · rw [ev_ua (by omega), (K2 _ _ (by omega)).2]; exact (K1q _ _ (by omega)).2
    · rw [KR2 _ _ (by omega) (by omega)]; exact K1R _ _ (by omega) (by omega) (by omega)
/-- which matcher is used -/
noncomputable def se_m (P : pg_P) (T : tx_T) (x : Nat) : Nat := if x = 4 then (if sf P then 3 else if 128 < P.1 * (T.1 + 1) then 2 else 1) else x
/-- what a search by m leaves -/
noncomputable def se_Q (P : pg_P) (lim m : Nat) (Q : Qs) : Qs :=
  if m = 1 then (Q.1, Q.2.1, Q.2.2.1, Q.2.2.2.1, (mk_F P Q.2.1).1, nI (mk_F P Q.2.1).2, 1)
  else if m = 2 then (Q.1, Q.2.1, Q.2.2.1, (au_E P Q.2.1 lim Q.2.2.2.1).2, (rs_F P Q.2.1 lim Q.2.2.2.1).1, nI (rs_F P Q.2.1 lim Q.2.2.2.1).2, if (au_E P Q.2.1 lim Q.2.2.2.1).1 = none then 0 else 2)
  else if m = 3 then (Q.1, Q.2.1, Q.2.2.1, Q.2.2.2.1, (si_F P Q.2.1 1).1, nI (si_F P Q.2.1 1).2, 3)
  else (Q.1, Q.2.1, Q.2.2.1, Q.2.2.2.1, (ls_F P Q.2.1 true 0).1, nI (ls_F P Q.2.1 true 0).2, 0)
/-- what the class's search answers: a place, or what it throws -/
noncomputable def se_A (Q : Qs) (lim : Nat) (x : Int32) : Int32 ⊕ Nat :=
  match Q.2.2.1 with
  | none => if x < 0 then .inr 89 else if x ≤ 4 then .inr 131 else .inr 89
  | some P => if x < 0 then .inr 89 else if x ≤ 4 then (if x = 3 ∧ sf P = false then .inr 131 else .inl (sl_g (se_Q P lim (se_m P Q.2.1 x.toNatClampNeg) Q).2.2.2.2.1 0)) else .inr 89
end CS
