/-! COMPILE, the class's side -/
/-- after a compile -/
noncomputable def co_Q (Q : Qs) (c : cd) : Qs := (Q.1, Q.2.1, some (pg_of c), ([], 0, Q.2.2.2.1.2.2.1, Q.2.2.2.1.2.2.2), 0, -1, -1)
noncomputable def co_S (Q : Qs) : Qs :=
  match mR Q.1 with
  | none => Q
  | some c => co_Q Q c
noncomputable def co_A (Q : Qs) : Int32 ⊕ Nat :=
  match mR Q.1 with
  | none => .inr 89
  | some c => .inl (nI c.length)
theorem co_SN {Q : Qs} (h : mR Q.1 = none) : co_S Q = Q := by unfold co_S; rw [h]
theorem co_SS {Q : Qs} {c : cd} (h : mR Q.1 = some c) : co_S Q = co_Q Q c := by unfold co_S; rw [h]
theorem co_AN {Q : Qs} (h : mR Q.1 = none) : co_A Q = .inr 89 := by unfold co_A; rw [h]
theorem co_AS {Q : Qs} {c : cd} (h : mR Q.1 = some c) : co_A Q = .inl (nI c.length) := by unfold co_A; rw [h]
section CO
variable {sh : Nat → Option (Nat × Nat)} {I I' : Nat → Nat → Int32} {J J' : Nat → Nat → Int64} {R R' : Nat → Nat → Option Nat} {n b g lim B : Nat} {Q : Qs} {P : pg_P} {c : cd}
theorem mR_W {s : sc_T} (h24 : s.1 ≤ 24) (h : mR s = some c) : pg_W (pg_of c) := mr_W _ _ _ _ _ _ _ _ _ (mI_0 h24) h
theorem AU_co (hA : AU lim B Q) : AU lim B (co_S Q) := by
  match h : mR Q.1 with
  | none => rw [co_SN h]; exact hA
  | some c =>
    rw [co_SS h]
    exact ⟨⟨Nat.zero_le _, fun s hs => by cases hs⟩, fun x s c j hx => by simp [co_Q] at hx, Nat.zero_le _⟩
theorem pg_c {k : Nat} (hk : k < c.length) : ∃ i, c[k]? = some i ∧ (pg_of c).2.1 k = i.1 ∧ (pg_of c).2.2.1 k = i.2.1 ∧ (pg_of c).2.2.2 k = i.2.2 := by
  refine ⟨c[k], List.getElem?_eq_getElem hk, ?_, ?_, ?_⟩
  · show (c.getD k (0, 0, 0)).1 = _
    rw [List.getD_eq_getElem?_getD, List.getElem?_eq_getElem hk]; rfl
  · show (c.getD k (0, 0, 0)).2.1 = _
    rw [List.getD_eq_getElem?_getD, List.getElem?_eq_getElem hk]; rfl
  · show (c.getD k (0, 0, 0)).2.2 = _
    rw [List.getD_eq_getElem?_getD, List.getElem?_eq_getElem hk]; rfl
theorem pc_pg (hW : pg_W (pg_of c)) (h : pc_R I g c) : pg_R I g (pg_of c) := by
  refine ⟨h.1, hW.2.1, fun k hk => ?_⟩
  obtain ⟨i, hi, e1, e2, e3⟩ := pg_c hk
  have h7 := (hW.2.2.1 k hk).1
  rw [e1] at h7
  obtain ⟨a1, a2, a3⟩ := h.2 k i hi
  rw [e1, e2, e3]
  refine ⟨?_, ?_, a3⟩
  · rw [a1]; unfold ck; rw [if_neg (by omega)]
  · rw [a2]; unfold cx; rw [if_neg (by omega)]
theorem au_X_nil {P' : pg_P} {A : Nat} {U : au_A} (h4 : I' A 4 = 0) (h5 : I' A 5 = 0) (h6 : I' A 6 = I A 6) (h7 : I' A 7 = I A 7) (hR : ∀ a k, A ≤ a → R' a k = R a k) (h : au_X P sh I R A lim U) : au_X P' sh I' R' A lim ([], 0, U.2.2.1, U.2.2.2) := by
  obtain ⟨ad, sp, hL, hRR⟩ := h
  obtain ⟨l0, lF, lT, l10, r0, r1, r2, r3, rr, o1, o2, o3, o4, o5⟩ := hL
  refine ⟨ad, sp, ⟨l0, ly_F_R (fun k => hR _ _ (by omega)) lF, ly_T_R (fun k => hR _ _ (by omega)) lT, l10, (hR _ _ (by omega)).trans r0, (hR _ _ (by omega)).trans r1, (hR _ _ (by omega)).trans r2, (hR _ _ (by omega)).trans r3, fun k hk => (hR _ _ (by omega)).trans (rr k hk), o1, o2, o3, o4, fun a ha => ?_⟩, h4, h5, h6.trans hRR.2.2.1, h7.trans hRR.2.2.2.1, fun k s hs => by simp at hs⟩
  have hg := sp_ge ha
  obtain ⟨a1, a2, a3, a4, a5⟩ := o5 a ha
  exact ⟨a1, a2, a3, (hR _ _ (by omega)).trans a4, (hR _ _ (by omega)).trans a5⟩
theorem e_C_compile (hA : AU lim B Q) (hc : CL sh I J R b lim Q) :
    ∃ I' J' R' n', f_C_compile b (sh, I, J, R, n) = some (co_A Q, (sh, I', J', R', n')) ∧ CL sh I' J' R' b lim (co_S Q) ∧ cK b lim I I' J J' R R' ∧ n ≤ n' := by
  obtain ⟨pr, dr, hl, hv⟩ := hc
  have hLL := hl
  obtain ⟨q1, q2, q3, q4, q5⟩ := cl_pr hl
  obtain ⟨c0, c1, c2, c3, c4, c5, c6, c7, c8, c9, c10, c11, c12, c13, c14, c15, c16, c17, c18⟩ := hl
  have h24 := hv.2.1
  obtain ⟨I1, R1, r, e1, s1, f1, K1, KR1⟩ := e_Wr_write (n := n) (J := J) (I := I) (R := R) (s := Q.1) (W := b + 2) (pat := b + 1) (g := dr) q4 c4 c2 (by omega) (by omega) (by omega) h24 hv.2.2.1
  unfold f_C_compile
  rw [ev_ob c0, ev_b, ev_R, c3, ev_ob c4, ev_b, ev_I, c1, c15, hv.1, e1, ev_b]
  match hm : mR Q.1 with
  | none =>
    have hr := f1 hm
    subst hr
    rw [if_pos (show bI false = 0 by decide), co_AN hm, co_SN hm]
    have hl1 : cl_L sh R1 b pr dr := cl_L_of hLL (fun k => KR1 _ _ (by omega)) (fun a k g1 g2 => KR1 _ _ (by omega)) (fun k => KR1 _ _ (by omega)) (by obtain ⟨t1, t2, c8⟩ := c8; exact ⟨t1, t2, ly_L_R2 (fun a k g1 g2 => KR1 _ _ (by omega)) c8⟩) (ly_K_R (fun k => KR1 _ _ (by omega)) c10) (ly_Z_R2 (fun a k g1 g2 => KR1 _ _ (by omega)) c12)
    refine ⟨I1, J, R1, n + 1, rfl, cl_make (I := I) (J := J) (R := R) hl1 hv (fun a k q => K1 _ _ (by omega) (by omega)) (au_X_mono hA.1 (fun a k q => K1 _ _ (by omega) (by omega)) (fun a k q => KR1 _ _ (by omega)) hv.2.2.2.2.2.1) hv.2.2.2.2.2.2.1 ((K1 _ _ (by omega) (by omega)).trans hv.2.2.2.2.2.2.2.1) ((K1 _ _ (by omega) (by omega)).trans hv.2.2.2.2.2.2.2.2), fun a k q => ⟨K1 _ _ (by omega) (by omega), rfl, KR1 _ _ (by omega)⟩, by omega⟩
  | some c =>
    obtain ⟨hr, hpc⟩ := s1 c hm
    subst hr
    have hW := mR_W h24 hm
    have hpg := pc_pg hW hpc
    rw [if_neg (show ¬ bI true = 0 by decide), co_AS hm, co_SS hm, ev_ob c0, ev_b, ev_R, ev_sR, ev_b, ev_sR, ev_b, ev_R]
    have kb : ∀ k, R1 b k = R b k := fun k => KR1 _ _ (by omega)
    rw [kb, kb, c15, c14]
    have K2 : ∀ a k, (a ≠ b ∨ (k ≠ 8 ∧ k ≠ 9)) → a ≠ b + 2 → (hv_u (hv_u R1 b 8 (some dr)) b 9 (some pr)) a k = R a k := fun a k h1 h2 => by
      rcases h1 with h1 | h1
      · rw [ev_ua h1, ev_ua h1, KR1 _ _ h2]
      · rw [ev_uk h1.2, ev_uk h1.1, KR1 _ _ h2]
    have r8 : (hv_u (hv_u R1 b 8 (some dr)) b 9 (some pr)) b 8 = some dr := by rw [ev_uk (by omega), ev_us]
    have hZ2 : ly_Z sh (hv_u (hv_u R1 b 8 (some dr)) b 9 (some pr)) (b + 20) := ly_Z_R2 (fun a k g1 g2 => K2 _ _ (by omega) (by omega)) c12
    have hP2 : ly_P sh (hv_u (hv_u R1 b 8 (some dr)) b 9 (some pr)) dr := ly_P_R (fun k => K2 _ _ (by omega) (by omega)) q4
    rw [K2 b 6 (by omega) (by omega), c11, ev_ob c12.1, ev_b, r8]
    obtain ⟨I2, J2, R2, e2, z2, K3, KR3⟩ := e_Si_fits (n := n) (J := J) (I := I1) (R := hv_u (hv_u R1 b 8 (some dr)) b 9 (some pr)) (s := b + 20) (g := dr) (P := pg_of c) (by omega) hW hZ2 hP2 hpg
    have xz : x_z (bI (sf (pg_of c))) = some (bI (sf (pg_of c))) := by cases sf (pg_of c) <;> rfl
    rw [e2, ev_b, ev_ob c0, ev_b, xz, ev_b, ev_sI, ev_b, ev_R]
    have KR : ∀ a k, (a ≠ b ∨ (k ≠ 8 ∧ k ≠ 9)) → a ≠ b + 2 → a ≠ b + 21 → R2 a k = R a k := fun a k h1 h2 h3 => (KR3 _ _ (by omega)).trans (K2 _ _ h1 h2)
    have au0 : sh (b + 35) = some (9, 0) := by
      obtain ⟨ad, sp, hL, -⟩ := hv.2.2.2.2.2.1
      exact hL.1
    have eRe : ∀ (I : Nat → Nat → Int32) (J : Nat → Nat → Int64), f_Au_reset (b + 35) (sh, I, J, R2, n) = some (sh, hv_u (hv_u I (b + 35) 4 0) (b + 35) 5 0, J, R2, n) := fun I J => by
      unfold f_Au_reset
      rw [ev_ob au0, ev_b, ev_sI, ev_b, ev_sI, ev_b]
    have eFo : ∀ (I : Nat → Nat → Int32) (J : Nat → Nat → Int64), f_C_forgetSearch b (sh, I, J, R2, n) = some (sh, hv_u (hv_u I b 13 (-1)) b 12 (-1), hv_u J b 11 0, R2, n) := fun I J => by
      unfold f_C_forgetSearch
      rw [ev_ob c0, ev_b, ev_sJ, ev_b, e_C_note c0, ev_b]
    have r28 : R2 b 8 = some dr := (KR3 _ _ (by omega)).trans r8
    have r29 : R2 b 9 = some pr := (KR3 _ _ (by omega)).trans ev_us
    rw [KR b 7 (by omega) (by omega) (by omega), c13, ev_ob au0, ev_b, eRe, ev_b, ev_ob c0, ev_b, eFo, ev_b, ev_ob c0, ev_b, ev_R, r28, ev_ob q4.1, ev_b]
    have hl2 : cl_L sh R2 b dr pr := by
      refine ⟨c0, (KR _ _ (by omega) (by omega) (by omega)).trans c1, c2, (KR _ _ (by omega) (by omega) (by omega)).trans c3, c4, (KR _ _ (by omega) (by omega) (by omega)).trans c5, ly_X_R (fun k => KR _ _ (by omega) (by omega) (by omega)) c6, (KR _ _ (by omega) (by omega) (by omega)).trans c7, ?_, (KR _ _ (by omega) (by omega) (by omega)).trans c9, ly_K_R (fun k => KR _ _ (by omega) (by omega) (by omega)) c10, (KR _ _ (by omega) (by omega) (by omega)).trans c11, z2, (KR _ _ (by omega) (by omega) (by omega)).trans c13, r28, r29, ly_P_R (fun k => KR _ _ (by omega) (by omega) (by omega)) c16, ly_P_R (fun k => KR _ _ (by omega) (by omega) (by omega)) c17, by omega⟩
      obtain ⟨t1, t2, c8⟩ := c8
      exact ⟨t1, t2, ly_L_R2 (fun a k g1 g2 => KR _ _ (by omega) (by omega) (by omega)) c8⟩
    have hdr : (dr + 3 < b + 35 ∧ b + 26 < dr) := by omega
    have KI : ∀ a k, (a ≠ b ∨ (k ≠ 10 ∧ k ≠ 12 ∧ k ≠ 13)) → (a ≠ b + 35 ∨ (k ≠ 4 ∧ k ≠ 5)) → (a < b + 20 ∨ b + 26 < a) → (hv_u (hv_u (hv_u (hv_u (hv_u I2 b 10 (bI (sf (pg_of c)))) (b + 35) 4 0) (b + 35) 5 0) b 13 (-1)) b 12 (-1)) a k = I1 a k := fun a k h1 h2 h3 => by
      rw [← (K3 a k (by omega)).1]
      by_cases ha : a = b
      · subst ha
        rw [ev_uk (by omega), ev_uk (by omega), ev_ua (by omega), ev_ua (by omega), ev_uk (by omega)]
      · rw [ev_ua ha, ev_ua ha]
        by_cases ha2 : a = b + 35
        · subst ha2
          rw [ev_uk (by omega), ev_uk (by omega), ev_ua ha]
        · rw [ev_ua ha2, ev_ua ha2, ev_ua ha]
    have i3 : (hv_u (hv_u (hv_u (hv_u (hv_u I2 b 10 (bI (sf (pg_of c)))) (b + 35) 4 0) (b + 35) 5 0) b 13 (-1)) b 12 (-1)) dr 3 = nI c.length := (KI _ _ (by omega) (by omega) (by omega)).trans hpc.1
    have es : f_Pr_size dr (sh, hv_u (hv_u (hv_u (hv_u (hv_u I2 b 10 (bI (sf (pg_of c)))) (b + 35) 4 0) (b + 35) 5 0) b 13 (-1)) b 12 (-1), hv_u J2 b 11 0, R2, n) = some (nI c.length, (sh, hv_u (hv_u (hv_u (hv_u (hv_u I2 b 10 (bI (sf (pg_of c)))) (b + 35) 4 0) (b + 35) 5 0) b 13 (-1)) b 12 (-1), hv_u J2 b 11 0, R2, n)) := by
      unfold f_Pr_size
      rw [ev_ob q4.1, ev_b, ev_I, i3]
    rw [es, ev_b]
    refine ⟨_, _, R2, n, rfl, ⟨dr, pr, hl2, ?_⟩, fun a k q => ⟨?_, ?_, ?_⟩, Nat.le_refl _⟩
    · obtain ⟨h1, h2, h3, h4, h5, h6, h7, h8, h9⟩ := hv
      have K1' : ∀ a k, (a = b ∧ k = 1) ∨ a = b + 1 ∨ a = b + 3 ∨ a = b + 4 → (hv_u (hv_u (hv_u (hv_u (hv_u I2 b 10 (bI (sf (pg_of c)))) (b + 35) 4 0) (b + 35) 5 0) b 13 (-1)) b 12 (-1)) a k = I a k := fun a k q => (KI _ _ (by omega) (by omega) (by omega)).trans (K1 _ _ (by omega) (by omega))
      refine ⟨(K1' _ _ (by omega)).trans h1, h2, fun k hk => ⟨(K1' _ _ (by omega)).trans (h3 k hk).1, (h3 k hk).2⟩, ⟨(K1' _ _ (by omega)).trans h4.1, h4.2.1, fun k hk => ⟨(K1' _ _ (by omega)).trans (h4.2.2 k hk).1, (h4.2.2 k hk).2⟩⟩, ⟨hW, ?_, ?_⟩, ?_, ev_us, ev_us, (ev_uk (by omega)).trans ev_us⟩
      · exact ⟨i3, hpg.2.1, fun i hi => ⟨(KI _ _ (by omega) (by omega) (by omega)).trans (hpg.2.2 i hi).1, (KI _ _ (by omega) (by omega) (by omega)).trans (hpg.2.2 i hi).2.1, (KI _ _ (by omega) (by omega) (by omega)).trans (hpg.2.2 i hi).2.2⟩⟩
      · rw [ev_uk (by omega), ev_uk (by omega), ev_ua (by omega), ev_ua (by omega), ev_us]
      · exact au_X_nil (by rw [ev_ua (by omega), ev_ua (by omega), ev_uk (by omega), ev_us]) (by rw [ev_ua (by omega), ev_ua (by omega), ev_us]) ((KI _ _ (by omega) (by omega) (by omega)).trans (K1 _ _ (by omega) (by omega))) ((KI _ _ (by omega) (by omega) (by omega)).trans (K1 _ _ (by omega) (by omega))) (fun a k q => KR _ _ (by omega) (by omega) (by omega)) h6
    · exact (KI _ _ (by omega) (by omega) (by omega)).trans (K1 _ _ (by omega) (by omega))
    · rw [ev_ua (by omega)]; exact (K3 _ _ (by omega)).2
    · exact KR _ _ (by omega) (by omega) (by omega)
end CO
