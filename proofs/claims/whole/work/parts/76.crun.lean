/-! THE CLASS'S SEARCHES -/
section CR
variable {sh : Nat → Option (Nat × Nat)} {I I' : Nat → Nat → Int32} {J J' : Nat → Nat → Int64} {R R' : Nat → Nat → Option Nat} {n b lim pr dr : Nat} {Q : Qs} {P : pg_P}
theorem ly_X_R {x : Nat} (h : ∀ k, R' x k = R x k) (hX : ly_X sh R x) : ly_X sh R' x := ⟨hX.1, hX.2.1, (h _).trans hX.2.2⟩
theorem ly_P_R {x : Nat} (h : ∀ k, R' x k = R x k) (hX : ly_P sh R x) : ly_P sh R' x := by
  obtain ⟨a0, a1, a2, a3, a4, a5, a6⟩ := hX
  exact ⟨a0, a1, a2, a3, (h _).trans a4, (h _).trans a5, (h _).trans a6⟩
theorem ly_F_R {x : Nat} (h : ∀ k, R' x k = R x k) (hX : ly_F sh R x) : ly_F sh R' x := by
  obtain ⟨a0, a1, a2, a3, a4⟩ := hX
  exact ⟨a0, a1, a2, (h _).trans a3, (h _).trans a4⟩
theorem ly_T_R {x : Nat} (h : ∀ k, R' x k = R x k) (hX : ly_T sh R x) : ly_T sh R' x := by
  obtain ⟨a0, a1, a2, a3, a4⟩ := hX
  exact ⟨a0, a1, a2, (h _).trans a3, (h _).trans a4⟩
theorem ly_K_R {x : Nat} (h : ∀ k, R' x k = R x k) (hX : ly_K sh R x) : ly_K sh R' x := by
  obtain ⟨a0, a1, a2, a3, a4, a5, a6, a7, a8⟩ := hX
  exact ⟨a0, a1, a2, a3, a4, (h _).trans a5, (h _).trans a6, (h _).trans a7, (h _).trans a8⟩
theorem ly_Z_R2 {x : Nat} (h : ∀ a k, x ≤ a → a ≤ x + 6 → R' a k = R a k) (hX : ly_Z sh R x) : ly_Z sh R' x := by
  obtain ⟨a0, a1, a2, a3, a4⟩ := hX
  exact ⟨a0, ly_F_R (fun k => h _ _ (by omega) (by omega)) a1, ly_T_R (fun k => h _ _ (by omega) (by omega)) a2, (h _ _ (by omega) (by omega)).trans a3, (h _ _ (by omega) (by omega)).trans a4⟩
theorem ly_L_R2 {x t1 t2 : Nat} (h : ∀ a k, x ≤ a → a ≤ x + 9 → R' a k = R a k) (hX : ly_L sh R x t1 t2) : ly_L sh R' x t1 t2 := by
  obtain ⟨a0, a1, a2, a3, a4, a5, a6, a7⟩ := hX
  exact ⟨a0, ly_F_R (fun k => h _ _ (by omega) (by omega)) a1, ly_T_R (fun k => h _ _ (by omega) (by omega)) a2, ly_T_R (fun k => h _ _ (by omega) (by omega)) a3, (h _ _ (by omega) (by omega)).trans a4, (h _ _ (by omega) (by omega)).trans a5, (h _ _ (by omega) (by omega)).trans a6, a7⟩
theorem au_X_mono {A : Nat} {U : au_A} (hA : au_I P lim U) (hI : ∀ a k, A ≤ a → I' a k = I a k) (hR : ∀ a k, A ≤ a → R' a k = R a k) (h : au_X P sh I R A lim U) : au_X P sh I' R' A lim U := by
  obtain ⟨ad, sp, hL, hRR⟩ := h
  obtain ⟨l0, lF, lT, l10, r0, r1, r2, r3, rr, o1, o2, o3, o4, o5⟩ := hL
  refine ⟨ad, sp, ⟨l0, ly_F_R (fun k => hR _ _ (by omega)) lF, ly_T_R (fun k => hR _ _ (by omega)) lT, l10, (hR _ _ (by omega)).trans r0, (hR _ _ (by omega)).trans r1, (hR _ _ (by omega)).trans r2, (hR _ _ (by omega)).trans r3, fun k hk => (hR _ _ (by omega)).trans (rr k hk), o1, o2, o3, o4, fun a ha => ?_⟩, au_R_mono hA.1 o2 (fun a k q => hI _ _ (by omega)) hRR⟩
  have hg := sp_ge ha
  obtain ⟨a1, a2, a3, a4, a5⟩ := o5 a ha
  exact ⟨a1, a2, a3, (hR _ _ (by omega)).trans a4, (hR _ _ (by omega)).trans a5⟩
/-- only the parts given anew may differ -/
theorem cl_L_of (h : cl_L sh R b pr dr) (hb : ∀ k, R' b k = R b k) (hP : ∀ a k, b + 27 ≤ a → a ≤ b + 34 → R' a k = R a k) (hX : ∀ k, R' (b + 3) k = R (b + 3) k) (hLs : ∃ t1 t2, ly_L sh R' (b + 5) t1 t2) (hK : ly_K sh R' (b + 15)) (hZ : ly_Z sh R' (b + 20)) : cl_L sh R' b pr dr := by
  obtain ⟨c0, c1, c2, c3, c4, c5, c6, c7, c8, c9, c10, c11, c12, c13, c14, c15, c16, c17, c18⟩ := h
  exact ⟨c0, (hb _).trans c1, c2, (hb _).trans c3, c4, (hb _).trans c5, ly_X_R hX c6, (hb _).trans c7, hLs, (hb _).trans c9, hK, (hb _).trans c11, hZ, (hb _).trans c13, (hb _).trans c14, (hb _).trans c15, ly_P_R (fun k => hP _ _ (by omega) (by omega)) c16, ly_P_R (fun k => hP _ _ (by omega) (by omega)) c17, c18⟩
/-- what a search leaves -/
theorem cl_make {U : au_A} {w : Int64} {x y : Int32} (hl : cl_L sh R' b pr dr) (hv : cl_V sh I J R b lim pr Q) (hi : ∀ a k, (a = b ∧ (k = 1 ∨ k = 10)) ∨ a = b + 1 ∨ a = b + 3 ∨ a = b + 4 ∨ (pr ≤ a ∧ a ≤ pr + 3) → I' a k = I a k) (hX : au_X (Q.2.2.1.getD p0) sh I' R' (b + 35) lim U) (hw : J' b 11 = w) (hx : I' b 12 = x) (hy : I' b 13 = y) : CL sh I' J' R' b lim (Q.1, Q.2.1, Q.2.2.1, U, w, x, y) := by
  refine ⟨pr, dr, hl, ?_⟩
  obtain ⟨h1, h2, h3, h4, h5, h6, h7, h8, h9⟩ := hv
  refine ⟨(hi _ _ (by omega)).trans h1, h2, fun k hk => ⟨(hi _ _ (by omega)).trans (h3 k hk).1, (h3 k hk).2⟩, ⟨(hi _ _ (by omega)).trans h4.1, h4.2.1, fun k hk => ⟨(hi _ _ (by omega)).trans (h4.2.2 k hk).1, (h4.2.2 k hk).2⟩⟩, ?_, hX, hw, hx, hy⟩
  show cl_P I' b pr Q.2.2.1
  match hq : Q.2.2.1 with
  | none => rw [hq] at h5; exact (hi _ _ (by omega)).trans h5
  | some P =>
    rw [hq] at h5
    obtain ⟨q1, q2, q3⟩ := h5
    exact ⟨q1, ⟨(hi _ _ (by omega)).trans q2.1, q2.2.1, fun i hi' => ⟨(hi _ _ (by omega)).trans (q2.2.2 i hi').1, (hi _ _ (by omega)).trans (q2.2.2 i hi').2.1, (hi _ _ (by omega)).trans (q2.2.2 i hi').2.2⟩⟩, (hi _ _ (by omega)).trans q3⟩
/-- outside of the class nothing has changed -/
def cK (b lim : Nat) (I I' : Nat → Nat → Int32) (J J' : Nat → Nat → Int64) (R R' : Nat → Nat → Option Nat) : Prop := ∀ a k, (a < b ∨ b + 45 + 3 * lim < a) → I' a k = I a k ∧ J' a k = J a k ∧ R' a k = R a k
theorem cK_trans {I2 : Nat → Nat → Int32} {J2 : Nat → Nat → Int64} {R2 : Nat → Nat → Option Nat} (h : cK b lim I I' J J' R R') (k : cK b lim I' I2 J' J2 R' R2) : cK b lim I I2 J J2 R R2 := fun a j q => ⟨(k a j q).1.trans (h a j q).1, (k a j q).2.1.trans (h a j q).2.1, (k a j q).2.2.trans (h a j q).2.2⟩
theorem e_C_note {m w : Int32} (h0 : sh b = some (0, 0)) : f_C_note b m w (sh, I, J, R, n) = some (sh, hv_u (hv_u I b 13 m) b 12 w, J, R, n) := by
  unfold f_C_note
  simp only [ev_ob h0, ev_b, ev_sI]
theorem e_C_runLists (hA : AU lim 1000000 Q) (hq : Q.2.2.1 = some P) (hW : pg_W P) (hc : CL sh I J R b lim Q) :
    ∃ I' J' R', f_C_runLists b (sh, I, J, R, n) = some (sh, I', J', R', n) ∧ CL sh I' J' R' b lim (Q.1, Q.2.1, Q.2.2.1, Q.2.2.2.1, (ls_F P Q.2.1 true 0).1, nI (ls_F P Q.2.1 true 0).2, 0) ∧ cK b lim I I' J J' R R' := by
  obtain ⟨pr, dr, hl, hv⟩ := hc
  have hLL := hl
  obtain ⟨q1, q2, q3, q4, q5⟩ := cl_pr hl
  obtain ⟨c0, c1, c2, c3, c4, c5, c6, c7, ⟨t1, t2, c8⟩, c9, c10, c11, c12, c13, c14, c15, c16, c17, c18⟩ := hl
  have hp := hv.2.2.2.2.1
  rw [hq] at hp
  obtain ⟨I1, J1, R1, t1', t2', e1, r1, l1, K1, KR1⟩ := e_Ls_find (n := n) (J := J) (L := b + 5) (fr := 0) (on := true) (by omega) (by omega) hW (Nat.zero_le _) c8 q2 c6 hp.2.1 hv.2.2.2.1
  have e1' : f_Ls_find (b + 5) (some pr) (some (b + 3)) 0 1 (sh, I, J, R, n) = _ := e1
  have l10 := l1.1
  have hRb : ∀ k, R1 b k = R b k := fun k => KR1 _ _ (by omega) (by omega)
  unfold f_C_runLists f_Ls_entriesPassed
  simp only [ev_ob c0, ev_b, ev_R, c7, ev_ob c8.1, c14, c5, e1', ev_sJ, hRb, ev_I, r1, e_C_note c0]
  have hl1 : cl_L sh R1 b pr dr := cl_L_of hLL hRb (fun a k g1 g2 => KR1 _ _ (by omega) (by omega)) (fun k => KR1 _ _ (by omega) (by omega)) ⟨t1', t2', l1⟩ (ly_K_R (fun k => KR1 _ _ (by omega) (by omega)) c10) (ly_Z_R2 (fun a k g1 g2 => KR1 _ _ (by omega) (by omega)) c12)
  refine ⟨_, _, R1, rfl, cl_make (I := I) (J := J) (R := R) hl1 hv (fun a k q => ?_) (au_X_mono hA.1 (fun a k q => ?_) (fun a k q => KR1 _ _ (by omega) (by omega)) hv.2.2.2.2.2.1) ev_us ev_us (by rw [ev_uk (by omega), ev_us]), fun a k q => ⟨?_, ?_, KR1 _ _ (by omega) (by omega)⟩⟩
  · rcases q with q | q
    · obtain ⟨qa, qk⟩ := q
      subst qa
      rw [ev_uk (by omega), ev_uk (by omega)]; exact (K1 _ _ (by omega)).1
    · rw [ev_ua (by omega), ev_ua (by omega)]; exact (K1 _ _ (by omega)).1
  · rw [ev_ua (by omega), ev_ua (by omega)]; exact (K1 _ _ (by omega)).1
  · rw [ev_ua (by omega), ev_ua (by omega)]; exact (K1 _ _ (by omega)).1
  · rw [ev_ua (by omega)]; exact (K1 _ _ (by omega)).2
theorem e_C_runMarks (hA : AU lim 1000000 Q) (hq : Q.2.2.1 = some P) (hW : pg_W P) (hc : CL sh I J R b lim Q) :
    ∃ I' J' R', ((x_ob (sh, I, J, R, n) 0 (some b)).bind fun a7 => (x_ob (sh, I, J, R, n) 6 (hv_R (sh, I, J, R, n) a7 5)).bind fun a8 => (f_Ma_find a8 (hv_R (sh, I, J, R, n) a7 8) (hv_R (sh, I, J, R, n) a7 3) (sh, I, J, R, n)).bind fun p9 => (x_ob p9.2 0 (some b)).bind fun a10 => (some (hv_setJ p9.2 a10 11 p9.1)).bind fun s11 => (x_ob s11 6 (hv_R s11 a10 5)).bind fun a12 => (f_Ma_marksSet a12 s11).bind fun p13 => (x_ob p13.2 0 (some b)).bind fun a14 => (f_C_note a14 1 p13.1 p13.2).bind fun p15 => some p15) = some (sh, I', J', R', n) ∧ CL sh I' J' R' b lim (Q.1, Q.2.1, Q.2.2.1, Q.2.2.2.1, (mk_F P Q.2.1).1, nI (mk_F P Q.2.1).2, 1) ∧ cK b lim I I' J J' R R' := by
  obtain ⟨pr, dr, hl, hv⟩ := hc
  have hLL := hl
  obtain ⟨q1, q2, q3, q4, q5⟩ := cl_pr hl
  obtain ⟨c0, c1, c2, c3, c4, c5, c6, c7, ⟨t1, t2, c8⟩, c9, c10, c11, c12, c13, c14, c15, c16, c17, c18⟩ := hl
  have hp := hv.2.2.2.2.1
  rw [hq] at hp
  obtain ⟨I1, J1, R1, e1, r1, l1, K1, KR1⟩ := e_Ma_find (n := n) (J := J) (M := b + 15) (by omega) (by omega) hW c10 q2 c6 hp.2.1 hv.2.2.2.1
  have hRb : ∀ k, R1 b k = R b k := fun k => KR1 _ _ (by omega)
  unfold f_Ma_marksSet
  simp only [ev_ob c0, ev_b, ev_R, c9, ev_ob c10.1, c14, c5, e1, ev_sJ, hRb, ev_I, r1, e_C_note c0]
  have hl1 : cl_L sh R1 b pr dr := cl_L_of hLL hRb (fun a k g1 g2 => KR1 _ _ (by omega)) (fun k => KR1 _ _ (by omega)) ⟨t1, t2, ly_L_R2 (fun a k g1 g2 => KR1 _ _ (by omega)) c8⟩ l1 (ly_Z_R2 (fun a k g1 g2 => KR1 _ _ (by omega)) c12)
  refine ⟨_, _, R1, rfl, cl_make (I := I) (J := J) (R := R) hl1 hv (fun a k q => ?_) (au_X_mono hA.1 (fun a k q => ?_) (fun a k q => KR1 _ _ (by omega)) hv.2.2.2.2.2.1) ev_us ev_us (by rw [ev_uk (by omega), ev_us]), fun a k q => ⟨?_, ?_, KR1 _ _ (by omega)⟩⟩
  · rcases q with q | q
    · obtain ⟨qa, qk⟩ := q
      subst qa
      rw [ev_uk (by omega), ev_uk (by omega)]; exact (K1 _ _ (by omega)).1
    · rw [ev_ua (by omega), ev_ua (by omega)]; exact (K1 _ _ (by omega)).1
  · rw [ev_ua (by omega), ev_ua (by omega)]; exact (K1 _ _ (by omega)).1
  · rw [ev_ua (by omega), ev_ua (by omega)]; exact (K1 _ _ (by omega)).1
  · rw [ev_ua (by omega)]; exact (K1 _ _ (by omega)).2
theorem e_C_runSingle (hA : AU lim 1000000 Q) (hq : Q.2.2.1 = some P) (hW : pg_W P) (hc : CL sh I J R b lim Q) :
    ∃ I' J' R', ((x_ob (sh, I, J, R, n) 0 (some b)).bind fun a18 => (x_ob (sh, I, J, R, n) 7 (hv_R (sh, I, J, R, n) a18 6)).bind fun a19 => (f_Si_find a19 (hv_R (sh, I, J, R, n) a18 8) (hv_R (sh, I, J, R, n) a18 3) (sh, I, J, R, n)).bind fun p20 => (x_ob p20.2 0 (some b)).bind fun a21 => (some (hv_setJ p20.2 a21 11 p20.1)).bind fun s22 => (x_ob s22 7 (hv_R s22 a21 6)).bind fun a23 => (f_Si_lettersPassed a23 s22).bind fun p24 => (x_ob p24.2 0 (some b)).bind fun a25 => (f_C_note a25 3 (p24.1 + (1 : Int32)) p24.2).bind fun p26 => some p26) = some (sh, I', J', R', n) ∧ CL sh I' J' R' b lim (Q.1, Q.2.1, Q.2.2.1, Q.2.2.2.1, (si_F P Q.2.1 1).1, nI (si_F P Q.2.1 1).2, 3) ∧ cK b lim I I' J J' R R' := by
  obtain ⟨pr, dr, hl, hv⟩ := hc
  have hLL := hl
  obtain ⟨q1, q2, q3, q4, q5⟩ := cl_pr hl
  obtain ⟨c0, c1, c2, c3, c4, c5, c6, c7, ⟨t1, t2, c8⟩, c9, c10, c11, c12, c13, c14, c15, c16, c17, c18⟩ := hl
  have hp := hv.2.2.2.2.1
  rw [hq] at hp
  obtain ⟨I1, J1, R1, e1, r1, l1, K1, KR1⟩ := e_Si_find (n := n) (J := J) (s := b + 20) (by omega) (by omega) hW c12 q2 c6 hp.2.1 hv.2.2.2.1
  obtain ⟨z1, z2⟩ := si_fc (P := P) (T := Q.2.1) (Q.2.1.1 + 1) 0 0 (sl_w 0 0 0) 0 1 0
  have z1 : (si_F P Q.2.1 1).1 = (si_F P Q.2.1 0).1 := z1
  have z2 : (si_F P Q.2.1 1).2 + 0 = (si_F P Q.2.1 0).2 + 1 := z2
  have hRb : ∀ k, R1 b k = R b k := fun k => KR1 _ _ (by omega)
  unfold f_Si_lettersPassed
  simp only [ev_ob c0, ev_b, ev_R, c11, ev_ob c12.1, c14, c5, e1, ev_sJ, hRb, ev_I, r1, e_C_note c0, nI_1]
  have hl1 : cl_L sh R1 b pr dr := cl_L_of hLL hRb (fun a k g1 g2 => KR1 _ _ (by omega)) (fun k => KR1 _ _ (by omega)) ⟨t1, t2, ly_L_R2 (fun a k g1 g2 => KR1 _ _ (by omega)) c8⟩ (ly_K_R (fun k => KR1 _ _ (by omega)) c10) l1
  rw [z1, show (si_F P Q.2.1 1).2 = (si_F P Q.2.1 0).2 + 1 from by omega]
  refine ⟨_, _, R1, rfl, cl_make (I := I) (J := J) (R := R) hl1 hv (fun a k q => ?_) (au_X_mono hA.1 (fun a k q => ?_) (fun a k q => KR1 _ _ (by omega)) hv.2.2.2.2.2.1) ev_us ev_us (by rw [ev_uk (by omega), ev_us]), fun a k q => ⟨?_, ?_, KR1 _ _ (by omega)⟩⟩
  · rcases q with q | q
    · obtain ⟨qa, qk⟩ := q
      subst qa
      rw [ev_uk (by omega), ev_uk (by omega)]; exact (K1 _ _ (by omega)).1
    · rw [ev_ua (by omega), ev_ua (by omega)]; exact (K1 _ _ (by omega)).1
  · rw [ev_ua (by omega), ev_ua (by omega)]; exact (K1 _ _ (by omega)).1
  · rw [ev_ua (by omega), ev_ua (by omega)]; exact (K1 _ _ (by omega)).1
  · rw [ev_ua (by omega)]; exact (K1 _ _ (by omega)).2
end CR
