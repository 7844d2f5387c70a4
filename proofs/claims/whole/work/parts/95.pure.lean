/-! THE LAW FROM ITS FIRST CELL ON -/
section PG
variable {sh sh' : Nat → Option (Nat × Nat)} {I I' : Nat → Nat → Int32} {J J' : Nat → Nat → Int64} {R R' : Nat → Nat → Option Nat} {n b g lim S c L : Nat} {Q : Qs}
theorem MO_27 (hA : au_I (Q.2.2.1.getD p0) lim Q.2.2.2.1) (h : ∀ a k, g ≤ a → a ≤ g + 27 → I' a k = I a k) (hm : MO I g lim S Q) : MO I' g lim S Q := by
  obtain ⟨h1, h2, h3, ⟨c, h4⟩, h5, h6, h7, h8⟩ := hm
  refine ⟨⟨(h _ _ (by omega) (by omega)).trans h1.1, h1.2.1, fun k hk => ⟨(h _ _ (by omega) (by omega)).trans (h1.2.2 k hk).1, (h1.2.2 k hk).2⟩⟩, ⟨(h _ _ (by omega) (by omega)).trans h2.1, h2.2.1, fun k hk => ⟨(h _ _ (by omega) (by omega)).trans (h2.2.2 k hk).1, (h2.2.2 k hk).2⟩⟩, ?_, ⟨c, ?_⟩, bs_R_mono (h _ _ (by omega) (by omega)) (fun k => h _ _ (by omega) (by omega)) h5, (h _ _ (by omega) (by omega)).trans h6, (h _ _ (by omega) (by omega)).trans h7, sm_mono (Nat.le_refl _) (fun a k q => h _ _ (by omega) (by omega)) h8⟩
  · match hq : Q.2.2.1 with
    | none => rw [hq] at h3; exact (h _ _ (by omega) (by omega)).trans h3
    | some P =>
      rw [hq] at h3
      obtain ⟨q1, q2, q3⟩ := h3
      exact ⟨q1, ⟨(h _ _ (by omega) (by omega)).trans q2.1, fun i hi => ⟨(h _ _ (by omega) (by omega)).trans (q2.2 i hi).1, (h _ _ (by omega) (by omega)).trans (q2.2 i hi).2.1, (h _ _ (by omega) (by omega)).trans (q2.2 i hi).2.2⟩⟩, (h _ _ (by omega) (by omega)).trans q3⟩
  · obtain ⟨w1, w2, w3, w4, w5, w6⟩ := h4
    exact ⟨(h _ _ (by omega) (by omega)).trans w1, (h _ _ (by omega) (by omega)).trans w2, (h _ _ (by omega) (by omega)).trans w3, (h _ _ (by omega) (by omega)).trans w4, (h _ _ (by omega) (by omega)).trans w5, fun k s hs => ks_mono (hA.2 s (List.mem_of_getElem? hs)).1 (fun a j q => h _ _ (by omega) (by omega)) (w6 k s hs)⟩
theorem ly_M_sh (h : ∀ a, g ≤ a → a ≤ g + 27 → sh' a = sh a) (hl : ly_M sh R g) : ly_M sh' R g :=
  ⟨(h _ (by omega) (by omega)).trans (ms_o hl), (h _ (by omega) (by omega)).trans (ms_1 hl), (h _ (by omega) (by omega)).trans (ms_2 hl), (h _ (by omega) (by omega)).trans (ms_3 hl), (h _ (by omega) (by omega)).trans (ms_4 hl), (h _ (by omega) (by omega)).trans (ms_5 hl), (h _ (by omega) (by omega)).trans (ms_6 hl), (h _ (by omega) (by omega)).trans (ms_7 hl), (h _ (by omega) (by omega)).trans (ms_8 hl), (h _ (by omega) (by omega)).trans (ms_9 hl), (h _ (by omega) (by omega)).trans (ms_10 hl), (h _ (by omega) (by omega)).trans (ms_11 hl), (h _ (by omega) (by omega)).trans (ms_12 hl), (h _ (by omega) (by omega)).trans (ms_13 hl), (h _ (by omega) (by omega)).trans (ms_14 hl), (h _ (by omega) (by omega)).trans (ms_15 hl), (h _ (by omega) (by omega)).trans (ms_16 hl), (h _ (by omega) (by omega)).trans (ms_17 hl), (h _ (by omega) (by omega)).trans (ms_18 hl), (h _ (by omega) (by omega)).trans (ms_19 hl), (h _ (by omega) (by omega)).trans (ms_20 hl), (h _ (by omega) (by omega)).trans (ms_21 hl), (h _ (by omega) (by omega)).trans (ms_22 hl), (h _ (by omega) (by omega)).trans (ms_23 hl), (h _ (by omega) (by omega)).trans (ms_24 hl), (h _ (by omega) (by omega)).trans (ms_25 hl), (h _ (by omega) (by omega)).trans (ms_26 hl), (h _ (by omega) (by omega)).trans (ms_27 hl), mr_3 hl, mr_5 hl, mr_7 hl, mr_8 hl, mr_9 hl, mr_11 hl, mr_12 hl, mr_13 hl, mr_17 hl, mr_19 hl, mr_20 hl, mr_21 hl, mr_22 hl, mr_23 hl, mr_24 hl, mr_25 hl, mr_26 hl, mr_30 hl, mr_31 hl, mr_32 hl, mr_33 hl, mr_35 hl, mr_40 hl, mr_41 hl, mr_42 hl, mr_43 hl, mr_44 hl⟩
theorem CL_ext (hA : au_I (Q.2.2.1.getD p0) lim Q.2.2.2.1) (h : ∀ a, a < b + 46 + 3 * lim → sh' a = sh a ∧ ∀ k, I' a k = I a k ∧ J' a k = J a k ∧ R' a k = R a k) (hc : CL sh I J R b lim Q) : CL sh' I' J' R' b lim Q := by
  have hs : ∀ a, a < b + 46 + 3 * lim → sh' a = sh a := fun a q => (h a q).1
  have hI : ∀ a k, a < b + 46 + 3 * lim → I' a k = I a k := fun a k q => ((h a q).2 k).1
  have hJ : ∀ a k, a < b + 46 + 3 * lim → J' a k = J a k := fun a k q => ((h a q).2 k).2.1
  have hR : ∀ a k, a < b + 46 + 3 * lim → R' a k = R a k := fun a k q => ((h a q).2 k).2.2
  have m : ∀ {lo hi : Nat} {P : (Nat → Option (Nat × Nat)) → (Nat → Nat → Option Nat) → Prop}, lp lo hi P → hi ≤ b + 46 + 3 * lim → P sh R → P sh' R' := fun hp h1 h3 => hp _ _ _ _ (fun a q1 q2 => hs a (by omega)) (fun a k q1 q2 => hR a k (by omega)) h3
  obtain ⟨pr, dr, hl, hv⟩ := hc
  obtain ⟨q1, -⟩ := cl_pr hl
  obtain ⟨c0, c1, c2, c3, c4, c5, c6, c7, ⟨t1, t2, c8⟩, c9, c10, c11, c12, c13, c14, c15, c16, c17, c18⟩ := hl
  have c8' : ly_L sh' R' (b + 5) t1 t2 := by
    obtain ⟨a0, a1, a2, a3, a4, a5, a6, a7⟩ := c8
    exact ⟨(hs _ (by omega)).trans a0, m lp_F (by omega) a1, m lp_T (by omega) a2, m lp_T (by omega) a3, (hR _ _ (by omega)).trans a4, (hR _ _ (by omega)).trans a5, (hR _ _ (by omega)).trans a6, a7⟩
  refine ⟨pr, dr, ⟨(hs _ (by omega)).trans c0, (hR _ _ (by omega)).trans c1, (hs _ (by omega)).trans c2, (hR _ _ (by omega)).trans c3, (hs _ (by omega)).trans c4, (hR _ _ (by omega)).trans c5, m lp_X (by omega) c6, (hR _ _ (by omega)).trans c7, ⟨t1, t2, c8'⟩, (hR _ _ (by omega)).trans c9, m lp_K (by omega) c10, (hR _ _ (by omega)).trans c11, m lp_Z (by omega) c12, (hR _ _ (by omega)).trans c13, (hR _ _ (by omega)).trans c14, (hR _ _ (by omega)).trans c15, m lp_P (by omega) c16, m lp_P (by omega) c17, c18⟩, ?_⟩
  have hv' := cl_V_mono (I' := I') (J' := J') (P := Q.2.2.1.getD p0) rfl hA q1 (fun a k q => hI a k (by omega)) (hJ _ _ (by omega)) hv
  obtain ⟨h1, h2, h3, h4, h5, h6, h7, h8, h9⟩ := hv'
  refine ⟨h1, h2, h3, h4, h5, ?_, h7, h8, h9⟩
  obtain ⟨ad, sp, hL, hRR⟩ := h6
  obtain ⟨l0, lF, lT, l10, r0, r1, r2, r3, rr, o1, o2, o3, o4, o5⟩ := hL
  refine ⟨ad, sp, ⟨(hs _ (by omega)).trans l0, m lp_F (by omega) lF, m lp_T (by omega) lT, (hs _ (by omega)).trans l10, (hR _ _ (by omega)).trans r0, (hR _ _ (by omega)).trans r1, (hR _ _ (by omega)).trans r2, (hR _ _ (by omega)).trans r3, fun k hk => (hR _ _ (by omega)).trans (rr k hk), o1, o2, o3, o4, fun a ha => ?_⟩, hRR⟩
  have hg := sp_ge ha
  exact m lp_S (by omega) (o5 a ha)
/-- the pure half: every script of at most 1537 ints is answered alike -/
theorem pure_goal (hc : c < b) (hsc : sh c = some (2000, L)) (hL : L ≤ 1537) : ∃ s', f_La_law (some c) (sh, I, J, R, b) = some (1, s') := by
  have hcell : ∀ (sh : Nat → Option (Nat × Nat)) (I : Nat → Nat → Int32) (J : Nat → Nat → Int64) (R : Nat → Nat → Option Nat) (n : Nat), sh c = some (2000, L) → f_La_cell (some c) 0 (sh, I, J, R, n) = some (if L = 0 then 0 else I c 0, (sh, I, J, R, n)) := fun sh I J R n h => by
    unfold f_La_cell
    rw [ev_ro h, ev_b]
    by_cases h0 : L = 0
    · rw [if_pos h0, if_pos (show nI L ≤ 0 by rw [h0]; decide), ev_b]
    · have x0 : x_ix L 0 = some 0 := ev_ix (show 0 < L by omega) (by omega)
      rw [if_neg h0, if_neg (by rw [li_0, nI_leI (by omega) (by omega)]; omega), x0, ev_b, ev_b]
  generalize hx : (if L = 0 then (0 : Int32) else I c 0) = x
  -- the class
  obtain ⟨sh1, I1, J1, R1, e1, r1, K1⟩ := new_C (b := b) (x := x) (sh := fun a => if a = b then some (0, 0) else sh a) (I := fun a j => if a = b then 0 else I a j) (J := fun a j => if a = b then 0 else J a j) (R := fun a j => if a = b then none else R a j) (if_pos rfl) (fun k => if_pos rfl)
  have e0 : hv_new (sh, I, J, R, b) (0, 0) = (fun a => if a = b then some (0, 0) else sh a, fun a j => if a = b then 0 else I a j, fun a j => if a = b then 0 else J a j, fun a j => if a = b then none else R a j, b + 1) := rfl
  obtain ⟨hl3, hl18⟩ := lm_b x
  generalize hg : b + 46 + 3 * lmN x = g at *
  have s1 : sh1 c = some (2000, L) := (K1 c hc).1.trans ((if_neg (by omega)).trans hsc)
  have i1 : I1 c 0 = I c 0 := ((K1 c hc).2 0).1.trans (if_neg (by omega))
  -- the reference
  obtain ⟨sh2, I2, J2, R2, e2, m2, o2, K2⟩ := new_Mo (g := g) (x := x) (sh := fun a => if a = g then some (11, 0) else sh1 a) (I := fun a j => if a = g then 0 else I1 a j) (J := fun a j => if a = g then 0 else J1 a j) (R := fun a j => if a = g then none else R1 a j) (if_pos rfl) (fun k => if_pos rfl)
  have e0' : hv_new (sh1, I1, J1, R1, g) (11, 0) = (fun a => if a = g then some (11, 0) else sh1 a, fun a j => if a = g then 0 else I1 a j, fun a j => if a = g then 0 else J1 a j, fun a j => if a = g then none else R1 a j, g + 1) := rfl
  have e0'' : hv_new (sh2, I2, J2, R2, g + 28) (1001, 1) = (fun a => if a = g + 28 then some (1001, 1) else sh2 a, fun a j => if a = g + 28 then 0 else I2 a j, fun a j => if a = g + 28 then 0 else J2 a j, fun a j => if a = g + 28 then none else R2 a j, g + 28 + 1) := rfl
  have KE : ∀ a, a < b + 46 + 3 * lmN x → (fun a => if a = g + 28 then some (1001, 1) else sh2 a) a = sh1 a ∧ ∀ k, (fun a j => if a = g + 28 then 0 else I2 a j) a k = I1 a k ∧ (fun a j => if a = g + 28 then 0 else J2 a j) a k = J1 a k ∧ (fun a j => if a = g + 28 then none else R2 a j) a k = R1 a k := fun a q => by
    obtain ⟨g1, g2⟩ := K2 a (by omega)
    refine ⟨(if_neg (by omega)).trans (g1.trans (if_neg (by omega))), fun k => ?_⟩
    obtain ⟨g3, g4, g5⟩ := g2 k
    exact ⟨(if_neg (by omega)).trans (g3.trans (if_neg (by omega))), (if_neg (by omega)).trans (g4.trans (if_neg (by omega))), (if_neg (by omega)).trans (g5.trans (if_neg (by omega)))⟩
  have hLI : LI (fun a => if a = g + 28 then some (1001, 1) else sh2 a) b g (lmN x) 0 0 Q0 (fun a j => if a = g + 28 then 0 else I2 a j) (fun a j => if a = g + 28 then 0 else J2 a j) (fun a j => if a = g + 28 then none else R2 a j) := by
    refine ⟨CL_ext (AU_0 (lim := lmN x)).1 KE r1, ?_, MO_27 (AU_0 (lim := lmN x)).1 (fun a k g1 g2 => if_neg (by omega)) o2, AU_0⟩
    exact ly_M_R (fun k => if_neg (by omega)) (ly_M_sh (fun a g1 g2 => if_neg (by omega)) m2)
  have s3 : (fun a => if a = g + 28 then some (1001, 1) else sh2 a) c = some (2000, L) := (KE c (by omega)).1.trans s1
  obtain ⟨s', e3⟩ := e_law (b := b) (g := g) (w := g + 28) (lim := lmN x) (c := c) (L := L) (sh := fun a => if a = g + 28 then some (1001, 1) else sh2 a) (by omega) rfl hc s3 hL (if_pos rfl) (by omega) (by omega) 513 600 1 0 0 Q0 (fun a j => if a = g + 28 then 0 else I2 a j) (fun a j => if a = g + 28 then 0 else J2 a j) (fun a j => if a = g + 28 then none else R2 a j) (g + 28 + 1) (by omega) (by omega) (by omega) (by omega) (by omega) hLI
  refine ⟨s', ?_⟩
  unfold f_La_law
  have hn : ∀ (sh : Nat → Option (Nat × Nat)) (I : Nat → Nat → Int32) (J : Nat → Nat → Int64) (R : Nat → Nat → Option Nat) (n : Nat), hv_n (sh, I, J, R, n) = n := fun _ _ _ _ _ => rfl
  rw [ev_b, hn, ev_b, e0, hcell _ _ _ _ _ ((if_neg (by omega)).trans hsc), ev_b]
  rw [show (if L = 0 then (0 : Int32) else (fun a j => if a = b then 0 else I a j) c 0) = x from by rw [← hx]; congr 1; exact if_neg (by omega)]
  rw [e1, ev_b, hn, ev_b, e0', ev_b, hcell _ _ _ _ _ ((if_neg (by omega)).trans s1), ev_b]
  rw [show (if L = 0 then (0 : Int32) else (fun a j => if a = g then 0 else I1 a j) c 0) = x from by rw [← hx]; congr 1; exact (if_neg (by omega)).trans i1]
  rw [e2, ev_b, hn, ev_b, e0'', ev_b]
  have e3' : L_La_law_33 600 (some c) (some b) (some g) (some (g + 28)) 1 (fun a => if a = g + 28 then some (1001, 1) else sh2 a, fun a j => if a = g + 28 then 0 else I2 a j, fun a j => if a = g + 28 then 0 else J2 a j, fun a j => if a = g + 28 then none else R2 a j, g + 28 + 1) = some (.inl s') := e3
  rw [e3', ev_b]
  rfl
end PG
