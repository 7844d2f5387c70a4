/-! SEARCH, on both sides -/
section SE
variable {sh : Nat → Option (Nat × Nat)} {I I' : Nat → Nat → Int32} {J J' : Nat → Nat → Int64} {R R' : Nat → Nat → Option Nat} {n b g lim S B : Nat} {Q : Qs} {P : pg_P}
noncomputable def se_S (Q : Qs) (lim : Nat) (x : Int32) : Qs :=
  match Q.2.2.1 with
  | none => Q
  | some P => if x < 0 then Q else if x ≤ 4 then (if x = 3 ∧ sf P = false then Q else se_Q P lim (se_m P Q.2.1 x.toNatClampNeg) Q) else Q
theorem x04 {x : Int32} (h0 : ¬ x < 0) (h4 : x ≤ 4) : ∃ k, k ≤ 4 ∧ x = nI k := by
  refine ⟨x.toInt.toNat, ?_, ?_⟩
  · have h4' := Int32.le_iff_toInt_le.mp h4
    rw [show (4 : Int32).toInt = 4 from by decide] at h4'
    omega
  · have h0' : ¬ x.toInt < (0 : Int32).toInt := fun h => h0 (Int32.lt_iff_toInt_lt.mpr h)
    rw [show (0 : Int32).toInt = 0 from by decide] at h0'
    apply Int32.toInt_inj.mp
    have h4' := Int32.le_iff_toInt_le.mp h4
    rw [show (4 : Int32).toInt = 4 from by decide] at h4'
    rw [nI_toInt (by omega)]
    omega
theorem se_m4 {T : tx_T} {x : Nat} (hx : x ≤ 4) : se_m P T x < 4 := by
  unfold se_m
  split
  · split
    · omega
    · split <;> omega
  · omega
/-- the class runs matcher m and answers -/
theorem e_C_disp {m : Nat} (hm : m < 4) (hB : B + 3 < 1000000) (hA : AU lim B Q) (hl1 : 1 ≤ lim) (hlim : lim ≤ 19) (hq : Q.2.2.1 = some P) (hW : pg_W P) (hc : CL sh I J R b lim Q) :
    ∃ I' J' R', (((if nI m = 1 then (x_ob (sh, I, J, R, n) 0 (some b)).bind fun a7 => (x_ob (sh, I, J, R, n) 6 (hv_R (sh, I, J, R, n) a7 5)).bind fun a8 => (f_Ma_find a8 (hv_R (sh, I, J, R, n) a7 8) (hv_R (sh, I, J, R, n) a7 3) (sh, I, J, R, n)).bind fun p9 => (x_ob p9.2 0 (some b)).bind fun a10 => (some (hv_setJ p9.2 a10 11 p9.1)).bind fun s11 => (x_ob s11 6 (hv_R s11 a10 5)).bind fun a12 => (f_Ma_marksSet a12 s11).bind fun p13 => (x_ob p13.2 0 (some b)).bind fun a14 => (f_C_note a14 1 p13.1 p13.2).bind fun p15 => some p15
      else if nI m = 2 then (x_ob (sh, I, J, R, n) 0 (some b)).bind fun a16 => (f_C_runAutomaton a16 (sh, I, J, R, n)).bind fun p17 => some p17
      else if nI m = 3 then (x_ob (sh, I, J, R, n) 0 (some b)).bind fun a18 => (x_ob (sh, I, J, R, n) 7 (hv_R (sh, I, J, R, n) a18 6)).bind fun a19 => (f_Si_find a19 (hv_R (sh, I, J, R, n) a18 8) (hv_R (sh, I, J, R, n) a18 3) (sh, I, J, R, n)).bind fun p20 => (x_ob p20.2 0 (some b)).bind fun a21 => (some (hv_setJ p20.2 a21 11 p20.1)).bind fun s22 => (x_ob s22 7 (hv_R s22 a21 6)).bind fun a23 => (f_Si_lettersPassed a23 s22).bind fun p24 => (x_ob p24.2 0 (some b)).bind fun a25 => (f_C_note a25 3 (p24.1 + (1 : Int32)) p24.2).bind fun p26 => some p26
      else (x_ob (sh, I, J, R, n) 0 (some b)).bind fun a27 => (f_C_runLists a27 (sh, I, J, R, n)).bind fun p28 => some p28) : Option hv_S).bind fun t29 => (x_ob t29 0 (some b)).bind fun a30 => (f_C_placeIn (hv_J t29 a30 11) 0 t29).bind fun p31 => some ((.inl p31.1 : Int32 ⊕ Nat), p31.2)) = some (.inl (sl_g (se_Q P lim m Q).2.2.2.2.1 0), (sh, I', J', R', n)) ∧ CL sh I' J' R' b lim (se_Q P lim m Q) ∧ cK b lim I I' J J' R R' ∧ AU lim (B + 3) (se_Q P lim m Q) := by
  have hA' : AU lim 1000000 Q := ⟨hA.1, hA.2.1, by have := hA.2.2; omega⟩
  have hA3 : ∀ w x y, AU lim (B + 3) (Q.1, Q.2.1, Q.2.2.1, Q.2.2.2.1, w, x, y) := fun w x y => ⟨hA.1, hA.2.1, by have := hA.2.2; show Q.2.2.2.1.2.1 ≤ _; omega⟩
  have hfin : ∀ (Q' : Qs) (I' : Nat → Nat → Int32) (J' : Nat → Nat → Int64) (R' : Nat → Nat → Option Nat), CL sh I' J' R' b lim Q' → ((x_ob (sh, I', J', R', n) 0 (some b)).bind fun a30 => (f_C_placeIn (hv_J (sh, I', J', R', n) a30 11) 0 (sh, I', J', R', n)).bind fun p31 => some ((.inl p31.1 : Int32 ⊕ Nat), p31.2)) = some (.inl (sl_g Q'.2.2.2.2.1 0), (sh, I', J', R', n)) := fun Q' I' J' R' h => by
    obtain ⟨pr, dr, hl, hv⟩ := h
    have e : f_C_placeIn Q'.2.2.2.2.1 0 (sh, I', J', R', n) = some (sl_g Q'.2.2.2.2.1 0, (sh, I', J', R', n)) := sl_gf _ 0 _
    simp only [ev_ob hl.1, ev_b, ev_J, hv.2.2.2.2.2.2.1, e]
  have c0 : sh b = some (0, 0) := by obtain ⟨pr, dr, hl, -⟩ := hc; exact hl.1
  have hcs : m = 1 ∨ m = 2 ∨ m = 3 ∨ m = 0 := by omega
  rcases hcs with h | h | h | h
  · subst h
    obtain ⟨I1, J1, R1, e1, r1, K1⟩ := e_C_runMarks (n := n) hA' hq hW hc
    have hQ : se_Q P lim 1 Q = (Q.1, Q.2.1, Q.2.2.1, Q.2.2.2.1, (mk_F P Q.2.1).1, nI (mk_F P Q.2.1).2, 1) := rfl
    rw [if_pos (show nI 1 = 1 from rfl), e1, ev_b, hQ, hfin _ _ _ _ r1]
    exact ⟨I1, J1, R1, rfl, r1, K1, hA3 _ _ _⟩
  · subst h
    obtain ⟨I1, J1, R1, e1, r1, K1, a1⟩ := e_C_runAutomaton (n := n) hB hA hl1 hlim hq hW hc
    have hQ : se_Q P lim 2 Q = (Q.1, Q.2.1, Q.2.2.1, (au_E P Q.2.1 lim Q.2.2.2.1).2, (rs_F P Q.2.1 lim Q.2.2.2.1).1, nI (rs_F P Q.2.1 lim Q.2.2.2.1).2, if (au_E P Q.2.1 lim Q.2.2.2.1).1 = none then 0 else 2) := rfl
    rw [if_neg (show ¬ nI 2 = 1 by decide), if_pos (show nI 2 = 2 from rfl), ev_ob c0, ev_b, e1, ev_b, ev_b, hQ, hfin _ _ _ _ r1]
    exact ⟨I1, J1, R1, rfl, r1, K1, a1⟩
  · subst h
    obtain ⟨I1, J1, R1, e1, r1, K1⟩ := e_C_runSingle (n := n) hA' hq hW hc
    have hQ : se_Q P lim 3 Q = (Q.1, Q.2.1, Q.2.2.1, Q.2.2.2.1, (si_F P Q.2.1 1).1, nI (si_F P Q.2.1 1).2, 3) := rfl
    rw [if_neg (show ¬ nI 3 = 1 by decide), if_neg (show ¬ nI 3 = 2 by decide), if_pos (show nI 3 = 3 from rfl), e1, ev_b, hQ, hfin _ _ _ _ r1]
    exact ⟨I1, J1, R1, rfl, r1, K1, hA3 _ _ _⟩
  · subst h
    obtain ⟨I1, J1, R1, e1, r1, K1⟩ := e_C_runLists (n := n) hA' hq hW hc
    have hQ : se_Q P lim 0 Q = (Q.1, Q.2.1, Q.2.2.1, Q.2.2.2.1, (ls_F P Q.2.1 true 0).1, nI (ls_F P Q.2.1 true 0).2, 0) := rfl
    rw [if_neg (show ¬ nI 0 = 1 by decide), if_neg (show ¬ nI 0 = 2 by decide), if_neg (show ¬ nI 0 = 3 by decide), ev_ob c0, ev_b, e1, ev_b, ev_b, hQ, hfin _ _ _ _ r1]
    exact ⟨I1, J1, R1, rfl, r1, K1, hA3 _ _ _⟩
theorem e_C_search {x : Int32} (hB : B + 3 < 1000000) (hA : AU lim B Q) (hl1 : 1 ≤ lim) (hlim : lim ≤ 19) (hc : CL sh I J R b lim Q) :
    ∃ I' J' R' n', f_C_search b x (sh, I, J, R, n) = some (se_A Q lim x, (sh, I', J', R', n')) ∧ CL sh I' J' R' b lim (se_S Q lim x) ∧ cK b lim I I' J J' R R' ∧ AU lim (B + 3) (se_S Q lim x) ∧ n ≤ n' := by
  have hA0 : AU lim (B + 3) Q := ⟨hA.1, hA.2.1, by have := hA.2.2; omega⟩
  have hid : cK b lim I I J J R R := fun _ _ _ => ⟨rfl, rfl, rfl⟩
  have hcc := hc
  obtain ⟨pr, dr, hl, hv⟩ := hc
  obtain ⟨q1, q2, -⟩ := cl_pr hl
  obtain ⟨c0, c1, c2, c3, c4, c5, c6, c7, ⟨t1, t2, c8⟩, c9, c10, c11, c12, c13, c14, c15, c16, c17, c18⟩ := hl
  have hp := hv.2.2.2.2.1
  have ht := hv.2.2.2.1
  have hbump : hv_bump (sh, I, J, R, n) = (sh, I, J, R, n + 1) := rfl
  unfold f_C_search
  match hq : Q.2.2.1 with
  | none =>
    have hS : se_S Q lim x = Q := by unfold se_S; rw [hq]
    have hAa : se_A Q lim x = if x < 0 then .inr 89 else if x ≤ 4 then .inr 131 else .inr 89 := by unfold se_A; rw [hq]
    rw [hS, hAa]
    rw [hq] at hp
    have hp : I pr 3 = nI 0 := hp
    have es : f_Pr_size pr (sh, I, J, R, n) = some (nI 0, (sh, I, J, R, n)) := by
      unfold f_Pr_size
      simp only [ev_ob q2.1, ev_b, ev_I, hp]
    by_cases h0 : x < 0
    · rw [if_pos h0, if_pos h0, hbump]
      exact ⟨I, J, R, n + 1, rfl, hcc, hid, hA0, by omega⟩
    · rw [if_neg h0, if_neg h0]
      by_cases h4 : x ≤ 4
      · rw [if_pos h4, if_pos h4]
        simp only [ev_ob c0, ev_b, ev_R, c14, ev_ob q2.1, es]
        rw [if_pos (show nI 0 = 0 from rfl), hbump]
        exact ⟨I, J, R, n + 1, rfl, hcc, hid, hA0, by omega⟩
      · rw [if_neg h4, if_neg h4, hbump]
        exact ⟨I, J, R, n + 1, rfl, hcc, hid, hA0, by omega⟩
  | some P =>
    rw [hq] at hp
    obtain ⟨hW, hpp, h10⟩ := hp
    have h49 := hW.2.1
    have hs0 := hW.1
    have hAa : se_A Q lim x = if x < 0 then .inr 89 else if x ≤ 4 then (if x = 3 ∧ sf P = false then .inr 131 else .inl (sl_g (se_Q P lim (se_m P Q.2.1 x.toNatClampNeg) Q).2.2.2.2.1 0)) else .inr 89 := by unfold se_A; rw [hq]
    have hS : se_S Q lim x = if x < 0 then Q else if x ≤ 4 then (if x = 3 ∧ sf P = false then Q else se_Q P lim (se_m P Q.2.1 x.toNatClampNeg) Q) else Q := by unfold se_S; rw [hq]
    rw [hAa, hS]
    by_cases h0 : x < 0
    · rw [if_pos h0, if_pos h0, if_pos h0, hbump]
      exact ⟨I, J, R, n + 1, rfl, hcc, hid, hA0, by omega⟩
    · rw [if_neg h0, if_neg h0, if_neg h0]
      by_cases h4 : x ≤ 4
      · rw [if_pos h4, if_pos h4, if_pos h4]
        obtain ⟨k, hk, rfl⟩ := x04 h0 h4
        simp only [ev_ob c0, ev_b, ev_R, c14, ev_ob q2.1, e_Pr_size q2 hpp]
        rw [if_neg (by rw [li_0, nI_eq (by omega) (by omega)]; omega), nI_clamp (by omega)]
        by_cases h3 : k = 3
        · rw [if_pos (by rw [h3]; rfl), ev_I, h10]
          cases hsf : sf P with
          | false =>
            rw [if_pos (show bI false = 0 by decide), if_pos ⟨by rw [h3]; rfl, rfl⟩, if_pos ⟨by rw [h3]; rfl, rfl⟩, hbump]
            exact ⟨I, J, R, n + 1, rfl, hcc, hid, hA0, by omega⟩
          | true =>
            have hne : ¬ (nI k = 3 ∧ true = false) := fun h => by cases h.2
            have hn4 : ¬ nI k = 4 := by rw [h3]; decide
            rw [if_neg (show ¬ bI true = 0 by decide), if_neg hne, if_neg hne, if_neg hn4, ev_b]
            have hm3 : se_m P Q.2.1 k = 3 := by unfold se_m; rw [if_neg (by omega)]; exact h3
            rw [hm3, h3]
            obtain ⟨I1, J1, R1, e1, r1, K1, a1⟩ := e_C_disp (n := n) (m := 3) (by omega) hB hA hl1 hlim hq hW hcc
            exact ⟨I1, J1, R1, n, e1, r1, K1, a1, Nat.le_refl _⟩
        · have hn3 : ¬ nI k = 3 := by rw [li_3, nI_eq (by omega) (by omega)]; exact h3
          have hne : ¬ (nI k = 3 ∧ sf P = false) := fun h => hn3 h.1
          rw [if_neg hn3, if_neg hne, if_neg hne]
          have hpl : ((if nI k = 4 then (x_ob (sh, I, J, R, n) 0 (some b)).bind fun a4 => (f_C_plannedMatcher a4 (sh, I, J, R, n)).bind fun p5 => some (p5.1, p5.2) else some (nI k, (sh, I, J, R, n))) : Option (Int32 × hv_S)) = some (nI (se_m P Q.2.1 k), (sh, I, J, R, n)) := by
            unfold se_m
            by_cases hk4 : k = 4
            · rw [if_pos (by rw [hk4]; rfl), if_pos hk4]
              have t20 := ht.2.1
              have hmul : nI P.1 * (nI Q.2.1.1 + 1) = nI (P.1 * (Q.2.1.1 + 1)) := by rw [nI_1, pk_mul]
              have hle : P.1 * (Q.2.1.1 + 1) ≤ 49 * 21 := Nat.mul_le_mul h49 (by omega)
              have l128 : (128 : Int32) = nI 128 := rfl
              unfold f_C_plannedMatcher
              simp only [ev_ob c0, ev_b, ev_I, h10]
              cases hsf : sf P with
              | true => rw [if_neg (show ¬ bI true = 0 by decide)]; rfl
              | false =>
                rw [if_pos (show bI false = 0 by decide)]
                simp only [ev_R, c14, ev_ob q2.1, ev_b, e_Pr_size q2 hpp, ev_ob c0, c5, ev_ob c6.1, e_Tx_length c6 ht, hmul]
                by_cases h128 : 128 < P.1 * (Q.2.1.1 + 1)
                · rw [if_pos (by rw [l128, nI_ltI (by omega) (by omega)]; exact h128), if_neg (by simp), if_pos h128]; rfl
                · rw [if_neg (by rw [l128, nI_ltI (by omega) (by omega)]; exact h128), if_neg (by simp), if_neg h128]; rfl
            · rw [if_neg (by rw [li_4, nI_eq (by omega) (by omega)]; exact hk4), if_neg hk4]
          simp only [ev_ob c0, ev_b] at hpl
          rw [hpl, ev_b]
          obtain ⟨I1, J1, R1, e1, r1, K1, a1⟩ := e_C_disp (n := n) (m := se_m P Q.2.1 k) (se_m4 hk) hB hA hl1 hlim hq hW hcc
          exact ⟨I1, J1, R1, n, e1, r1, K1, a1, Nat.le_refl _⟩
      · rw [if_neg h4, if_neg h4, if_neg h4, hbump]
        exact ⟨I, J, R, n + 1, rfl, hcc, hid, hA0, by omega⟩
end SE
