/-! THE CLASS'S WRITER: pieces, sequences, choices -/
section W3
variable {sh : Nat → Option (Nat × Nat)} {I : Nat → Nat → Int32} {J : Nat → Nat → Int64} {R : Nat → Nat → Option Nat} {n g W pat : Nat} {s : sc_T} {m : Nat} {rc : Nat → hv_S → Option (Int32 × hv_S)}
/-- a sign behind an atom -/
theorem e_Wr_sgn {a1 n1 b d ch : Nat} {c1 : cd} (hl : ly_W sh R W g pat) (hch : ch = 63 ∨ ch = 42 ∨ ch = 43) (hsp : sp s a1 = some ch) (hb : b ≤ c1.length) (hci : ci c1 a1 d) (hw : wr_R I W g pat s a1 n1 c1) :
    ∃ I', ((x_ob (sh, I, J, R, n) 1 (some W)).bind fun a8 => (some (hv_setI (sh, I, J, R, n) a8 2 (hv_I (sh, I, J, R, n) a8 2 + 1))).bind fun s9 => (f_Wr_peek a8 s9).bind fun p10 => ((if p10.1 = 63 then some 1 else some 0) : Option Int32).bind fun t11 => ((if t11 = 0 then some p10.2 else (x_ob p10.2 1 (some W)).bind fun a12 => (some (hv_setI p10.2 a12 2 (hv_I p10.2 a12 2 + 1))).bind fun s13 => some s13) : Option hv_S).bind fun t14 => (x_ob t14 1 (some W)).bind fun a15 => (f_Wr_writeSign a15 (nI ch) (nI b) t11 t14).bind fun p16 => some p16) = some (sh, I', J, R, n) ∧ wr_R I' W g pat s (sg_a s a1) n1 (sg_c s a1 b c1) ∧ wk_K W g I I' := by
  obtain ⟨hp, h2, h3, hc⟩ := hw
  have hal := (sp_lt hsp).1
  have h24 := hp.2.1
  have hL := hl
  obtain ⟨l0, lr0, r4, lpat, lP, d1, d2, d3⟩ := hl
  have hig : isg (sp s a1) = true := by
    unfold isg
    rw [hsp]
    refine decide_eq_true ?_
    rcases hch with h | h | h
    · exact Or.inl (by rw [h])
    · exact Or.inr (Or.inl (by rw [h]))
    · exact Or.inr (Or.inr (by rw [h]))
  have A0 : ∀ v x k, (x ≠ W ∨ k ≠ 2) → (hv_u I W 2 v) x k = I x k := fun v x k q => by
    rcases q with q | q
    · rw [ev_ua q]
    · rw [ev_uk q]
  have wk0 : wk_K W g I (hv_u I W 2 (nI (a1 + 1))) := fun x k q1 q2 => A0 _ x k (by omega)
  have h63 : (wpk (sp s (a1 + 1)) = (63 : Int32)) ↔ sp s (a1 + 1) = some 63 := wpk_is (m := 63) hp (by omega)
  have hlen := hci.1
  simp only [ev_ob l0, ev_b, ev_I, h2, nI_1, ev_sI, e_Wr_peek hL (pw_K hL wk0 hp) (ev_us : (hv_u I W 2 (nI (a1 + 1))) W 2 = nI (a1 + 1)) (show a1 + 1 ≤ 30 by omega)]
  unfold sg_a sg_c
  rw [if_pos hig, if_pos hig, hsp]
  by_cases hz : sp s (a1 + 1) = some 63
  · have hz1 : ((if wpk (sp s (a1 + 1)) = 63 then some 1 else some 0) : Option Int32) = some 1 := if_pos (h63.mpr hz)
    have huu : hv_u (hv_u I W 2 (nI (a1 + 1))) W 2 (nI (a1 + 1 + 1)) = hv_u I W 2 (nI (a1 + 2)) := by
      funext k a
      unfold hv_u
      split <;> rfl
    rw [hz1, ev_b, if_neg (show ¬ (1 : Int32) = 0 by decide)]
    simp only [ev_ob l0, ev_b, ev_I, ev_us, nI_1, ev_sI, huu]
    obtain ⟨I2, e2, w2, K2⟩ := e_Wr_sign (J := J) (n := n) (I := hv_u I W 2 (nI (a1 + 2))) (lz := true) (d := d) hL hch hb (by omega) hci.2.2.2 (pc_mono (fun a k g1 g2 => A0 _ _ _ (by omega)) hc)
    have e2' : f_Wr_writeSign W (nI ch) (nI b) 1 (sh, hv_u I W 2 (nI (a1 + 2)), J, R, n) = some (sh, I2, J, R, n) := e2
    rw [e2', ev_b, if_pos hz, decide_eq_true hz]
    have wk2 : wk_K W g I I2 := fun x k q1 q2 => (K2 x k q2).trans (A0 _ x k (by omega))
    exact ⟨I2, rfl, ⟨pw_K hL wk2 hp, (K2 _ _ (by omega)).trans ev_us, (K2 _ _ (by omega)).trans ((A0 _ _ _ (by omega)).trans h3), w2⟩, wk2⟩
  · have hz1 : ((if wpk (sp s (a1 + 1)) = 63 then some 1 else some 0) : Option Int32) = some 0 := if_neg (fun e => hz (h63.mp e))
    rw [hz1, ev_b, if_pos rfl]
    simp only [ev_ob l0, ev_b]
    obtain ⟨I2, e2, w2, K2⟩ := e_Wr_sign (J := J) (n := n) (I := hv_u I W 2 (nI (a1 + 1))) (lz := false) (d := d) hL hch hb (by omega) hci.2.2.2 (pc_mono (fun a k g1 g2 => A0 _ _ _ (by omega)) hc)
    have e2' : f_Wr_writeSign W (nI ch) (nI b) 0 (sh, hv_u I W 2 (nI (a1 + 1)), J, R, n) = some (sh, I2, J, R, n) := e2
    rw [e2', ev_b, if_neg hz, decide_eq_false hz]
    have wk2 : wk_K W g I I2 := fun x k q1 q2 => (K2 x k q2).trans (A0 _ x k (by omega))
    exact ⟨I2, rfl, ⟨pw_K hL wk2 hp, (K2 _ _ (by omega)).trans ev_us, (K2 _ _ (by omega)).trans ((A0 _ _ _ (by omega)).trans h3), w2⟩, wk2⟩
theorem e_Wr_piece {d ch : Nat} {S : ST} (hl : ly_W sh R W g pat) (hrc : RC sh J R n W g pat s m rc) (hm : 4 ≤ m + 1 + S.2.2.1) (hI : mIS s d S) (hsp : sp s S.1 = some ch) (h124 : ch ≠ 124) (h41 : ch ≠ 41) (hw : wr_R I W g pat s S.1 S.2.2.1 S.2.1) :
    ∃ I' r S', f_Wr_writePiece rc W (sh, I, J, R, n) = some (bI r, (sh, I', J, R, n)) ∧ wk_K W g I I' ∧ (r = true → wr_R I' W g pat s S'.1 S'.2.2.1 S'.2.1 ∧ goS s d S S' ∧ mIS s d S' ∧ agS d S S' ∧ S'.2.2.2.1 d = S.2.2.2.1 d ∧ S.1 < S'.1 ∧ S.2.2.1 ≤ S'.2.2.1) ∧ (r = false → noS s d S) := by
  obtain ⟨I1, r, a1, c1, n1, sq1, op1, gr1, e1, K1, t1, f1⟩ := e_Wr_atom hl hrc hm hI hsp h124 h41 hw
  have hL := hl
  obtain ⟨l0, lr0, r4, lpat, lP, d1, d2, d3⟩ := hl
  have es : f_Pr_size g (sh, I, J, R, n) = some (nI S.2.1.length, (sh, I, J, R, n)) := by
    unfold f_Pr_size
    simp only [ev_ob lP.1, ev_b, ev_I, hw.2.2.2.1]
  unfold f_Wr_writePiece
  simp only [ev_ob l0, ev_b, ev_R, r4, ev_ob lP.1, es, e1]
  cases r with
  | false =>
    rw [if_pos (show bI false = 0 by decide)]
    exact ⟨I1, false, S, rfl, K1, fun h => (by cases h), f1⟩
  | true =>
    obtain ⟨q1, q2, q3, q4, q5, q6, q7, q8, q9, q10⟩ := t1 rfl
    rw [if_neg (show ¬ bI true = 0 by decide)]
    have h24 := q1.1.2.1
    have sga := sg_a_le (s := s) (a := a1) q5
    have hfin : ∀ I2, wr_R I2 W g pat s (sg_a s a1) n1 (sg_c s a1 S.2.1.length c1) → wk_K W g I1 I2 → ∃ I' r S', (some ((1 : Int32), (sh, I2, J, R, n)) : Option (Int32 × hv_S)) = some (bI r, (sh, I', J, R, n)) ∧ wk_K W g I I' ∧ (r = true → wr_R I' W g pat s S'.1 S'.2.2.1 S'.2.1 ∧ goS s d S S' ∧ mIS s d S' ∧ agS d S S' ∧ S'.2.2.2.1 d = S.2.2.2.1 d ∧ S.1 < S'.1 ∧ S.2.2.1 ≤ S'.2.2.1) ∧ (r = false → noS s d S) := fun I2 z1 z2 => ⟨I2, true, (sg_a s a1, sg_c s a1 S.2.1.length c1, n1, sq1, op1, gr1), rfl, wk_trans K1 z2, fun _ => ⟨z1, q6, q7, q8, q9, by show S.1 < sg_a s a1; omega, q10⟩, fun h => (by cases h)⟩
    simp only [e_Wr_peek hL q1.1 q1.2.1 (show a1 ≤ 30 by omega), ev_b]
    have h63 : (wpk (sp s a1) = (63 : Int32)) ↔ sp s a1 = some 63 := wpk_is (m := 63) q1.1 (by omega)
    have h42 : (wpk (sp s a1) = (42 : Int32)) ↔ sp s a1 = some 42 := wpk_is (m := 42) q1.1 (by omega)
    have h43 : (wpk (sp s a1) = (43 : Int32)) ↔ sp s a1 = some 43 := wpk_is (m := 43) q1.1 (by omega)
    by_cases c63 : sp s a1 = some 63
    · obtain ⟨I2, e2, w2, K2⟩ := e_Wr_sgn (J := J) (n := n) hL (Or.inl rfl) c63 q2 q3 q1
      have hwp : wpk (sp s a1) = nI 63 := by rw [c63]; rfl
      rw [if_pos (h63.mpr c63), hwp]
      simp only [ev_ob l0, ev_b] at e2 ⊢
      rw [e2, ev_b]
      exact hfin I2 w2 K2
    · rw [if_neg (fun e => c63 (h63.mp e))]
      by_cases c42 : sp s a1 = some 42
      · obtain ⟨I2, e2, w2, K2⟩ := e_Wr_sgn (J := J) (n := n) hL (Or.inr (Or.inl rfl)) c42 q2 q3 q1
        have hwp : wpk (sp s a1) = nI 42 := by rw [c42]; rfl
        rw [if_pos (h42.mpr c42), hwp]
        simp only [ev_ob l0, ev_b] at e2 ⊢
        rw [e2, ev_b]
        exact hfin I2 w2 K2
      · rw [if_neg (fun e => c42 (h42.mp e))]
        by_cases c43 : sp s a1 = some 43
        · obtain ⟨I2, e2, w2, K2⟩ := e_Wr_sgn (J := J) (n := n) hL (Or.inr (Or.inr rfl)) c43 q2 q3 q1
          have hwp : wpk (sp s a1) = nI 43 := by rw [c43]; rfl
          rw [if_pos (h43.mpr c43), hwp]
          simp only [ev_ob l0, ev_b] at e2 ⊢
          rw [e2, ev_b]
          exact hfin I2 w2 K2
        · rw [if_neg (fun e => c43 (h43.mp e)), ev_b]
          have hig : ¬ isg (sp s a1) = true := by
            unfold isg
            rw [decide_eq_true_eq]
            exact fun e => e.elim c63 (fun e => e.elim c42 c43)
          refine hfin I1 ?_ wk_refl
          unfold sg_a sg_c
          rw [if_neg hig, if_neg hig]
          exact q1
theorem e_Wr_seqloop {d : Nat} (hl : ly_W sh R W g pat) (hrc : RC sh J R n W g pat s m rc) :
    ∀ (N i : Nat) (S : ST) (I : Nat → Nat → Int32), 25 ≤ N + i → i + s.1 ≤ 24 + S.1 → 4 ≤ m + 1 + S.2.2.1 → mIS s d S → wr_R I W g pat s S.1 S.2.2.1 S.2.1 →
    ∃ I' r S', ((L_Wr_writeSequence_2 rc N (some W) (nI i) (sh, I, J, R, n)).bind fun e5r => e5r.elim (fun e5 => some ((1 : Int32), e5)) (fun w => some w)) = some (bI r, (sh, I', J, R, n)) ∧ wk_K W g I I' ∧ (r = true → wr_R I' W g pat s S'.1 S'.2.2.1 S'.2.1 ∧ goS s d S S' ∧ mIS s d S' ∧ agS d S S' ∧ S'.2.2.2.1 d = S.2.2.2.1 d ∧ S.1 ≤ S'.1 ∧ S.2.2.1 ≤ S'.2.2.1 ∧ (sp s S'.1 = none ∨ sp s S'.1 = some 124 ∨ sp s S'.1 = some 41)) ∧ (r = false → noS s d S)
  | 0, i, S, I, hN, hi, hm, hI, hw => by have := hI.1; have := hI.2.1; omega
  | N + 1, i, S, I, hN, hi, hm, hI, hw => by
    have h1 : S.1 ≤ s.1 := hI.1
    have h24 := hI.2.1
    have l24 : (24 : Int32) = nI 24 := rfl
    have hstop : (sp s S.1 = none ∨ sp s S.1 = some 124 ∨ sp s S.1 = some 41) → ∃ I' r S', (((some (.inl (sh, I, J, R, n)) : Option (hv_S ⊕ (Int32 × hv_S))).bind fun e5r => e5r.elim (fun e5 => some ((1 : Int32), e5)) (fun w => some w)) = some (bI r, (sh, I', J, R, n)) ∧ wk_K W g I I' ∧ (r = true → wr_R I' W g pat s S'.1 S'.2.2.1 S'.2.1 ∧ goS s d S S' ∧ mIS s d S' ∧ agS d S S' ∧ S'.2.2.2.1 d = S.2.2.2.1 d ∧ S.1 ≤ S'.1 ∧ S.2.2.1 ≤ S'.2.2.1 ∧ (sp s S'.1 = none ∨ sp s S'.1 = some 124 ∨ sp s S'.1 = some 41)) ∧ (r = false → noS s d S)) := fun h => ⟨I, true, S, rfl, wk_refl, fun _ => ⟨hw, goS_refl, hI, agS_refl, rfl, Nat.le_refl _, Nat.le_refl _, h⟩, fun h => (by cases h)⟩
    rw [L_Wr_writeSequence_2]
    by_cases hi24 : 24 ≤ i
    · rw [if_pos (by rw [l24, nI_leI (by omega) (by omega)]; exact hi24)]
      exact hstop (Or.inl (by unfold sp; rw [if_neg (by omega)]))
    · rw [if_neg (by rw [l24, nI_leI (by omega) (by omega)]; exact hi24)]
      simp only [ev_ob hl.1, ev_b, e_Wr_peek hl hw.1 hw.2.1 (show S.1 ≤ 30 by omega)]
      have he := wpk_end (a := S.1) hw.1
      have h124 : (wpk (sp s S.1) = (124 : Int32)) ↔ sp s S.1 = some 124 := wpk_is (m := 124) hw.1 (by omega)
      have h41 : (wpk (sp s S.1) = (41 : Int32)) ↔ sp s S.1 = some 41 := wpk_is (m := 41) hw.1 (by omega)
      by_cases c0 : sp s S.1 = none
      · rw [if_pos (he.mpr c0)]; exact hstop (Or.inl c0)
      · rw [if_neg (fun e => c0 (he.mp e))]
        by_cases c1 : sp s S.1 = some 124
        · rw [if_pos (h124.mpr c1)]; exact hstop (Or.inr (Or.inl c1))
        · rw [if_neg (fun e => c1 (h124.mp e))]
          by_cases c2 : sp s S.1 = some 41
          · rw [if_pos (h41.mpr c2)]; exact hstop (Or.inr (Or.inr c2))
          · rw [if_neg (fun e => c2 (h41.mp e))]
            match hsp : sp s S.1 with
            | none => exact absurd hsp c0
            | some ch =>
              obtain ⟨I1, r, S1, e1, K1, t1, f1⟩ := e_Wr_piece hl hrc hm hI hsp (fun e => c1 (by rw [hsp, e])) (fun e => c2 (by rw [hsp, e])) hw
              rw [e1, ev_b]
              cases r with
              | false =>
                rw [if_pos (show bI false = 0 by decide)]
                exact ⟨I1, false, S, rfl, K1, fun h => (by cases h), f1⟩
              | true =>
                obtain ⟨q1, q2, q3, q4, q5, q6, hn1⟩ := t1 rfl
                rw [if_neg (show ¬ bI true = 0 by decide), nI_1]
                obtain ⟨I2, r2, S2, e2, K2, t2, f2⟩ := e_Wr_seqloop hl hrc N (i + 1) S1 I1 (by omega) (by omega) (by omega) q3 q1
                refine ⟨I2, r2, S2, e2, wk_trans K1 K2, fun h => ?_, fun h => goS_no q2 (f2 h)⟩
                obtain ⟨z1, z2, z3, z4, z5, z6, z7, z8⟩ := t2 h
                exact ⟨z1, goS_trans q2 z2, z3, agS_trans q4 z4, z5.trans q5, by omega, by omega, z8⟩
theorem e_Wr_seq {d : Nat} {S : ST} (hl : ly_W sh R W g pat) (hrc : RC sh J R n W g pat s m rc) (hm : 4 ≤ m + 1 + S.2.2.1) (hI : mIS s d S) (hw : wr_R I W g pat s S.1 S.2.2.1 S.2.1) :
    ∃ I' r S', f_Wr_writeSequence rc W (sh, I, J, R, n) = some (bI r, (sh, I', J, R, n)) ∧ wk_K W g I I' ∧ (r = true → wr_R I' W g pat s S'.1 S'.2.2.1 S'.2.1 ∧ goS s d S S' ∧ mIS s d S' ∧ agS d S S' ∧ S'.2.2.2.1 d = S.2.2.2.1 d ∧ S.1 ≤ S'.1 ∧ S.2.2.1 ≤ S'.2.2.1 ∧ (sp s S'.1 = none ∨ sp s S'.1 = some 124 ∨ sp s S'.1 = some 41)) ∧ (r = false → noS s d S) := by
  have h24 := hI.2.1
  exact e_Wr_seqloop (d := d) hl hrc 100000 0 S I (by omega) (by omega) hm hI hw
theorem e_Wr_chloop {d : Nat} {x1 : Int32} (hl : ly_W sh R W g pat) (hrc : RC sh J R n W g pat s m rc) :
    ∀ (N i : Nat) (S : ST) (I : Nat → Nat → Int32), 25 ≤ N + i → i + s.1 ≤ 24 + S.1 → 4 ≤ m + 1 + S.2.2.1 → mIS s d S → wr_R I W g pat s S.1 S.2.2.1 S.2.1 → (sp s S.1 = none ∨ sp s S.1 = some 124 ∨ sp s S.1 = some 41) →
    ∃ I' r S', L_Wr_writeChoice_18 rc N (some W) x1 (nI (S.2.2.2.1 d)) 1 (nI i) (sh, I, J, R, n) = some (bI r, (sh, I', J, R, n)) ∧ wk_K W g I I' ∧ (r = true → wr_R I' W g pat s S'.1 S'.2.2.1 S'.2.1 ∧ goS s d S S' ∧ mIS s d S' ∧ agS d S S' ∧ S.1 ≤ S'.1 ∧ S.2.2.1 ≤ S'.2.2.1 ∧ (sp s S'.1 = none ∨ sp s S'.1 = some 41)) ∧ (r = false → noS s d S)
  | 0, i, S, I, hN, hi, hm, hI, hw, hsp => by have := hI.1; have := hI.2.1; omega
  | N + 1, i, S, I, hN, hi, hm, hI, hw, hsp => by
    have h1 : S.1 ≤ s.1 := hI.1
    have h24 := hI.2.1
    have l24 : (24 : Int32) = nI 24 := rfl
    have hstop : (sp s S.1 = none ∨ sp s S.1 = some 41) → ∃ I' r S', (some ((1 : Int32), (sh, I, J, R, n)) : Option (Int32 × hv_S)) = some (bI r, (sh, I', J, R, n)) ∧ wk_K W g I I' ∧ (r = true → wr_R I' W g pat s S'.1 S'.2.2.1 S'.2.1 ∧ goS s d S S' ∧ mIS s d S' ∧ agS d S S' ∧ S.1 ≤ S'.1 ∧ S.2.2.1 ≤ S'.2.2.1 ∧ (sp s S'.1 = none ∨ sp s S'.1 = some 41)) ∧ (r = false → noS s d S) := fun h => ⟨I, true, S, rfl, wk_refl, fun _ => ⟨hw, goS_refl, hI, agS_refl, Nat.le_refl _, Nat.le_refl _, h⟩, fun h => (by cases h)⟩
    rw [L_Wr_writeChoice_18]
    by_cases hi24 : 24 ≤ i
    · rw [if_pos (by rw [l24, nI_leI (by omega) (by omega)]; exact hi24)]
      exact hstop (Or.inl (by unfold sp; rw [if_neg (by omega)]))
    · rw [if_neg (by rw [l24, nI_leI (by omega) (by omega)]; exact hi24), if_neg (by decide)]
      simp only [ev_ob hl.1, ev_b, e_Wr_peek hl hw.1 hw.2.1 (show S.1 ≤ 30 by omega)]
      have h124 : (wpk (sp s S.1) = (124 : Int32)) ↔ sp s S.1 = some 124 := wpk_is (m := 124) hw.1 (by omega)
      by_cases c1 : sp s S.1 = some 124
      · rw [if_pos (h124.mpr c1)]
        obtain ⟨a, c, nn, sq, op, gr⟩ := S
        obtain ⟨hp, h2, h3, hc⟩ := hw
        have h2 : I W 2 = nI a := h2
        have h3 : I W 3 = nI nn := h3
        have hc : pc_R I g c := hc
        have c1 : sp s a = some 124 := c1
        have hII : mI s a c d nn sq op gr := hI
        have hal := (sp_lt c1).1
        have hlen := hII.2.2.1.1
        have hsq := (hII.2.2.2.2.2.1 d (Nat.le_refl _)).2
        have hIb := mI_bar hII c1
        have hL := hl
        obtain ⟨l0, lr0, r4, lpat, lP, d1, d2, d3⟩ := hl
        have A0 : ∀ x k, (x ≠ W ∨ k ≠ 2) → (hv_u I W 2 (nI (a + 1))) x k = I x k := fun x k q => by
          rcases q with q | q
          · rw [ev_ua q]
          · rw [ev_uk q]
        obtain ⟨I1, e1, w1, K1⟩ := e_Pr_insert (J := J) (n := n) (I := hv_u I W 2 (nI (a + 1))) (b := sq d) (d := d) (x := sq d + 1) (y := c.length + 2) lP hsq (by omega) hII.2.2.1.2.2.2 (pc_mono (fun a k g1 g2 => A0 _ _ (by omega)) hc)
        obtain ⟨I2, e2, w2, K2⟩ := e_Pr_addh (J := J) (n := n) (I := I1) (h := sq d) (k := 3) (x := -1) (i := (8, d, 0)) lP (by rw [cs_il hsq]; omega) rfl (fun _ => ⟨rfl, rfl⟩) w1
        have hl2 : (cs_i (sq d) (sq d + 1) (c.length + 2) c ++ [(8, d, 0)]).length = c.length + 2 := by rw [List.length_append, cs_il hsq]; rfl
        have es1 : f_Pr_size g (sh, I2, J, R, n) = some (nI (c.length + 2), (sh, I2, J, R, n)) := by
          unfold f_Pr_size
          simp only [ev_ob lP.1, ev_b, ev_I, w2.1]
          rw [hl2]
        obtain ⟨I3, e3, w3, K3⟩ := e_Pr_aim (J := J) (n := n) (I := I2) (h := sq d) (x := sq d + 1) (y := c.length + 2) lP (by rw [hl2]; omega) (by rw [List.getElem?_append_left (by rw [cs_il hsq]; omega), cs_ig hsq, if_neg (Nat.lt_irrefl _), if_pos rfl]) w2
        have es3 : f_Pr_size g (sh, I3, J, R, n) = some (nI (c.length + 2), (sh, I3, J, R, n)) := by
          unfold f_Pr_size
          simp only [ev_ob lP.1, ev_b, ev_I, w3.1]
          rw [hl2]
        have eo : f_Pr_addOpenGo g (sh, I1, J, R, n) = some (sh, I2, J, R, n) := by
          unfold f_Pr_addOpenGo
          simp only [ev_ob lP.1, ev_b, e2]
        have wk3 : wk_K W g I I3 := fun x k q1 q2 => (K3 x k q2).trans ((K2 x k q2).trans ((K1 x k q2).trans (A0 x k (by omega))))
        have hw3 : wr_R I3 W g pat s (a + 1) nn (cs_i (sq d) (sq d + 1) (c.length + 2) c ++ [(8, d, 0)]) := ⟨pw_K hL wk3 hp, (K3 _ _ (by omega)).trans ((K2 _ _ (by omega)).trans ((K1 _ _ (by omega)).trans ev_us)), (K3 _ _ (by omega)).trans ((K2 _ _ (by omega)).trans ((K1 _ _ (by omega)).trans ((A0 _ _ (by omega)).trans h3))), w3⟩
        simp only [ev_ob l0, ev_b, ev_I, h2, nI_1, ev_sI, ev_R, r4, ev_ob lP.1, e1, eo, es1, e3, es3]
        have hstep : goS s d (a, c, nn, sq, op, gr) (a + 1, cs_i (sq d) (sq d + 1) (c.length + 2) c ++ [(8, d, 0)], nn, fu sq d (c.length + 2), op, gr) := fun k hk => by
          have hk : s.1 + 1 ≤ a + k := hk
          match k with
          | 0 => omega
          | k + 1 => exact ⟨k, by show s.1 + 1 ≤ a + 1 + k; omega, by rw [mrS_c c1, if_pos rfl]⟩
        have hag : agS d (a, c, nn, sq, op, gr) (a + 1, cs_i (sq d) (sq d + 1) (c.length + 2) c ++ [(8, d, 0)], nn, fu sq d (c.length + 2), op, gr) := ⟨fun f hf => fu_o (by omega), fun f hf => ⟨rfl, rfl⟩⟩
        obtain ⟨I4, r, S4, e4, K4, t4, f4⟩ := e_Wr_seq (J := J) (n := n) (I := I3) (S := (a + 1, cs_i (sq d) (sq d + 1) (c.length + 2) c ++ [(8, d, 0)], nn, fu sq d (c.length + 2), op, gr)) (d := d) hL hrc hm hIb hw3
        rw [e4, ev_b]
        cases r with
        | false =>
          refine ⟨I4, false, (a, c, nn, sq, op, gr), ?_, wk_trans wk3 K4, fun h => (by cases h), fun _ => goS_no hstep (f4 rfl)⟩
          match N, hN with
          | N + 1, hN =>
            show L_Wr_writeChoice_18 rc (N + 1) (some W) x1 (nI (c.length + 2)) (bI false) (nI (i + 1)) (sh, I4, J, R, n) = _
            rw [L_Wr_writeChoice_18]
            split
            · rfl
            · rw [if_pos (show bI false = 0 by decide)]
          | 0, hN => omega
        | true =>
          obtain ⟨q1, q2, q3, q4, q5, q6, q7, q8⟩ := t4 rfl
          have q6 : a + 1 ≤ S4.1 := q6
          have q7 : nn ≤ S4.2.2.1 := q7
          have hsq4 : S4.2.2.2.1 d = c.length + 2 := by
            rw [q5]
            exact fu_s
          have hm : 4 ≤ m + 1 + nn := hm
          have hi : i + s.1 ≤ 24 + a := hi
          obtain ⟨I5, r5, S5, e5, K5, t5, f5⟩ := e_Wr_chloop (d := d) (x1 := x1) hL hrc N (i + 1) S4 I4 (by omega) (by omega) (by omega) q3 q1 q8
          rw [hsq4] at e5
          refine ⟨I5, r5, S5, e5, wk_trans wk3 (wk_trans K4 K5), fun h => ?_, fun h => goS_no hstep (goS_no q2 (f5 h))⟩
          obtain ⟨z1, z2, z3, z4, z5, z6, z7⟩ := t5 h
          exact ⟨z1, goS_trans hstep (goS_trans q2 z2), z3, agS_trans hag (agS_trans q4 z4), by show a ≤ S5.1; omega, by show nn ≤ S5.2.2.1; omega, z7⟩
      · rw [if_neg (fun e => c1 (h124.mp e))]
        refine hstop ?_
        rcases hsp with h | h | h
        · exact Or.inl h
        · exact absurd h c1
        · exact Or.inr h
theorem e_Pr_close_any {b : Nat} (hl : ly_P sh R g) (hb : b ≤ 49) : ∃ I', f_Pr_closeChoice g (nI b) (sh, I, J, R, n) = some (sh, I', J, R, n) ∧ (∀ a k, (a < g ∨ g + 3 < a) → I' a k = I a k) := by
  obtain ⟨l0, l1, l2, l3, r0, r1, r2⟩ := hl
  have H : ∀ (j N b : Nat) (I : Nat → Nat → Int32), j < N → b + j = 49 → ∃ I', L_Pr_closeChoice_6 N (some g) (nI b) (sh, I, J, R, n) = some (sh, I', J, R, n) ∧ (∀ a k, (a < g ∨ g + 3 < a) → I' a k = I a k) := by
    intro j
    induction j with
    | zero =>
      intro N b I hN hb
      match N with
      | 0 => omega
      | N + 1 =>
        rw [L_Pr_closeChoice_6]
        simp only [ev_ob l0, ev_b]
        refine ⟨I, ?_, fun _ _ _ => rfl⟩
        split
        · rfl
        · rw [if_pos (by rw [li_49, nI_leI (by omega) (by omega)]; omega)]
    | succ j ih =>
      intro N b I hN hb
      match N with
      | 0 => omega
      | N + 1 =>
        have xb := ev_ix (N := 49) (k := b) (by omega) (by omega)
        rw [L_Pr_closeChoice_6]
        simp only [ev_ob l0, ev_b, ev_I]
        by_cases hs : I g 3 ≤ nI b
        · rw [if_pos hs]
          exact ⟨I, rfl, fun _ _ _ => rfl⟩
        · rw [if_neg hs, if_neg (by rw [li_49, nI_leI (by omega) (by omega)]; omega)]
          simp only [ev_R, r0, r1, ev_ar0 l1, ev_ar0 l2, ev_b, xb, ev_sI, nI_1]
          by_cases h3 : I (g + 1) b = 3
          · rw [if_pos h3]
            by_cases h4 : I (g + 2) b = -1
            · rw [if_pos h4, ev_b]
              obtain ⟨I', e, K⟩ := ih N (b + 1) (hv_u I (g + 2) b (I g 3)) (by omega) (by omega)
              exact ⟨I', e, fun a k q => (K a k q).trans (ev_ua (by omega))⟩
            · rw [if_neg h4, ev_b]
              exact ih N (b + 1) I (by omega) (by omega)
          · rw [if_neg h3, ev_b]
            exact ih N (b + 1) I (by omega) (by omega)
  obtain ⟨I', e, K⟩ := H (49 - b) 100000 b I (by omega) (by omega)
  unfold f_Pr_closeChoice
  rw [ev_b, if_neg (nI_pos (by omega)), e, ev_b]
  exact ⟨I', rfl, K⟩
theorem e_Wr_choice (hl : ly_W sh R W g pat) (hrc : RC sh J R n W g pat s m rc) : RC sh J R n W g pat s (m + 1) (f_Wr_writeChoiceB rc) := by
  intro d S I hI hsq hcb hm hw
  have hL := hl
  obtain ⟨l0, lr0, r4, lpat, lP, d1, d2, d3⟩ := hl
  have hlen := hI.2.2.1.1
  have h1 := hI.1
  have h24 := hI.2.1
  have es : f_Pr_size g (sh, I, J, R, n) = some (nI S.2.1.length, (sh, I, J, R, n)) := by
    unfold f_Pr_size
    simp only [ev_ob lP.1, ev_b, ev_I, hw.2.2.2.1]
  have hnil : ∀ (I1 : Nat → Nat → Int32), noS s d S → wk_K W g I I1 → ∃ I' r S', ((L_Wr_writeChoice_18 rc 100000 (some W) (nI S.2.1.length) (nI S.2.1.length) (bI false) 0 (sh, I1, J, R, n)).bind fun e25 => (x_ob e25.2 1 (some W)).bind fun a26 => (x_ob e25.2 8 (hv_R e25.2 a26 4)).bind fun a27 => (f_Pr_closeChoice a27 (nI S.2.1.length) e25.2).bind fun p28 => (x_z e25.1).bind fun z29 => some (z29, p28)) = some (bI r, (sh, I', J, R, n)) ∧ wk_K W g I I' ∧ (r = true → wr_R I' W g pat s S'.1 S'.2.2.1 (cs_l d S'.2.1) ∧ goS s d S S' ∧ mIS s d S' ∧ agS d S S' ∧ S.1 ≤ S'.1 ∧ S.2.2.1 ≤ S'.2.2.1 ∧ (sp s S'.1 = none ∨ sp s S'.1 = some 41)) ∧ (r = false → noS s d S) := fun I1 hno K1 => by
    have e0 : L_Wr_writeChoice_18 rc 100000 (some W) (nI S.2.1.length) (nI S.2.1.length) (bI false) 0 (sh, I1, J, R, n) = some (bI false, (sh, I1, J, R, n)) := by
      rw [L_Wr_writeChoice_18, if_neg (by decide), if_pos (show bI false = 0 by decide)]
    obtain ⟨I2, e2, K2⟩ := e_Pr_close_any (I := I1) (J := J) (n := n) (b := S.2.1.length) lP (by omega)
    simp only [e0, ev_b, ev_ob l0, ev_R, r4, ev_ob lP.1, e2, x_zb]
    exact ⟨I2, false, S, rfl, wk_trans K1 (fun x k q1 q2 => K2 x k q2), fun h => (by cases h), fun _ => hno⟩
  obtain ⟨I1, r, S1, e1, K1, t1, f1⟩ := e_Wr_seq (J := J) (n := n) (d := d) hL hrc (by omega) hI hw
  unfold f_Wr_writeChoiceB
  simp only [ev_ob l0, ev_b, ev_R, r4, ev_ob lP.1, es, e1]
  cases r with
  | false => exact hnil I1 (f1 rfl) K1
  | true =>
    obtain ⟨q1, q2, q3, q4, q5, q6, q7, q8⟩ := t1 rfl
    obtain ⟨I2, r2, S2, e2, K2, t2, f2⟩ := e_Wr_chloop (J := J) (n := n) (d := d) (x1 := nI S.2.1.length) hL hrc 100000 0 S1 I1 (by omega) (by omega) (by omega) q3 q1 q8
    rw [q5, hsq] at e2
    have e2' : L_Wr_writeChoice_18 rc 100000 (some W) (nI S.2.1.length) (nI S.2.1.length) (bI true) 0 (sh, I1, J, R, n) = some (bI r2, (sh, I2, J, R, n)) := e2
    simp only [e2', ev_b, ev_ob l0, ev_R, r4, ev_ob lP.1, x_zb]
    cases r2 with
    | false =>
      obtain ⟨I3, e3, K3⟩ := e_Pr_close_any (I := I2) (J := J) (n := n) (b := S.2.1.length) lP (by omega)
      rw [e3, ev_b]
      exact ⟨I3, false, S, rfl, wk_trans K1 (wk_trans K2 (fun x k q1 q2 => K3 x k q2)), fun h => (by cases h), fun _ => goS_no q2 (f2 rfl)⟩
    | true =>
      obtain ⟨z1, z2, z3, z4, z5, z6, z7⟩ := t2 rfl
      have hag := agS_trans q4 z4
      have hop : cb S2.2.2.2.2.1 d = S.2.1.length := by
        rw [← hcb]
        unfold cb
        rw [(hag.2 d (Nat.le_refl _)).1]
      have hcb2 := (z3.2.2.2.2.2.1 d (Nat.le_refl _))
      have hlen2 := z3.2.2.1.1
      have h12 := z3.1
      obtain ⟨I3, e3, w3, K3⟩ := e_Pr_close (J := J) (n := n) (I := I2) (d := d) (op := S2.2.2.2.2.1) lP (by omega) z3.2.2.1.2.2.2 z3.2.2.2.2.2.2.2.2 (by omega) z1.2.2.2
      rw [hop] at e3
      rw [e3, ev_b]
      have wk3 : wk_K W g I2 I3 := fun x k q1 q2 => K3 x k q2
      exact ⟨I3, true, S2, rfl, wk_trans K1 (wk_trans K2 wk3), fun _ => ⟨⟨pw_K hL wk3 z1.1, (K3 _ _ (by omega)).trans z1.2.1, (K3 _ _ (by omega)).trans z1.2.2.1, w3⟩, goS_trans q2 z2, z3, hag, by omega, by omega, z7⟩, fun h => (by cases h)⟩
theorem e_Wr_rc (hl : ly_W sh R W g pat) : ∀ m, RC sh J R n W g pat s m (f_Wr_writeChoice m)
  | 0 => fun d S I hI _ _ hm _ => by have := hI.2.2.2.1; omega
  | m + 1 => e_Wr_choice hl (e_Wr_rc hl m)
theorem e_Wr_write (lP : ly_P sh R g) (l0 : sh W = some (1, 0)) (lpat : sh pat = some (1002, 24)) (d1 : W < g ∨ g + 3 < W) (d2 : pat < g ∨ g + 3 < pat) (d3 : W ≠ pat) (h24 : s.1 ≤ 24) (hpat : ∀ k, k < s.1 → I pat k = nI (s.2 k) ∧ s.2 k < 65536) :
    ∃ I' R' r, f_Wr_write W (some pat) (nI s.1) (some g) (sh, I, J, R, n) = some (bI r, (sh, I', J, R', n)) ∧ (∀ c', mR s = some c' → r = true ∧ pc_R I' g c') ∧ (mR s = none → r = false) ∧ (∀ a k, a ≠ W → (a < g ∨ g + 3 < a) → I' a k = I a k) ∧ (∀ a k, a ≠ W → R' a k = R a k) := by
  have KR : ∀ a k, a ≠ W → (hv_u (hv_u R W 0 (some pat)) W 4 (some g)) a k = R a k := fun a k h => by rw [ev_ua h, ev_ua h]
  have r0 : (hv_u (hv_u R W 0 (some pat)) W 4 (some g)) W 0 = some pat := by rw [ev_uk (by omega), ev_us]
  have r4 : (hv_u (hv_u R W 0 (some pat)) W 4 (some g)) W 4 = some g := ev_us
  have KI : ∀ a k, a ≠ W → (a < g ∨ g + 3 < a) → (hv_u (hv_u (hv_u (hv_u I W 1 (nI s.1)) W 2 0) W 3 0) g 3 0) a k = I a k := fun a k h1 h2 => by rw [ev_ua (by omega), ev_ua h1, ev_ua h1, ev_ua h1]
  have w1 : (hv_u (hv_u (hv_u (hv_u I W 1 (nI s.1)) W 2 0) W 3 0) g 3 0) W 1 = nI s.1 := by rw [ev_ua (by omega), ev_uk (by omega), ev_uk (by omega), ev_us]
  have w2 : (hv_u (hv_u (hv_u (hv_u I W 1 (nI s.1)) W 2 0) W 3 0) g 3 0) W 2 = nI 0 := by rw [ev_ua (by omega), ev_uk (by omega), ev_us]; rfl
  have w3 : (hv_u (hv_u (hv_u (hv_u I W 1 (nI s.1)) W 2 0) W 3 0) g 3 0) W 3 = nI 0 := by rw [ev_ua (by omega), ev_us]; rfl
  have g3 : (hv_u (hv_u (hv_u (hv_u I W 1 (nI s.1)) W 2 0) W 3 0) g 3 0) g 3 = nI 0 := by rw [ev_us]; rfl
  unfold f_Wr_write f_Pr_empty
  rw [if_neg (by simp), if_neg (by simp)]
  simp only [ev_ob l0, ev_b, ev_sR, ev_sI, ev_R, r4, ev_ob lP.1]
  generalize hv_u (hv_u R W 0 (some pat)) W 4 (some g) = R1 at KR r0 r4 ⊢
  generalize hv_u (hv_u (hv_u (hv_u I W 1 (nI s.1)) W 2 0) W 3 0) g 3 0 = I1 at KI w1 w2 w3 g3 ⊢
  have lP1 : ly_P sh R1 g := by
    obtain ⟨a0, a1, a2, a3, a4, a5, a6⟩ := lP
    exact ⟨a0, a1, a2, a3, (KR _ _ (by omega)).trans a4, (KR _ _ (by omega)).trans a5, (KR _ _ (by omega)).trans a6⟩
  have hL : ly_W sh R1 W g pat := ⟨l0, r0, r4, lpat, lP1, d1, d2, d3⟩
  have hp1 : pw_R I1 W pat s := ⟨w1, h24, fun k hk => ⟨(KI _ _ (by omega) (by omega)).trans (hpat k hk).1, (hpat k hk).2⟩⟩
  obtain ⟨I2, r, S', e2, K2, t2, f2⟩ := e_Wr_rc (J := J) (n := n) (s := s) hL 5 0 (0, [], 0, fun _ => 0, fun _ => 0, fun _ => 0) I1 (mI_0 h24) rfl rfl (by show 4 ≤ 5 + 0; omega) ⟨hp1, w2, w3, ⟨g3, fun k i hk => by simp at hk⟩⟩
  have K2' : ∀ a k, a ≠ W → (a < g ∨ g + 3 < a) → I2 a k = I a k := fun a k q1 q2 => (K2 a k (Or.inl q1) q2).trans (KI a k q1 q2)
  have hmR : mR s = mrS s (s.1 + 1) 0 (0, [], 0, fun _ => 0, fun _ => 0, fun _ => 0) := rfl
  rw [e2, ev_b]
  cases r with
  | false =>
    rw [if_pos (show bI false = 0 by decide), ev_b, if_pos rfl, ev_b, ev_z0, ev_b]
    have := f2 rfl (s.1 + 1) (by show s.1 + 1 ≤ 0 + (s.1 + 1); omega)
    rw [← hmR] at this
    exact ⟨I2, R1, false, rfl, fun c' h => (by rw [this] at h; cases h), fun _ => rfl, K2', KR⟩
  | true =>
    obtain ⟨v1, v2, v3, v4, v5, v5n, v6⟩ := t2 rfl
    have ha2 := v3.1
    have hl2 := v3.2.2.1.1
    obtain ⟨k', q1, q2⟩ := v2 (s.1 + 1) (by show s.1 + 1 ≤ 0 + (s.1 + 1); omega)
    rw [← hmR] at q2
    rw [if_neg (show ¬ bI true = 0 by decide)]
    simp only [ev_ob l0, ev_b, e_Wr_peek hL v1.1 v1.2.1 (show S'.1 ≤ 30 by omega)]
    have he := wpk_end (a := S'.1) v1.1
    match k', q1 with
    | 0, q1 => omega
    | k' + 1, q1 =>
      rcases v6 with v6 | v6
      · rw [if_pos (he.mpr v6), ev_b, if_neg (show ¬ (1 : Int32) = 0 by decide)]
        obtain ⟨I3, e3, w3', K3⟩ := e_Pr_add (J := J) (n := n) (I := I2) (k := 7) (x := 0) (i := (7, 0, 0)) lP1 (by rw [cs_ll]; omega) rfl rfl rfl v1.2.2.2
        simp only [ev_ob l0, ev_b, ev_R, r4, ev_ob lP1.1, e3, ev_z1]
        have hres : mR s = some (cs_l 0 S'.2.1 ++ [(7, 0, 0)]) := by
          rw [q2]
          obtain ⟨a2, c2, n2, sq2, op2, gr2⟩ := S'
          have v6 : sp s a2 = none := v6
          show mr s (k' + 1) a2 c2 0 n2 sq2 op2 gr2 = _
          unfold mr
          rw [v6]
          rfl
        exact ⟨I3, R1, true, rfl, fun c' h => ⟨rfl, by rw [hres] at h; injection h with h; subst h; exact w3'⟩, fun h => (by rw [hres] at h; cases h), fun a k q1 q2 => (K3 a k q2).trans (K2' a k q1 q2), KR⟩
      · rw [if_neg (fun e => by have := he.mp e; rw [v6] at this; cases this), ev_b, if_pos rfl, ev_b, ev_z0, ev_b]
        have hres : mR s = none := by
          rw [q2]
          obtain ⟨a2, c2, n2, sq2, op2, gr2⟩ := S'
          have v6 : sp s a2 = some 41 := v6
          rw [mrS_c v6, if_neg (by omega), if_neg (by omega), if_neg (by omega)]
          rfl
        exact ⟨I2, R1, false, rfl, fun c' h => (by rw [hres] at h; cases h), fun _ => rfl, K2', KR⟩
end W3
