/-! THE CLASS'S WRITER: atoms, pieces, sequences, choices -/
section W2
variable {sh : Nat → Option (Nat × Nat)} {I : Nat → Nat → Int32} {J : Nat → Nat → Int64} {R : Nat → Nat → Option Nat} {n g W pat : Nat} {s : sc_T} {m : Nat} {rc : Nat → hv_S → Option (Int32 × hv_S)}
theorem fu_s {f : Nat → Nat} {d v : Nat} : fu f d v d = v := if_pos rfl
theorem fu_o {f : Nat → Nat} {d v e : Nat} (h : e ≠ d) : fu f d v e = f e := if_neg h
/-- what an atom leaves -/
def at_Q (s : sc_T) (W g pat d : Nat) (S : ST) (I' : Nat → Nat → Int32) (a1 : Nat) (c1 : cd) (n1 : Nat) (sq1 op1 gr1 : Nat → Nat) : Prop :=
  wr_R I' W g pat s a1 n1 c1 ∧ S.2.1.length ≤ c1.length ∧ ci c1 a1 d ∧ S.1 < a1 ∧ a1 ≤ s.1 ∧ goS s d S (sg_a s a1, sg_c s a1 S.2.1.length c1, n1, sq1, op1, gr1) ∧ mIS s d (sg_a s a1, sg_c s a1 S.2.1.length c1, n1, sq1, op1, gr1) ∧ agS d S (sg_a s a1, sg_c s a1 S.2.1.length c1, n1, sq1, op1, gr1) ∧ sq1 d = S.2.2.2.1 d ∧ S.2.2.1 ≤ n1
theorem e_Wr_group {d ch : Nat} {S : ST} (hl : ly_W sh R W g pat) (hrc : RC sh J R n W g pat s m rc) (hm : 4 ≤ m + 1 + S.2.2.1) (hI : mIS s d S) (hsp : sp s S.1 = some 40) (hw : wr_R I W g pat s (S.1 + 1) S.2.2.1 S.2.1) :
    ∃ I' r a1 c1 n1 sq1 op1 gr1, f_Wr_writeGroup rc W (sh, I, J, R, n) = some (bI r, (sh, I', J, R, n)) ∧ wk_K W g I I' ∧ (r = true → at_Q s W g pat d S I' a1 c1 n1 sq1 op1 gr1) ∧ (r = false → noS s d S) := by
  obtain ⟨a, c, nn, sq, op, gr⟩ := S
  obtain ⟨hp, h2, h3, hc⟩ := hw
  have h2 : I W 2 = nI (a + 1) := h2
  have h3 : I W 3 = nI nn := h3
  have hc : pc_R I g c := hc
  have hsp : sp s a = some 40 := hsp
  have hII : mI s a c d nn sq op gr := hI
  obtain ⟨i1, i2, i3, i4, i5, i6, i7, i8, i9⟩ := hII
  have hal := (sp_lt hsp).1
  have hlen := i3.1
  have hL := hl
  obtain ⟨l0, lr0, r4, lpat, lP, d1, d2, d3⟩ := hl
  unfold f_Wr_writeGroup
  simp only [ev_ob l0, ev_b, ev_I, h3]
  by_cases hn3 : nn < 3
  · rw [if_pos (by rw [li_3, nI_ltI (by omega) (by omega)]; exact hn3)]
    have A0 : ∀ x k, (x ≠ W ∨ k ≠ 3) → (hv_u I W 3 (nI (nn + 1))) x k = I x k := fun x k q => by
      rcases q with q | q
      · rw [ev_ua q]
      · rw [ev_uk q]
    have hc0 : pc_R (hv_u I W 3 (nI (nn + 1))) g c := pc_mono (fun a k g1 g2 => A0 _ _ (by omega)) hc
    have h2n : (2 : Int32) * nI (nn + 1) = nI (2 * (nn + 1)) := by rw [li_2, pk_mul]
    obtain ⟨I1, e1, w1, K1⟩ := e_Pr_add (J := J) (n := n) (I := hv_u I W 3 (nI (nn + 1))) (k := 4) (x := nI (2 * (nn + 1))) (i := (4, 2 * (nn + 1), 0)) lP (by omega) rfl rfl rfl hc0
    have hIo := mI_open (s := s) hI hsp hn3
    have wk1 : wk_K W g I I1 := fun x k q1 q2 => (K1 x k q2).trans (A0 x k (by omega))
    have hw1 : wr_R I1 W g pat s (a + 1) (nn + 1) (c ++ [(4, 2 * (nn + 1), 0)]) := ⟨pw_K hL wk1 hp, (K1 _ _ (by omega)).trans ((A0 _ _ (by omega)).trans h2), (K1 _ _ (by omega)).trans ev_us, w1⟩
    have hl1 : (c ++ [(4, 2 * (nn + 1), 0)]).length = c.length + 1 := by simp
    obtain ⟨I2, r, S', e2, K2, t2, f2⟩ := hrc (d + 1) (a + 1, c ++ [(4, 2 * (nn + 1), 0)], nn + 1, fu sq (d + 1) (c.length + 1), fu op (d + 1) c.length, fu gr (d + 1) (nn + 1)) I1 hIo (by show fu sq (d + 1) (c.length + 1) (d + 1) = (c ++ [(4, 2 * (nn + 1), 0)]).length; rw [fu_s, hl1]) (by
      show cb (fu op (d + 1) c.length) (d + 1) = (c ++ [(4, 2 * (nn + 1), 0)]).length
      unfold cb
      rw [if_neg (by omega), fu_s, hl1]) (by show 4 ≤ m + (nn + 1); have : 4 ≤ m + 1 + nn := hm; omega) hw1
    have hstep : ∀ k, mrS s (k + 1) d (a, c, nn, sq, op, gr) = mrS s k (d + 1) (a + 1, c ++ [(4, 2 * (nn + 1), 0)], nn + 1, fu sq (d + 1) (c.length + 1), fu op (d + 1) c.length, fu gr (d + 1) (nn + 1)) := fun k => by
      rw [mrS_c hsp, if_neg (by omega), if_pos ⟨rfl, hn3⟩]
    simp only [ev_sI, nI_1, ev_R, r4, ev_ob lP.1, ev_b, ev_us, h2n, e1, ev_ob l0, e2, ev_I]
    have wk2 := wk_trans wk1 K2
    cases r with
    | false =>
      rw [if_pos (show bI false = 0 by decide)]
      refine ⟨I2, false, 0, [], 0, sq, op, gr, rfl, wk2, fun h => (by cases h), fun _ k hk => ?_⟩
      have hk : s.1 + 1 ≤ a + k := hk
      match k with
      | 0 => omega
      | k + 1 => rw [hstep]; exact f2 rfl k (by show s.1 + 1 ≤ a + 1 + k; omega)
    | true =>
      obtain ⟨v1, v2, v3, v4, v5, v5n, v6⟩ := t2 rfl
      obtain ⟨a2, c2, n2, sq2, op2, gr2⟩ := S'
      have v1 : wr_R I2 W g pat s a2 n2 (cs_l (d + 1) c2) := v1
      have v3 : mI s a2 c2 (d + 1) n2 sq2 op2 gr2 := v3
      have v5 : a + 1 ≤ a2 := v5
      have v5n : nn + 1 ≤ n2 := v5n
      have v6 : sp s a2 = none ∨ sp s a2 = some 41 := v6
      obtain ⟨p2, p22, p23, pc2⟩ := v1
      have ha2 := v3.1
      rw [if_neg (show ¬ bI true = 0 by decide), e_Wr_peek hL p2 p22 (by omega), ev_b]
      have h41 : (wpk (sp s a2) = (41 : Int32)) ↔ sp s a2 = some 41 := wpk_is (m := 41) p2 (by omega)
      rcases v6 with v6 | v6
      · rw [if_neg (fun e => by have := h41.mp e; rw [v6] at this; cases this)]
        refine ⟨I2, false, 0, [], 0, sq, op, gr, rfl, wk2, fun h => (by cases h), fun _ k hk => ?_⟩
        have hk : s.1 + 1 ≤ a + k := hk
        match k with
        | 0 => omega
        | k + 1 =>
          rw [hstep]
          obtain ⟨k', q1, q2⟩ := v2 k (by show s.1 + 1 ≤ a + 1 + k; omega)
          rw [q2]
          have q1 : s.1 + 1 ≤ a2 + k' := q1
          match k' with
          | 0 => omega
          | k' + 1 =>
            show mr s (k' + 1) a2 c2 (d + 1) n2 sq2 op2 gr2 = none
            unfold mr
            rw [v6]
            dsimp only
            rw [if_neg (by omega)]
      · rw [if_pos (h41.mpr v6)]
        have ha2l := (sp_lt v6).1
        have hlen2 := v3.2.2.1.1
        have hop : op2 (d + 1) = c.length := by
          have := (v4.2 (d + 1) (Nat.le_refl _)).1
          have : op2 (d + 1) = fu op (d + 1) c.length (d + 1) := this
          rw [fu_s] at this; exact this
        have hgr : gr2 (d + 1) = nn + 1 := by
          have := (v4.2 (d + 1) (Nat.le_refl _)).2
          have : gr2 (d + 1) = fu gr (d + 1) (nn + 1) (d + 1) := this
          rw [fu_s] at this; exact this
        have B0 : ∀ x k, (x ≠ W ∨ k ≠ 2) → (hv_u I2 W 2 (nI (a2 + 1))) x k = I2 x k := fun x k q => by
          rcases q with q | q
          · rw [ev_ua q]
          · rw [ev_uk q]
        have h2n1 : nI (2 * (nn + 1)) + 1 = nI (2 * (nn + 1) + 1) := nI_1 _
        obtain ⟨I3, e3, w3, K3⟩ := e_Pr_add (J := J) (n := n) (I := hv_u I2 W 2 (nI (a2 + 1))) (k := 4) (x := nI (2 * (nn + 1) + 1)) (i := (4, 2 * (nn + 1) + 1, 0)) lP (by rw [cs_ll]; omega) rfl rfl rfl (pc_mono (fun a k g1 g2 => B0 _ _ (by omega)) pc2)
        simp only [ev_ob l0, ev_b, ev_I, p22, nI_1, ev_sI, ev_R, r4, ev_ob lP.1, e3]
        have hIc := mI_close v3 v6 (by omega)
        rw [hop, hgr, Nat.add_sub_cancel] at hIc
        have wk3 : wk_K W g I I3 := wk_trans wk2 (fun x k q1 q2 => (K3 x k q2).trans (B0 x k (by omega)))
        have hc3 : ci (cs_l (d + 1) c2 ++ [(4, 2 * (nn + 1) + 1, 0)]) (a2 + 1) d := by
          have := ci_l v3.2.2.1 (show 0 < d + 1 by omega)
          rw [Nat.add_sub_cancel] at this
          exact ci_a1 this (by omega) (fun _ => by omega) (fun h => by omega)
        have hcl : c.length < c2.length := by
          have := (v3.2.2.2.2.2.2.1 d (by omega)).2
          rw [hop] at this; exact this
        refine ⟨I3, true, a2 + 1, cs_l (d + 1) c2 ++ [(4, 2 * (nn + 1) + 1, 0)], n2, sq2, op2, gr2, rfl, wk3, fun _ => ⟨⟨pw_K hL wk3 hp, (K3 _ _ (by omega)).trans ev_us, (K3 _ _ (by omega)).trans ((B0 _ _ (by omega)).trans p23), w3⟩, ?_, hc3, ?_, by omega, ?_, hIc, ?_, ?_, by show nn ≤ n2; omega⟩, fun h => (by cases h)⟩
        · show c.length ≤ (cs_l (d + 1) c2 ++ [(4, 2 * (nn + 1) + 1, 0)]).length
          rw [List.length_append, cs_ll]; omega
        · show a < a2 + 1; omega
        · intro k hk
          have hk : s.1 + 1 ≤ a + k := hk
          match k with
          | 0 => omega
          | k + 1 =>
            obtain ⟨k', q1, q2⟩ := v2 k (by show s.1 + 1 ≤ a + 1 + k; omega)
            have q1 : s.1 + 1 ≤ a2 + k' := q1
            match k' with
            | 0 => omega
            | k' + 1 =>
              refine ⟨k', ?_, ?_⟩
              · show s.1 + 1 ≤ sg_a s (a2 + 1) + k'
                have := (sg_a_le (s := s) (a := a2 + 1) (by omega)).1
                omega
              · rw [hstep, q2, mrS_c v6, if_neg (by omega), if_neg (by omega), if_pos ⟨rfl, by omega⟩, hop, hgr, Nat.add_sub_cancel]
        · refine ⟨fun f hf => ?_, fun f hf => ⟨?_, ?_⟩⟩
          · have := v4.1 f (by omega)
            have : sq2 f = fu sq (d + 1) (c.length + 1) f := this
            rw [fu_o (by omega)] at this; exact this
          · have := (v4.2 f (by omega)).1
            have : op2 f = fu op (d + 1) c.length f := this
            rw [fu_o (by omega)] at this; exact this
          · have := (v4.2 f (by omega)).2
            have : gr2 f = fu gr (d + 1) (nn + 1) f := this
            rw [fu_o (by omega)] at this; exact this
        · have := v4.1 d (by omega)
          have : sq2 d = fu sq (d + 1) (c.length + 1) d := this
          rw [fu_o (by omega)] at this; exact this
  · rw [if_neg (by rw [li_3, nI_ltI (by omega) (by omega)]; exact hn3)]
    refine ⟨I, false, 0, [], 0, sq, op, gr, rfl, wk_refl, fun h => (by cases h), fun _ k hk => ?_⟩
    have hk : s.1 + 1 ≤ a + k := hk
    match k with
    | 0 => omega
    | k + 1 =>
      rw [mrS_c hsp, if_neg (by omega), if_neg (fun e => hn3 e.2), if_neg (by omega)]
      rfl
theorem e_Wr_atom {d ch : Nat} {S : ST} (hl : ly_W sh R W g pat) (hrc : RC sh J R n W g pat s m rc) (hm : 4 ≤ m + 1 + S.2.2.1) (hI : mIS s d S) (hsp : sp s S.1 = some ch) (h124 : ch ≠ 124) (h41 : ch ≠ 41) (hw : wr_R I W g pat s S.1 S.2.2.1 S.2.1) :
    ∃ I' r a1 c1 n1 sq1 op1 gr1, f_Wr_writeAtom rc W (sh, I, J, R, n) = some (bI r, (sh, I', J, R, n)) ∧ wk_K W g I I' ∧ (r = true → at_Q s W g pat d S I' a1 c1 n1 sq1 op1 gr1) ∧ (r = false → noS s d S) := by
  have hal := (sp_lt hsp).1
  have hlen := hI.2.2.1.1
  have h24 := hI.2.1
  obtain ⟨hp, h2, h3, hc⟩ := hw
  have hch : ch < 65536 := by
    have := (hp.2.2 S.1 hal).2
    rw [(sp_lt hsp).2] at this; exact this
  have hL := hl
  obtain ⟨l0, lr0, r4, lpat, lP, d1, d2, d3⟩ := hl
  have A0 : ∀ x k, (x ≠ W ∨ k ≠ 2) → (hv_u I W 2 (nI (S.1 + 1))) x k = I x k := fun x k q => by
    rcases q with q | q
    · rw [ev_ua q]
    · rw [ev_uk q]
  have wk0 : wk_K W g I (hv_u I W 2 (nI (S.1 + 1))) := fun x k q1 q2 => A0 x k (by omega)
  have hc0 : pc_R (hv_u I W 2 (nI (S.1 + 1))) g S.2.1 := pc_mono (fun a k g1 g2 => A0 _ _ (by omega)) hc
  have hw0 : wr_R (hv_u I W 2 (nI (S.1 + 1))) W g pat s (S.1 + 1) S.2.2.1 S.2.1 := ⟨pw_K hL wk0 hp, ev_us, (A0 _ _ (by omega)).trans h3, hc0⟩
  have hwpk : wpk (sp s S.1) = nI ch := by rw [hsp]; rfl
  unfold f_Wr_writeAtom
  simp only [ev_ob l0, ev_b, e_Wr_peek hL hp h2 (by omega), ev_I, h2, nI_1, ev_sI, hwpk]
  generalize hv_u I W 2 (nI (S.1 + 1)) = I0 at A0 wk0 hc0 hw0 ⊢
  -- an atom that stands for itself
  have hat : ∀ ky : Nat × Nat, ch ≠ 40 → atm ch = some ky → ∃ I' r a1 c1 n1 sq1 op1 gr1, ((x_ob (sh, I0, J, R, n) 8 (hv_R (sh, I0, J, R, n) W 4)).bind fun a5 => (f_Pr_add a5 (nI ky.1) (nI ky.2) (sh, I0, J, R, n)).bind fun p6 => some ((1 : Int32), p6)) = some (bI r, (sh, I', J, R, n)) ∧ wk_K W g I I' ∧ (r = true → at_Q s W g pat d S I' a1 c1 n1 sq1 op1 gr1) ∧ (r = false → noS s d S) := fun ky h40 hky => by
    have hkk : (ky.1 = 0 ∨ ky.1 = 1 ∨ ky.1 = 4 ∨ ky.1 = 5 ∨ ky.1 = 6) ∧ (ky.1 = 4 → 2 ≤ ky.2 ∧ ky.2 < 8) ∧ (ky.1 = 0 → ky.2 < 8) ∧ ky.1 ≠ 8 := by
      unfold atm at hky
      split at hky
      · injection hky with hky; subst hky; exact ⟨Or.inl rfl, fun h => (by cases h), fun _ => by show ch - 97 < 8; omega, fun h => (by cases h)⟩
      · split at hky
        · injection hky with hky; subst hky; exact ⟨Or.inr (Or.inl rfl), fun h => (by cases h), fun h => (by cases h), fun h => (by cases h)⟩
        · split at hky
          · injection hky with hky; subst hky; exact ⟨Or.inr (Or.inr (Or.inr (Or.inl rfl))), fun h => (by cases h), fun h => (by cases h), fun h => (by cases h)⟩
          · split at hky
            · injection hky with hky; subst hky; exact ⟨Or.inr (Or.inr (Or.inr (Or.inr rfl))), fun h => (by cases h), fun h => (by cases h), fun h => (by cases h)⟩
            · cases hky
    obtain ⟨I1, e1, w1, K1⟩ := e_Pr_add (J := J) (n := n) (I := I0) (k := nI ky.1) (x := nI ky.2) (i := (ky.1, ky.2, 0)) lP (by omega) (by unfold ck; rw [if_neg hkk.2.2.2]) (by unfold cx; rw [if_neg hkk.2.2.2]) rfl hc0
    simp only [ev_R, r4, ev_ob lP.1, ev_b, e1]
    have wk1 : wk_K W g I I1 := wk_trans wk0 (fun x k q1 q2 => K1 x k q2)
    have hIa := mI_atom hI hsp hky
    refine ⟨I1, true, S.1 + 1, S.2.1 ++ [(ky.1, ky.2, 0)], S.2.2.1, S.2.2.2.1, S.2.2.2.2.1, S.2.2.2.2.2, rfl, wk1, fun _ => ⟨⟨pw_K hL wk1 hp, (K1 _ _ (by omega)).trans hw0.2.1, (K1 _ _ (by omega)).trans hw0.2.2.1, w1⟩, by simp, ci_a1 hI.2.2.1 hkk.1 hkk.2.1 hkk.2.2.1, by omega, by omega, fun k hk => ?_, hIa, agS_refl, rfl, Nat.le_refl _⟩, fun h => (by cases h)⟩
    match k with
    | 0 => omega
    | k + 1 =>
      refine ⟨k, ?_, ?_⟩
      · show s.1 + 1 ≤ sg_a s (S.1 + 1) + k
        have := (sg_a_le (s := s) (a := S.1 + 1) (by omega)).1
        omega
      · obtain ⟨a, c, nn, sq, op, gr⟩ := S
        have hsp' : sp s a = some ch := hsp
        rw [mrS_c hsp', if_neg h124, if_neg (fun e => h40 e.1), if_neg (fun e => h41 e.1), hky]
  have hno : ch ≠ 40 → atm ch = none → ∃ I' r a1 c1 n1 sq1 op1 gr1, (some ((0 : Int32), (sh, I0, J, R, n)) : Option (Int32 × hv_S)) = some (bI r, (sh, I', J, R, n)) ∧ wk_K W g I I' ∧ (r = true → at_Q s W g pat d S I' a1 c1 n1 sq1 op1 gr1) ∧ (r = false → noS s d S) := fun h40 hky => by
    refine ⟨I0, false, 0, [], 0, S.2.2.2.1, S.2.2.2.2.1, S.2.2.2.2.2, rfl, wk0, fun h => (by cases h), fun _ k hk => ?_⟩
    match k with
    | 0 => omega
    | k + 1 =>
      obtain ⟨a, c, nn, sq, op, gr⟩ := S
      have hsp' : sp s a = some ch := hsp
      rw [mrS_c hsp', if_neg h124, if_neg (fun e => h40 e.1), if_neg (fun e => h41 e.1), hky]
  have l97 : (97 : Int32) = nI 97 := rfl
  have l105 : (105 : Int32) = nI 105 := rfl
  by_cases hL1 : 97 ≤ ch ∧ ch ≤ 104
  · have hx : nI ch - 97 = nI (ch - 97) := by rw [l97, pk_sub (by omega)]
    rw [if_neg (by rw [l97, nI_ltI (by omega) (by omega)]; omega), if_neg (by rw [l105, nI_leI (by omega) (by omega)]; omega), hx]
    exact hat (0, ch - 97) (by omega) (by unfold atm; rw [if_pos hL1])
  · -- the chain stands twice
    have hchain : ∃ I' r a1 c1 n1 sq1 op1 gr1, ((if nI ch = 36 then (x_ob (sh, I0, J, R, n) 8 (hv_R (sh, I0, J, R, n) W 4)).bind fun a5 => (f_Pr_add a5 6 0 (sh, I0, J, R, n)).bind fun p6 => some ((1 : Int32), p6) else if nI ch = 40 then (f_Wr_writeGroup rc W (sh, I0, J, R, n)).bind fun p7 => (x_z p7.1).bind fun z8 => some (z8, p7.2) else if nI ch = 46 then (x_ob (sh, I0, J, R, n) 8 (hv_R (sh, I0, J, R, n) W 4)).bind fun a9 => (f_Pr_add a9 1 0 (sh, I0, J, R, n)).bind fun p10 => some ((1 : Int32), p10) else if nI ch = 94 then (x_ob (sh, I0, J, R, n) 8 (hv_R (sh, I0, J, R, n) W 4)).bind fun a11 => (f_Pr_add a11 5 0 (sh, I0, J, R, n)).bind fun p12 => some ((1 : Int32), p12) else some ((0 : Int32), (sh, I0, J, R, n))) : Option (Int32 × hv_S)) = some (bI r, (sh, I', J, R, n)) ∧ wk_K W g I I' ∧ (r = true → at_Q s W g pat d S I' a1 c1 n1 sq1 op1 gr1) ∧ (r = false → noS s d S) := by
      by_cases h36 : ch = 36
      · rw [if_pos (by rw [h36]; rfl)]
        exact hat (6, 0) (by omega) (by unfold atm; rw [if_neg hL1, if_neg (by omega), if_neg (by omega), if_pos h36])
      · rw [if_neg (show ¬ nI ch = 36 from ch_ne (m := 36) hch (by omega) h36)]
        by_cases h40 : ch = 40
        · rw [if_pos (by rw [h40]; rfl)]
          obtain ⟨I1, r, a1, c1, n1, sq1, op1, gr1, e1, K1, t1, f1⟩ := e_Wr_group (ch := ch) (d := d) hL hrc hm hI (by rw [hsp, h40]) hw0
          rw [e1, ev_b, x_zb, ev_b]
          exact ⟨I1, r, a1, c1, n1, sq1, op1, gr1, rfl, wk_trans wk0 K1, t1, f1⟩
        · rw [if_neg (show ¬ nI ch = 40 from ch_ne (m := 40) hch (by omega) h40)]
          by_cases h46 : ch = 46
          · rw [if_pos (by rw [h46]; rfl)]
            exact hat (1, 0) (by omega) (by unfold atm; rw [if_neg hL1, if_pos h46])
          · rw [if_neg (show ¬ nI ch = 46 from ch_ne (m := 46) hch (by omega) h46)]
            by_cases h94 : ch = 94
            · rw [if_pos (by rw [h94]; rfl)]
              exact hat (5, 0) (by omega) (by unfold atm; rw [if_neg hL1, if_neg h46, if_pos h94])
            · rw [if_neg (show ¬ nI ch = 94 from ch_ne (m := 94) hch (by omega) h94)]
              exact hno h40 (by unfold atm; rw [if_neg hL1, if_neg h46, if_neg h94, if_neg h36])
    by_cases hlt : ch < 97
    · rw [if_pos (by rw [l97, nI_ltI (by omega) (by omega)]; exact hlt)]
      exact hchain
    · rw [if_neg (by rw [l97, nI_ltI (by omega) (by omega)]; exact hlt), if_pos (by rw [l105, nI_leI (by omega) (by omega)]; omega)]
      exact hchain
end W2
