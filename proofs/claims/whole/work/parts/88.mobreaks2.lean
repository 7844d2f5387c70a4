/-! BREAKS, the reference's call -/
section MBS
variable {sh : Nat → Option (Nat × Nat)} {I I' : Nat → Nat → Int32} {J : Nat → Nat → Int64} {R : Nat → Nat → Option Nat} {n g lim B S : Nat} {Q : Qs}
theorem e_Mo_breaks (hl : ly_M sh R g) (hS : S + 3000 < 2 ^ 31) (hA : AU lim B Q) (hM : MO I g lim S Q) :
    ∃ I', f_Mo_breaks g (sh, I, J, R, n) = some (th_v (br_A Q), (sh, I', J, R, n)) ∧ MO I' g lim (S + 1000) Q ∧ I' g 0 = tc 131 (br_A Q) ∧ (∀ a k, a < g ∨ g + 27 < a → I' a k = I a k) := by
  have h0m : ∀ v, MO (hv_u I g 0 v) g lim S Q := fun v => MO_0 hA.1 hM
  unfold f_Mo_breaks br_A
  rw [ev_ob (ms_o hl), ev_b, ev_I, MO_size hM]
  have h := hM.2.2.1
  match hq : Q.2.2.1 with
  | none =>
    rw [if_pos (show nI (Option.getD none p0).1 = 0 from rfl), ev_b, ev_sI, ev_b, ev_I, if_neg (show ¬ (hv_u I g 0 1) g 0 ≤ 0 by rw [ev_us]; decide)]
    exact ⟨_, rfl, MO_up (by omega) (h0m _), by rw [ev_us]; rfl, fun a k q => ev_ua (by omega)⟩
  | some P =>
    rw [hq] at h
    have h49 := h.1.2.1
    have h1 := h.1.1
    rw [if_neg (show ¬ nI (Option.getD (some P) p0).1 = 0 by show ¬ nI P.1 = 0; rw [li_0, nI_eq (by omega) (by omega)]; omega), ev_b, ev_sI, ev_b, ev_I, if_pos (show (hv_u I g 0 0) g 0 ≤ 0 by rw [ev_us]; decide)]
    have hMM := h0m 0
    obtain ⟨m1, m2, m3, ⟨c, m4⟩, m5, m6, m7, ⟨⟨S1, mm, hS1, hmm⟩, hnw⟩⟩ := h0m 0
    rw [hq] at m3
    have t20 := m2.2.1
    generalize hI0 : hv_u I g 0 0 = I0 at *
    obtain ⟨I1, e1, K1, C1⟩ := e_Mo_br32 (J := J) (n := n) (x1 := I0 g 39) hl 8 100000 0 I0 (by omega) (by omega) (fun j hj => by omega)
    have e1' : L_Mo_breaks_32 100000 (some g) (I0 g 39) 0 (sh, I0, J, R, n) = _ := e1
    rw [e1', ev_b]
    have hp1 : mo_P I1 g P := ⟨(K1 _ _ (by omega)).trans m3.2.1.1, fun i hi => ⟨(K1 _ _ (by omega)).trans (m3.2.1.2 i hi).1, (K1 _ _ (by omega)).trans (m3.2.1.2 i hi).2.1, (K1 _ _ (by omega)).trans (m3.2.1.2 i hi).2.2⟩⟩
    have hx1 : mo_X I1 g Q.2.1 := ⟨(K1 _ _ (by omega)).trans m2.1, m2.2.1, fun k hk => ⟨(K1 _ _ (by omega)).trans (m2.2.2 k hk).1, (m2.2.2 k hk).2⟩⟩
    obtain ⟨I2, S2, c2, e2, K2, s2, ⟨mm2, hmm2⟩, h36, hn2⟩ := e_Mo_brloop (J := J) (n := n) (x1 := I0 g 39) (T := Q.2.1) hl m3.1 (Q.2.1.1 + 1) 100000 0 0 c S1 (-1) I1 (by omega) (by omega) (by omega) (by omega) hp1 hx1 ⟨mm, mm_R_mono (fun j => K1 _ _ (by omega)) (K1 _ _ (by omega)) hmm⟩ ((K1 _ _ (by omega)).trans m4.2.2.2.1) (nw_mono (fun k => K1 _ _ (by omega)) hnw)
    have e2' : L_Mo_breaks_63 100000 (some g) (I0 g 39) 0 (-1) 0 (sh, I1, J, R, n) = _ := e2
    have xz : x_z (I0 g 39) = some (I0 g 39) := by
      rcases m5 with ⟨-, h⟩ | ⟨-, h, -⟩ <;> rw [h] <;> rfl
    rw [e2', ev_b, ev_ob (ms_o hl), ev_b, xz, ev_b, ev_sI, ev_b]
    obtain ⟨I3, e3, K3, C3⟩ := e_Mo_br179 (J := J) (n := n) (x1 := nI (br P Q.2.1 (Q.2.1.1 + 1) 0 (-1) 0)) hl 8 100000 0 (hv_u I2 g 39 (I0 g 39)) (by omega) (by omega) (fun j hj => by omega)
    have e3' : L_Mo_breaks_179 100000 (some g) (nI (br P Q.2.1 (Q.2.1.1 + 1) 0 (-1) 0)) 0 (sh, hv_u I2 g 39 (I0 g 39), J, R, n) = _ := e3
    rw [e3', ev_b]
    have KA : ∀ a k, (a ≠ g ∨ (k ≠ 16 ∧ k ≠ 18 ∧ k ≠ 36)) → (a < g + 9 ∨ g + 16 < a) → a ≠ g + 23 → a ≠ g + 27 → I3 a k = I0 a k := fun a k q1 q2 q3 q4 => by
      rw [K3 _ _ q3]
      by_cases ha : a = g ∧ k = 39
      · obtain ⟨rfl, rfl⟩ := ha; rw [ev_us]
      · have e : (hv_u I2 g 39 (I0 g 39)) a k = I2 a k := by
          by_cases ha2 : a = g
          · rw [ev_uk (by omega)]
          · rw [ev_ua ha2]
        rw [e, K2 _ _ (by omega) q2 q3, K1 _ _ q4]
    have K3' : ∀ a k, (a ≠ g ∨ k ≠ 39) → a ≠ g + 23 → I3 a k = I2 a k := fun a k q1 q2 => by
      rw [K3 _ _ q2]
      by_cases ha2 : a = g
      · rw [ev_uk (by omega)]
      · rw [ev_ua ha2]
    have hC : ∀ j, j < 8 → I3 (g + 23) j = I0 (g + 23) j := fun j hj => by
      rw [C3 j hj, ev_ua (by omega), K2 _ _ (by omega) (by omega) (by omega), C1 j hj]
    refine ⟨I3, rfl, ?_, ?_, fun a k q => ?_⟩
    · have hb : bs_R I3 g Q.2.2.2.2.1 := by
        rcases m5 with ⟨g1, g2⟩ | ⟨g1, g2, g3⟩
        · exact Or.inl ⟨g1, (KA _ _ (by omega) (by omega) (by omega) (by omega)).trans g2⟩
        · exact Or.inr ⟨g1, (KA _ _ (by omega) (by omega) (by omega) (by omega)).trans g2, fun k hk => by rw [Nat.zero_add, hC k hk]; have := g3 k hk; rw [Nat.zero_add] at this; exact this⟩
      obtain ⟨w1, w2, w3, w4, w5, w6⟩ := m4
      exact MO_make (U := Q.2.2.2.1) (c := c2) hMM (fun a k q => KA _ _ (by omega) (by omega) (by omega) (by omega)) ⟨(KA _ _ (by omega) (by omega) (by omega) (by omega)).trans w1, (KA _ _ (by omega) (by omega) (by omega) (by omega)).trans w2, (KA _ _ (by omega) (by omega) (by omega) (by omega)).trans w3, (K3' _ _ (by omega) (by omega)).trans h36, (KA _ _ (by omega) (by omega) (by omega) (by omega)).trans w5, fun k s hs => ks_mono (hA.1.2 s (List.mem_of_getElem? hs)).1 (fun a j q => KA _ _ (by omega) (by omega) (by omega) (by omega)) (w6 k s hs)⟩ hb ((KA _ _ (by omega) (by omega) (by omega) (by omega)).trans m6) ((KA _ _ (by omega) (by omega) (by omega) (by omega)).trans m7) ⟨⟨S2, mm2, by omega, mm_R_mono (fun j => K3' _ _ (by omega) (by omega)) (K3' _ _ (by omega) (by omega)) hmm2⟩, nw_mono (fun k => K3' _ _ (by omega) (by omega)) hn2⟩
    · rw [KA _ _ (by omega) (by omega) (by omega) (by omega), ← hI0, ev_us]; rfl
    · rw [KA _ _ (by omega) (by omega) (by omega) (by omega), ← hI0, ev_ua (by omega)]
end MBS
