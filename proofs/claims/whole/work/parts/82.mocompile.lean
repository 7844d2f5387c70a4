/-! COMPILE, the reference's side -/
section MCO
variable {sh : Nat → Option (Nat × Nat)} {I I' : Nat → Nat → Int32} {J : Nat → Nat → Int64} {R : Nat → Nat → Option Nat} {n b g lim B S : Nat} {Q : Qs} {P : pg_P} {c : cd}
theorem e_Mo_28 {L : Nat} (hl : ly_M sh R g) (h49 : L ≤ 49) :
    ∀ (k N i : Nat) (I0 I : Nat → Nat → Int32), k < N → i + k = L → I g 6 = nI L → (∀ a j, a < g + 3 ∨ g + 5 < a → I a j = I0 a j) → (∀ j, j < i → I (g + 3) j = I0 (g + 6) j ∧ I (g + 4) j = I0 (g + 7) j ∧ I (g + 5) j = I0 (g + 8) j) →
    ∃ I', L_Mo_compile_28 N (some g) (nI i) (sh, I, J, R, n) = some (sh, I', J, R, n) ∧ (∀ a j, a < g + 3 ∨ g + 5 < a → I' a j = I0 a j) ∧ (∀ j, j < L → I' (g + 3) j = I0 (g + 6) j ∧ I' (g + 4) j = I0 (g + 7) j ∧ I' (g + 5) j = I0 (g + 8) j)
  | k, 0, _, _, _, h, _, _, _, _ => by omega
  | 0, N + 1, i, I0, I, hN, hk, h6, hf, hc => by
    rw [L_Mo_compile_28, ev_ob (ms_o hl), ev_b, ev_I, h6, if_pos (by rw [nI_leI (by omega) (by omega)]; omega)]
    exact ⟨I, rfl, hf, fun j hj => hc j (by omega)⟩
  | k + 1, N + 1, i, I0, I, hN, hk, h6, hf, hc => by
    rw [L_Mo_compile_28, ev_ob (ms_o hl), ev_b, ev_I, h6, if_neg (by rw [nI_leI (by omega) (by omega)]; omega)]
    rw [ev_R, mr_11 hl, ev_ar0 (ms_6 hl), ev_b, ev_ix (by omega) (by omega), ev_b, mr_7 hl, ev_ar0 (ms_3 hl), ev_b, ev_ix (by omega) (by omega), ev_b, ev_sI, ev_b]
    rw [ev_R, mr_12 hl, ev_ar0 (ms_7 hl), ev_b, ev_ix (by omega) (by omega), ev_b, mr_8 hl, ev_ar0 (ms_4 hl), ev_b, ev_ix (by omega) (by omega), ev_b, ev_sI, ev_b]
    rw [ev_R, mr_13 hl, ev_ar0 (ms_8 hl), ev_b, ev_ix (by omega) (by omega), ev_b, mr_9 hl, ev_ar0 (ms_5 hl), ev_b, ev_ix (by omega) (by omega), ev_b, ev_sI, ev_b, nI_1]
    simp only [ev_I]
    have E : ∀ (x y z : Int32) a j, a < g + 3 ∨ g + 5 < a → (hv_u (hv_u (hv_u I (g + 3) i x) (g + 4) i y) (g + 5) i z) a j = I a j := fun x y z a j q => by rw [ev_ua (by omega), ev_ua (by omega), ev_ua (by omega)]
    refine e_Mo_28 hl h49 k N (i + 1) I0 _ (by omega) (by omega) ?_ (fun a j q => (E _ _ _ _ _ q).trans (hf _ _ q)) (fun j hj => ?_)
    · rw [E _ _ _ _ _ (by omega)]; exact h6
    · by_cases hji : j = i
      · subst hji
        refine ⟨?_, ?_, ?_⟩
        · rw [ev_ua (by omega), ev_ua (by omega), ev_us]; exact hf _ _ (by omega)
        · rw [ev_ua (by omega), ev_us, ev_ua (by omega)]; exact hf _ _ (by omega)
        · rw [ev_us, ev_ua (by omega), ev_ua (by omega)]; exact hf _ _ (by omega)
      · obtain ⟨g1, g2, g3⟩ := hc j (by omega)
        refine ⟨?_, ?_, ?_⟩
        · rw [ev_ua (by omega), ev_ua (by omega), ev_uk hji]; exact g1
        · rw [ev_ua (by omega), ev_uk hji, ev_ua (by omega)]; exact g2
        · rw [ev_uk hji, ev_ua (by omega), ev_ua (by omega)]; exact g3
theorem e_Mo_compile (hl : ly_M sh R g) (hS : S + 3000 < 2 ^ 31) (hA : AU lim B Q) (hM : MO I g lim S Q) :
    ∃ I', f_Mo_compile g (sh, I, J, R, n) = some (th_v (co_A Q), (sh, I', J, R, n)) ∧ MO I' g lim (S + 1000) (co_S Q) ∧ I' g 0 = th_c (co_A Q) ∧ (∀ a k, a < g ∨ g + 27 < a → I' a k = I a k) := by
  have h24 := hM.1.2.1
  have hM0 : MO (hv_u I g 0 0) g lim S Q := MO_0 hA.1 hM
  obtain ⟨I1, r, e1, K1, s1, f1⟩ := e_Mo_read (J := J) (n := n) (I := hv_u I g 0 0) (s := Q.1) hl hM0.1
  unfold f_Mo_compile
  rw [ev_ob (ms_o hl), ev_b, ev_sI, ev_b, e1, ev_b]
  have eF : ∀ (I : Nat → Nat → Int32) (v : Int32), f_Mo_fail g v (sh, I, J, R, n) = some (0, (sh, hv_u I g 0 v, J, R, n)) := fun I v => by
    unfold f_Mo_fail
    rw [ev_ob (ms_o hl), ev_b, ev_sI, ev_b]
  have hM1 : MO I1 g lim S Q := by
    obtain ⟨h1, h2, h3, ⟨cc, w1, w2, w3, w4, w5, w6⟩, h5, h6, h7, h8⟩ := hM0
    exact MO_make (U := Q.2.2.2.1) (c := cc) ⟨h1, h2, h3, ⟨cc, w1, w2, w3, w4, w5, w6⟩, h5, h6, h7, h8⟩ (fun a k q => K1 _ _ (by omega) (by omega)) ⟨(K1 _ _ (by omega) (by omega)).trans w1, (K1 _ _ (by omega) (by omega)).trans w2, (K1 _ _ (by omega) (by omega)).trans w3, (K1 _ _ (by omega) (by omega)).trans w4, (K1 _ _ (by omega) (by omega)).trans w5, fun k s hs => ks_mono (hA.1.2 s (List.mem_of_getElem? hs)).1 (fun a j q => K1 _ _ (by omega) (by omega)) (w6 k s hs)⟩ (bs_R_mono (K1 _ _ (by omega) (by omega)) (fun k => K1 _ _ (by omega) (by omega)) h5) ((K1 _ _ (by omega) (by omega)).trans h6) ((K1 _ _ (by omega) (by omega)).trans h7) (sm_mono (Nat.le_refl _) (fun a k q => K1 _ _ (by omega) (by omega)) h8)
  match hm : mR Q.1 with
  | none =>
    have hr := f1 hm
    subst hr
    rw [if_pos (show bI false = 0 by decide), co_AN hm, co_SN hm, ev_ob (ms_o hl), ev_b, eF, ev_b]
    exact ⟨_, rfl, MO_up (by omega) (MO_0 hA.1 hM1), by rw [ev_us]; rfl, fun a k q => by rw [ev_ua (by omega), K1 _ _ (by omega) (by omega), ev_ua (by omega)]⟩
  | some c =>
    obtain ⟨hr, hnd⟩ := s1 c hm
    subst hr
    have hW := mR_W h24 hm
    have h49 : c.length ≤ 49 := hW.2.1
    rw [if_neg (show ¬ bI true = 0 by decide), co_AS hm, co_SS hm, ev_ob (ms_o hl), ev_b, ev_I, hnd.1, ev_sI, ev_b]
    obtain ⟨I2, e2, K2, C2⟩ := e_Mo_28 (J := J) (n := n) (L := c.length) hl h49 c.length 100000 0 (hv_u I1 g 6 (nI c.length)) (hv_u I1 g 6 (nI c.length)) (by omega) (by omega) ev_us (fun a j _ => rfl) (fun j hj => by omega)
    have e2' : L_Mo_compile_28 100000 (some g) 0 (sh, hv_u I1 g 6 (nI c.length), J, R, n) = some (sh, I2, J, R, n) := e2
    have eN : ∀ (I : Nat → Nat → Int32), f_Mo_noSearch g (sh, I, J, R, n) = some (sh, hv_u (hv_u (hv_u I g 37 (-1)) g 38 (-1)) g 39 0, J, R, n) := fun I => by
      unfold f_Mo_noSearch
      rw [ev_ob (ms_o hl), ev_b, ev_sI, ev_b, ev_sI, ev_b, ev_sI, ev_b]
    rw [e2', ev_b, ev_ob (ms_o hl), ev_b, ev_sI, ev_b, ev_sI, ev_b, eN, ev_b, ev_ob (ms_o hl), ev_b, ev_R, mr_7 hl, ev_ar0 (ms_3 hl), ev_b, ev_I]
    generalize hI3 : (hv_u (hv_u (hv_u (hv_u (hv_u I2 g 27 0) g 28 0) g 37 (-1)) g 38 (-1)) g 39 0) = I3
    have K3 : ∀ a k, (a ≠ g ∨ (k ≠ 27 ∧ k ≠ 28 ∧ k ≠ 37 ∧ k ≠ 38 ∧ k ≠ 39)) → I3 a k = I2 a k := fun a k q => by
      rw [← hI3]
      by_cases ha : a = g
      · subst ha
        rw [ev_uk (by omega), ev_uk (by omega), ev_uk (by omega), ev_uk (by omega), ev_uk (by omega)]
      · rw [ev_ua ha, ev_ua ha, ev_ua ha, ev_ua ha, ev_ua ha]
    have v27 : I3 g 27 = 0 := by rw [← hI3, ev_uk (by omega), ev_uk (by omega), ev_uk (by omega), ev_uk (by omega), ev_us]
    have v28 : I3 g 28 = 0 := by rw [← hI3, ev_uk (by omega), ev_uk (by omega), ev_uk (by omega), ev_us]
    have v37 : I3 g 37 = -1 := by rw [← hI3, ev_uk (by omega), ev_uk (by omega), ev_us]
    have v38 : I3 g 38 = -1 := by rw [← hI3, ev_uk (by omega), ev_us]
    have v39 : I3 g 39 = 0 := by rw [← hI3, ev_us]
    have v6 : I3 g 6 = nI c.length := by rw [K3 _ _ (by omega), K2 _ _ (by omega), ev_us]
    have hP3 : mo_P I3 g (pg_of c) := by
      refine ⟨v6, fun k hk => ?_⟩
      obtain ⟨i, hi, p1, p2, p3⟩ := pg_c hk
      have h7 := (hW.2.2.1 k hk).1
      rw [p1] at h7
      obtain ⟨a1, a2, a3⟩ := hnd.2 k i hi
      obtain ⟨d1, d2, d3⟩ := C2 k hk
      rw [ev_ua (by omega)] at d1 d2 d3
      rw [p1, p2, p3]
      refine ⟨?_, ?_, ?_⟩
      · rw [K3 _ _ (by omega), d1, a1]; unfold ck; rw [if_neg (by omega)]
      · rw [K3 _ _ (by omega), d2, a2]; unfold rx; rw [if_neg (by omega)]
      · rw [K3 _ _ (by omega), d3, a3]
    -- the rest of what the reference keeps
    have KA : ∀ a k, (a ≠ g ∨ (k ≠ 0 ∧ k ≠ 6 ∧ k ≠ 10 ∧ k ≠ 14 ∧ k ≠ 27 ∧ k ≠ 28 ∧ k ≠ 37 ∧ k ≠ 38 ∧ k ≠ 39)) → (a < g + 3 ∨ (g + 8 < a ∧ a < g + 24) ∨ g + 26 < a) → I3 a k = I a k := fun a k q1 q2 => by
      rw [K3 _ _ (by omega), K2 _ _ (by omega)]
      by_cases ha : a = g
      · subst ha
        rw [ev_uk (by omega), K1 _ _ (by omega) (by omega), ev_uk (by omega)]
      · rw [ev_ua ha, K1 _ _ (by omega) (by omega), ev_ua ha]
    have v0 : I3 g 0 = 0 := by rw [K3 _ _ (by omega), K2 _ _ (by omega), ev_uk (by omega), K1 _ _ (by omega) (by omega), ev_us]
    obtain ⟨h1, h2, h3, ⟨cc, w1, w2, w3, w4, w5, w6⟩, h5, h6, h7, ⟨⟨S1, m1, hS1, hm1⟩, hnw⟩⟩ := hM
    have hm3 : mm_R I3 g S1 m1 := mm_R_mono (fun j => KA _ _ (by omega) (by omega)) (KA _ _ (by omega) (by omega)) hm1
    have h1c : 1 ≤ c.length := hW.1
    have k0 : I3 (g + 3) 0 = nI ((pg_of c).2.1 0) := (hP3.2 0 h1c).1
    have k07 := (hW.2.2.1 0 h1c).1
    have x0 : x_ix 64 0 = some 0 := by decide
    -- is the start single
    have hsi : ∃ I4 S4, ((if I3 (g + 3) 0 = 5 then (f_Mo_isSingle g 0 (sh, I3, J, R, n)).bind fun p30 => if p30.1 = 0 then some ((0 : Int32), p30.2) else some (1, p30.2) else some (0, (sh, I3, J, R, n))) : Option (Int32 × hv_S)) = some (bI (decide ((pg_of c).2.1 0 = 5) && pn (pg_of c) 0), (sh, I4, J, R, n)) ∧ S4 ≤ S + 1 ∧ (∃ m, mm_R I4 g S4 m) ∧ (∀ a k, (a ≠ g ∨ (k ≠ 16 ∧ k ≠ 18)) → a ≠ g + 9 → a ≠ g + 10 → I4 a k = I3 a k) := by
      by_cases hk5 : (pg_of c).2.1 0 = 5
      · rw [if_pos (by rw [k0, hk5]; rfl)]
        obtain ⟨I4, e4, m4, K4⟩ := e_Mo_isSingle (J := J) (n := n) (i := 0) hl hW h1c (show S1 + 1 < 2 ^ 31 by omega) hP3 ⟨m1, hm3⟩
        have e4' : f_Mo_isSingle g 0 (sh, I3, J, R, n) = _ := e4
        refine ⟨I4, S1 + 1, ?_, by omega, m4, K4⟩
        rw [e4', ev_b, decide_eq_true hk5, Bool.true_and]
        cases pn (pg_of c) 0 with
        | false => rw [if_pos (show bI false = 0 by decide)]; rfl
        | true => rw [if_neg (show ¬ bI true = 0 by decide)]; rfl
      · rw [if_neg (by rw [k0, li_5, nI_eq (by omega) (by omega)]; exact hk5), decide_eq_false hk5, Bool.false_and]
        exact ⟨I3, S1, rfl, by omega, ⟨m1, hm3⟩, fun _ _ _ _ _ => rfl⟩
    obtain ⟨I4, S4, e4, hS4, hm4, K4⟩ := hsi
    have xz : ∀ v, x_z (bI v) = some (bI v) := fun v => by cases v <;> rfl
    rw [x0, ev_b, e4, ev_b, ev_ob (ms_o hl), ev_b, xz, ev_b, ev_sI, ev_b]
    obtain ⟨m4, hm4⟩ := hm4
    obtain ⟨I5, S5, e5, v15, hS5, hm5, K5⟩ := e_Mo_121 (J := J) (n := n) (P := pg_of c) hl hW c.length 100000 0 S4 (decide ((pg_of c).2.1 0 = 5) && pn (pg_of c) 0) (hv_u I4 g 15 (bI (decide ((pg_of c).2.1 0 = 5) && pn (pg_of c) 0))) (by omega) (by show 0 + c.length = c.length; omega) (by omega) ⟨by rw [ev_uk (by omega), K4 _ _ (by omega) (by omega) (by omega)]; exact hP3.1, fun k hk => ⟨by rw [ev_ua (by omega), K4 _ _ (by omega) (by omega) (by omega)]; exact (hP3.2 k hk).1, by rw [ev_ua (by omega), K4 _ _ (by omega) (by omega) (by omega)]; exact (hP3.2 k hk).2.1, by rw [ev_ua (by omega), K4 _ _ (by omega) (by omega) (by omega)]; exact (hP3.2 k hk).2.2⟩⟩ ⟨m4, mm_R_mono (fun j => ev_ua (by omega)) (ev_uk (by omega)) hm4⟩ ev_us
    have e5' : L_Mo_compile_121 100000 (some g) 0 (sh, hv_u I4 g 15 (bI (decide ((pg_of c).2.1 0 = 5) && pn (pg_of c) 0)), J, R, n) = _ := e5
    have v15 : I5 g 15 = bI (sf (pg_of c)) := by rw [v15, sf_eq hW]; rfl
    have KB : ∀ a k, (a ≠ g ∨ (k ≠ 15 ∧ k ≠ 16 ∧ k ≠ 18)) → a ≠ g + 9 → a ≠ g + 10 → I5 a k = I3 a k := fun a k q1 q2 q3 => by
      rw [K5 _ _ q1 q2 q3, ← K4 a k (by omega) q2 q3]
      by_cases ha : a = g
      · subst ha
        rw [ev_uk (by omega)]
      · rw [ev_ua ha]
    rw [e5', ev_b, ev_ob (ms_o hl), ev_b, ev_I]
    have i6 : I5 g 6 = nI c.length := (KB _ _ (by omega) (by omega) (by omega)).trans v6
    rw [i6]
    obtain ⟨m5, hm5⟩ := hm5
    have KC : ∀ a k, (a ≠ g ∨ (k ≠ 0 ∧ k ≠ 6 ∧ k ≠ 10 ∧ k ≠ 14 ∧ k ≠ 15 ∧ k ≠ 16 ∧ k ≠ 18 ∧ k ≠ 27 ∧ k ≠ 28 ∧ k ≠ 37 ∧ k ≠ 38 ∧ k ≠ 39)) → (a < g + 3 ∨ (g + 10 < a ∧ a < g + 24) ∨ g + 26 < a) → I5 a k = I a k := fun a k q1 q2 => (KB _ _ (by omega) (by omega) (by omega)).trans (KA _ _ (by omega) (by omega))
    refine ⟨I5, rfl, ⟨?_, ?_, ⟨hW, ?_, v15⟩, ⟨cc, ?_⟩, Or.inl ⟨rfl, (KB _ _ (by omega) (by omega) (by omega)).trans v39⟩, (KB _ _ (by omega) (by omega) (by omega)).trans v38, (KB _ _ (by omega) (by omega) (by omega)).trans v37, ⟨⟨S5, m5, by omega, hm5⟩, nw_mono (fun k => KC _ _ (by omega) (by omega)) hnw⟩⟩, (KB _ _ (by omega) (by omega) (by omega)).trans v0, fun a k q => KC _ _ (by omega) (by omega)⟩
    · exact ⟨(KC _ _ (by omega) (by omega)).trans h1.1, h1.2.1, fun k hk => ⟨(KC _ _ (by omega) (by omega)).trans (h1.2.2 k hk).1, (h1.2.2 k hk).2⟩⟩
    · exact ⟨(KC _ _ (by omega) (by omega)).trans h2.1, h2.2.1, fun k hk => ⟨(KC _ _ (by omega) (by omega)).trans (h2.2.2 k hk).1, (h2.2.2 k hk).2⟩⟩
    · exact ⟨i6, fun k hk => ⟨(KB _ _ (by omega) (by omega) (by omega)).trans (hP3.2 k hk).1, (KB _ _ (by omega) (by omega) (by omega)).trans (hP3.2 k hk).2.1, (KB _ _ (by omega) (by omega) (by omega)).trans (hP3.2 k hk).2.2⟩⟩
    · exact ⟨(KB _ _ (by omega) (by omega) (by omega)).trans v27, (KB _ _ (by omega) (by omega) (by omega)).trans v28, (KC _ _ (by omega) (by omega)).trans w3, (KC _ _ (by omega) (by omega)).trans w4, (KC _ _ (by omega) (by omega)).trans w5, fun k s hs => by simp [co_Q] at hs⟩
end MCO
