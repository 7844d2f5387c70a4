/-! THE REFERENCE'S SEARCH, the call -/
section MSF
variable {sh : Nat → Option (Nat × Nat)} {I I' : Nat → Nat → Int32} {J : Nat → Nat → Int64} {R : Nat → Nat → Option Nat} {n b g lim S B : Nat} {Q : Qs} {P : pg_P}
theorem C_auI {R : Nat → Nat → Option Nat} (hB : B + 3 < 1000000) (hA : AU lim B Q) (hl1 : 1 ≤ lim) (hlim : lim ≤ 19) (hq : Q.2.2.1 = some P) (hc : CL sh I J R b lim Q) : au_I P lim (au_E P Q.2.1 lim Q.2.2.2.1).2 := by
  have hW : pg_W P := by
    obtain ⟨pr, dr, -, hv⟩ := hc
    have hp := hv.2.2.2.2.1
    rw [hq] at hp
    exact hp.1
  obtain ⟨I1, J1, R1, e1, r1, K1, a1⟩ := e_C_runAutomaton (n := 0) hB hA hl1 hlim hq hW hc
  have h := a1.1
  have h : au_I (Q.2.2.1.getD p0) lim (au_E P Q.2.1 lim Q.2.2.2.1).2 := h
  rw [hq] at h
  exact h
theorem bs_a {w : Int64} {k : Nat} (hk : k < 8) (hl : ly_M sh R g) (h : bs_R I g w) : ((if I g 39 = 0 then some (-1) else (x_ar (sh, I, J, R, n) 0 (R g 40)).bind fun q15 => (x_ix q15.2 (nI k)).bind fun k16 => some (I q15.1 k16)) : Option Int32) = some (sl_g w k) := by
  rcases h with ⟨h1, h2⟩ | ⟨h1, h2, h3⟩
  · rw [if_pos h2, h1, sl_gn _ hk]
    rw [show (0 : Int64).toBitVec.toNat = 0 from rfl, Nat.zero_div]
    rfl
  · rw [if_neg (by rw [h2]; decide), mr_40 hl, ev_ar0 (ms_23 hl), ev_b, ev_ix hk (by omega), ev_b]
    have := h3 k hk
    rw [Nat.zero_add] at this
    rw [this]
theorem MO_37 {v w : Int32} (hA : au_I (Q.2.2.1.getD p0) lim Q.2.2.2.1) (h : MO I g lim S Q) : MO (hv_u (hv_u I g 37 v) g 36 w) g lim S (Q.1, Q.2.1, Q.2.2.1, Q.2.2.2.1, Q.2.2.2.2.1, Q.2.2.2.2.2.1, v) ∨ ¬ ∃ c, w = nI c := by
  by_cases hw : ∃ c, w = nI c
  · obtain ⟨cc, hw⟩ := hw
    left
    have hh := h
    obtain ⟨h1, h2, h3, ⟨c, h4⟩, h5, h6, h7, h8⟩ := h
    have e : ∀ a k, (a ≠ g ∨ (k ≠ 36 ∧ k ≠ 37)) → (hv_u (hv_u I g 37 v) g 36 w) a k = I a k := fun a k q => by
      rcases q with q | q
      · rw [ev_ua q, ev_ua q]
      · rw [ev_uk q.1, ev_uk q.2]
    obtain ⟨w1, w2, w3, w4, w5, w6⟩ := h4
    exact MO_make (U := Q.2.2.2.1) (c := cc) hh (fun a k q => e _ _ (by omega)) ⟨(e _ _ (by omega)).trans w1, (e _ _ (by omega)).trans w2, (e _ _ (by omega)).trans w3, ev_us.trans hw, (e _ _ (by omega)).trans w5, fun k s hs => ks_mono (hA.2 s (List.mem_of_getElem? hs)).1 (fun a j q => e _ _ (by omega)) (w6 k s hs)⟩ (bs_R_mono (e _ _ (by omega)) (fun k => e _ _ (by omega)) h5) ((e _ _ (by omega)).trans h6) ((ev_uk (by omega)).trans ev_us) (sm_mono (Nat.le_refl _) (fun a k q => e _ _ (by omega)) h8)
  · exact Or.inr hw
theorem MO_up {S' : Nat} (hs : S ≤ S') (h : MO I g lim S Q) : MO I g lim S' Q := by
  obtain ⟨h1, h2, h3, h4, h5, h6, h7, ⟨⟨S1, m, h8, h9⟩, h10⟩⟩ := h
  exact ⟨h1, h2, h3, h4, h5, h6, h7, ⟨⟨S1, m, by omega, h9⟩, h10⟩⟩
/-- after the code of what is thrown: the matcher runs -/
theorem e_Mo_srunX {m : Nat} (hm : m < 4) (hl : ly_M sh R g) (hB : B + 3 < 1000000) (hS : S + 3000 < 2 ^ 31) (hA : AU lim B Q) (hA2 : au_I P lim (au_E P Q.2.1 lim Q.2.2.2.1).2) (hl1 : 1 ≤ lim) (hlim : lim ≤ 19) (hq : Q.2.2.1 = some P) (hW : pg_W P) (hM : MO I g lim S Q) :
    ∃ I', ((some (hv_setI (sh, I, J, R, n) g 37 (nI m))).bind fun s6 => (some (hv_setI s6 g 36 0)).bind fun s7 => ((if (hv_I s7 g 37) = 0 then (f_Mo_runLists g 0 0 s7).bind fun p8 => some p8 else if (hv_I s7 g 37) = 1 then (f_Mo_runMarks g s7).bind fun p9 => some p9 else if (hv_I s7 g 37) = 2 then (f_Mo_runStates g s7).bind fun p10 => some p10 else (f_Mo_runSingle g s7).bind fun p11 => some p11) : Option (hv_S)).bind fun t12 => (x_ob t12 11 ((some g))).bind fun a13 => (some (hv_setI t12 a13 38 (hv_I t12 a13 36))).bind fun s14 => ((if (hv_I s14 a13 39) = 0 then some ((-1)) else (x_ar s14 0 (hv_R s14 a13 40)).bind fun q15 => (x_ix q15.2 0).bind fun k16 => some (hv_I s14 q15.1 k16)) : Option (Int32)).bind fun t17 => some ((t17, s14))) = some (sl_g (se_Q P lim m Q).2.2.2.2.1 0, (sh, I', J, R, n)) ∧ MO I' g lim (S + 1000) (se_Q P lim m Q) ∧ I' g 0 = I g 0 ∧ (∀ a k, a < g ∨ g + 27 < a → I' a k = I a k) := by
  have h37 := MO_37 (v := nI m) (w := nI 0) hA.1 hM
  have h37 := h37.resolve_right (fun h => h ⟨0, rfl⟩)
  have hQ : se_Q P lim m (Q.1, Q.2.1, Q.2.2.1, Q.2.2.2.1, Q.2.2.2.2.1, Q.2.2.2.2.2.1, nI m) = se_Q P lim m Q := rfl
  obtain ⟨I1, e1, c1, b1, r1, z1, K1⟩ := e_Mo_disp (J := J) (n := n) (P := P) (Q := (Q.1, Q.2.1, Q.2.2.1, Q.2.2.2.1, Q.2.2.2.2.1, Q.2.2.2.2.2.1, nI m)) hm hl hB hS (show AU lim B (Q.1, Q.2.1, Q.2.2.1, Q.2.2.2.1, Q.2.2.2.2.1, Q.2.2.2.2.2.1, nI m) from hA) hA2 hl1 hlim hq hW h37 ev_us ((ev_uk (by omega)).trans ev_us)
  rw [hQ] at c1 b1 r1
  refine ⟨hv_u I1 g 38 (I1 g 36), ?_, r1, ?_, fun a k q => ?_⟩
  · rw [ev_b, ev_sI, ev_b, ev_sI, ev_I]
    rw [show (hv_u (hv_u I g 37 (nI m)) g 36 0) g 37 = nI m from (ev_uk (by omega)).trans ev_us]
    have e1 : ((if nI m = 0 then (f_Mo_runLists g 0 0 (sh, hv_u (hv_u I g 37 (nI m)) g 36 0, J, R, n)).bind fun p8 => some p8 else if nI m = 1 then (f_Mo_runMarks g (sh, hv_u (hv_u I g 37 (nI m)) g 36 0, J, R, n)).bind fun p9 => some p9 else if nI m = 2 then (f_Mo_runStates g (sh, hv_u (hv_u I g 37 (nI m)) g 36 0, J, R, n)).bind fun p10 => some p10 else (f_Mo_runSingle g (sh, hv_u (hv_u I g 37 (nI m)) g 36 0, J, R, n)).bind fun p11 => some p11) : Option hv_S) = some (sh, I1, J, R, n) := e1
    rw [e1, ev_b, ev_ob (ms_o hl), ev_b]
    have hb2 : bs_R (hv_u I1 g 38 (I1 g 36)) g (se_Q P lim m Q).2.2.2.2.1 := r1.2.2.2.2.1
    have := bs_a (J := J) (n := n) (k := 0) (by omega) hl hb2
    have this : ((if (hv_u I1 g 38 (I1 g 36)) g 39 = 0 then some (-1) else (x_ar (sh, (hv_u I1 g 38 (I1 g 36)), J, R, n) 0 (R g 40)).bind fun q15 => (x_ix q15.2 0).bind fun k16 => some ((hv_u I1 g 38 (I1 g 36)) q15.1 k16)) : Option Int32) = some (sl_g (se_Q P lim m Q).2.2.2.2.1 0) := this
    rw [ev_I, ev_sI, ev_b, ev_I, ev_R, this, ev_b]
  · rw [ev_uk (by omega), z1, ev_uk (by omega), ev_uk (by omega)]
  · rw [ev_ua (by omega), K1 _ _ q, ev_ua (by omega), ev_ua (by omega)]
theorem e_Mo_search {x : Int32} (hl : ly_M sh R g) (hB : B + 3 < 1000000) (hS : S + 3000 < 2 ^ 31) (hA : AU lim B Q) (hA2 : ∀ P, Q.2.2.1 = some P → au_I P lim (au_E P Q.2.1 lim Q.2.2.2.1).2) (hl1 : 1 ≤ lim) (hlim : lim ≤ 19) (hM : MO I g lim S Q) :
    ∃ I', f_Mo_search g x (sh, I, J, R, n) = some (th_v (se_A Q lim x), (sh, I', J, R, n)) ∧ MO I' g lim (S + 1000) (se_S Q lim x) ∧ I' g 0 = th_c (se_A Q lim x) ∧ (∀ a k, a < g ∨ g + 27 < a → I' a k = I a k) := by
  have h0m : ∀ v, MO (hv_u I g 0 v) g lim S Q := fun v => MO_0 hA.1 hM
  have hp := hM.2.2.1
  have h20 := hM.2.1.2.1
  have hx := hM.2.1.1
  have t0 : ∀ v : Int32, ((some (hv_setI (sh, I, J, R, n) g 0 v)) : Option hv_S) = some (sh, hv_u I g 0 v, J, R, n) := fun _ => rfl
  have hthr : ∀ (v : Int32) (k : Nat), ¬ v ≤ 0 → th_c (.inr k) = v → ∃ I', ((if (hv_u I g 0 v) g 0 ≤ 0 then none else some ((0 : Int32), (sh, hv_u I g 0 v, J, R, n))) : Option (Int32 × hv_S)) = some (th_v (.inr k), (sh, I', J, R, n)) ∧ MO I' g lim (S + 1000) Q ∧ I' g 0 = th_c (.inr k) ∧ (∀ a k, a < g ∨ g + 27 < a → I' a k = I a k) := fun v k hv hk => by
    rw [ev_us, if_neg hv]
    exact ⟨_, rfl, MO_up (by omega) (h0m v), by rw [ev_us, hk], fun a k q => ev_ua (by omega)⟩
  unfold f_Mo_search
  by_cases h0 : x < 0
  · have hAa : se_A Q lim x = .inr 89 := by unfold se_A; split <;> rw [if_pos h0]
    have hSs : se_S Q lim x = Q := by
      unfold se_S
      split
      · rfl
      · rw [if_pos h0]
    rw [hAa, hSs, if_pos h0, ev_b, ev_ob (ms_o hl), ev_b, t0, ev_b]
    obtain ⟨I', e, r⟩ := hthr 1 89 (by decide) rfl
    rw [ev_us, if_neg (by decide)] at e
    rw [ev_I, ev_us, if_neg (by decide)]
    exact ⟨I', e, r⟩
  by_cases h4 : ¬ x ≤ 4
  · have hAa : se_A Q lim x = .inr 89 := by unfold se_A; split <;> rw [if_neg h0, if_neg h4]
    have hSs : se_S Q lim x = Q := by
      unfold se_S
      split
      · rfl
      · rw [if_neg h0, if_neg h4]
    rw [hAa, hSs, if_neg h0, if_neg h4, ev_b, ev_ob (ms_o hl), ev_b, t0, ev_b]
    obtain ⟨I', e, r⟩ := hthr 1 89 (by decide) rfl
    rw [ev_us, if_neg (by decide)] at e
    rw [ev_I, ev_us, if_neg (by decide)]
    exact ⟨I', e, r⟩
  have h4 : x ≤ 4 := Decidable.not_not.mp h4
  rw [if_neg h0, if_pos h4]
  rw [ev_ob (ms_o hl), ev_b, ev_I]
  have hthr2 : se_A Q lim x = .inr 131 → se_S Q lim x = Q → ∃ I', ((some (2 : Int32)).bind fun t2 => (some (hv_setI (sh, I, J, R, n) g 0 t2)).bind fun s4 => if (hv_I s4 g 0) ≤ 0 then none else some ((0 : Int32), s4)) = some (th_v (se_A Q lim x), (sh, I', J, R, n)) ∧ MO I' g lim (S + 1000) (se_S Q lim x) ∧ I' g 0 = th_c (se_A Q lim x) ∧ (∀ a k, a < g ∨ g + 27 < a → I' a k = I a k) := fun hAa hSs => by
    rw [hAa, hSs, ev_b, t0, ev_b, ev_I]
    exact hthr 2 131 (by decide) rfl
  match hq : Q.2.2.1 with
  | none =>
    rw [hq] at hp
    have hp : I g 6 = nI 0 := hp
    obtain ⟨I', e, r⟩ := hthr2 (by unfold se_A; rw [hq]; show (if x < 0 then (Sum.inr 89 : Int32 ⊕ Nat) else if x ≤ 4 then .inr 131 else .inr 89) = _; rw [if_neg h0, if_pos h4]) (by unfold se_S; rw [hq])
    rw [hp, if_pos (show nI 0 = 0 from rfl), ev_b, ev_b, t0, ev_b, ev_I, ev_us]
    rw [ev_b, t0, ev_b, ev_I, ev_us] at e
    rw [if_neg (by decide)] at e ⊢
    exact ⟨I', e, r⟩
  | some P =>
    rw [hq] at hp
    obtain ⟨hW, hpp, h15⟩ := hp
    have h49 := hW.2.1
    have hs1 := hW.1
    have hAa : se_A Q lim x = if x = 3 ∧ sf P = false then .inr 131 else .inl (sl_g (se_Q P lim (se_m P Q.2.1 x.toNatClampNeg) Q).2.2.2.2.1 0) := by
      unfold se_A; rw [hq]
      show (if x < 0 then (Sum.inr 89 : Int32 ⊕ Nat) else if x ≤ 4 then _ else .inr 89) = _
      rw [if_neg h0, if_pos h4]
    have hSs : se_S Q lim x = if x = 3 ∧ sf P = false then Q else se_Q P lim (se_m P Q.2.1 x.toNatClampNeg) Q := by
      unfold se_S; rw [hq]
      show (if x < 0 then Q else if x ≤ 4 then _ else Q) = _
      rw [if_neg h0, if_pos h4]
    rw [hpp.1, if_neg (by rw [li_0, nI_eq (by omega) (by omega)]; omega)]
    by_cases h3 : x = 3 ∧ sf P = false
    · rw [if_pos h3] at hAa hSs
      obtain ⟨I', e, r⟩ := hthr2 hAa hSs
      rw [if_pos h3.1, if_pos (show I g 15 = 0 by rw [h15, h3.2]; decide), ev_b, ev_b, t0, ev_b, ev_I, ev_us]
      rw [ev_b, t0, ev_b, ev_I, ev_us] at e
      rw [if_neg (by decide)] at e ⊢
      exact ⟨I', e, r⟩
    · rw [if_neg h3] at hAa hSs
      have ht2 : ((if x = 3 then if I g 15 = 0 then some 2 else some 0 else some 0) : Option Int32) = some 0 := by
        by_cases hx3 : x = 3
        · rw [if_pos hx3, h15]
          cases hsf : sf P with
          | false => exact absurd ⟨hx3, hsf⟩ h3
          | true => rw [if_neg (show ¬ bI true = 0 by decide)]
        · rw [if_neg hx3]
      rw [ht2, ev_b, ev_b, t0, ev_b, ev_I]
      obtain ⟨k, hk, rfl⟩ := x04 h0 h4
      rw [nI_clamp (by omega)] at hAa hSs
      have et5 : ((if 4 ≤ nI k then if (hv_u I g 0 0) g 15 = 0 then if 128 < (((hv_u I g 0 0) g 6) * (((hv_u I g 0 0) g 4) + (1 : Int32))) then some 2 else some 1 else some 3 else some (nI k)) : Option Int32) = some (nI (se_m P Q.2.1 k)) := by
        rw [ev_uk (by omega), ev_uk (by omega), ev_uk (by omega), hpp.1, hx, h15]
        unfold se_m
        by_cases hk4 : k = 4
        · subst hk4
          rw [if_pos (show (4 : Int32) ≤ nI 4 by decide), if_pos rfl]
          have hmul : nI P.1 * (nI Q.2.1.1 + 1) = nI (P.1 * (Q.2.1.1 + 1)) := by rw [nI_1, pk_mul]
          have hle : P.1 * (Q.2.1.1 + 1) ≤ 49 * 21 := Nat.mul_le_mul h49 (by omega)
          have l128 : (128 : Int32) = nI 128 := rfl
          rw [hmul]
          cases hsf : sf P with
          | true => rw [if_neg (show ¬ bI true = 0 by decide)]; rfl
          | false =>
            rw [if_pos (show bI false = 0 by decide)]
            by_cases h128 : 128 < P.1 * (Q.2.1.1 + 1)
            · rw [if_pos (by rw [l128, nI_ltI (by omega) (by omega)]; exact h128), if_neg (by simp), if_pos h128]; rfl
            · rw [if_neg (by rw [l128, nI_ltI (by omega) (by omega)]; exact h128), if_neg (by simp), if_neg h128]; rfl
        · rw [if_neg (by rw [li_4, nI_leI (by omega) (by omega)]; omega), if_neg hk4]
      rw [if_pos (show (hv_u I g 0 0) g 0 ≤ 0 by rw [ev_us]; decide), et5, ev_b]
      obtain ⟨I1, e1, r1, z1, K1⟩ := e_Mo_srunX (J := J) (n := n) (m := se_m P Q.2.1 k) (se_m4 hk) hl hB hS hA (hA2 P hq) hl1 hlim hq hW (h0m 0)
      refine ⟨I1, ?_, ?_, ?_, fun a j q => ?_⟩
      · rw [hAa]; exact e1
      · rw [hSs]; exact r1
      · rw [hAa, z1, ev_us]; rfl
      · rw [K1 _ _ q, ev_ua (by omega)]
end MSF
