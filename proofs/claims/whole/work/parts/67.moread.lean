/-! THE REFERENCE READS A PATTERN -/
def ck (k : Nat) : Nat := if k = 8 then 3 else k
def rx (i : Nat × Nat × Nat) : Int32 := if i.1 = 8 then -1 - nI i.2.1 else nI i.2.1
def en_R (I : Nat → Nat → Int32) (g k : Nat) (i : Nat × Nat × Nat) : Prop := I (g + 6) k = nI (ck i.1) ∧ I (g + 7) k = rx i ∧ I (g + 8) k = nI i.2.2
def nd_R (I : Nat → Nat → Int32) (g : Nat) (c : cd) : Prop := I g 10 = nI c.length ∧ ∀ (k : Nat) (i : Nat × Nat × Nat), c[k]? = some i → en_R I g k i
def pt_R (I : Nat → Nat → Int32) (g : Nat) (s : sc_T) : Prop := I g 2 = nI s.1 ∧ s.1 ≤ 24 ∧ ∀ k, k < s.1 → I (g + 1) k = nI (s.2 k) ∧ s.2 k < 65536
def rd_K (g : Nat) (I I' : Nat → Nat → Int32) : Prop := ∀ a k, (a ≠ g ∨ (k ≠ 10 ∧ k ≠ 14)) → (a < g + 6 ∨ (g + 8 < a ∧ a < g + 24) ∨ g + 26 < a) → I' a k = I a k
theorem rd_refl {g : Nat} {I : Nat → Nat → Int32} : rd_K g I I := fun _ _ _ _ => rfl
theorem rd_trans {g : Nat} {I I' I2 : Nat → Nat → Int32} (h : rd_K g I I') (k : rd_K g I' I2) : rd_K g I I2 := fun a j h1 h2 => (k a j h1 h2).trans (h a j h1 h2)
theorem pt_K {g : Nat} {I I' : Nat → Nat → Int32} {s : sc_T} (h : rd_K g I I') (hp : pt_R I g s) : pt_R I' g s :=
  ⟨(h _ _ (by omega) (by omega)).trans hp.1, hp.2.1, fun k hk => ⟨(h _ _ (by omega) (by omega)).trans (hp.2.2 k hk).1, (hp.2.2 k hk).2⟩⟩
theorem rx_neg : ∀ d, d < 4 → ∀ b, b < 64 → (-1 - nI d) < nI b := by decide +kernel
theorem rx_ne : ∀ d, d < 4 → ∀ x, x < 64 → ¬ nI x = -1 - nI d := by decide +kernel
theorem rx_inj : ∀ d, d < 4 → ∀ e, e < 4 → ((-1 - nI e) = -1 - nI d ↔ e = d) := by decide +kernel
theorem en_mono {g k : Nat} {I I' : Nat → Nat → Int32} {i : Nat × Nat × Nat} (h : ∀ a, g + 6 ≤ a → a ≤ g + 8 → I' a k = I a k) (he : en_R I g k i) : en_R I' g k i := ⟨(h _ (by omega) (by omega)).trans he.1, (h _ (by omega) (by omega)).trans he.2.1, (h _ (by omega) (by omega)).trans he.2.2⟩
section RD2
variable {sh : Nat → Option (Nat × Nat)} {I : Nat → Nat → Int32} {J : Nat → Nat → Int64} {R : Nat → Nat → Option Nat} {n g : Nat} {c : cd} {s : sc_T}
theorem e_Mo_emit {i : Nat × Nat × Nat} {x1 x2 x3 : Int32} (hl : ly_M sh R g) (hb : c.length < 64) (h1 : x1 = nI (ck i.1)) (h2 : x2 = rx i) (h3 : x3 = nI i.2.2) (h : nd_R I g c) :
    ∃ I', f_Mo_emit g x1 x2 x3 (sh, I, J, R, n) = some (sh, I', J, R, n) ∧ nd_R I' g (c ++ [i]) ∧ (∀ a k, (a ≠ g ∨ k ≠ 10) → (a < g + 6 ∨ g + 8 < a) → I' a k = I a k) := by
  have x := ev_ix (N := 64) (k := c.length) hb (by omega)
  subst h1 h2 h3
  unfold f_Mo_emit
  simp only [ev_ob (ms_o hl), ev_b, ev_R, mr_11 hl, mr_12 hl, mr_13 hl, ev_ar0 (ms_6 hl), ev_ar0 (ms_7 hl), ev_ar0 (ms_8 hl), ev_I, h.1, x, ev_sI, ev_ua (show g ≠ g + 6 by omega), ev_ua (show g ≠ g + 7 by omega), ev_ua (show g ≠ g + 8 by omega), nI_1]
  refine ⟨_, rfl, ⟨by rw [ev_us]; simp, fun k j hk => ?_⟩, fun a k q1 q2 => ?_⟩
  · rcases Nat.lt_trichotomy k c.length with q | q | q
    · rw [List.getElem?_append_left q] at hk
      refine en_mono (fun a g1 g2 => ?_) (h.2 k j hk)
      rw [ev_ua (by omega), ev_uk (by omega), ev_uk (by omega), ev_uk (by omega)]
    · subst q
      simp at hk
      subst hk
      refine ⟨?_, ?_, ?_⟩
      · rw [ev_ua (by omega), ev_ua (by omega), ev_ua (by omega), ev_us]
      · rw [ev_ua (by omega), ev_ua (by omega), ev_us]
      · rw [ev_ua (by omega), ev_us]
    · rw [List.getElem?_eq_none (by simp; omega)] at hk; cases hk
  · by_cases ha : a = g
    · rw [ev_uk (by omega), ev_ua (by omega), ev_ua (by omega), ev_ua (by omega)]
    · rw [ev_ua ha, ev_ua (by omega), ev_ua (by omega), ev_ua (by omega)]
theorem e_Mo_pushloop {b : Nat} {d : Nat} (hl : ly_M sh R g) (hb : b ≤ c.length) (hlen : c.length < 49) (hd : d < 4) (hok : ∀ i, i ∈ c → cok c.length d i) :
    ∀ (j N : Nat) (I : Nat → Nat → Int32), j < N → b + j ≤ c.length → (∀ (k : Nat) (i : Nat × Nat × Nat), k < b + j → c[k]? = some i → en_R I g k i) → (∀ (k : Nat) (i : Nat × Nat × Nat), b + j < k → c[k - 1]? = some i → en_R I g k (cs_h b i)) →
    ∃ I', L_Mo_push_5 N (some g) (nI b) (nI (b + j)) (sh, I, J, R, n) = some (sh, I', J, R, n) ∧ (∀ (k : Nat) (i : Nat × Nat × Nat), k < b → c[k]? = some i → en_R I' g k i) ∧ (∀ (k : Nat) (i : Nat × Nat × Nat), b < k → c[k - 1]? = some i → en_R I' g k (cs_h b i)) ∧ (∀ a k, (a < g + 6 ∨ g + 8 < a) → I' a k = I a k)
  | j, 0, _, h, _, _, _ => by omega
  | 0, N + 1, I, hN, hj, h1, h2 => by
    rw [L_Mo_push_5, if_pos (by rw [nI_leI (by omega) (by omega)]; omega)]
    exact ⟨I, rfl, h1, h2, fun _ _ _ => rfl⟩
  | j + 1, N + 1, I, hN, hj, h1, h2 => by
    have hi : c[b + j]? = some c[b + j] := List.getElem?_eq_getElem (by omega)
    generalize c[b + j]'(by omega) = i at hi
    obtain ⟨q1, q2, q3⟩ := h1 (b + j) i (by omega) hi
    obtain ⟨z1, z2, z3, z4, z5, z6⟩ := hok i (List.mem_of_getElem? hi)
    have x1 := ev_ix (N := 64) (k := b + j) (by omega) (by omega)
    have x2 := ev_ix (N := 64) (k := b + (j + 1)) (by omega) (by omega)
    have hsub : nI (b + (j + 1)) - 1 = nI (b + j) := by rw [li_1, pk_sub (by omega)]; congr 1
    have hdec : nI (b + (j + 1)) + -1 = nI (b + j) := by rw [← hsub, Int32.sub_eq_add_neg]
    have hck : ck i.1 < 100 := by unfold ck; split <;> omega
    rw [L_Mo_push_5, if_neg (by rw [nI_leI (by omega) (by omega)]; omega)]
    simp only [ev_ob (ms_o hl), ev_b, ev_R, mr_11 hl, mr_12 hl, mr_13 hl, ev_ar0 (ms_6 hl), ev_ar0 (ms_7 hl), ev_ar0 (ms_8 hl), ev_I, hsub, x1, x2, ev_sI, q1, ev_ua (show g + 7 ≠ g + 6 by omega), ev_ua (show g + 8 ≠ g + 6 by omega), ev_ua (show g + 8 ≠ g + 7 by omega), ev_ua (show g + 6 ≠ g + 7 by omega), ev_ua (show g + 6 ≠ g + 8 by omega), ev_ua (show g + 7 ≠ g + 8 by omega), ev_us, q2, q3]
    have B : ∀ a k, (a < g + 6 ∨ g + 8 < a ∨ k ≠ b + (j + 1)) → (hv_u (hv_u (hv_u I (g + 6) (b + (j + 1)) (nI (ck i.1))) (g + 7) (b + (j + 1)) (rx i)) (g + 8) (b + (j + 1)) (nI i.2.2)) a k = I a k := fun a k h => by
      by_cases hk : k = b + (j + 1)
      · rw [ev_ua (by omega), ev_ua (by omega), ev_ua (by omega)]
      · rw [ev_uk hk, ev_uk hk, ev_uk hk]
    have B6 : (hv_u (hv_u (hv_u I (g + 6) (b + (j + 1)) (nI (ck i.1))) (g + 7) (b + (j + 1)) (rx i)) (g + 8) (b + (j + 1)) (nI i.2.2)) (g + 6) (b + (j + 1)) = nI (ck i.1) := by rw [ev_ua (by omega), ev_ua (by omega), ev_us]
    have B7 : (hv_u (hv_u (hv_u I (g + 6) (b + (j + 1)) (nI (ck i.1))) (g + 7) (b + (j + 1)) (rx i)) (g + 8) (b + (j + 1)) (nI i.2.2)) (g + 7) (b + (j + 1)) = rx i := by rw [ev_ua (by omega), ev_us]
    have B8 : (hv_u (hv_u (hv_u I (g + 6) (b + (j + 1)) (nI (ck i.1))) (g + 7) (b + (j + 1)) (rx i)) (g + 8) (b + (j + 1)) (nI i.2.2)) (g + 8) (b + (j + 1)) = nI i.2.2 := ev_us
    generalize hv_u (hv_u (hv_u I (g + 6) (b + (j + 1)) (nI (ck i.1))) (g + 7) (b + (j + 1)) (rx i)) (g + 8) (b + (j + 1)) (nI i.2.2) = I1 at B B6 B7 B8 ⊢
    -- x
    have ht18 : ((if nI (ck i.1) = 2 then some 1 else if nI (ck i.1) = 3 then some 1 else some 0) : Option Int32) = some (bI (decide (ck i.1 = 2 ∨ ck i.1 = 3))) := by
      by_cases h2 : ck i.1 = 2
      · rw [if_pos (by rw [h2]; rfl), decide_eq_true (Or.inl h2)]; rfl
      · rw [if_neg (by rw [li_2, nI_eq (by omega) (by omega)]; exact h2)]
        by_cases h3 : ck i.1 = 3
        · rw [if_pos (by rw [h3]; rfl), decide_eq_true (Or.inr h3)]; rfl
        · rw [if_neg (by rw [li_3, nI_eq (by omega) (by omega)]; exact h3), decide_eq_false (by omega)]; rfl
    have e1 : ∃ I2, ((if bI (decide (ck i.1 = 2 ∨ ck i.1 = 3)) = 0 then some (sh, I1, J, R, n) else if rx i < nI b then some (sh, I1, J, R, n) else some (sh, hv_u I1 (g + 7) (b + (j + 1)) (rx i + 1), J, R, n)) : Option hv_S) = some (sh, I2, J, R, n) ∧ I2 (g + 7) (b + (j + 1)) = rx (cs_h b i) ∧ (∀ a k, (a ≠ g + 7 ∨ k ≠ b + (j + 1)) → I2 a k = I1 a k) := by
      by_cases h8 : i.1 = 8
      · have hc3 : ck i.1 = 3 := by unfold ck; rw [if_pos h8]
        have hrx : rx i = -1 - nI i.2.1 := by unfold rx; rw [if_pos h8]
        rw [hc3, if_neg (show ¬ bI (decide (3 = 2 ∨ 3 = 3)) = 0 by decide), hrx, if_pos (rx_neg i.2.1 (by have := z6 h8; omega) b (by omega))]
        refine ⟨I1, rfl, ?_, fun _ _ _ => rfl⟩
        rw [B7]
        unfold rx cs_h
        rw [if_pos h8, if_pos h8, if_neg (by omega)]
      · have hck' : ck i.1 = i.1 := by unfold ck; rw [if_neg h8]
        have hrx : rx i = nI i.2.1 := by unfold rx; rw [if_neg h8]
        have hrx' : rx (cs_h b i) = nI (cs_h b i).2.1 := by unfold rx; rw [if_neg (show ¬ (cs_h b i).1 = 8 from h8)]
        rw [hck', hrx, hrx']
        by_cases h23 : i.1 = 2 ∨ i.1 = 3
        · have hx : i.2.1 ≤ c.length := by
            rcases h23 with h | h
            · exact (z2 h).1
            · exact z3 h
          have hne : ¬ bI (decide (i.1 = 2 ∨ i.1 = 3)) = 0 := by rw [decide_eq_true h23]; decide
          rw [if_neg hne]
          by_cases hxb : i.2.1 < b
          · rw [if_pos (by rw [nI_ltI (by omega) (by omega)]; exact hxb)]
            refine ⟨I1, rfl, ?_, fun _ _ _ => rfl⟩
            rw [B7, hrx]
            unfold cs_h
            rw [if_neg (by omega)]
          · rw [if_neg (by rw [nI_ltI (by omega) (by omega)]; exact hxb)]
            refine ⟨_, rfl, ?_, fun a k h => ?_⟩
            · rw [ev_us, nI_1]
              unfold cs_h
              rw [if_pos ⟨h23, by omega⟩]
            · rcases h with h | h
              · rw [ev_ua h]
              · rw [ev_uk h]
        · have hne : bI (decide (i.1 = 2 ∨ i.1 = 3)) = 0 := by rw [decide_eq_false h23]; rfl
          rw [if_pos hne]
          refine ⟨I1, rfl, ?_, fun _ _ _ => rfl⟩
          rw [B7, hrx]
          unfold cs_h
          rw [if_neg (by omega)]
    obtain ⟨I2, e1, X7, K2⟩ := e1
    have Y8 : I2 (g + 8) (b + (j + 1)) = nI i.2.2 := (K2 _ _ (by omega)).trans B8
    have Y6 : I2 (g + 6) (b + (j + 1)) = nI (ck i.1) := (K2 _ _ (by omega)).trans B6
    have e2 : ∃ I3, ((if nI (ck i.1) = 2 then if nI i.2.2 < nI b then some (sh, I2, J, R, n) else some (sh, hv_u I2 (g + 8) (b + (j + 1)) (nI i.2.2 + 1), J, R, n) else some (sh, I2, J, R, n)) : Option hv_S) = some (sh, I3, J, R, n) ∧ I3 (g + 8) (b + (j + 1)) = nI (cs_h b i).2.2 ∧ (∀ a k, (a ≠ g + 8 ∨ k ≠ b + (j + 1)) → I3 a k = I2 a k) := by
      by_cases h2 : i.1 = 2
      · have hy := (z2 h2).2
        have hc2 : ck i.1 = 2 := by unfold ck; rw [if_neg (by omega)]; exact h2
        rw [hc2, if_pos (show nI 2 = 2 from rfl)]
        by_cases hyb : i.2.2 < b
        · rw [if_pos (by rw [nI_ltI (by omega) (by omega)]; exact hyb)]
          refine ⟨I2, rfl, ?_, fun _ _ _ => rfl⟩
          rw [Y8]
          unfold cs_h
          rw [if_neg (show ¬ (i.1 = 2 ∧ b ≤ i.2.2) by omega)]
        · rw [if_neg (by rw [nI_ltI (by omega) (by omega)]; exact hyb)]
          refine ⟨_, rfl, ?_, fun a k h => ?_⟩
          · rw [ev_us, nI_1]
            unfold cs_h
            rw [if_pos (show i.1 = 2 ∧ b ≤ i.2.2 by omega)]
          · rcases h with h | h
            · rw [ev_ua h]
            · rw [ev_uk h]
      · have hc2 : ¬ nI (ck i.1) = 2 := by
          rw [li_2, nI_eq (by omega) (by omega)]
          unfold ck
          split <;> omega
        rw [if_neg hc2]
        refine ⟨I2, rfl, ?_, fun _ _ _ => rfl⟩
        rw [Y8]
        unfold cs_h
        rw [if_neg (show ¬ (i.1 = 2 ∧ b ≤ i.2.2) by omega)]
    obtain ⟨I3, e2, Z8, K3⟩ := e2
    have K13 : ∀ a k, (a < g + 6 ∨ g + 8 < a ∨ k ≠ b + (j + 1)) → I3 a k = I a k := fun a k h => by
      rw [K3 _ _ (by omega), K2 _ _ (by omega), B _ _ h]
    obtain ⟨I4, e4, r1, r2, K4⟩ := e_Mo_pushloop hl hb hlen hd hok j N I3 (by omega) (by omega) (fun k i' hk hi' => en_mono (fun a _ _ => K13 _ _ (by omega)) (h1 k i' (by omega) hi')) (fun k i' hk hi' => by
      by_cases e : k = b + (j + 1)
      · subst e
        rw [show b + (j + 1) - 1 = b + j from by omega, hi] at hi'
        injection hi' with hi'
        subst hi'
        refine ⟨?_, ?_, Z8⟩
        · rw [K3 _ _ (by omega), Y6]; rfl
        · rw [K3 _ _ (by omega), X7]
      · exact en_mono (fun a _ _ => K13 _ _ (by omega)) (h2 k i' (by omega) hi'))
    refine ⟨I4, ?_, r1, r2, fun a k h => (K4 a k h).trans (K13 a k (by omega))⟩
    rw [ht18, ev_b, e1, ev_b]
    simp only [ev_ob (ms_o hl), ev_b, ev_R, mr_11 hl, mr_13 hl, ev_ar0 (ms_6 hl), ev_ar0 (ms_8 hl), x2, ev_I, Y6, Y8, ev_sI]
    rw [e2, ev_b, hdec, e4]
end RD2
