/-! THE REFERENCE READS A PATTERN: the whole -/
section R4
variable {sh : Nat → Option (Nat × Nat)} {I : Nat → Nat → Int32} {J : Nat → Nat → Int64} {R : Nat → Nat → Option Nat} {n g : Nat} {c : cd} {s : sc_T}
theorem nd_aim2 {x y x' y' : Nat} {I' : Nat → Nat → Int32} (h : nd_R I g (c ++ [(2, x, y)])) (hx : I' (g + 7) c.length = nI x') (hy : I' (g + 8) c.length = nI y') (h6 : I' (g + 6) c.length = I (g + 6) c.length) (h10 : I' g 10 = I g 10) (hK : ∀ a k, g + 6 ≤ a → a ≤ g + 8 → k ≠ c.length → I' a k = I a k) : nd_R I' g (c ++ [(2, x', y')]) := by
  refine ⟨by rw [h10, h.1, List.length_append, List.length_append]; rfl, fun k i hk => ?_⟩
  rcases Nat.lt_trichotomy k c.length with q | q | q
  · rw [List.getElem?_append_left q] at hk
    exact en_mono (fun a g1 g2 => hK _ _ g1 g2 (by omega)) (h.2 k i (by rw [List.getElem?_append_left q]; exact hk))
  · subst q
    simp at hk
    subst hk
    have := h.2 c.length (2, x, y) (by simp)
    exact ⟨h6.trans this.1, hx, hy⟩
  · rw [List.getElem?_eq_none (by simp; omega)] at hk; cases hk
theorem e_Mo_sign {a b d : Nat} (hl : ly_M sh R g) (hp : pt_R I g s) (ha : I g 14 = nI a) (ha' : a ≤ s.1) (hb : b ≤ c.length) (hlen : c.length ≤ 2 * a) (hd : d < 4) (hok : ∀ i, i ∈ c → cok c.length d i) (h : nd_R I g c) :
    ∃ I', f_Mo_sign g (nI b) (sh, I, J, R, n) = some (sh, I', J, R, n) ∧ nd_R I' g (sg_c s a b c) ∧ I' g 14 = nI (sg_a s a) ∧ (∀ x k, (x ≠ g ∨ (k ≠ 10 ∧ k ≠ 14)) → (x < g + 6 ∨ g + 8 < x) → I' x k = I x k) := by
  have h24 := hp.2.1
  have h63 : (pkI (sp s a) = (63 : Int32)) ↔ sp s a = some 63 := pk_is (m := 63) hp (by omega) (by omega)
  have h42 : (pkI (sp s a) = (42 : Int32)) ↔ sp s a = some 42 := pk_is (m := 42) hp (by omega) (by omega)
  have h43 : (pkI (sp s a) = (43 : Int32)) ↔ sp s a = some 43 := pk_is (m := 43) hp (by omega) (by omega)
  have A0 : ∀ x k, (x ≠ g ∨ k ≠ 14) → (hv_u I g 14 (nI (a + 1))) x k = I x k := fun x k q => by
    rcases q with q | q
    · rw [ev_ua q]
    · rw [ev_uk q]
  have hnd0 : nd_R (hv_u I g 14 (nI (a + 1))) g c := ⟨(A0 _ _ (by omega)).trans h.1, fun k i hk => en_mono (fun a g1 g2 => A0 _ _ (by omega)) (h.2 k i hk)⟩
  unfold f_Mo_sign
  simp only [ev_ob (ms_o hl), ev_b, e_Mo_peek hl hp ha (by omega)]
  unfold sg_c sg_a
  by_cases c63 : sp s a = some 63
  · have n42 : ¬ sp s a = some 42 := by rw [c63]; simp
    have n43 : ¬ sp s a = some 43 := by rw [c63]; simp
    have hal := (sp_lt c63).1
    have hig : isg (sp s a) = true := by unfold isg; exact decide_eq_true (Or.inl c63)
    rw [if_pos (h63.mpr c63), if_pos hig, if_pos hig]
    simp only [ev_I, ha, nI_1, ev_sI, if_neg (fun e => n43 (h43.mp e)), if_neg (fun e => n42 (h42.mp e))]
    obtain ⟨I1, e1, r1, K1⟩ := e_Mo_push (J := J) (n := n) (I := hv_u I g 14 (nI (a + 1))) hl hb (by omega) hd hok hnd0
    have xb := ev_ix (N := 64) (k := b) (by omega) (by omega)
    have l1 := r1.1
    rw [cs_il hb] at l1
    simp only [e1, ev_b, ev_ob (ms_o hl), ev_R, mr_13 hl, ev_ar0 (ms_8 hl), xb, ev_I, l1, ev_sI]
    have E1 := r1.2 b (2, b + 1, 0) (by rw [cs_ig hb, if_neg (Nat.lt_irrefl _), if_pos rfl])
    have r2 : nd_R (hv_u I1 (g + 8) b (nI (c.length + 1))) g (cs_i b (b + 1) (c.length + 1) c) := nd_aim hb r1 (by rw [ev_ua (by omega)]; exact E1.2.1) ev_us (ev_ua (by omega)) (ev_ua (by omega)) (fun x k q1 q2 q3 => by rw [ev_uk q3])
    have K2 : ∀ x k, (x ≠ g ∨ k ≠ 10) → (x < g + 6 ∨ g + 8 < x) → (hv_u I1 (g + 8) b (nI (c.length + 1))) x k = (hv_u I g 14 (nI (a + 1))) x k := fun x k q1 q2 => by rw [ev_ua (by omega)]; exact K1 x k q1 q2
    have X7 : (hv_u I1 (g + 8) b (nI (c.length + 1))) (g + 7) b = nI (b + 1) := by rw [ev_ua (by omega)]; exact E1.2.1
    have X8 : (hv_u I1 (g + 8) b (nI (c.length + 1))) (g + 8) b = nI (c.length + 1) := ev_us
    generalize hv_u I1 (g + 8) b (nI (c.length + 1)) = I2 at r2 K2 X7 X8 ⊢
    have hp2 : pt_R I2 g s := ⟨(K2 _ _ (by omega) (by omega)).trans ((A0 _ _ (by omega)).trans hp.1), h24, fun k hk => ⟨(K2 _ _ (by omega) (by omega)).trans ((A0 _ _ (by omega)).trans (hp.2.2 k hk).1), (hp.2.2 k hk).2⟩⟩
    have ha2 : I2 g 14 = nI (a + 1) := (K2 _ _ (by omega) (by omega)).trans ev_us
    obtain ⟨I3, e3, a3, r3, K3⟩ := e_Mo_lazy (J := J) (n := n) (w := b) (x := b + 1) (y := c.length + 1) (F := fun x y => cs_i b x y c) hl hp2 ha2 (by omega) (by omega) (fun I' q1 q2 q3 => nd_aim hb r2 q1 q2 (q3 _ _ (by omega) (by omega) (by omega)) (q3 _ _ (by omega) (by omega) (by omega)) (fun x k g1 g2 g3 => q3 _ _ (by omega) (by omega) (by omega))) X7 X8 r2
    simp only [ev_b] at e3
    rw [e3]
    refine ⟨I3, rfl, ?_, by rw [a3, show a + 1 + 1 = a + 2 from rfl], fun x k q1 q2 => by rw [K3 _ _ (by omega) (by omega), K2 _ _ (by omega) q2, A0 _ _ (by omega)]⟩
    unfold cs_s
    rw [if_neg n43, if_neg n42]
    by_cases hz : sp s (a + 1) = some 63
    · rw [if_pos hz] at r3; rw [decide_eq_true hz, if_pos rfl]; exact r3
    · rw [if_neg hz] at r3; rw [decide_eq_false hz, if_neg (by simp)]; exact r3
  · rw [if_neg (fun e => c63 (h63.mp e))]
    by_cases c42 : sp s a = some 42
    · have n43 : ¬ sp s a = some 43 := by rw [c42]; simp
      have hal := (sp_lt c42).1
      have hig : isg (sp s a) = true := by unfold isg; exact decide_eq_true (Or.inr (Or.inl c42))
      rw [if_pos (h42.mpr c42), if_pos hig, if_pos hig]
      simp only [ev_I, ha, nI_1, ev_sI, if_neg (fun e => n43 (h43.mp e)), if_pos (h42.mpr c42)]
      obtain ⟨I1, e1, r1, K1⟩ := e_Mo_push (J := J) (n := n) (I := hv_u I g 14 (nI (a + 1))) hl hb (by omega) hd hok hnd0
      obtain ⟨I1b, e1b, r1b, K1b⟩ := e_Mo_emit (J := J) (n := n) (I := I1) (i := (3, b, 0)) (x1 := 3) (x2 := nI b) (x3 := 0) hl (by rw [cs_il hb]; omega) rfl rfl rfl r1
      have xb := ev_ix (N := 64) (k := b) (by omega) (by omega)
      have l1 := r1b.1
      rw [List.length_append, cs_il hb] at l1
      have l1 : I1b g 10 = nI (c.length + 2) := l1
      simp only [e1, ev_b, ev_ob (ms_o hl), e1b, ev_R, mr_13 hl, ev_ar0 (ms_8 hl), xb, ev_I, l1, ev_sI]
      have E1 := r1b.2 b (2, b + 1, 0) (by rw [List.getElem?_append_left (by rw [cs_il hb]; omega), cs_ig hb, if_neg (Nat.lt_irrefl _), if_pos rfl])
      have r2 : nd_R (hv_u I1b (g + 8) b (nI (c.length + 2))) g (cs_i b (b + 1) (c.length + 2) c ++ [(3, b, 0)]) := nd_aim1 hb r1b (by rw [ev_ua (by omega)]; exact E1.2.1) ev_us (ev_ua (by omega)) (ev_ua (by omega)) (fun x k q1 q2 q3 => by rw [ev_uk q3])
      have K2 : ∀ x k, (x ≠ g ∨ k ≠ 10) → (x < g + 6 ∨ g + 8 < x) → (hv_u I1b (g + 8) b (nI (c.length + 2))) x k = (hv_u I g 14 (nI (a + 1))) x k := fun x k q1 q2 => by rw [ev_ua (by omega)]; exact (K1b x k q1 q2).trans (K1 x k q1 q2)
      have X7 : (hv_u I1b (g + 8) b (nI (c.length + 2))) (g + 7) b = nI (b + 1) := by rw [ev_ua (by omega)]; exact E1.2.1
      have X8 : (hv_u I1b (g + 8) b (nI (c.length + 2))) (g + 8) b = nI (c.length + 2) := ev_us
      generalize hv_u I1b (g + 8) b (nI (c.length + 2)) = I2 at r2 K2 X7 X8 ⊢
      have hp2 : pt_R I2 g s := ⟨(K2 _ _ (by omega) (by omega)).trans ((A0 _ _ (by omega)).trans hp.1), h24, fun k hk => ⟨(K2 _ _ (by omega) (by omega)).trans ((A0 _ _ (by omega)).trans (hp.2.2 k hk).1), (hp.2.2 k hk).2⟩⟩
      have ha2 : I2 g 14 = nI (a + 1) := (K2 _ _ (by omega) (by omega)).trans ev_us
      obtain ⟨I3, e3, a3, r3, K3⟩ := e_Mo_lazy (J := J) (n := n) (w := b) (x := b + 1) (y := c.length + 2) (F := fun x y => cs_i b x y c ++ [(3, b, 0)]) hl hp2 ha2 (by omega) (by omega) (fun I' q1 q2 q3 => nd_aim1 hb r2 q1 q2 (q3 _ _ (by omega) (by omega) (by omega)) (q3 _ _ (by omega) (by omega) (by omega)) (fun x k g1 g2 g3 => q3 _ _ (by omega) (by omega) (by omega))) X7 X8 r2
      simp only [ev_b] at e3
      rw [e3]
      refine ⟨I3, rfl, ?_, by rw [a3, show a + 1 + 1 = a + 2 from rfl], fun x k q1 q2 => by rw [K3 _ _ (by omega) (by omega), K2 _ _ (by omega) q2, A0 _ _ (by omega)]⟩
      unfold cs_s
      rw [if_neg n43, if_pos c42]
      by_cases hz : sp s (a + 1) = some 63
      · rw [if_pos hz] at r3; rw [decide_eq_true hz, if_pos rfl]; exact r3
      · rw [if_neg hz] at r3; rw [decide_eq_false hz, if_neg (by simp)]; exact r3
    · rw [if_neg (fun e => c42 (h42.mp e))]
      by_cases c43 : sp s a = some 43
      · have hal := (sp_lt c43).1
        have hig : isg (sp s a) = true := by unfold isg; exact decide_eq_true (Or.inr (Or.inr c43))
        rw [if_pos (h43.mpr c43), if_pos hig, if_pos hig]
        simp only [ev_I, ha, nI_1, ev_sI, if_pos (h43.mpr c43), hnd0.1]
        obtain ⟨I2, e1, r2, K1⟩ := e_Mo_emit (J := J) (n := n) (I := hv_u I g 14 (nI (a + 1))) (i := (2, b, c.length + 1)) (x1 := 2) (x2 := nI b) (x3 := nI (c.length + 1)) hl (by omega) rfl rfl rfl hnd0
        simp only [ev_b, e1, ev_ob (ms_o hl)]
        have E1 := r2.2 c.length (2, b, c.length + 1) (by simp)
        have hp2 : pt_R I2 g s := ⟨(K1 _ _ (by omega) (by omega)).trans ((A0 _ _ (by omega)).trans hp.1), h24, fun k hk => ⟨(K1 _ _ (by omega) (by omega)).trans ((A0 _ _ (by omega)).trans (hp.2.2 k hk).1), (hp.2.2 k hk).2⟩⟩
        have ha2 : I2 g 14 = nI (a + 1) := (K1 _ _ (by omega) (by omega)).trans ev_us
        obtain ⟨I3, e3, a3, r3, K3⟩ := e_Mo_lazy (J := J) (n := n) (w := c.length) (x := b) (y := c.length + 1) (F := fun x y => c ++ [(2, x, y)]) hl hp2 ha2 (by omega) (by omega) (fun I' q1 q2 q3 => nd_aim2 r2 q1 q2 (q3 _ _ (by omega) (by omega) (by omega)) (q3 _ _ (by omega) (by omega) (by omega)) (fun x k g1 g2 g3 => q3 _ _ (by omega) (by omega) (by omega))) E1.2.1 E1.2.2 r2
        simp only [ev_b] at e3
        rw [e3]
        refine ⟨I3, rfl, ?_, by rw [a3, show a + 1 + 1 = a + 2 from rfl], fun x k q1 q2 => by rw [K3 _ _ (by omega) (by omega), K1 _ _ (by omega) q2, A0 _ _ (by omega)]⟩
        unfold cs_s
        rw [if_pos c43]
        by_cases hz : sp s (a + 1) = some 63
        · rw [if_pos hz] at r3; rw [decide_eq_true hz, if_pos rfl]; exact r3
        · rw [if_neg hz] at r3; rw [decide_eq_false hz, if_neg (by simp)]; exact r3
      · rw [if_neg (fun e => c43 (h43.mp e))]
        have hig : ¬ isg (sp s a) = true := by
          unfold isg
          rw [decide_eq_true_eq]
          exact fun e => e.elim c63 (fun e => e.elim c42 c43)
        rw [if_neg hig, if_neg hig]
        exact ⟨I, rfl, h, ha, fun _ _ _ _ => rfl⟩
theorem e_Mo_isLetter {ch : Nat} {σ : hv_S} (h : ch < 65536) : f_Mo_isLetter (nI ch) σ = some (bI (decide (97 ≤ ch ∧ ch ≤ 104)), σ) := by
  have l97 : (97 : Int32) = nI 97 := rfl
  have l104 : (104 : Int32) = nI 104 := rfl
  unfold f_Mo_isLetter
  by_cases h1 : ch < 97
  · rw [if_pos (by rw [l97, nI_ltI (by omega) (by omega)]; exact h1), decide_eq_false (by omega)]; rfl
  · rw [if_neg (by rw [l97, nI_ltI (by omega) (by omega)]; exact h1)]
    by_cases h2 : 104 < ch
    · rw [if_pos (by rw [l104, nI_ltI (by omega) (by omega)]; exact h2), decide_eq_false (by omega)]; rfl
    · rw [if_neg (by rw [l104, nI_ltI (by omega) (by omega)]; exact h2), decide_eq_true (by omega)]; rfl
def rd_R (I : Nat → Nat → Int32) (g : Nat) (s : sc_T) (a : Nat) (c : cd) (d : Nat) (sq op gr : Nat → Nat) : Prop := pt_R I g s ∧ I g 14 = nI a ∧ nd_R I g c ∧ (∀ f, f ≤ d → I (g + 24) f = nI (sq f)) ∧ ∀ f, 1 ≤ f → f ≤ d → I (g + 25) f = nI (op f) ∧ I (g + 26) f = nI (gr f)
/-- what stands behind the loop -/
def rd_E (g : Nat) (e190r : (Int32 × hv_S) ⊕ (Int32 × hv_S)) : Option (Int32 × hv_S) := e190r.elim (fun e190 => (x_ob e190.2 11 (some g)).bind fun a191 => (f_Mo_land a191 0 e190.2).bind fun p192 => (x_ob p192 11 (some g)).bind fun a193 => (f_Mo_emit a193 7 0 0 p192).bind fun p194 => ((if e190.1 = 0 then some 1 else some 0) : Option Int32).bind fun t195 => (x_z t195).bind fun z196 => some (z196, p194)) (fun w => some w)
end R4
