/-! THE CALLS THAT ONLY ANSWER -/
section SE2
variable {sh : Nat → Option (Nat × Nat)} {I I' : Nat → Nat → Int32} {J J' : Nat → Nat → Int64} {R R' : Nat → Nat → Option Nat} {n b g lim B S pr dr : Nat} {Q Q' : Qs}
noncomputable def sp_A (Q : Qs) : Int32 ⊕ Nat :=
  match Q.2.2.1 with
  | none => .inr 131
  | some P => .inl (bI (sf P))
theorem C_size {sz : Int32} (hl : ly_P sh R pr) (h : I pr 3 = sz) : f_Pr_size pr (sh, I, J, R, n) = some (sz, (sh, I, J, R, n)) := by
  unfold f_Pr_size
  rw [ev_ob hl.1, ev_b, ev_I, h]
theorem e_C_simple (hc : CL sh I J R b lim Q) : ∃ n', f_C_simple b (sh, I, J, R, n) = some (sp_A Q, (sh, I, J, R, n')) ∧ n ≤ n' := by
  obtain ⟨pr, dr, hl, hV⟩ := hc
  obtain ⟨q1, q2, -⟩ := cl_pr hl
  obtain ⟨c0, c1, c2, c3, c4, c5, c6, c7, c8, c9, c10, c11, c12, c13, c14, c15, c16, c17, c18⟩ := hl
  have hbump : hv_bump (sh, I, J, R, n) = (sh, I, J, R, n + 1) := rfl
  unfold f_C_simple sp_A
  rw [ev_ob c0, ev_b, ev_R, c14, ev_ob q2.1, ev_b, C_size q2 (CL_size hV), ev_b]
  have h := hV.2.2.2.2.1
  match hq : Q.2.2.1 with
  | none => rw [if_pos (show nI (Option.getD none p0).1 = 0 from rfl), hbump]; exact ⟨n + 1, rfl, by omega⟩
  | some P =>
    rw [hq] at h
    have h49 := h.1.2.1
    have h1 := h.1.1
    rw [if_neg (show ¬ nI (Option.getD (some P) p0).1 = 0 by show ¬ nI P.1 = 0; rw [li_0, nI_eq (by omega) (by omega)]; omega), ev_ob c0, ev_b, ev_I, h.2.2]
    have xz : x_z (bI (sf P)) = some (bI (sf P)) := by cases sf P <;> rfl
    rw [xz, ev_b]; exact ⟨n, rfl, Nat.le_refl _⟩
theorem e_Mo_simple (hl : ly_M sh R g) (hA : AU lim B Q) (hM : MO I g lim S Q) :
    ∃ I', f_Mo_simple g (sh, I, J, R, n) = some (th_v (sp_A Q), (sh, I', J, R, n)) ∧ MO I' g lim S Q ∧ I' g 0 = tc 131 (sp_A Q) ∧ (∀ a k, a < g ∨ g + 27 < a → I' a k = I a k) := by
  have h0m : ∀ v, MO (hv_u I g 0 v) g lim S Q := fun v => MO_0 hA.1 hM
  have hK : ∀ v, (∀ a k, a < g ∨ g + 27 < a → (hv_u I g 0 v) a k = I a k) := fun v a k q => ev_ua (by omega)
  unfold f_Mo_simple sp_A
  rw [ev_ob (ms_o hl), ev_b, ev_I, MO_size hM]
  have h := hM.2.2.1
  match hq : Q.2.2.1 with
  | none =>
    rw [if_pos (show nI (Option.getD none p0).1 = 0 from rfl), ev_b, ev_sI, ev_b, ev_I, if_neg (show ¬ (hv_u I g 0 1) g 0 = 0 by rw [ev_us]; decide), ev_b, ev_z0, ev_b]
    exact ⟨_, rfl, h0m _, by rw [ev_us]; rfl, hK _⟩
  | some P =>
    rw [hq] at h
    have h49 := h.1.2.1
    have h1 := h.1.1
    rw [if_neg (show ¬ nI (Option.getD (some P) p0).1 = 0 by show ¬ nI P.1 = 0; rw [li_0, nI_eq (by omega) (by omega)]; omega), ev_b, ev_sI, ev_b, ev_I, if_pos (show (hv_u I g 0 0) g 0 = 0 by rw [ev_us])]
    rw [ev_uk (by omega), h.2.2]
    have e : ((if bI (sf P) = 0 then some 0 else some 1) : Option Int32) = some (bI (sf P)) := by cases sf P <;> decide
    have xz : x_z (bI (sf P)) = some (bI (sf P)) := by cases sf P <;> rfl
    rw [e, ev_b, xz, ev_b]
    exact ⟨_, rfl, h0m _, by rw [ev_us]; rfl, hK _⟩
def so_A (Q : Qs) (x y : Int32) : Int32 ⊕ Nat := if x < 0 then .inr 114 else if x ≤ 3 then .inl (sl_g Q.2.2.2.2.1 (2 * x.toNatClampNeg + if y = 0 then 0 else 1)) else .inr 114
theorem x_03 {x : Int32} (h0 : ¬ x < 0) (h3 : x ≤ 3) : ∃ k, k < 4 ∧ x = nI k := by
  refine x_nat h0 (by omega) ?_
  rw [Int32.lt_iff_toInt_lt]
  have := Int32.le_iff_toInt_le.mp h3
  rw [show (3 : Int32).toInt = 3 from by decide] at this
  rw [show (nI 4).toInt = 4 from by decide]
  omega
theorem e_C_slot {x y : Int32} (hc : CL sh I J R b lim Q) : ∃ n', f_C_slot b x y (sh, I, J, R, n) = some (so_A Q x y, (sh, I, J, R, n')) ∧ n ≤ n' := by
  obtain ⟨pr, dr, hl, hV⟩ := hc
  have c0 := hl.1
  have hbump : hv_bump (sh, I, J, R, n) = (sh, I, J, R, n + 1) := rfl
  unfold f_C_slot so_A
  by_cases h0 : x < 0
  · rw [if_pos h0, if_pos h0, hbump]; exact ⟨n + 1, rfl, by omega⟩
  rw [if_neg h0, if_neg h0]
  by_cases h3 : x ≤ 3
  · rw [if_pos h3, if_pos h3, ev_ob c0, ev_b]
    obtain ⟨k, hk, rfl⟩ := x_03 h0 h3
    rw [nI_clamp (by omega), show (2 : Int32) * nI k = nI (2 * k) from by rw [li_2, pk_mul], nI_1, ev_J, hV.2.2.2.2.2.2.1]
    by_cases hy : y = 0
    · rw [if_pos hy, if_pos hy, ev_b, sl_gf, ev_b]; exact ⟨n, rfl, Nat.le_refl _⟩
    · rw [if_neg hy, if_neg hy, ev_b, sl_gf, ev_b]; exact ⟨n, rfl, Nat.le_refl _⟩
  · rw [if_neg h3, if_neg h3, hbump]; exact ⟨n + 1, rfl, by omega⟩
theorem e_Mo_slot {x y : Int32} (hl : ly_M sh R g) (hA : AU lim B Q) (hM : MO I g lim S Q) :
    ∃ I', f_Mo_slot g x y (sh, I, J, R, n) = some (th_v (so_A Q x y), (sh, I', J, R, n)) ∧ MO I' g lim S Q ∧ I' g 0 = tc 114 (so_A Q x y) ∧ (∀ a k, a < g ∨ g + 27 < a → I' a k = I a k) := by
  have h0m : ∀ v, MO (hv_u I g 0 v) g lim S Q := fun v => MO_0 hA.1 hM
  have hK : ∀ v, (∀ a k, a < g ∨ g + 27 < a → (hv_u I g 0 v) a k = I a k) := fun v a k q => ev_ua (by omega)
  unfold f_Mo_slot so_A
  by_cases h0 : x < 0
  · rw [if_pos h0, if_pos h0, ev_b, ev_ob (ms_o hl), ev_b, ev_sI, ev_b, ev_I, if_neg (show ¬ (hv_u I g 0 1) g 0 ≤ 0 by rw [ev_us]; decide)]
    exact ⟨_, rfl, h0m _, by rw [ev_us]; rfl, hK _⟩
  rw [if_neg h0, if_neg h0]
  by_cases h3 : x ≤ 3
  · rw [if_pos h3, if_pos h3, ev_b, ev_ob (ms_o hl), ev_b, ev_sI, ev_b, ev_I, if_pos (show (hv_u I g 0 0) g 0 ≤ 0 by rw [ev_us]; decide)]
    obtain ⟨k, hk, rfl⟩ := x_03 h0 h3
    have hb := (h0m 0).2.2.2.2.1
    have e : ((if (hv_u I g 0 0) g 39 = 0 then some (-1) else ((if y = 0 then some 0 else some 1) : Option Int32).bind fun t4 => (x_ar (sh, hv_u I g 0 0, J, R, n) 0 (R g 40)).bind fun q5 => (x_ix q5.2 (((2 : Int32) * nI k) + t4)).bind fun k6 => some ((hv_u I g 0 0) q5.1 k6)) : Option Int32) = some (sl_g Q.2.2.2.2.1 (2 * k + if y = 0 then 0 else 1)) := by
      rw [← bs_a (J := J) (n := n) (k := 2 * k + if y = 0 then 0 else 1) (by split <;> omega) hl hb]
      rw [show (2 : Int32) * nI k = nI (2 * k) from by rw [li_2, pk_mul]]
      by_cases hy : y = 0
      · rw [if_pos hy, if_pos hy, ev_b, li_0, nI_add]
      · rw [if_neg hy, if_neg hy, ev_b, nI_1]
    rw [nI_clamp (by omega), ev_R, e, ev_b]
    exact ⟨_, rfl, h0m _, by rw [ev_us]; rfl, hK _⟩
  · rw [if_neg h3, if_neg h3, ev_b, ev_ob (ms_o hl), ev_b, ev_sI, ev_b, ev_I, if_neg (show ¬ (hv_u I g 0 1) g 0 ≤ 0 by rw [ev_us]; decide)]
    exact ⟨_, rfl, h0m _, by rw [ev_us]; rfl, hK _⟩
theorem C_au0 (hc : CL sh I J R b lim Q) : ∃ pr dr, cl_L sh R b pr dr ∧ sh (b + 35) = some (9, 0) ∧ I (b + 35) 4 = nI Q.2.2.2.1.1.length ∧ I (b + 35) 5 = nI Q.2.2.2.1.2.1 ∧ I b 12 = Q.2.2.2.2.2.1 ∧ I b 13 = Q.2.2.2.2.2.2 := by
  obtain ⟨pr, dr, hl, hV⟩ := hc
  obtain ⟨ad, sp, hL, hR⟩ := hV.2.2.2.2.2.1
  exact ⟨pr, dr, hl, hL.1, hR.1, hR.2.1, hV.2.2.2.2.2.2.2.1, hV.2.2.2.2.2.2.2.2⟩
theorem e_C_work (hc : CL sh I J R b lim Q) : f_C_work b (sh, I, J, R, n) = some (Q.2.2.2.2.2.1, (sh, I, J, R, n)) := by
  obtain ⟨pr, dr, hl, -, -, -, h1, h2⟩ := C_au0 hc
  unfold f_C_work
  rw [ev_ob hl.1, ev_b, ev_I, h1]
theorem e_C_matcher (hc : CL sh I J R b lim Q) : f_C_matcher b (sh, I, J, R, n) = some (Q.2.2.2.2.2.2, (sh, I, J, R, n)) := by
  obtain ⟨pr, dr, hl, -, -, -, h1, h2⟩ := C_au0 hc
  unfold f_C_matcher
  rw [ev_ob hl.1, ev_b, ev_I, h2]
theorem e_C_states (hc : CL sh I J R b lim Q) : f_C_states b (sh, I, J, R, n) = some (nI Q.2.2.2.1.1.length, (sh, I, J, R, n)) := by
  obtain ⟨pr, dr, hl, a0, a4, a5, -, -⟩ := C_au0 hc
  obtain ⟨c0, c1, c2, c3, c4, c5, c6, c7, c8, c9, c10, c11, c12, c13, -⟩ := hl
  unfold f_C_states f_Au_keptCount
  rw [ev_ob c0, ev_b, ev_R, c13, ev_ob a0, ev_b, ev_ob a0, ev_b, ev_I, a4, ev_b]
theorem e_C_flushes (hc : CL sh I J R b lim Q) : f_C_flushes b (sh, I, J, R, n) = some (nI Q.2.2.2.1.2.1, (sh, I, J, R, n)) := by
  obtain ⟨pr, dr, hl, a0, a4, a5, -, -⟩ := C_au0 hc
  obtain ⟨c0, c1, c2, c3, c4, c5, c6, c7, c8, c9, c10, c11, c12, c13, -⟩ := hl
  unfold f_C_flushes f_Au_flushCount
  rw [ev_ob c0, ev_b, ev_R, c13, ev_ob a0, ev_b, ev_ob a0, ev_b, ev_I, a5, ev_b]
theorem e_Mo_ask (hA : AU lim B Q) (hM : MO I g lim S Q) : MO (hv_u I g 0 0) g lim S Q ∧ (∀ a k, a < g ∨ g + 27 < a → (hv_u I g 0 0) a k = I a k) := ⟨MO_0 hA.1 hM, fun a k q => ev_ua (by omega)⟩
theorem e_Mo_work (hl : ly_M sh R g) (hM : MO I g lim S Q) : f_Mo_work g (sh, I, J, R, n) = some (Q.2.2.2.2.2.1, (sh, hv_u I g 0 0, J, R, n)) := by
  unfold f_Mo_work
  rw [ev_ob (ms_o hl), ev_b, ev_sI, ev_b, ev_I, ev_uk (by omega), hM.2.2.2.2.2.1]
theorem e_Mo_matcher (hl : ly_M sh R g) (hM : MO I g lim S Q) : f_Mo_matcher g (sh, I, J, R, n) = some (Q.2.2.2.2.2.2, (sh, hv_u I g 0 0, J, R, n)) := by
  unfold f_Mo_matcher
  rw [ev_ob (ms_o hl), ev_b, ev_sI, ev_b, ev_I, ev_uk (by omega), hM.2.2.2.2.2.2.1]
theorem e_Mo_states (hl : ly_M sh R g) (hM : MO I g lim S Q) : f_Mo_states g (sh, I, J, R, n) = some (nI Q.2.2.2.1.1.length, (sh, hv_u I g 0 0, J, R, n)) := by
  obtain ⟨c, h⟩ := hM.2.2.2.1
  unfold f_Mo_states
  rw [ev_ob (ms_o hl), ev_b, ev_sI, ev_b, ev_I, ev_uk (by omega), h.1]
theorem e_Mo_flushes (hl : ly_M sh R g) (hM : MO I g lim S Q) : f_Mo_flushes g (sh, I, J, R, n) = some (nI Q.2.2.2.1.2.1, (sh, hv_u I g 0 0, J, R, n)) := by
  obtain ⟨c, h⟩ := hM.2.2.2.1
  unfold f_Mo_flushes
  rw [ev_ob (ms_o hl), ev_b, ev_sI, ev_b, ev_I, ev_uk (by omega), h.2.1]
end SE2
