/-! BOTH SIDES, and what stands between calls -/
/-- pattern, text, program, automaton, match, work, matcher -/
abbrev Qs : Type := sc_T × tx_T × Option pg_P × au_A × Int64 × Int32 × Int32
def p0 : pg_P := (0, fun _ => 0, fun _ => 0, fun _ => 0)
/-- the class's references -/
def cl_L (sh : Nat → Option (Nat × Nat)) (R : Nat → Nat → Option Nat) (b pr dr : Nat) : Prop := sh b = some (0, 0) ∧ R b 0 = some (b + 1) ∧ sh (b + 1) = some (1002, 24) ∧ R b 2 = some (b + 2) ∧ sh (b + 2) = some (1, 0) ∧ R b 3 = some (b + 3) ∧ ly_X sh R (b + 3) ∧ R b 4 = some (b + 5) ∧ (∃ t1 t2, ly_L sh R (b + 5) t1 t2) ∧ R b 5 = some (b + 15) ∧ ly_K sh R (b + 15) ∧ R b 6 = some (b + 20) ∧ ly_Z sh R (b + 20) ∧ R b 7 = some (b + 35) ∧ R b 8 = some pr ∧ R b 9 = some dr ∧ ly_P sh R (b + 27) ∧ ly_P sh R (b + 31) ∧ ((pr = b + 27 ∧ dr = b + 31) ∨ (pr = b + 31 ∧ dr = b + 27))
def cl_P (I : Nat → Nat → Int32) (b pr : Nat) : Option pg_P → Prop
  | none => I pr 3 = nI 0
  | some P => pg_W P ∧ pg_R I pr P ∧ I b 10 = bI (sf P)
def cl_V (sh : Nat → Option (Nat × Nat)) (I : Nat → Nat → Int32) (J : Nat → Nat → Int64) (R : Nat → Nat → Option Nat) (b lim pr : Nat) (Q : Qs) : Prop := I b 1 = nI Q.1.1 ∧ Q.1.1 ≤ 24 ∧ (∀ k, k < Q.1.1 → I (b + 1) k = nI (Q.1.2 k) ∧ Q.1.2 k < 65536) ∧ tx_R I (b + 3) Q.2.1 ∧ cl_P I b pr Q.2.2.1 ∧ au_X (Q.2.2.1.getD p0) sh I R (b + 35) lim Q.2.2.2.1 ∧ J b 11 = Q.2.2.2.2.1 ∧ I b 12 = Q.2.2.2.2.2.1 ∧ I b 13 = Q.2.2.2.2.2.2
def CL (sh : Nat → Option (Nat × Nat)) (I : Nat → Nat → Int32) (J : Nat → Nat → Int64) (R : Nat → Nat → Option Nat) (b lim : Nat) (Q : Qs) : Prop := ∃ pr dr, cl_L sh R b pr dr ∧ cl_V sh I J R b lim pr Q
def mo_Po (I : Nat → Nat → Int32) (g : Nat) : Option pg_P → Prop
  | none => I g 6 = nI 0
  | some P => pg_W P ∧ mo_P I g P ∧ I g 15 = bI (sf P)
def MO (I : Nat → Nat → Int32) (g lim S : Nat) (Q : Qs) : Prop := pt_R I g Q.1 ∧ mo_X I g Q.2.1 ∧ mo_Po I g Q.2.2.1 ∧ (∃ c, kp_R I g lim (Q.2.2.2.1.1, Q.2.2.2.1.2.1, Q.2.2.2.1.2.2.1, c)) ∧ bs_R I g Q.2.2.2.2.1 ∧ I g 38 = Q.2.2.2.2.2.1 ∧ I g 37 = Q.2.2.2.2.2.2 ∧ sm_R I g S
/-- what the states keep to -/
def AU (lim B : Nat) (Q : Qs) : Prop := au_I (Q.2.2.1.getD p0) lim Q.2.2.2.1 ∧ au_C (Q.2.2.1.getD p0) Q.2.2.2.1 ∧ Q.2.2.2.1.2.1 ≤ B
section GL
variable {sh : Nat → Option (Nat × Nat)} {I I' : Nat → Nat → Int32} {J J' : Nat → Nat → Int64} {R R' : Nat → Nat → Option Nat} {n b g lim S pr dr : Nat} {Q : Qs}
theorem MO_mono (hA : au_I (Q.2.2.1.getD p0) lim Q.2.2.2.1) (h : ∀ a k, g ≤ a → I' a k = I a k) (hm : MO I g lim S Q) : MO I' g lim S Q := by
  obtain ⟨h1, h2, h3, ⟨c, h4⟩, h5, h6, h7, h8⟩ := hm
  refine ⟨⟨(h _ _ (by omega)).trans h1.1, h1.2.1, fun k hk => ⟨(h _ _ (by omega)).trans (h1.2.2 k hk).1, (h1.2.2 k hk).2⟩⟩, ⟨(h _ _ (by omega)).trans h2.1, h2.2.1, fun k hk => ⟨(h _ _ (by omega)).trans (h2.2.2 k hk).1, (h2.2.2 k hk).2⟩⟩, ?_, ⟨c, ?_⟩, bs_R_mono (h _ _ (by omega)) (fun k => h _ _ (by omega)) h5, (h _ _ (by omega)).trans h6, (h _ _ (by omega)).trans h7, sm_mono (Nat.le_refl _) (fun a k q => h _ _ (by omega)) h8⟩
  · match hq : Q.2.2.1 with
    | none => rw [hq] at h3; exact (h _ _ (by omega)).trans h3
    | some P =>
      rw [hq] at h3
      obtain ⟨q1, q2, q3⟩ := h3
      exact ⟨q1, ⟨(h _ _ (by omega)).trans q2.1, fun i hi => ⟨(h _ _ (by omega)).trans (q2.2 i hi).1, (h _ _ (by omega)).trans (q2.2 i hi).2.1, (h _ _ (by omega)).trans (q2.2 i hi).2.2⟩⟩, (h _ _ (by omega)).trans q3⟩
  · obtain ⟨w1, w2, w3, w4, w5, w6⟩ := h4
    exact ⟨(h _ _ (by omega)).trans w1, (h _ _ (by omega)).trans w2, (h _ _ (by omega)).trans w3, (h _ _ (by omega)).trans w4, (h _ _ (by omega)).trans w5, fun k s hs => ks_mono (hA.2 s (List.mem_of_getElem? hs)).1 (fun a j q => h _ _ (by omega)) (w6 k s hs)⟩
theorem cl_V_mono {P : pg_P} (hP : P = Q.2.2.1.getD p0) (hA : au_I P lim Q.2.2.2.1) (hpr : pr = b + 27 ∨ pr = b + 31) (h : ∀ a k, a ≤ b + 45 + 3 * lim → I' a k = I a k) (hJ : J' b 11 = J b 11) (hc : cl_V sh I J R b lim pr Q) : cl_V sh I' J' R b lim pr Q := by
  obtain ⟨h1, h2, h3, h4, h5, h6, h7, h8, h9⟩ := hc
  refine ⟨(h _ _ (by omega)).trans h1, h2, fun k hk => ⟨(h _ _ (by omega)).trans (h3 k hk).1, (h3 k hk).2⟩, ⟨(h _ _ (by omega)).trans h4.1, h4.2.1, fun k hk => ⟨(h _ _ (by omega)).trans (h4.2.2 k hk).1, (h4.2.2 k hk).2⟩⟩, ?_, ?_, hJ.trans h7, (h _ _ (by omega)).trans h8, (h _ _ (by omega)).trans h9⟩
  · match hq : Q.2.2.1 with
    | none => rw [hq] at h5; exact (h _ _ (by omega)).trans h5
    | some P =>
      rw [hq] at h5
      obtain ⟨q1, q2, q3⟩ := h5
      exact ⟨q1, ⟨(h _ _ (by omega)).trans q2.1, q2.2.1, fun i hi => ⟨(h _ _ (by omega)).trans (q2.2.2 i hi).1, (h _ _ (by omega)).trans (q2.2.2 i hi).2.1, (h _ _ (by omega)).trans (q2.2.2 i hi).2.2⟩⟩, (h _ _ (by omega)).trans q3⟩
  · obtain ⟨ad, sp, hL, hR⟩ := h6
    refine ⟨ad, sp, hL, ?_⟩
    obtain ⟨w1, w2, w3, w4, w5⟩ := hR
    refine ⟨(h _ _ (by omega)).trans w1, (h _ _ (by omega)).trans w2, (h _ _ (by omega)).trans w3, (h _ _ (by omega)).trans w4, fun k s hs => ?_⟩
    have hk : k < lim := by have h1 : k < Q.2.2.2.1.1.length := gl hs; have := hA.1; omega
    have := sp_ge (hL.2.2.2.2.2.2.2.2.2.2.1 k hk)
    exact st_S_mono (fun c j g1 g2 => h _ _ (by omega)) (w5 k s hs)
theorem cl_pr (h : cl_L sh R b pr dr) : (pr = b + 27 ∨ pr = b + 31) ∧ ly_P sh R pr ∧ (dr = b + 27 ∨ dr = b + 31) ∧ ly_P sh R dr ∧ (pr + 3 < dr ∨ dr + 3 < pr) := by
  obtain ⟨-, -, -, -, -, -, -, -, -, -, -, -, -, -, -, -, l1, l2, h⟩ := h
  rcases h with ⟨h1, h2⟩ | ⟨h1, h2⟩
  · subst h1 h2; exact ⟨Or.inl rfl, l1, Or.inr rfl, l2, by omega⟩
  · subst h1 h2; exact ⟨Or.inr rfl, l2, Or.inl rfl, l1, by omega⟩
theorem CL_mono (hA : au_I (Q.2.2.1.getD p0) lim Q.2.2.2.1) (h : ∀ a k, a ≤ b + 45 + 3 * lim → I' a k = I a k) (hJ : J' b 11 = J b 11) (hc : CL sh I J R b lim Q) : CL sh I' J' R b lim Q := by
  obtain ⟨pr, dr, h1, h2⟩ := hc
  exact ⟨pr, dr, h1, cl_V_mono rfl hA (cl_pr h1).1 h hJ h2⟩
end GL
