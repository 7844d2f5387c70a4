/-! FEED, and the calls that only answer -/
section SD
variable {sh : Nat → Option (Nat × Nat)} {I I' : Nat → Nat → Int32} {J J' : Nat → Nat → Int64} {R R' : Nat → Nat → Option Nat} {n b g lim B S pr dr : Nat} {Q Q' : Qs}
def fe_S (Q : Qs) (v : Nat) : Qs := if 97 ≤ v then (if v ≤ 104 then (if Q.2.1.1 < 20 then (Q.1, (Q.2.1.1 + 1, fun k => if k = Q.2.1.1 then v - 97 else Q.2.1.2 k), Q.2.2.1, Q.2.2.2.1, 0, -1, -1) else Q) else Q) else Q
def fe_A (Q : Qs) (v : Nat) : Int32 := if 97 ≤ v then (if v ≤ 104 then (if Q.2.1.1 < 20 then 1 else 0) else 0) else 0
theorem e_C_feed {v : Nat} (hv : v < 65536) (hA : AU lim B Q) (hc : CL sh I J R b lim Q) :
    ∃ I' J', f_C_feed b (nI v) (sh, I, J, R, n) = some (fe_A Q v, (sh, I', J', R, n)) ∧ CL sh I' J' R b lim (fe_S Q v) ∧ cK b lim I I' J J' R R ∧ AU lim B (fe_S Q v) := by
  have hcc := hc
  obtain ⟨pr, dr, hl, hV⟩ := hc
  have hLL := hl
  obtain ⟨c0, c1, c2, c3, c4, c5, c6, -⟩ := hl
  have hV' := hV
  obtain ⟨h1, h2, h3, h4, h5, h6, h7, h8, h9⟩ := hV
  have hno : f_Tx_add (b + 3) (nI v) (sh, I, J, R, n) = some (0, (sh, I, J, R, n)) → ∃ I' J', ((f_Tx_add (b + 3) (nI v) (sh, I, J, R, n)).bind fun p3 => if p3.1 = 0 then some (((0 : Int32), p3.2)) else (x_ob p3.2 0 ((some b))).bind fun a4 => (f_C_forgetSearch a4 p3.2).bind fun p5 => some ((1, p5))) = some (0, (sh, I', J', R, n)) ∧ CL sh I' J' R b lim Q ∧ cK b lim I I' J J' R R ∧ AU lim B Q := fun e => by
    rw [e, ev_b, if_pos rfl]
    exact ⟨I, J, rfl, hcc, fun _ _ _ => ⟨rfl, rfl, rfl⟩, hA⟩
  have t20 := h4.2.1
  unfold f_C_feed
  rw [ev_ob c0, ev_b, ev_R, c5, ev_ob c6.1, ev_b]
  unfold fe_A fe_S
  by_cases q1 : 97 ≤ v
  · rw [if_pos q1, if_pos q1]
    have hge : ¬ nI (v - 97) < 0 := by rw [li_0, nI_ltI (by omega) (by omega)]; omega
    by_cases q2 : v ≤ 104
    · rw [if_pos q2, if_pos q2]
      have h8' : ¬ 8 ≤ nI (v - 97) := by rw [li_8, nI_leI (by omega) (by omega)]; omega
      by_cases q3 : Q.2.1.1 < 20
      · rw [if_pos q3, if_pos q3]
        have e1 : f_Tx_add (b + 3) (nI v) (sh, I, J, R, n) = some (1, (sh, hv_u (hv_u I (b + 4) Q.2.1.1 (nI (v - 97))) (b + 3) 1 (nI (Q.2.1.1 + 1)), J, R, n)) := by
          unfold f_Tx_add
          rw [let_p q1, ev_b, if_neg hge, if_neg h8', ev_ob c6.1, ev_b, ev_I, h4.1, if_neg (by rw [li_0, nI_ltI (by omega) (by omega)]; omega), ev_R, c6.2.2, ev_ar0 c6.2.1, ev_b, if_pos (by rw [nI_ltI (by omega) (by omega)]; exact q3), ev_ix q3 (by omega), ev_b, ev_sI, ev_b, ev_sI, ev_b, ev_I, ev_ua (by omega), h4.1, nI_1]
        rw [e1, ev_b, if_neg (show ¬ (1 : Int32) = 0 by decide), ev_ob c0, ev_b, e_C_forget c0, ev_b]
        refine ⟨_, _, rfl, CL_make2 (I := I) (J := J) (Q := Q) hA.1 hLL hV' ?_ h2 (fun k hk => ⟨?_, (h3 k hk).2⟩) ⟨?_, show Q.2.1.1 + 1 ≤ 20 from q3, fun k hk => ?_⟩ rfl rfl (fun a k q => ?_) ev_us ev_us ((ev_uk (by omega)).trans ev_us), fun a k q => ⟨by rw [ev_ua (by omega), ev_ua (by omega), ev_ua (by omega), ev_ua (by omega)], by rw [ev_ua (by omega)], rfl⟩, hA⟩
        · rw [ev_uk (by omega), ev_uk (by omega), ev_ua (by omega), ev_ua (by omega)]; exact h1
        · rw [ev_ua (by omega), ev_ua (by omega), ev_ua (by omega), ev_ua (by omega)]; exact (h3 k hk).1
        · rw [ev_ua (by omega), ev_ua (by omega), ev_us]
        · have hk : k < Q.2.1.1 + 1 := hk
          rw [ev_ua (by omega), ev_ua (by omega), ev_ua (by omega)]
          show _ = nI (if k = Q.2.1.1 then v - 97 else Q.2.1.2 k) ∧ (if k = Q.2.1.1 then v - 97 else Q.2.1.2 k) < 8
          by_cases hkq : k = Q.2.1.1
          · rw [if_pos hkq, hkq, show b + 3 + 1 = b + 4 from by omega, ev_us]; exact ⟨rfl, by omega⟩
          · rw [if_neg hkq, show b + 3 + 1 = b + 4 from by omega, ev_uk hkq]; exact h4.2.2 k (by omega)
        · rcases q with ⟨q1, q2⟩ | q
          · subst q1; rw [ev_uk (by omega), ev_uk (by omega), ev_ua (by omega), ev_ua (by omega)]
          · rw [ev_ua (by omega), ev_ua (by omega), ev_ua (by omega), ev_ua (by omega)]
      · rw [if_neg q3, if_neg q3]
        apply hno
        unfold f_Tx_add
        rw [let_p q1, ev_b, if_neg hge, if_neg h8', ev_ob c6.1, ev_b, ev_I, h4.1, if_neg (by rw [li_0, nI_ltI (by omega) (by omega)]; omega), ev_R, c6.2.2, ev_ar0 c6.2.1, ev_b, if_neg (by rw [nI_ltI (by omega) (by omega)]; exact q3)]
    · rw [if_neg q2, if_neg q2]
      apply hno
      unfold f_Tx_add
      rw [let_p q1, ev_b, if_neg hge, if_pos (by rw [li_8, nI_leI (by omega) (by omega)]; omega)]
  · rw [if_neg q1, if_neg q1]
    apply hno
    unfold f_Tx_add
    rw [ev_b, if_pos (let_n v (by omega))]
theorem e_Mo_feed {v : Nat} (hv : v < 65536) (hl : ly_M sh R g) (hA : AU lim B Q) (hM : MO I g lim S Q) :
    ∃ I', f_Mo_feed g (nI v) (sh, I, J, R, n) = some (fe_A Q v, (sh, I', J, R, n)) ∧ MO I' g lim S (fe_S Q v) ∧ (∀ a k, a < g ∨ g + 27 < a → I' a k = I a k) := by
  have hM0 : MO (hv_u I g 0 0) g lim S Q := MO_0 hA.1 hM
  have hMM := hM0
  obtain ⟨h1, h2, h3, h4, h5, h6, h7, h8⟩ := hM0
  have t20 := h2.2.1
  have l97 : (97 : Int32) = nI 97 := rfl
  have l104 : (104 : Int32) = nI 104 := rfl
  unfold f_Mo_feed f_Mo_isLetter fe_A fe_S
  rw [ev_ob (ms_o hl), ev_b, ev_sI, ev_b]
  by_cases q1 : 97 ≤ v
  · rw [if_pos q1, if_pos q1, if_neg (by rw [l97, nI_ltI (by omega) (by omega)]; omega)]
    by_cases q2 : v ≤ 104
    · rw [if_pos q2, if_pos q2, if_neg (by rw [l104, nI_ltI (by omega) (by omega)]; omega), ev_b, ev_z1, ev_b, ev_b, if_neg (show ¬ (1 : Int32) = 0 by decide), ev_ob (ms_o hl), ev_b, ev_I, h2.1]
      by_cases q3 : Q.2.1.1 < 20
      · rw [if_pos q3, if_pos q3, if_neg (by rw [li_20, nI_eq (by omega) (by omega)]; omega), ev_R, mr_5 hl, ev_ar0 (ms_2 hl), ev_b, ev_ix q3 (by omega), ev_b, let_p q1, ev_sI, ev_b, ev_sI, ev_b, ev_I, ev_ua (by omega), h2.1, nI_1, e_Mo_noS hl, ev_b]
        have E : ∀ a k, (a ≠ g ∨ (k ≠ 4 ∧ k ≠ 37 ∧ k ≠ 38 ∧ k ≠ 39)) → a ≠ g + 2 → (hv_u (hv_u (hv_u (hv_u (hv_u (hv_u I g 0 0) (g + 2) Q.2.1.1 (nI (v - 97))) g 4 (nI (Q.2.1.1 + 1))) g 37 (-1)) g 38 (-1)) g 39 0) a k = (hv_u I g 0 0) a k := fun a k q q2 => by
          by_cases ha : a = g
          · rw [ev_uk (by omega), ev_uk (by omega), ev_uk (by omega), ev_uk (by omega), ev_ua q2]
          · rw [ev_ua ha, ev_ua ha, ev_ua ha, ev_ua ha, ev_ua q2]
        refine ⟨_, rfl, MO_make2 (I := hv_u I g 0 0) (Q := Q) hA.1 hMM ⟨(E _ _ (by omega) (by omega)).trans h1.1, h1.2.1, fun k hk => ⟨(E _ _ (by omega) (by omega)).trans (h1.2.2 k hk).1, (h1.2.2 k hk).2⟩⟩ ⟨by rw [ev_uk (by omega), ev_uk (by omega), ev_uk (by omega), ev_us], show Q.2.1.1 + 1 ≤ 20 from q3, fun k hk => ?_⟩ rfl rfl (fun a k q1 q2 q3 => E _ _ (by omega) (by omega)) (Or.inl ⟨rfl, ev_us⟩) ((ev_uk (by omega)).trans ev_us) (by rw [ev_uk (by omega), ev_uk (by omega), ev_us]), fun a k q => (E _ _ (by omega) (by omega)).trans (ev_ua (by omega))⟩
        have hk : k < Q.2.1.1 + 1 := hk
        rw [ev_ua (by omega), ev_ua (by omega), ev_ua (by omega), ev_ua (by omega)]
        show _ = nI (if k = Q.2.1.1 then v - 97 else Q.2.1.2 k) ∧ (if k = Q.2.1.1 then v - 97 else Q.2.1.2 k) < 8
        by_cases hkq : k = Q.2.1.1
        · rw [if_pos hkq, hkq, ev_us]; exact ⟨rfl, by omega⟩
        · rw [if_neg hkq, ev_uk hkq]; exact h2.2.2 k (by omega)
      · rw [if_neg q3, if_neg q3, if_pos (by rw [li_20, nI_eq (by omega) (by omega)]; omega)]
        exact ⟨_, rfl, hMM, fun a k q => ev_ua (by omega)⟩
    · rw [if_neg q2, if_neg q2, if_pos (by rw [l104, nI_ltI (by omega) (by omega)]; omega), ev_b, ev_z0, ev_b, ev_b, if_pos rfl]
      exact ⟨_, rfl, hMM, fun a k q => ev_ua (by omega)⟩
  · rw [if_neg q1, if_neg q1, if_pos (by rw [l97, nI_ltI (by omega) (by omega)]; omega), ev_b, ev_z0, ev_b, ev_b, if_pos rfl]
    exact ⟨_, rfl, hMM, fun a k q => ev_ua (by omega)⟩
/-- the code of what is thrown: a is the call's first kind -/
def tc (a : Nat) : Int32 ⊕ Nat → Int32
  | .inl _ => 0
  | .inr k => if k = a then 1 else 2
theorem tc_89 (v : Int32 ⊕ Nat) : th_c v = tc 89 v := by cases v <;> rfl
/-- the size of the program, 0 where there is none -/
theorem CL_size (hc : cl_V sh I J R b lim pr Q) : I pr 3 = nI (Q.2.2.1.getD p0).1 := by
  have h := hc.2.2.2.2.1
  match hq : Q.2.2.1 with
  | none => rw [hq] at h; exact h
  | some P => rw [hq] at h; exact h.2.1.1
theorem MO_size (hc : MO I g lim S Q) : I g 6 = nI (Q.2.2.1.getD p0).1 := by
  have h := hc.2.2.1
  match hq : Q.2.2.1 with
  | none => rw [hq] at h; exact h
  | some P => rw [hq] at h; exact h.2.1.1
theorem x_nat {x : Int32} {N : Nat} (h0 : ¬ x < 0) (hN : N < 2 ^ 31) (h : x < nI N) : ∃ k, k < N ∧ x = nI k := by
  refine ⟨x.toInt.toNat, ?_, ?_⟩
  · have h' := Int32.lt_iff_toInt_lt.mp h
    rw [nI_toInt hN] at h'
    have h0' : ¬ x.toInt < (0 : Int32).toInt := fun h => h0 (Int32.lt_iff_toInt_lt.mpr h)
    rw [show (0 : Int32).toInt = 0 from by decide] at h0'
    omega
  · have h0' : ¬ x.toInt < (0 : Int32).toInt := fun h => h0 (Int32.lt_iff_toInt_lt.mpr h)
    rw [show (0 : Int32).toInt = 0 from by decide] at h0'
    apply Int32.toInt_inj.mp
    have h' := Int32.lt_iff_toInt_lt.mp h
    rw [nI_toInt hN] at h'
    rw [nI_toInt (by omega)]
    omega
def in_P (P : pg_P) (k : Nat) (y : Int32) : Int32 ⊕ Nat := if y = 0 then .inl (nI (P.2.1 k)) else if y = 1 then .inl (nI (P.2.2.1 k)) else if y = 2 then .inl (nI (P.2.2.2 k)) else .inr 89
noncomputable def in_A (Q : Qs) (x y : Int32) : Int32 ⊕ Nat := if x < 0 then .inr 114 else if x < nI (Q.2.2.1.getD p0).1 then in_P (Q.2.2.1.getD p0) x.toNatClampNeg y else .inr 114
theorem e_C_instruction {x y : Int32} (hc : CL sh I J R b lim Q) : ∃ n', f_C_instruction b x y (sh, I, J, R, n) = some (in_A Q x y, (sh, I, J, R, n')) ∧ n ≤ n' := by
  obtain ⟨pr, dr, hl, hV⟩ := hc
  obtain ⟨q1, q2, -⟩ := cl_pr hl
  obtain ⟨c0, c1, c2, c3, c4, c5, c6, c7, c8, c9, c10, c11, c12, c13, c14, c15, c16, c17, c18⟩ := hl
  have hsz := CL_size hV
  have hbump : hv_bump (sh, I, J, R, n) = (sh, I, J, R, n + 1) := rfl
  have es : f_Pr_size pr (sh, I, J, R, n) = some (nI (Q.2.2.1.getD p0).1, (sh, I, J, R, n)) := by
    unfold f_Pr_size
    rw [ev_ob q2.1, ev_b, ev_I, hsz]
  unfold f_C_instruction in_A
  by_cases h0 : x < 0
  · rw [if_pos h0, if_pos h0, hbump]; exact ⟨n + 1, rfl, by omega⟩
  rw [if_neg h0, if_neg h0, ev_ob c0, ev_b, ev_R, c14, ev_ob q2.1, ev_b, es, ev_b]
  by_cases h1 : x < nI (Q.2.2.1.getD p0).1
  · rw [if_pos h1, if_pos h1]
    have h := hV.2.2.2.2.1
    match hq : Q.2.2.1 with
    | none =>
      rw [hq] at h1
      exact absurd h1 h0
    | some P =>
      rw [hq] at h h1
      obtain ⟨hW, hp, -⟩ := h
      have h1 : x < nI P.1 := h1
      have h49 := hW.2.1
      obtain ⟨k, hk, rfl⟩ := x_nat h0 (by omega) h1
      rw [nI_clamp (by omega)]
      show ∃ n', _ = some (in_P P k y, (sh, I, J, R, n')) ∧ n ≤ n'
      unfold in_P
      by_cases y0 : y = 0
      · rw [if_pos y0, if_pos y0, ev_ob c0, ev_b, ev_R, c14, ev_ob q2.1, ev_b, e_Pr_kindAt q2 hp hk, ev_b]; exact ⟨n, rfl, Nat.le_refl _⟩
      · rw [if_neg y0, if_neg y0]
        by_cases y1 : y = 1
        · rw [if_pos y1, if_pos y1, ev_ob c0, ev_b, ev_R, c14, ev_ob q2.1, ev_b, e_Pr_xAt q2 hp hk, ev_b]; exact ⟨n, rfl, Nat.le_refl _⟩
        · rw [if_neg y1, if_neg y1]
          by_cases y2 : y = 2
          · rw [if_pos y2, if_pos y2, ev_ob c0, ev_b, ev_R, c14, ev_ob q2.1, ev_b, e_Pr_yAt q2 hp hk, ev_b]; exact ⟨n, rfl, Nat.le_refl _⟩
          · rw [if_neg y2, if_neg y2, hbump]; exact ⟨n + 1, rfl, by omega⟩
  · rw [if_neg h1, if_neg h1, hbump]; exact ⟨n + 1, rfl, by omega⟩
theorem y_012 {y : Int32} : (y = 0 ∨ y = 1 ∨ y = 2) ↔ (¬ y < 0 ∧ y ≤ 2) := by
  constructor
  · rintro (h | h | h) <;> subst h <;> decide
  · rintro ⟨h1, h2⟩
    have hx : y < nI 3 := by
      rw [Int32.lt_iff_toInt_lt]
      have := Int32.le_iff_toInt_le.mp h2
      rw [show (2 : Int32).toInt = 2 from by decide] at this
      rw [show (nI 3).toInt = 3 from by decide]
      omega
    obtain ⟨k, hk, rfl⟩ := x_nat h1 (by omega) hx
    have hk : k = 0 ∨ k = 1 ∨ k = 2 := by omega
    rcases hk with h | h | h <;> subst h
    · left; rfl
    · right; left; rfl
    · right; right; rfl
theorem e_Mo_instruction {x y : Int32} (hl : ly_M sh R g) (hA : AU lim B Q) (hM : MO I g lim S Q) :
    ∃ I', f_Mo_instruction g x y (sh, I, J, R, n) = some (th_v (in_A Q x y), (sh, I', J, R, n)) ∧ MO I' g lim S Q ∧ I' g 0 = tc 114 (in_A Q x y) ∧ (∀ a k, a < g ∨ g + 27 < a → I' a k = I a k) := by
  have hsz := MO_size hM
  have h0m : ∀ v, MO (hv_u I g 0 v) g lim S Q := fun v => MO_0 hA.1 hM
  have hK : ∀ v, (∀ a k, a < g ∨ g + 27 < a → (hv_u I g 0 v) a k = I a k) := fun v a k q => ev_ua (by omega)
  unfold f_Mo_instruction in_A
  by_cases h0 : x < 0
  · rw [if_pos h0, if_pos h0, ev_b, ev_ob (ms_o hl), ev_b, ev_sI, ev_b, ev_I, ev_us, if_neg (by decide)]
    exact ⟨_, rfl, h0m _, by rw [ev_us]; rfl, hK _⟩
  rw [if_neg h0, if_neg h0, ev_ob (ms_o hl), ev_b, ev_I, hsz]
  by_cases h1 : x < nI (Q.2.2.1.getD p0).1
  · rw [if_pos h1, if_pos h1]
    have h := hM.2.2.1
    match hq : Q.2.2.1 with
    | none =>
      rw [hq] at h1
      exact absurd h1 h0
    | some P =>
      rw [hq] at h h1
      obtain ⟨hW, hp, -⟩ := h
      have h1 : x < nI P.1 := h1
      have h49 := hW.2.1
      obtain ⟨k, hk, rfl⟩ := x_nat h0 (by omega) h1
      rw [nI_clamp (by omega)]
      show ∃ I' : Nat → Nat → Int32, _ = some (th_v (in_P P k y), _) ∧ _ ∧ I' g 0 = tc 114 (in_P P k y) ∧ _
      unfold in_P
      by_cases hy : y = 0 ∨ y = 1 ∨ y = 2
      · obtain ⟨g1, g2⟩ := y_012.mp hy
        rw [if_neg g1, if_pos g2, ev_b, ev_b, ev_sI, ev_b, ev_I, if_pos (show (hv_u I g 0 0) g 0 ≤ 0 by rw [ev_us]; decide)]
        by_cases y0 : y = 0
        · rw [if_pos y0, if_pos y0, ev_R, mr_7 hl, ev_ar0 (ms_3 hl), ev_b, ev_ix (by omega) (by omega), ev_b, ev_b, ev_ua (by omega), (hp.2 k hk).1]
          exact ⟨_, rfl, h0m _, by rw [ev_us]; rfl, hK _⟩
        · rw [if_neg y0, if_neg y0]
          by_cases y1 : y = 1
          · rw [if_pos y1, if_pos y1, ev_R, mr_8 hl, ev_ar0 (ms_4 hl), ev_b, ev_ix (by omega) (by omega), ev_b, ev_b, ev_ua (by omega), (hp.2 k hk).2.1]
            exact ⟨_, rfl, h0m _, by rw [ev_us]; rfl, hK _⟩
          · have y2 : y = 2 := by rcases hy with h | h | h <;> first | exact h | exact absurd h y0 | exact absurd h y1
            rw [if_neg y1, if_neg y1, if_pos y2, ev_R, mr_9 hl, ev_ar0 (ms_5 hl), ev_b, ev_ix (by omega) (by omega), ev_b, ev_b, ev_ua (by omega), (hp.2 k hk).2.2]
            exact ⟨_, rfl, h0m _, by rw [ev_us]; rfl, hK _⟩
      · have hz : ((if y < 0 then some 2 else if y ≤ 2 then some 0 else some 2) : Option Int32) = some 2 := by
          by_cases g1 : y < 0
          · rw [if_pos g1]
          · rw [if_neg g1, if_neg (fun g2 => hy (y_012.mpr ⟨g1, g2⟩))]
        rw [hz, ev_b, ev_b, ev_sI, ev_b, ev_I, if_neg (show ¬ (hv_u I g 0 2) g 0 ≤ 0 by rw [ev_us]; decide), if_neg (fun h => hy (Or.inl h)), if_neg (fun h => hy (Or.inr (Or.inl h))), if_neg (fun h => hy (Or.inr (Or.inr h)))]
        exact ⟨_, rfl, h0m _, by rw [ev_us]; rfl, hK _⟩
  · rw [if_neg h1, if_neg h1, ev_b, ev_b, ev_sI, ev_b, ev_I, if_neg (show ¬ (hv_u I g 0 1) g 0 ≤ 0 by rw [ev_us]; decide)]
    exact ⟨_, rfl, h0m _, by rw [ev_us]; rfl, hK _⟩
end SD
