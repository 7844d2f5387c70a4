/-! THE CALLS THAT ARE SHORT -/
theorem chr (x : Int32) : ∃ v, v < 65536 ∧ (x.toUInt32 % 65536).toInt32 = nI v := by
  refine ⟨x.toUInt32.toNat % 65536, Nat.mod_lt _ (by decide), ?_⟩
  apply Int32.toBitVec_inj.mp
  apply BitVec.eq_of_toNat_eq
  show (x.toUInt32 % 65536).toNat = (BitVec.ofNat 32 (x.toUInt32.toNat % 65536)).toNat
  rw [UInt32.toNat_mod, BitVec.toNat_ofNat]
  show x.toUInt32.toNat % 65536 = _
  have := Nat.mod_lt x.toUInt32.toNat (show 65536 > 0 by decide)
  omega
theorem nar_c {v : Nat} (hv : v < 65536) : vp_nar .char (nI v) = nI v := by
  rw [vp_nar_char]
  apply Int32.toBitVec_inj.mp
  apply BitVec.eq_of_toNat_eq
  show ((nI v).toUInt32.toUInt16.toUInt32).toNat = (nI v).toUInt32.toNat
  rw [UInt16.toNat_toUInt32, UInt32.toNat_toUInt16]
  have : (nI v).toUInt32.toNat = v := by
    show (BitVec.ofNat 32 v).toNat = v
    rw [BitVec.toNat_ofNat]; omega
  rw [this]; omega
theorem let_n : ∀ v, v < 97 → nI v - 97 < 0 := by decide +kernel
theorem let_p {v : Nat} (h : 97 ≤ v) : nI v - 97 = nI (v - 97) := by
  have e : nI v = nI (v - 97) + nI 97 := by rw [nI_add]; congr 1; omega
  rw [e]
  exact Int32.add_sub_cancel _ _
section SC
variable {sh : Nat → Option (Nat × Nat)} {I I' : Nat → Nat → Int32} {J J' : Nat → Nat → Int64} {R R' : Nat → Nat → Option Nat} {n b g lim B S pr dr : Nat} {Q Q' : Qs}
theorem CL_make2 (hA : au_I (Q.2.2.1.getD p0) lim Q.2.2.2.1) (hl : cl_L sh R b pr dr) (hv : cl_V sh I J R b lim pr Q) (h1 : I' b 1 = nI Q'.1.1) (h2 : Q'.1.1 ≤ 24) (h3 : ∀ k, k < Q'.1.1 → I' (b + 1) k = nI (Q'.1.2 k) ∧ Q'.1.2 k < 65536) (h4 : tx_R I' (b + 3) Q'.2.1) (hP : Q'.2.2.1 = Q.2.2.1) (hU : Q'.2.2.2.1 = Q.2.2.2.1) (hi : ∀ a k, (a = b ∧ k = 10) ∨ b + 27 ≤ a → I' a k = I a k) (hw : J' b 11 = Q'.2.2.2.2.1) (hx : I' b 12 = Q'.2.2.2.2.2.1) (hy : I' b 13 = Q'.2.2.2.2.2.2) : CL sh I' J' R b lim Q' := by
  obtain ⟨q1, -⟩ := cl_pr hl
  refine ⟨pr, dr, hl, h1, h2, h3, h4, ?_, ?_, hw, hx, hy⟩
  · rw [hP]
    have h5 := hv.2.2.2.2.1
    match hq : Q.2.2.1 with
    | none => rw [hq] at h5; exact (hi _ _ (by omega)).trans h5
    | some P =>
      rw [hq] at h5
      obtain ⟨q1, q2, q3⟩ := h5
      exact ⟨q1, ⟨(hi _ _ (by omega)).trans q2.1, q2.2.1, fun i hi' => ⟨(hi _ _ (by omega)).trans (q2.2.2 i hi').1, (hi _ _ (by omega)).trans (q2.2.2 i hi').2.1, (hi _ _ (by omega)).trans (q2.2.2 i hi').2.2⟩⟩, (hi _ _ (by omega)).trans q3⟩
  · rw [hP, hU]
    exact au_X_mono hA (fun a k q => hi _ _ (by omega)) (fun a k q => rfl) hv.2.2.2.2.2.1
theorem MO_make2 (hA : au_I (Q.2.2.1.getD p0) lim Q.2.2.2.1) (h : MO I g lim S Q) (h1 : pt_R I' g Q'.1) (h2 : mo_X I' g Q'.2.1) (hP : Q'.2.2.1 = Q.2.2.1) (hU : Q'.2.2.2.1 = Q.2.2.2.1) (hi : ∀ a k, (a ≠ g ∨ (k ≠ 0 ∧ k ≠ 2 ∧ k ≠ 4 ∧ k ≠ 37 ∧ k ≠ 38 ∧ k ≠ 39)) → a ≠ g + 1 → a ≠ g + 2 → I' a k = I a k) (hb : bs_R I' g Q'.2.2.2.2.1) (hx : I' g 38 = Q'.2.2.2.2.2.1) (hy : I' g 37 = Q'.2.2.2.2.2.2) : MO I' g lim S Q' := by
  obtain ⟨-, -, h3, ⟨c, w1, w2, w3, w4, w5, w6⟩, -, -, -, h8⟩ := h
  refine ⟨h1, h2, ?_, ⟨c, ?_⟩, hb, hx, hy, sm_mono (Nat.le_refl _) (fun a k q => hi _ _ (by omega) (by omega) (by omega)) h8⟩
  · rw [hP]
    match hq : Q.2.2.1 with
    | none => rw [hq] at h3; exact (hi _ _ (by omega) (by omega) (by omega)).trans h3
    | some P =>
      rw [hq] at h3
      obtain ⟨q1, q2, q3⟩ := h3
      exact ⟨q1, ⟨(hi _ _ (by omega) (by omega) (by omega)).trans q2.1, fun i hi' => ⟨(hi _ _ (by omega) (by omega) (by omega)).trans (q2.2 i hi').1, (hi _ _ (by omega) (by omega) (by omega)).trans (q2.2 i hi').2.1, (hi _ _ (by omega) (by omega) (by omega)).trans (q2.2 i hi').2.2⟩⟩, (hi _ _ (by omega) (by omega) (by omega)).trans q3⟩
  · rw [hU]
    exact ⟨(hi _ _ (by omega) (by omega) (by omega)).trans w1, (hi _ _ (by omega) (by omega) (by omega)).trans w2, (hi _ _ (by omega) (by omega) (by omega)).trans w3, (hi _ _ (by omega) (by omega) (by omega)).trans w4, (hi _ _ (by omega) (by omega) (by omega)).trans w5, fun k s hs => ks_mono (hA.2 s (List.mem_of_getElem? hs)).1 (fun a j q => hi _ _ (by omega) (by omega) (by omega)) (w6 k s hs)⟩
/-- a character more -/
def ty_s (s : Nat × (Nat → Nat)) (v : Nat) : Nat × (Nat → Nat) := (s.1 + 1, fun k => if k = s.1 then v else s.2 k)
def ty_S (Q : Qs) (v : Nat) : Qs := if Q.1.1 < 24 then (ty_s Q.1 v, Q.2) else Q
def ty_A (Q : Qs) : Int32 := if Q.1.1 < 24 then 1 else 0
theorem e_C_type {v : Nat} (hv : v < 65536) (hA : AU lim B Q) (hc : CL sh I J R b lim Q) :
    ∃ I', f_C_type b (nI v) (sh, I, J, R, n) = some (ty_A Q, (sh, I', J, R, n)) ∧ CL sh I' J R b lim (ty_S Q v) ∧ cK b lim I I' J J R R ∧ AU lim B (ty_S Q v) := by
  have hcc := hc
  obtain ⟨pr, dr, hl, hV⟩ := hc
  have hLL := hl
  obtain ⟨c0, c1, c2, -⟩ := hl
  have hV' := hV
  obtain ⟨h1, h2, h3, h4, h5, h6, h7, h8, h9⟩ := hV
  unfold f_C_type ty_A ty_S
  rw [ev_ob c0, ev_b, ev_I, h1, if_neg (by rw [li_0, nI_ltI (by omega) (by omega)]; omega), ev_R, c1, ev_ar2 c2, ev_b]
  by_cases hq : Q.1.1 < 24
  · rw [if_pos (by rw [nI_ltI (by omega) (by omega)]; exact hq), if_pos hq, if_pos hq, ev_ix hq (by omega), ev_b, ev_sI, ev_b, ev_sI, ev_b, nar_c hv, ev_I, ev_ua (by omega), h1, nI_1]
    refine ⟨_, rfl, CL_make2 (I := I) (J := J) (Q := Q) hA.1 hLL hV' ev_us (show Q.1.1 + 1 ≤ 24 from hq) (fun k hk => ?_) ⟨by rw [ev_ua (by omega), ev_ua (by omega)]; exact h4.1, h4.2.1, fun k hk => ⟨by rw [ev_ua (by omega), ev_ua (by omega)]; exact (h4.2.2 k hk).1, (h4.2.2 k hk).2⟩⟩ rfl rfl (fun a k q => ?_) h7 (by rw [ev_uk (by omega), ev_ua (by omega)]; exact h8) (by rw [ev_uk (by omega), ev_ua (by omega)]; exact h9), fun a k q => ⟨by rw [ev_ua (by omega), ev_ua (by omega)], rfl, rfl⟩, hA⟩
    · have hk : k < Q.1.1 + 1 := hk
      rw [ev_ua (by omega)]
      show _ = nI (if k = Q.1.1 then v else Q.1.2 k) ∧ (if k = Q.1.1 then v else Q.1.2 k) < 65536
      by_cases hkq : k = Q.1.1
      · rw [if_pos hkq, hkq, ev_us]; exact ⟨rfl, hv⟩
      · rw [if_neg hkq, ev_uk hkq]; exact h3 k (by omega)
    · rcases q with ⟨q1, q2⟩ | q
      · subst q1; rw [ev_uk (by omega), ev_ua (by omega)]
      · rw [ev_ua (by omega), ev_ua (by omega)]
  · rw [if_neg (by rw [nI_ltI (by omega) (by omega)]; exact hq), if_neg hq, if_neg hq]
    exact ⟨I, rfl, hcc, fun _ _ _ => ⟨rfl, rfl, rfl⟩, hA⟩
theorem e_Mo_type {v : Nat} (hv : v < 65536) (hl : ly_M sh R g) (hA : AU lim B Q) (hM : MO I g lim S Q) :
    ∃ I', f_Mo_type g (nI v) (sh, I, J, R, n) = some (ty_A Q, (sh, I', J, R, n)) ∧ MO I' g lim S (ty_S Q v) ∧ (∀ a k, a < g ∨ g + 27 < a → I' a k = I a k) := by
  have hM0 : MO (hv_u I g 0 0) g lim S Q := MO_0 hA.1 hM
  have hMM := hM0
  obtain ⟨h1, h2, h3, h4, h5, h6, h7, h8⟩ := hM0
  have h24 := h1.2.1
  unfold f_Mo_type ty_A ty_S
  rw [ev_ob (ms_o hl), ev_b, ev_sI, ev_b, ev_I, h1.1]
  by_cases hq : Q.1.1 < 24
  · rw [if_neg (by rw [li_24, nI_eq (by omega) (by omega)]; omega), if_pos hq, if_pos hq, ev_R, mr_3 hl, ev_ar0 (ms_1 hl), ev_b, ev_ix hq (by omega), ev_b, ev_sI, ev_b, ev_sI, ev_b, ev_I, ev_ua (by omega), h1.1, nI_1]
    refine ⟨_, rfl, MO_make2 (I := hv_u I g 0 0) (Q := Q) hA.1 hMM ⟨ev_us, show Q.1.1 + 1 ≤ 24 from hq, fun k hk => ?_⟩ ⟨by rw [ev_uk (by omega), ev_ua (by omega)]; exact h2.1, h2.2.1, fun k hk => ⟨by rw [ev_ua (by omega), ev_ua (by omega)]; exact (h2.2.2 k hk).1, (h2.2.2 k hk).2⟩⟩ rfl rfl (fun a k q1 q2 q3 => ?_) (bs_R_mono (by rw [ev_uk (by omega), ev_ua (by omega)]) (fun k => by rw [ev_ua (by omega), ev_ua (by omega)]) h5) (by rw [ev_uk (by omega), ev_ua (by omega)]; exact h6) (by rw [ev_uk (by omega), ev_ua (by omega)]; exact h7), fun a k q => by rw [ev_ua (by omega), ev_ua (by omega), ev_ua (by omega)]⟩
    · have hk : k < Q.1.1 + 1 := hk
      rw [ev_ua (by omega)]
      show _ = nI (if k = Q.1.1 then v else Q.1.2 k) ∧ (if k = Q.1.1 then v else Q.1.2 k) < 65536
      by_cases hkq : k = Q.1.1
      · rw [if_pos hkq, hkq, ev_us]; exact ⟨rfl, hv⟩
      · rw [if_neg hkq, ev_uk hkq]; exact h1.2.2 k (by omega)
    · by_cases ha : a = g
      · subst ha
        rw [ev_uk (by omega), ev_ua q2]
      · rw [ev_ua ha, ev_ua q2]
  · rw [if_pos (by rw [li_24, nI_eq (by omega) (by omega)]; omega), if_neg hq, if_neg hq]
    exact ⟨_, rfl, hMM, fun a k q => ev_ua (by omega)⟩
def wi_S (Q : Qs) : Qs := ((0, Q.1.2), Q.2)
theorem e_C_wipe (hA : AU lim B Q) (hc : CL sh I J R b lim Q) :
    ∃ I', f_C_wipe b (sh, I, J, R, n) = some (sh, I', J, R, n) ∧ CL sh I' J R b lim (wi_S Q) ∧ cK b lim I I' J J R R ∧ AU lim B (wi_S Q) := by
  obtain ⟨pr, dr, hl, hV⟩ := hc
  have c0 := hl.1
  have hV' := hV
  obtain ⟨h1, h2, h3, h4, h5, h6, h7, h8, h9⟩ := hV
  unfold f_C_wipe
  rw [ev_ob c0, ev_b, ev_sI, ev_b]
  refine ⟨_, rfl, CL_make2 (I := I) (J := J) (Q := Q) hA.1 hl hV' ev_us (Nat.zero_le _) (fun k hk => absurd hk (Nat.not_lt_zero _)) ⟨by rw [ev_ua (by omega)]; exact h4.1, h4.2.1, fun k hk => ⟨by rw [ev_ua (by omega)]; exact (h4.2.2 k hk).1, (h4.2.2 k hk).2⟩⟩ rfl rfl (fun a k q => ?_) h7 (by rw [ev_uk (by omega)]; exact h8) (by rw [ev_uk (by omega)]; exact h9), fun a k q => ⟨by rw [ev_ua (by omega)], rfl, rfl⟩, hA⟩
  rcases q with ⟨q1, q2⟩ | q
  · rw [ev_uk (by omega)]
  · rw [ev_ua (by omega)]
theorem e_Mo_wipe (hl : ly_M sh R g) (hA : AU lim B Q) (hM : MO I g lim S Q) :
    ∃ I', f_Mo_wipe g (sh, I, J, R, n) = some (sh, I', J, R, n) ∧ MO I' g lim S (wi_S Q) ∧ (∀ a k, a < g ∨ g + 27 < a → I' a k = I a k) := by
  have hM0 : MO (hv_u I g 0 0) g lim S Q := MO_0 hA.1 hM
  have hMM := hM0
  obtain ⟨h1, h2, h3, h4, h5, h6, h7, h8⟩ := hM0
  unfold f_Mo_wipe
  rw [ev_ob (ms_o hl), ev_b, ev_sI, ev_b, ev_sI, ev_b]
  refine ⟨_, rfl, MO_make2 (I := hv_u I g 0 0) (Q := Q) hA.1 hMM ⟨ev_us, Nat.zero_le _, fun k hk => absurd hk (Nat.not_lt_zero _)⟩ ⟨by rw [ev_uk (by omega)]; exact h2.1, h2.2.1, fun k hk => ⟨by rw [ev_ua (by omega)]; exact (h2.2.2 k hk).1, (h2.2.2 k hk).2⟩⟩ rfl rfl (fun a k q1 q2 q3 => ?_) (bs_R_mono (by rw [ev_uk (by omega)]) (fun k => by rw [ev_ua (by omega)]) h5) (by rw [ev_uk (by omega)]; exact h6) (by rw [ev_uk (by omega)]; exact h7), fun a k q => by rw [ev_ua (by omega), ev_ua (by omega)]⟩
  by_cases ha : a = g
  · rw [ev_uk (by omega)]
  · rw [ev_ua ha]
def cl_S (Q : Qs) : Qs := (Q.1, (0, Q.2.1.2), Q.2.2.1, Q.2.2.2.1, 0, -1, -1)
theorem e_C_forget (c0 : sh b = some (0, 0)) : f_C_forgetSearch b (sh, I, J, R, n) = some (sh, hv_u (hv_u I b 13 (-1)) b 12 (-1), hv_u J b 11 0, R, n) := by
  unfold f_C_forgetSearch
  rw [ev_ob c0, ev_b, ev_sJ, ev_b, e_C_note c0, ev_b]
theorem e_Mo_noS (hl : ly_M sh R g) : f_Mo_noSearch g (sh, I, J, R, n) = some (sh, hv_u (hv_u (hv_u I g 37 (-1)) g 38 (-1)) g 39 0, J, R, n) := by
  unfold f_Mo_noSearch
  rw [ev_ob (ms_o hl), ev_b, ev_sI, ev_b, ev_sI, ev_b, ev_sI, ev_b]
theorem e_C_clear (hA : AU lim B Q) (hc : CL sh I J R b lim Q) :
    ∃ I' J', f_C_clear b (sh, I, J, R, n) = some (sh, I', J', R, n) ∧ CL sh I' J' R b lim (cl_S Q) ∧ cK b lim I I' J J' R R ∧ AU lim B (cl_S Q) := by
  obtain ⟨pr, dr, hl, hV⟩ := hc
  have hLL := hl
  obtain ⟨c0, c1, c2, c3, c4, c5, c6, -⟩ := hl
  have hV' := hV
  obtain ⟨h1, h2, h3, h4, h5, h6, h7, h8, h9⟩ := hV
  unfold f_C_clear
  have e1 : f_Tx_empty (b + 3) (sh, I, J, R, n) = some (sh, hv_u I (b + 3) 1 0, J, R, n) := by
    unfold f_Tx_empty
    rw [ev_ob c6.1, ev_b, ev_sI, ev_b]
  rw [ev_ob c0, ev_b, ev_R, c5, ev_ob c6.1, ev_b, e1, ev_b, ev_ob c0, ev_b, e_C_forget c0, ev_b]
  refine ⟨_, _, rfl, CL_make2 (I := I) (J := J) (Q := Q) hA.1 hLL hV' ?_ h2 (fun k hk => ⟨?_, (h3 k hk).2⟩) ⟨?_, Nat.zero_le _, fun k hk => absurd hk (Nat.not_lt_zero _)⟩ rfl rfl (fun a k q => ?_) ev_us ev_us ((ev_uk (by omega)).trans ev_us), fun a k q => ⟨by rw [ev_ua (by omega), ev_ua (by omega), ev_ua (by omega)], by rw [ev_ua (by omega)], rfl⟩, hA⟩
  · rw [ev_uk (by omega), ev_uk (by omega), ev_ua (by omega)]; exact h1
  · rw [ev_ua (by omega), ev_ua (by omega), ev_ua (by omega)]; exact (h3 k hk).1
  · rw [ev_ua (by omega), ev_ua (by omega), ev_us]; rfl
  · rcases q with ⟨q1, q2⟩ | q
    · subst q1; rw [ev_uk (by omega), ev_uk (by omega), ev_ua (by omega)]
    · rw [ev_ua (by omega), ev_ua (by omega), ev_ua (by omega)]
theorem e_Mo_clearQ (hl : ly_M sh R g) (hA : AU lim B Q) (hM : MO I g lim S Q) :
    ∃ I', f_Mo_clear g (sh, I, J, R, n) = some (sh, I', J, R, n) ∧ MO I' g lim S (cl_S Q) ∧ (∀ a k, a < g ∨ g + 27 < a → I' a k = I a k) := by
  have hM0 : MO (hv_u I g 0 0) g lim S Q := MO_0 hA.1 hM
  have hMM := hM0
  obtain ⟨h1, h2, h3, h4, h5, h6, h7, h8⟩ := hM0
  unfold f_Mo_clear
  rw [ev_ob (ms_o hl), ev_b, ev_sI, ev_b, ev_sI, ev_b, e_Mo_noS hl, ev_b]
  have E : ∀ a k, (a ≠ g ∨ (k ≠ 4 ∧ k ≠ 37 ∧ k ≠ 38 ∧ k ≠ 39)) → (hv_u (hv_u (hv_u (hv_u (hv_u I g 0 0) g 4 0) g 37 (-1)) g 38 (-1)) g 39 0) a k = (hv_u I g 0 0) a k := fun a k q => by
    by_cases ha : a = g
    · rw [ev_uk (by omega), ev_uk (by omega), ev_uk (by omega), ev_uk (by omega)]
    · rw [ev_ua ha, ev_ua ha, ev_ua ha, ev_ua ha]
  refine ⟨_, rfl, MO_make2 (I := hv_u I g 0 0) (Q := Q) hA.1 hMM ⟨(E _ _ (by omega)).trans h1.1, h1.2.1, fun k hk => ⟨(E _ _ (by omega)).trans (h1.2.2 k hk).1, (h1.2.2 k hk).2⟩⟩ ⟨by rw [ev_uk (by omega), ev_uk (by omega), ev_uk (by omega), ev_us]; rfl, Nat.zero_le _, fun k hk => absurd hk (Nat.not_lt_zero _)⟩ rfl rfl (fun a k q1 q2 q3 => E _ _ (by omega)) (Or.inl ⟨rfl, ev_us⟩) ((ev_uk (by omega)).trans ev_us) (by rw [ev_uk (by omega), ev_uk (by omega), ev_us]; rfl), fun a k q => (E _ _ (by omega)).trans (ev_ua (by omega))⟩
end SC
