/-! WHAT THE METHODS DO: partial functions f_ over the view, loops L_, and the proofs c_, l_ that the bytecode does so; printed by wip/whole/gen_dec.py -/
def f_C_instruction (z0 : Nat) (x1 : Int32) (x2 : Int32) (s : hv_S) : Option ((Int32 ⊕ Nat) × hv_S) :=
  if x1 < 0 then
    some (.inr 114, hv_bump s)
  else
    (x_ob s 0 ((some z0))).bind fun a1 =>
    (x_ob s 8 (hv_R s a1 8)).bind fun a2 =>
    (f_Pr_size a2 s).bind fun p3 =>
    if x1 < p3.1 then
      if x2 = 0 then
        (x_ob p3.2 0 ((some z0))).bind fun a4 =>
        (x_ob p3.2 8 (hv_R p3.2 a4 8)).bind fun a5 =>
        (f_Pr_kindAt a5 x1 p3.2).bind fun p6 =>
        some ((.inl p6.1, p6.2))
      else if x2 = 1 then
        (x_ob p3.2 0 ((some z0))).bind fun a7 =>
        (x_ob p3.2 8 (hv_R p3.2 a7 8)).bind fun a8 =>
        (f_Pr_xAt a8 x1 p3.2).bind fun p9 =>
        some ((.inl p9.1, p9.2))
      else if x2 = 2 then
        (x_ob p3.2 0 ((some z0))).bind fun a10 =>
        (x_ob p3.2 8 (hv_R p3.2 a10 8)).bind fun a11 =>
        (f_Pr_yAt a11 x1 p3.2).bind fun p12 =>
        some ((.inl p12.1, p12.2))
      else
        some (.inr 89, hv_bump p3.2)
    else
      some (.inr 114, hv_bump p3.2)
set_option maxRecDepth 4000 in
set_option maxHeartbeats 2000000 in
theorem c_C_instruction {G : lt_G} {z0 : Nat} {x1 : Int32} {x2 : Int32} {s s9 : hv_S} {v : Int32} (h : f_C_instruction z0 x1 x2 s = some (.inl v, s9)) : Ck G m_C_instruction 2 0 0 [vR (some z0), vI x1, vI x2] s (some (vI v)) s9 := by
  refine Ck.of (by decide) (Nat.le_of_ble_eq_true rfl) ?_
  unfold f_C_instruction at h
  refine lk_iload_n d_C_instruction_0 rfl ?_
  refine lk_if_lt (tgt := 15) d_C_instruction_1 (by decide) (fun hc => ?_) (fun hc => ?_)
  · replace h := x_ifp hc h
    cases h
  · replace h := x_ifn hc h
    refine lk_iload_n d_C_instruction_4 rfl ?_
    refine lk_aload_n d_C_instruction_5 rfl ?_
    obtain ⟨a1, ha1, h⟩ := x_b h
    refine lk_getR (k := 8) d_C_instruction_6 ha1 (by decide) rfl (by decide) lf_C_51 rfl ?_
    obtain ⟨a2, ha2, h⟩ := x_b h
    obtain ⟨p3, hp3, h⟩ := x_b h
    refine lk_callV0 d_C_instruction_9 (x_obm ha2 rfl) (c_Pr_size hp3) (Nat.le_of_ble_eq_true rfl) rfl M_Pr_size lm_C_106 in_Pr_size se_Pr_size (by decide) rfl (Nat.le_of_ble_eq_true rfl) ?_
    refine lk_icmp_lt (tgt := 25) d_C_instruction_12 (by decide) (fun hc => ?_) (fun hc => ?_)
    · replace h := x_ifp hc h
      refine lk_iload_n d_C_instruction_25 rfl ?_
      rcases x_ifc h with ⟨g0, h⟩ | ⟨g0, h⟩
      · refine lk_tableIn (tgt := 52) d_C_instruction_26 (by rw [g0]; decide) (by rw [g0]; decide) (by rw [g0]; rfl) (by decide) ?_
        refine lk_aload_n d_C_instruction_52 rfl ?_
        obtain ⟨a4, ha4, h⟩ := x_b h
        refine lk_getR (k := 8) d_C_instruction_53 ha4 (by decide) rfl (by decide) lf_C_51 rfl ?_
        refine lk_iload_n d_C_instruction_56 rfl ?_
        obtain ⟨a5, ha5, h⟩ := x_b h
        obtain ⟨p6, hp6, h⟩ := x_b h
        refine lk_callV0 d_C_instruction_57 (x_obm ha5 rfl) (c_Pr_kindAt hp6) (Nat.le_of_ble_eq_true rfl) rfl M_Pr_kindAt lm_C_115 in_Pr_kindAt se_Pr_kindAt (by decide) rfl (Nat.le_of_ble_eq_true rfl) ?_
        cases h
        exact Lk.stop ⟨rfl, Or.inr (Or.inl ⟨_, _, d_C_instruction_60, rfl, rfl, rfl, rfl⟩)⟩
      · rcases x_ifc h with ⟨g1, h⟩ | ⟨g1, h⟩
        · refine lk_tableIn (tgt := 61) d_C_instruction_26 (by rw [g1]; decide) (by rw [g1]; decide) (by rw [g1]; rfl) (by decide) ?_
          refine lk_aload_n d_C_instruction_61 rfl ?_
          obtain ⟨a7, ha7, h⟩ := x_b h
          refine lk_getR (k := 8) d_C_instruction_62 ha7 (by decide) rfl (by decide) lf_C_51 rfl ?_
          refine lk_iload_n d_C_instruction_65 rfl ?_
          obtain ⟨a8, ha8, h⟩ := x_b h
          obtain ⟨p9, hp9, h⟩ := x_b h
          refine lk_callV0 d_C_instruction_66 (x_obm ha8 rfl) (c_Pr_xAt hp9) (Nat.le_of_ble_eq_true rfl) rfl M_Pr_xAt lm_C_119 in_Pr_xAt se_Pr_xAt (by decide) rfl (Nat.le_of_ble_eq_true rfl) ?_
          cases h
          exact Lk.stop ⟨rfl, Or.inr (Or.inl ⟨_, _, d_C_instruction_69, rfl, rfl, rfl, rfl⟩)⟩
        · rcases x_ifc h with ⟨g2, h⟩ | ⟨g2, h⟩
          · refine lk_tableIn (tgt := 70) d_C_instruction_26 (by rw [g2]; decide) (by rw [g2]; decide) (by rw [g2]; rfl) (by decide) ?_
            refine lk_aload_n d_C_instruction_70 rfl ?_
            obtain ⟨a10, ha10, h⟩ := x_b h
            refine lk_getR (k := 8) d_C_instruction_71 ha10 (by decide) rfl (by decide) lf_C_51 rfl ?_
            refine lk_iload_n d_C_instruction_74 rfl ?_
            obtain ⟨a11, ha11, h⟩ := x_b h
            obtain ⟨p12, hp12, h⟩ := x_b h
            refine lk_callV0 d_C_instruction_75 (x_obm ha11 rfl) (c_Pr_yAt hp12) (Nat.le_of_ble_eq_true rfl) rfl M_Pr_yAt lm_C_122 in_Pr_yAt se_Pr_yAt (by decide) rfl (Nat.le_of_ble_eq_true rfl) ?_
            cases h
            exact Lk.stop ⟨rfl, Or.inr (Or.inl ⟨_, _, d_C_instruction_78, rfl, rfl, rfl, rfl⟩)⟩
          · have e0 := lv_neT g0 (a := 0) rfl
            have e1 := lv_neT g1 (a := 1) rfl
            have e2 := lv_neT g2 (a := 2) rfl
            refine lk_tableOut (tgt := 79) d_C_instruction_26 (by omega) (by decide) ?_
            cases h
    · replace h := x_ifn hc h
      cases h
set_option maxRecDepth 4000 in
set_option maxHeartbeats 2000000 in
theorem t_C_instruction {G : lt_G} (hG : ∀ s A, G.2.2 s A → th_Y s A) {z0 : Nat} {x1 : Int32} {x2 : Int32} {s s9 : hv_S} {ic : Nat} (h : f_C_instruction z0 x1 x2 s = some (.inr ic, s9)) : Cth G m_C_instruction 6 [vR (some z0), vI x1, vI x2] s ic s9 := by
  refine Cth.of hG rfl (by decide) (Nat.le_of_ble_eq_true rfl) (by decide) ?_
  unfold f_C_instruction at h
  refine lk_iload_n d_C_instruction_0 rfl ?_
  refine lk_if_lt (tgt := 15) d_C_instruction_1 (by decide) (fun hc => ?_) (fun hc => ?_)
  · replace h := x_ifp hc h
    cases h
    exact Lk.stop ⟨rfl, rfl, Nat.le_refl _, Nat.le_refl _, by decide, 110, 112, "no such instruction", ⟨d_C_instruction_15, d_C_instruction_18, d_C_instruction_19, d_C_instruction_21, d_C_instruction_24⟩, by decide, lc_C_110, nE_114⟩
  · replace h := x_ifn hc h
    refine lk_iload_n d_C_instruction_4 rfl ?_
    refine lk_aload_n d_C_instruction_5 rfl ?_
    obtain ⟨a1, ha1, h⟩ := x_b h
    refine lk_getR (k := 8) d_C_instruction_6 ha1 (by decide) rfl (by decide) lf_C_51 rfl ?_
    obtain ⟨a2, ha2, h⟩ := x_b h
    obtain ⟨p3, hp3, h⟩ := x_b h
    refine lk_callV0 d_C_instruction_9 (x_obm ha2 rfl) (c_Pr_size hp3) (Nat.le_of_ble_eq_true rfl) rfl M_Pr_size lm_C_106 in_Pr_size se_Pr_size (by decide) rfl (Nat.le_of_ble_eq_true rfl) ?_
    refine lk_icmp_lt (tgt := 25) d_C_instruction_12 (by decide) (fun hc => ?_) (fun hc => ?_)
    · replace h := x_ifp hc h
      refine lk_iload_n d_C_instruction_25 rfl ?_
      rcases x_ifc h with ⟨g0, h⟩ | ⟨g0, h⟩
      · refine lk_tableIn (tgt := 52) d_C_instruction_26 (by rw [g0]; decide) (by rw [g0]; decide) (by rw [g0]; rfl) (by decide) ?_
        refine lk_aload_n d_C_instruction_52 rfl ?_
        obtain ⟨a4, ha4, h⟩ := x_b h
        refine lk_getR (k := 8) d_C_instruction_53 ha4 (by decide) rfl (by decide) lf_C_51 rfl ?_
        refine lk_iload_n d_C_instruction_56 rfl ?_
        obtain ⟨a5, ha5, h⟩ := x_b h
        obtain ⟨p6, hp6, h⟩ := x_b h
        refine lk_callV0 d_C_instruction_57 (x_obm ha5 rfl) (c_Pr_kindAt hp6) (Nat.le_of_ble_eq_true rfl) rfl M_Pr_kindAt lm_C_115 in_Pr_kindAt se_Pr_kindAt (by decide) rfl (Nat.le_of_ble_eq_true rfl) ?_
        cases h
      · rcases x_ifc h with ⟨g1, h⟩ | ⟨g1, h⟩
        · refine lk_tableIn (tgt := 61) d_C_instruction_26 (by rw [g1]; decide) (by rw [g1]; decide) (by rw [g1]; rfl) (by decide) ?_
          refine lk_aload_n d_C_instruction_61 rfl ?_
          obtain ⟨a7, ha7, h⟩ := x_b h
          refine lk_getR (k := 8) d_C_instruction_62 ha7 (by decide) rfl (by decide) lf_C_51 rfl ?_
          refine lk_iload_n d_C_instruction_65 rfl ?_
          obtain ⟨a8, ha8, h⟩ := x_b h
          obtain ⟨p9, hp9, h⟩ := x_b h
          refine lk_callV0 d_C_instruction_66 (x_obm ha8 rfl) (c_Pr_xAt hp9) (Nat.le_of_ble_eq_true rfl) rfl M_Pr_xAt lm_C_119 in_Pr_xAt se_Pr_xAt (by decide) rfl (Nat.le_of_ble_eq_true rfl) ?_
          cases h
        · rcases x_ifc h with ⟨g2, h⟩ | ⟨g2, h⟩
          · refine lk_tableIn (tgt := 70) d_C_instruction_26 (by rw [g2]; decide) (by rw [g2]; decide) (by rw [g2]; rfl) (by decide) ?_
            refine lk_aload_n d_C_instruction_70 rfl ?_
            obtain ⟨a10, ha10, h⟩ := x_b h
            refine lk_getR (k := 8) d_C_instruction_71 ha10 (by decide) rfl (by decide) lf_C_51 rfl ?_
            refine lk_iload_n d_C_instruction_74 rfl ?_
            obtain ⟨a11, ha11, h⟩ := x_b h
            obtain ⟨p12, hp12, h⟩ := x_b h
            refine lk_callV0 d_C_instruction_75 (x_obm ha11 rfl) (c_Pr_yAt hp12) (Nat.le_of_ble_eq_true rfl) rfl M_Pr_yAt lm_C_122 in_Pr_yAt se_Pr_yAt (by decide) rfl (Nat.le_of_ble_eq_true rfl) ?_
            cases h
          · have e0 := lv_neT g0 (a := 0) rfl
            have e1 := lv_neT g1 (a := 1) rfl
            have e2 := lv_neT g2 (a := 2) rfl
            refine lk_tableOut (tgt := 79) d_C_instruction_26 (by omega) (by decide) ?_
            cases h
            exact Lk.stop ⟨rfl, rfl, Nat.le_refl _, Nat.le_refl _, by decide, 85, 125, "no such what", ⟨d_C_instruction_79, d_C_instruction_82, d_C_instruction_83, d_C_instruction_85, d_C_instruction_88⟩, by decide, lc_C_85, nE_89⟩
    · replace h := x_ifn hc h
      cases h
      exact Lk.stop ⟨rfl, rfl, Nat.le_refl _, Nat.le_refl _, by decide, 110, 112, "no such instruction", ⟨d_C_instruction_15, d_C_instruction_18, d_C_instruction_19, d_C_instruction_21, d_C_instruction_24⟩, by decide, lc_C_110, nE_114⟩
def f_C_simple (z0 : Nat) (s : hv_S) : Option ((Int32 ⊕ Nat) × hv_S) :=
  (x_ob s 0 ((some z0))).bind fun a1 =>
  (x_ob s 8 (hv_R s a1 8)).bind fun a2 =>
  (f_Pr_size a2 s).bind fun p3 =>
  if p3.1 = 0 then
    some (.inr 131, hv_bump p3.2)
  else
    (x_ob p3.2 0 ((some z0))).bind fun a4 =>
    (x_z (hv_I p3.2 a4 10)).bind fun z5 =>
    some ((.inl z5, p3.2))
set_option maxRecDepth 4000 in
set_option maxHeartbeats 2000000 in
theorem c_C_simple {G : lt_G} {z0 : Nat} {s s9 : hv_S} {v : Int32} (h : f_C_simple z0 s = some (.inl v, s9)) : Ck G m_C_simple 2 0 0 [vR (some z0)] s (some (vI v)) s9 := by
  refine Ck.of (by decide) (Nat.le_of_ble_eq_true rfl) ?_
  unfold f_C_simple at h
  refine lk_aload_n d_C_simple_0 rfl ?_
  obtain ⟨a1, ha1, h⟩ := x_b h
  refine lk_getR (k := 8) d_C_simple_1 ha1 (by decide) rfl (by decide) lf_C_51 rfl ?_
  obtain ⟨a2, ha2, h⟩ := x_b h
  obtain ⟨p3, hp3, h⟩ := x_b h
  refine lk_callV0 d_C_simple_4 (x_obm ha2 rfl) (c_Pr_size hp3) (Nat.le_of_ble_eq_true rfl) rfl M_Pr_size lm_C_106 in_Pr_size se_Pr_size (by decide) rfl (Nat.le_of_ble_eq_true rfl) ?_
  refine lk_if_ne (tgt := 20) d_C_simple_7 (by decide) (fun hc => ?_) (fun hc => ?_)
  · replace h := x_ifn hc h
    refine lk_aload_n d_C_simple_20 rfl ?_
    obtain ⟨a4, ha4, h⟩ := x_b h
    refine lk_getI (k := 10) d_C_simple_21 ha4 (by decide) rfl (by decide) lf_C_96 rfl ?_
    obtain ⟨z5, hz50, h⟩ := x_b h
    obtain ⟨rfl, hz5⟩ := x_z_some hz50
    cases h
    exact Lk.stop ⟨rfl, Or.inr (Or.inl ⟨_, _, d_C_simple_24, rfl, x_zn hz5, rfl, rfl⟩)⟩
  · replace h := x_ifp hc h
    cases h
set_option maxRecDepth 4000 in
set_option maxHeartbeats 2000000 in
theorem t_C_simple {G : lt_G} (hG : ∀ s A, G.2.2 s A → th_Y s A) {z0 : Nat} {s s9 : hv_S} {ic : Nat} (h : f_C_simple z0 s = some (.inr ic, s9)) : Cth G m_C_simple 6 [vR (some z0)] s ic s9 := by
  refine Cth.of hG rfl (by decide) (Nat.le_of_ble_eq_true rfl) (by decide) ?_
  unfold f_C_simple at h
  refine lk_aload_n d_C_simple_0 rfl ?_
  obtain ⟨a1, ha1, h⟩ := x_b h
  refine lk_getR (k := 8) d_C_simple_1 ha1 (by decide) rfl (by decide) lf_C_51 rfl ?_
  obtain ⟨a2, ha2, h⟩ := x_b h
  obtain ⟨p3, hp3, h⟩ := x_b h
  refine lk_callV0 d_C_simple_4 (x_obm ha2 rfl) (c_Pr_size hp3) (Nat.le_of_ble_eq_true rfl) rfl M_Pr_size lm_C_106 in_Pr_size se_Pr_size (by decide) rfl (Nat.le_of_ble_eq_true rfl) ?_
  refine lk_if_ne (tgt := 20) d_C_simple_7 (by decide) (fun hc => ?_) (fun hc => ?_)
  · replace h := x_ifn hc h
    refine lk_aload_n d_C_simple_20 rfl ?_
    obtain ⟨a4, ha4, h⟩ := x_b h
    refine lk_getI (k := 10) d_C_simple_21 ha4 (by decide) rfl (by decide) lf_C_96 rfl ?_
    obtain ⟨z5, hz50, h⟩ := x_b h
    obtain ⟨rfl, hz5⟩ := x_z_some hz50
    cases h
  · replace h := x_ifp hc h
    cases h
    exact Lk.stop ⟨rfl, rfl, Nat.le_refl _, Nat.le_refl _, by decide, 127, 129, "nothing is compiled", ⟨d_C_simple_10, d_C_simple_13, d_C_simple_14, d_C_simple_16, d_C_simple_19⟩, by decide, lc_C_127, nE_131⟩
def f_C_slot (z0 : Nat) (x1 : Int32) (x2 : Int32) (s : hv_S) : Option ((Int32 ⊕ Nat) × hv_S) :=
  if x1 < 0 then
    some (.inr 114, hv_bump s)
  else
    if x1 ≤ 3 then
      (x_ob s 0 ((some z0))).bind fun a1 =>
      ((
        if x2 = 0 then
          some ((2 : Int32) * x1)
        else
          some (((2 : Int32) * x1) + (1 : Int32))
      ) : Option (Int32)).bind fun t2 =>
      (f_C_placeIn (hv_J s a1 11) t2 s).bind fun p3 =>
      some ((.inl p3.1, p3.2))
    else
      some (.inr 114, hv_bump s)
set_option maxRecDepth 4000 in
set_option maxHeartbeats 2000000 in
theorem c_C_slot {G : lt_G} {z0 : Nat} {x1 : Int32} {x2 : Int32} {s s9 : hv_S} {v : Int32} (h : f_C_slot z0 x1 x2 s = some (.inl v, s9)) : Ck G m_C_slot 2 0 0 [vR (some z0), vI x1, vI x2] s (some (vI v)) s9 := by
  refine Ck.of (by decide) (Nat.le_of_ble_eq_true rfl) ?_
  unfold f_C_slot at h
  refine lk_iload_n d_C_slot_0 rfl ?_
  refine lk_if_lt (tgt := 9) d_C_slot_1 (by decide) (fun hc => ?_) (fun hc => ?_)
  · replace h := x_ifp hc h
    cases h
  · replace h := x_ifn hc h
    refine lk_iload_n d_C_slot_4 rfl ?_
    refine lk_iconst (v := 3) d_C_slot_5 rfl ?_
    refine lk_icmp_le (tgt := 19) d_C_slot_6 (by decide) (fun hc => ?_) (fun hc => ?_)
    · replace h := x_ifp hc h
      refine lk_aload_n d_C_slot_19 rfl ?_
      obtain ⟨a1, ha1, h⟩ := x_b h
      refine lk_getJ (k := 11) d_C_slot_20 ha1 (by decide) rfl (by decide) lf_C_58 rfl ?_
      refine lk_iload_n d_C_slot_23 rfl ?_
      obtain ⟨t2, hj, h⟩ := x_b h
      refine Lk.joinA 38 [] [] rfl 1 [vI t2] ?_ ?_
      · replace h := hj
        refine lk_if_eq (tgt := 35) d_C_slot_24 (by decide) (fun hc => ?_) (fun hc => ?_)
        · replace h := x_ifp hc h
          refine lk_iconst (v := 2) d_C_slot_35 rfl ?_
          refine lk_iload_n d_C_slot_36 rfl ?_
          refine lk_imul d_C_slot_37 ?_
          cases h
          refine Lk.sel [] rfl ?_
          exact Lk.stop ⟨rfl, rfl, rfl, rfl, rfl, rfl⟩
        · replace h := x_ifn hc h
          refine lk_iconst (v := 2) d_C_slot_27 rfl ?_
          refine lk_iload_n d_C_slot_28 rfl ?_
          refine lk_imul d_C_slot_29 ?_
          refine lk_iconst (v := 1) d_C_slot_30 rfl ?_
          refine lk_iadd d_C_slot_31 ?_
          refine lk_goto (tgt := 38) d_C_slot_32 (by decide) ?_
          cases h
          refine Lk.sel [] rfl ?_
          exact Lk.stop ⟨rfl, rfl, rfl, rfl, rfl, rfl⟩
      · clear hj
        obtain ⟨p3, hp3, h⟩ := x_b h
        refine lk_callS0 d_C_slot_38 (c_C_placeIn hp3) (Nat.le_of_ble_eq_true rfl) rfl M_C_placeIn lm_C_167 st_C_placeIn (Nat.le_of_ble_eq_true rfl) ?_
        cases h
        exact Lk.stop ⟨rfl, Or.inr (Or.inl ⟨_, _, d_C_slot_41, rfl, rfl, rfl, rfl⟩)⟩
    · replace h := x_ifn hc h
      cases h
set_option maxRecDepth 4000 in
set_option maxHeartbeats 2000000 in
theorem t_C_slot {G : lt_G} (hG : ∀ s A, G.2.2 s A → th_Y s A) {z0 : Nat} {x1 : Int32} {x2 : Int32} {s s9 : hv_S} {ic : Nat} (h : f_C_slot z0 x1 x2 s = some (.inr ic, s9)) : Cth G m_C_slot 6 [vR (some z0), vI x1, vI x2] s ic s9 := by
  refine Cth.of hG rfl (by decide) (Nat.le_of_ble_eq_true rfl) (by decide) ?_
  unfold f_C_slot at h
  refine lk_iload_n d_C_slot_0 rfl ?_
  refine lk_if_lt (tgt := 9) d_C_slot_1 (by decide) (fun hc => ?_) (fun hc => ?_)
  · replace h := x_ifp hc h
    cases h
    exact Lk.stop ⟨rfl, rfl, Nat.le_refl _, Nat.le_refl _, by decide, 110, 171, "no such group", ⟨d_C_slot_9, d_C_slot_12, d_C_slot_13, d_C_slot_15, d_C_slot_18⟩, by decide, lc_C_110, nE_114⟩
  · replace h := x_ifn hc h
    refine lk_iload_n d_C_slot_4 rfl ?_
    refine lk_iconst (v := 3) d_C_slot_5 rfl ?_
    refine lk_icmp_le (tgt := 19) d_C_slot_6 (by decide) (fun hc => ?_) (fun hc => ?_)
    · replace h := x_ifp hc h
      refine lk_aload_n d_C_slot_19 rfl ?_
      obtain ⟨a1, ha1, h⟩ := x_b h
      refine lk_getJ (k := 11) d_C_slot_20 ha1 (by decide) rfl (by decide) lf_C_58 rfl ?_
      refine lk_iload_n d_C_slot_23 rfl ?_
      obtain ⟨t2, hj, h⟩ := x_b h
      refine Lk.joinA 38 [] [] rfl 1 [vI t2] ?_ ?_
      · replace h := hj
        refine lk_if_eq (tgt := 35) d_C_slot_24 (by decide) (fun hc => ?_) (fun hc => ?_)
        · replace h := x_ifp hc h
          refine lk_iconst (v := 2) d_C_slot_35 rfl ?_
          refine lk_iload_n d_C_slot_36 rfl ?_
          refine lk_imul d_C_slot_37 ?_
          cases h
          refine Lk.sel [] rfl ?_
          exact Lk.stop ⟨rfl, rfl, rfl, rfl, rfl, rfl⟩
        · replace h := x_ifn hc h
          refine lk_iconst (v := 2) d_C_slot_27 rfl ?_
          refine lk_iload_n d_C_slot_28 rfl ?_
          refine lk_imul d_C_slot_29 ?_
          refine lk_iconst (v := 1) d_C_slot_30 rfl ?_
          refine lk_iadd d_C_slot_31 ?_
          refine lk_goto (tgt := 38) d_C_slot_32 (by decide) ?_
          cases h
          refine Lk.sel [] rfl ?_
          exact Lk.stop ⟨rfl, rfl, rfl, rfl, rfl, rfl⟩
      · clear hj
        obtain ⟨p3, hp3, h⟩ := x_b h
        refine lk_callS0 d_C_slot_38 (c_C_placeIn hp3) (Nat.le_of_ble_eq_true rfl) rfl M_C_placeIn lm_C_167 st_C_placeIn (Nat.le_of_ble_eq_true rfl) ?_
        cases h
    · replace h := x_ifn hc h
      cases h
      exact Lk.stop ⟨rfl, rfl, Nat.le_refl _, Nat.le_refl _, by decide, 110, 171, "no such group", ⟨d_C_slot_9, d_C_slot_12, d_C_slot_13, d_C_slot_15, d_C_slot_18⟩, by decide, lc_C_110, nE_114⟩
def L_C_breaks_29 : Nat → Option Nat → Int32 → Int32 → Int32 → Int32 → hv_S → Option (Int32 × hv_S)
  | 0, _, _, _, _, _, _ => none
  | n + 1, x0, x1, x2, x3, x4, s =>
    if 20 < x4 then
      some (x1, s)
    else
      (x_ob s 0 x0).bind fun a4 =>
      (x_ob s 2 (hv_R s a4 3)).bind fun a5 =>
      (f_Tx_length a5 s).bind fun p6 =>
      if p6.1 < x3 then
        some (x1, p6.2)
      else
        (x_ob p6.2 0 x0).bind fun a7 =>
        (x_ob p6.2 3 (hv_R p6.2 a7 4)).bind fun a8 =>
        (f_Ls_find a8 (hv_R p6.2 a7 8) (hv_R p6.2 a7 3) x3 1 p6.2).bind fun p9 =>
        if (lg_cmp p9.1 0) = 0 then
          some (x1, p9.2)
        else
          (f_C_placeIn p9.1 0 p9.2).bind fun p10 =>
          (f_C_placeIn p9.1 1 p10.2).bind fun p11 =>
          ((
            if p10.1 = p11.1 then
              some 1
            else
              some 0
          ) : Option (Int32)).bind fun t12 =>
          ((
            if t12 = 0 then
              some (x1 + 1)
            else
              if p10.1 = x2 then
                some x1
              else
                some (x1 + 1)
          ) : Option (Int32)).bind fun t13 =>
          ((
            if t12 = 0 then
              some p11.1
            else
              some (p11.1 + (1 : Int32))
          ) : Option (Int32)).bind fun t14 =>
          L_C_breaks_29 n x0 t13 p11.1 t14 (x4 + 1) p11.2
set_option maxRecDepth 4000 in
set_option maxHeartbeats 2000000 in
theorem l_C_breaks_29 {G : lt_G} : ∀ (n : Nat) (x0 : Option Nat) (x1 : Int32) (x2 : Int32) (x3 : Int32) (x4 : Int32) (s : hv_S) (e0 : Int32 × hv_S), L_C_breaks_29 n x0 x1 x2 x3 x4 s = some e0 → Lk G m_C_breaks 6 29 [(0, vR x0), (1, vI x1), (2, vI x2), (3, vI x3), (4, vI x4)] [] s 0 0 (lk_at 144 [(1, vI e0.1)] [] e0.2 0 0) := by
  intro n
  induction n with
  | zero => intro x0 x1 x2 x3 x4 s e0 h; cases h
  | succ n ih =>
    intro x0 x1 x2 x3 x4 s e0 h
    unfold L_C_breaks_29 at h
    refine lk_iload d_C_breaks_29 rfl ?_
    refine lk_bipush (v := 20) d_C_breaks_31 rfl ?_
    refine lk_icmp_gt (tgt := 144) d_C_breaks_33 (by decide) (fun hc => ?_) (fun hc => ?_)
    · replace h := x_ifp hc h
      cases h
      refine Lk.sel [1] rfl ?_
      exact Lk.stop ⟨rfl, rfl, rfl, rfl, rfl, rfl⟩
    · replace h := x_ifn hc h
      refine lk_iload_n d_C_breaks_36 rfl ?_
      refine lk_aload_n d_C_breaks_37 rfl ?_
      obtain ⟨a4, ha4, h⟩ := x_b h
      refine lk_getR (k := 3) d_C_breaks_38 ha4 (by decide) rfl (by decide) lf_C_23 rfl ?_
      obtain ⟨a5, ha5, h⟩ := x_b h
      obtain ⟨p6, hp6, h⟩ := x_b h
      refine lk_callV0 d_C_breaks_41 (x_obm ha5 rfl) (c_Tx_length hp6) (Nat.le_of_ble_eq_true rfl) rfl M_Tx_length lm_C_179 in_Tx_length se_Tx_length (by decide) rfl (Nat.le_of_ble_eq_true rfl) ?_
      refine lk_icmp_gt (tgt := 144) d_C_breaks_44 (by decide) (fun hc => ?_) (fun hc => ?_)
      · replace h := x_ifp hc h
        cases h
        refine Lk.sel [1] rfl ?_
        exact Lk.stop ⟨rfl, rfl, rfl, rfl, rfl, rfl⟩
      · replace h := x_ifn hc h
        refine lk_aload_n d_C_breaks_47 rfl ?_
        obtain ⟨a7, ha7, h⟩ := x_b h
        refine lk_getR (k := 4) d_C_breaks_48 ha7 (by decide) rfl (by decide) lf_C_30 rfl ?_
        refine lk_aload_n d_C_breaks_51 rfl ?_
        refine lk_getR (k := 8) d_C_breaks_52 ha7 (by decide) rfl (by decide) lf_C_51 rfl ?_
        refine lk_aload_n d_C_breaks_55 rfl ?_
        refine lk_getR (k := 3) d_C_breaks_56 ha7 (by decide) rfl (by decide) lf_C_23 rfl ?_
        refine lk_iload_n d_C_breaks_59 rfl ?_
        refine lk_iconst (v := 1) d_C_breaks_60 rfl ?_
        obtain ⟨a8, ha8, h⟩ := x_b h
        obtain ⟨p9, hp9, h⟩ := x_b h
        refine lk_callV0 d_C_breaks_61 (x_obm ha8 rfl) (c_Ls_find hp9) (Nat.le_of_ble_eq_true rfl) rfl M_Ls_find lm_C_182 in_Ls_find se_Ls_find (by decide) rfl (Nat.le_of_ble_eq_true rfl) ?_
        refine lk_lstore d_C_breaks_64 (by decide) rfl ?_
        refine lk_lload d_C_breaks_66 rfl ?_
        refine lk_lconst (v := 0) d_C_breaks_68 rfl ?_
        refine lk_lcmp d_C_breaks_69 ?_
        refine lk_if_ne (tgt := 76) d_C_breaks_70 (by decide) (fun hc => ?_) (fun hc => ?_)
        · replace h := x_ifn hc h
          refine lk_lload d_C_breaks_76 rfl ?_
          refine lk_iconst (v := 0) d_C_breaks_78 rfl ?_
          obtain ⟨p10, hp10, h⟩ := x_b h
          refine lk_callS0 d_C_breaks_79 (c_C_placeIn hp10) (Nat.le_of_ble_eq_true rfl) rfl M_C_placeIn lm_C_167 st_C_placeIn (Nat.le_of_ble_eq_true rfl) ?_
          refine lk_istore d_C_breaks_82 (by decide) rfl ?_
          refine lk_lload d_C_breaks_84 rfl ?_
          refine lk_iconst (v := 1) d_C_breaks_86 rfl ?_
          obtain ⟨p11, hp11, h⟩ := x_b h
          refine lk_callS0 d_C_breaks_87 (c_C_placeIn hp11) (Nat.le_of_ble_eq_true rfl) rfl M_C_placeIn lm_C_167 st_C_placeIn (Nat.le_of_ble_eq_true rfl) ?_
          refine lk_istore d_C_breaks_90 (by decide) rfl ?_
          refine lk_iload d_C_breaks_92 rfl ?_
          refine lk_iload d_C_breaks_94 rfl ?_
          obtain ⟨t12, hj, h⟩ := x_b h
          refine Lk.joinA 104 [0, 1, 2, 4, 7, 8] [] rfl 2 [vI t12] ?_ ?_
          · replace h := hj
            refine lk_icmp_ne (tgt := 103) d_C_breaks_96 (by decide) (fun hc => ?_) (fun hc => ?_)
            · replace h := x_ifn hc h
              refine lk_iconst (v := 0) d_C_breaks_103 rfl ?_
              cases h
              refine Lk.sel [0, 1, 2, 4, 7, 8] rfl ?_
              exact Lk.stop ⟨rfl, rfl, rfl, rfl, rfl, rfl⟩
            · replace h := x_ifp hc h
              refine lk_iconst (v := 1) d_C_breaks_99 rfl ?_
              refine lk_goto (tgt := 104) d_C_breaks_100 (by decide) ?_
              cases h
              refine Lk.sel [0, 1, 2, 4, 7, 8] rfl ?_
              exact Lk.stop ⟨rfl, rfl, rfl, rfl, rfl, rfl⟩
          · clear hj
            refine lk_istore d_C_breaks_104 (by decide) rfl ?_
            refine lk_iload d_C_breaks_106 rfl ?_
            obtain ⟨t13, hj, h⟩ := x_b h
            refine Lk.joinA 120 [0, 1, 4, 8, 9] [(1, vI t13)] rfl 1 [] ?_ ?_
            · replace h := hj
              refine lk_if_eq (tgt := 117) d_C_breaks_108 (by decide) (fun hc => ?_) (fun hc => ?_)
              · replace h := x_ifp hc h
                refine lk_iinc (v := _ + 1) d_C_breaks_117 rfl rfl (by decide) rfl ?_
                cases h
                refine Lk.sel [0, 1, 4, 8, 9] rfl ?_
                exact Lk.stop ⟨rfl, rfl, rfl, rfl, rfl, rfl⟩
              · replace h := x_ifn hc h
                refine lk_iload d_C_breaks_111 rfl ?_
                refine lk_iload_n d_C_breaks_113 rfl ?_
                refine lk_icmp_eq (tgt := 120) d_C_breaks_114 (by decide) (fun hc => ?_) (fun hc => ?_)
                · replace h := x_ifp hc h
                  cases h
                  refine Lk.sel [0, 1, 4, 8, 9] rfl ?_
                  exact Lk.stop ⟨rfl, rfl, rfl, rfl, rfl, rfl⟩
                · replace h := x_ifn hc h
                  refine lk_iinc (v := _ + 1) d_C_breaks_117 rfl rfl (by decide) rfl ?_
                  cases h
                  refine Lk.sel [0, 1, 4, 8, 9] rfl ?_
                  exact Lk.stop ⟨rfl, rfl, rfl, rfl, rfl, rfl⟩
            · clear hj
              refine lk_iload d_C_breaks_120 rfl ?_
              refine lk_istore_n d_C_breaks_122 (by decide) rfl ?_
              refine lk_iload d_C_breaks_123 rfl ?_
              obtain ⟨t14, hj, h⟩ := x_b h
              refine Lk.joinA 137 [0, 1, 2, 4] [] rfl 1 [vI t14] ?_ ?_
              · replace h := hj
                refine lk_if_eq (tgt := 135) d_C_breaks_125 (by decide) (fun hc => ?_) (fun hc => ?_)
                · replace h := x_ifp hc h
                  refine lk_iload d_C_breaks_135 rfl ?_
                  cases h
                  refine Lk.sel [0, 1, 2, 4] rfl ?_
                  exact Lk.stop ⟨rfl, rfl, rfl, rfl, rfl, rfl⟩
                · replace h := x_ifn hc h
                  refine lk_iload d_C_breaks_128 rfl ?_
                  refine lk_iconst (v := 1) d_C_breaks_130 rfl ?_
                  refine lk_iadd d_C_breaks_131 ?_
                  refine lk_goto (tgt := 137) d_C_breaks_132 (by decide) ?_
                  cases h
                  refine Lk.sel [0, 1, 2, 4] rfl ?_
                  exact Lk.stop ⟨rfl, rfl, rfl, rfl, rfl, rfl⟩
              · clear hj
                refine lk_istore_n d_C_breaks_137 (by decide) rfl ?_
                refine lk_iinc (v := _ + 1) d_C_breaks_138 rfl rfl (by decide) rfl ?_
                refine lk_goto (tgt := 29) d_C_breaks_141 (by decide) ?_
                refine Lk.sel [0, 1, 2, 3, 4] rfl ?_
                exact ih _ _ _ _ _ _ _ h
        · replace h := x_ifp hc h
          refine lk_goto (tgt := 144) d_C_breaks_73 (by decide) ?_
          cases h
          refine Lk.sel [1] rfl ?_
          exact Lk.stop ⟨rfl, rfl, rfl, rfl, rfl, rfl⟩
def f_C_breaks (z0 : Nat) (s : hv_S) : Option ((Int32 ⊕ Nat) × hv_S) :=
  (x_ob s 0 ((some z0))).bind fun a1 =>
  (x_ob s 8 (hv_R s a1 8)).bind fun a2 =>
  (f_Pr_size a2 s).bind fun p3 =>
  if p3.1 = 0 then
    some (.inr 131, hv_bump p3.2)
  else
    (L_C_breaks_29 100000 ((some z0)) 0 ((-1)) 0 0 p3.2).bind fun e15 =>
    some ((.inl e15.1, e15.2))
set_option maxRecDepth 4000 in
set_option maxHeartbeats 2000000 in
theorem c_C_breaks {G : lt_G} {z0 : Nat} {s s9 : hv_S} {v : Int32} (h : f_C_breaks z0 s = some (.inl v, s9)) : Ck G m_C_breaks 6 0 0 [vR (some z0)] s (some (vI v)) s9 := by
  refine Ck.of (by decide) (Nat.le_of_ble_eq_true rfl) ?_
  unfold f_C_breaks at h
  refine lk_aload_n d_C_breaks_0 rfl ?_
  obtain ⟨a1, ha1, h⟩ := x_b h
  refine lk_getR (k := 8) d_C_breaks_1 ha1 (by decide) rfl (by decide) lf_C_51 rfl ?_
  obtain ⟨a2, ha2, h⟩ := x_b h
  obtain ⟨p3, hp3, h⟩ := x_b h
  refine lk_callV0 d_C_breaks_4 (x_obm ha2 rfl) (c_Pr_size hp3) (Nat.le_of_ble_eq_true rfl) rfl M_Pr_size lm_C_106 in_Pr_size se_Pr_size (by decide) rfl (Nat.le_of_ble_eq_true rfl) ?_
  refine lk_if_ne (tgt := 20) d_C_breaks_7 (by decide) (fun hc => ?_) (fun hc => ?_)
  · replace h := x_ifn hc h
    refine lk_iconst (v := 0) d_C_breaks_20 rfl ?_
    refine lk_istore_n d_C_breaks_21 (by decide) rfl ?_
    refine lk_iconst (v := (-1)) d_C_breaks_22 rfl ?_
    refine lk_istore_n d_C_breaks_23 (by decide) rfl ?_
    refine lk_iconst (v := 0) d_C_breaks_24 rfl ?_
    refine lk_istore_n d_C_breaks_25 (by decide) rfl ?_
    refine lk_iconst (v := 0) d_C_breaks_26 rfl ?_
    refine lk_istore d_C_breaks_27 (by decide) rfl ?_
    obtain ⟨e15, hl, h⟩ := x_b h
    refine Lk.sel [0, 1, 2, 3, 4] rfl ?_
    refine Lk.trans (l_C_breaks_29 _ _ _ _ _ _ _ _ hl) ?_
    intro pc' lo' st' s' mc' ms' hx
    obtain ⟨rfl, rfl, rfl, rfl, rfl, rfl⟩ := hx
    refine lk_iload_n d_C_breaks_144 rfl ?_
    cases h
    exact Lk.stop ⟨rfl, Or.inr (Or.inl ⟨_, _, d_C_breaks_145, rfl, rfl, rfl, rfl⟩)⟩
  · replace h := x_ifp hc h
    cases h
set_option maxRecDepth 4000 in
set_option maxHeartbeats 2000000 in
theorem t_C_breaks {G : lt_G} (hG : ∀ s A, G.2.2 s A → th_Y s A) {z0 : Nat} {s s9 : hv_S} {ic : Nat} (h : f_C_breaks z0 s = some (.inr ic, s9)) : Cth G m_C_breaks 6 [vR (some z0)] s ic s9 := by
  refine Cth.of hG rfl (by decide) (Nat.le_of_ble_eq_true rfl) (by decide) ?_
  unfold f_C_breaks at h
  refine lk_aload_n d_C_breaks_0 rfl ?_
  obtain ⟨a1, ha1, h⟩ := x_b h
  refine lk_getR (k := 8) d_C_breaks_1 ha1 (by decide) rfl (by decide) lf_C_51 rfl ?_
  obtain ⟨a2, ha2, h⟩ := x_b h
  obtain ⟨p3, hp3, h⟩ := x_b h
  refine lk_callV0 d_C_breaks_4 (x_obm ha2 rfl) (c_Pr_size hp3) (Nat.le_of_ble_eq_true rfl) rfl M_Pr_size lm_C_106 in_Pr_size se_Pr_size (by decide) rfl (Nat.le_of_ble_eq_true rfl) ?_
  refine lk_if_ne (tgt := 20) d_C_breaks_7 (by decide) (fun hc => ?_) (fun hc => ?_)
  · replace h := x_ifn hc h
    refine lk_iconst (v := 0) d_C_breaks_20 rfl ?_
    refine lk_istore_n d_C_breaks_21 (by decide) rfl ?_
    refine lk_iconst (v := (-1)) d_C_breaks_22 rfl ?_
    refine lk_istore_n d_C_breaks_23 (by decide) rfl ?_
    refine lk_iconst (v := 0) d_C_breaks_24 rfl ?_
    refine lk_istore_n d_C_breaks_25 (by decide) rfl ?_
    refine lk_iconst (v := 0) d_C_breaks_26 rfl ?_
    refine lk_istore d_C_breaks_27 (by decide) rfl ?_
    refine Lk.less (mc' := 0) (ms' := 0) (Nat.zero_le _) (Nat.zero_le _) ?_
    obtain ⟨e15, hl, h⟩ := x_b h
    refine Lk.sel [0, 1, 2, 3, 4] rfl ?_
    refine Lk.trans (l_C_breaks_29 _ _ _ _ _ _ _ _ hl) ?_
    intro pc' lo' st' s' mc' ms' hx
    obtain ⟨rfl, rfl, rfl, rfl, rfl, rfl⟩ := hx
    refine lk_iload_n d_C_breaks_144 rfl ?_
    cases h
  · replace h := x_ifp hc h
    cases h
    exact Lk.stop ⟨rfl, rfl, Nat.le_refl _, Nat.le_refl _, by decide, 127, 129, "nothing is compiled", ⟨d_C_breaks_10, d_C_breaks_13, d_C_breaks_14, d_C_breaks_16, d_C_breaks_19⟩, by decide, lc_C_127, nE_131⟩
def f_C_search (z0 : Nat) (x1 : Int32) (s : hv_S) : Option ((Int32 ⊕ Nat) × hv_S) :=
  if x1 < 0 then
    some (.inr 89, hv_bump s)
  else
    if x1 ≤ 4 then
      (x_ob s 0 ((some z0))).bind fun a1 =>
      (x_ob s 8 (hv_R s a1 8)).bind fun a2 =>
      (f_Pr_size a2 s).bind fun p3 =>
      if p3.1 = 0 then
        some (.inr 131, hv_bump p3.2)
      else
        if x1 = 3 then
          (x_ob p3.2 0 ((some z0))).bind fun a32 =>
          if (hv_I p3.2 a32 10) = 0 then
            some (.inr 131, hv_bump p3.2)
          else
            ((
              if x1 = 4 then
                (f_C_plannedMatcher a32 p3.2).bind fun p33 =>
                some (p33.1, p33.2)
              else
                some (x1, p3.2)
            ) : Option (Int32 × hv_S)).bind fun t34 =>
            ((
              if t34.1 = 1 then
                (x_ob t34.2 0 ((some z0))).bind fun a35 =>
                (x_ob t34.2 6 (hv_R t34.2 a35 5)).bind fun a36 =>
                (f_Ma_find a36 (hv_R t34.2 a35 8) (hv_R t34.2 a35 3) t34.2).bind fun p37 =>
                (x_ob p37.2 0 ((some z0))).bind fun a38 =>
                (some (hv_setJ p37.2 a38 11 p37.1)).bind fun s39 =>
                (x_ob s39 6 (hv_R s39 a38 5)).bind fun a40 =>
                (f_Ma_marksSet a40 s39).bind fun p41 =>
                (x_ob p41.2 0 ((some z0))).bind fun a42 =>
                (f_C_note a42 1 p41.1 p41.2).bind fun p43 =>
                some p43
              else if t34.1 = 2 then
                (x_ob t34.2 0 ((some z0))).bind fun a44 =>
                (f_C_runAutomaton a44 t34.2).bind fun p45 =>
                some p45
              else if t34.1 = 3 then
                (x_ob t34.2 0 ((some z0))).bind fun a46 =>
                (x_ob t34.2 7 (hv_R t34.2 a46 6)).bind fun a47 =>
                (f_Si_find a47 (hv_R t34.2 a46 8) (hv_R t34.2 a46 3) t34.2).bind fun p48 =>
                (x_ob p48.2 0 ((some z0))).bind fun a49 =>
                (some (hv_setJ p48.2 a49 11 p48.1)).bind fun s50 =>
                (x_ob s50 7 (hv_R s50 a49 6)).bind fun a51 =>
                (f_Si_lettersPassed a51 s50).bind fun p52 =>
                (x_ob p52.2 0 ((some z0))).bind fun a53 =>
                (f_C_note a53 3 (p52.1 + (1 : Int32)) p52.2).bind fun p54 =>
                some p54
              else
                (x_ob t34.2 0 ((some z0))).bind fun a55 =>
                (f_C_runLists a55 t34.2).bind fun p56 =>
                some p56
            ) : Option (hv_S)).bind fun t57 =>
            (x_ob t57 0 ((some z0))).bind fun a58 =>
            (f_C_placeIn (hv_J t57 a58 11) 0 t57).bind fun p59 =>
            some ((.inl p59.1, p59.2))
        else
          ((
            if x1 = 4 then
              (x_ob p3.2 0 ((some z0))).bind fun a4 =>
              (f_C_plannedMatcher a4 p3.2).bind fun p5 =>
              some (p5.1, p5.2)
            else
              some (x1, p3.2)
          ) : Option (Int32 × hv_S)).bind fun t6 =>
          ((
            if t6.1 = 1 then
              (x_ob t6.2 0 ((some z0))).bind fun a7 =>
              (x_ob t6.2 6 (hv_R t6.2 a7 5)).bind fun a8 =>
              (f_Ma_find a8 (hv_R t6.2 a7 8) (hv_R t6.2 a7 3) t6.2).bind fun p9 =>
              (x_ob p9.2 0 ((some z0))).bind fun a10 =>
              (some (hv_setJ p9.2 a10 11 p9.1)).bind fun s11 =>
              (x_ob s11 6 (hv_R s11 a10 5)).bind fun a12 =>
              (f_Ma_marksSet a12 s11).bind fun p13 =>
              (x_ob p13.2 0 ((some z0))).bind fun a14 =>
              (f_C_note a14 1 p13.1 p13.2).bind fun p15 =>
              some p15
            else if t6.1 = 2 then
              (x_ob t6.2 0 ((some z0))).bind fun a16 =>
              (f_C_runAutomaton a16 t6.2).bind fun p17 =>
              some p17
            else if t6.1 = 3 then
              (x_ob t6.2 0 ((some z0))).bind fun a18 =>
              (x_ob t6.2 7 (hv_R t6.2 a18 6)).bind fun a19 =>
              (f_Si_find a19 (hv_R t6.2 a18 8) (hv_R t6.2 a18 3) t6.2).bind fun p20 =>
              (x_ob p20.2 0 ((some z0))).bind fun a21 =>
              (some (hv_setJ p20.2 a21 11 p20.1)).bind fun s22 =>
              (x_ob s22 7 (hv_R s22 a21 6)).bind fun a23 =>
              (f_Si_lettersPassed a23 s22).bind fun p24 =>
              (x_ob p24.2 0 ((some z0))).bind fun a25 =>
              (f_C_note a25 3 (p24.1 + (1 : Int32)) p24.2).bind fun p26 =>
              some p26
            else
              (x_ob t6.2 0 ((some z0))).bind fun a27 =>
              (f_C_runLists a27 t6.2).bind fun p28 =>
              some p28
          ) : Option (hv_S)).bind fun t29 =>
          (x_ob t29 0 ((some z0))).bind fun a30 =>
          (f_C_placeIn (hv_J t29 a30 11) 0 t29).bind fun p31 =>
          some ((.inl p31.1, p31.2))
    else
      some (.inr 89, hv_bump s)
set_option maxRecDepth 4000 in
set_option maxHeartbeats 2000000 in
theorem c_C_search {G : lt_G} {z0 : Nat} {x1 : Int32} {s s9 : hv_S} {v : Int32} (h : f_C_search z0 x1 s = some (.inl v, s9)) : Ck G m_C_search 8 0 0 [vR (some z0), vI x1] s (some (vI v)) s9 := by
  refine Ck.of (by decide) (Nat.le_of_ble_eq_true rfl) ?_
  unfold f_C_search at h
  refine lk_iload_n d_C_search_0 rfl ?_
  refine lk_if_lt (tgt := 9) d_C_search_1 (by decide) (fun hc => ?_) (fun hc => ?_)
  · replace h := x_ifp hc h
    cases h
  · replace h := x_ifn hc h
    refine lk_iload_n d_C_search_4 rfl ?_
    refine lk_iconst (v := 4) d_C_search_5 rfl ?_
    refine lk_icmp_le (tgt := 19) d_C_search_6 (by decide) (fun hc => ?_) (fun hc => ?_)
    · replace h := x_ifp hc h
      refine lk_aload_n d_C_search_19 rfl ?_
      obtain ⟨a1, ha1, h⟩ := x_b h
      refine lk_getR (k := 8) d_C_search_20 ha1 (by decide) rfl (by decide) lf_C_51 rfl ?_
      obtain ⟨a2, ha2, h⟩ := x_b h
      obtain ⟨p3, hp3, h⟩ := x_b h
      refine lk_callV0 d_C_search_23 (x_obm ha2 rfl) (c_Pr_size hp3) (Nat.le_of_ble_eq_true rfl) rfl M_Pr_size lm_C_106 in_Pr_size se_Pr_size (by decide) rfl (Nat.le_of_ble_eq_true rfl) ?_
      refine lk_if_ne (tgt := 39) d_C_search_26 (by decide) (fun hc => ?_) (fun hc => ?_)
      · replace h := x_ifn hc h
        refine lk_iload_n d_C_search_39 rfl ?_
        refine lk_iconst (v := 3) d_C_search_40 rfl ?_
        refine lk_icmp_ne (tgt := 61) d_C_search_41 (by decide) (fun hc => ?_) (fun hc => ?_)
        · replace h := x_ifn hc h
          refine lk_iload_n d_C_search_61 rfl ?_
          refine lk_iconst (v := 4) d_C_search_62 rfl ?_
          obtain ⟨t6, hj, h⟩ := x_b h
          refine Lk.joinS 74 [0] [] rfl 2 [vI t6.1] t6.2 ?_ ?_
          · replace h := hj
            refine lk_icmp_ne (tgt := 73) d_C_search_63 (by decide) (fun hc => ?_) (fun hc => ?_)
            · replace h := x_ifn hc h
              refine lk_iload_n d_C_search_73 rfl ?_
              cases h
              refine Lk.sel [0] rfl ?_
              exact Lk.stop ⟨rfl, rfl, rfl, rfl, rfl, rfl⟩
            · replace h := x_ifp hc h
              refine lk_aload_n d_C_search_66 rfl ?_
              obtain ⟨a4, ha4, h⟩ := x_b h
              obtain ⟨p5, hp5, h⟩ := x_b h
              refine lk_callV0 d_C_search_67 (x_obm ha4 rfl) (c_C_plannedMatcher hp5) (Nat.le_of_ble_eq_true rfl) rfl M_C_plannedMatcher lm_C_143 in_C_plannedMatcher se_C_plannedMatcher (by decide) rfl (Nat.le_of_ble_eq_true rfl) ?_
              refine lk_goto (tgt := 74) d_C_search_70 (by decide) ?_
              cases h
              refine Lk.sel [0] rfl ?_
              exact Lk.stop ⟨rfl, rfl, rfl, rfl, rfl, rfl⟩
          · clear hj
            obtain ⟨t29, hj, h⟩ := x_b h
            refine Lk.joinS 181 [0] [] rfl 1 [] t29 ?_ ?_
            · replace h := hj
              rcases x_ifc h with ⟨g0, h⟩ | ⟨g0, h⟩
              · refine lk_tableIn (tgt := 100) d_C_search_74 (by rw [g0]; decide) (by rw [g0]; decide) (by rw [g0]; rfl) (by decide) ?_
                refine lk_aload_n d_C_search_100 rfl ?_
                refine lk_aload_n d_C_search_101 rfl ?_
                obtain ⟨a7, ha7, h⟩ := x_b h
                refine lk_getR (k := 5) d_C_search_102 ha7 (by decide) rfl (by decide) lf_C_37 rfl ?_
                refine lk_aload_n d_C_search_105 rfl ?_
                refine lk_getR (k := 8) d_C_search_106 ha7 (by decide) rfl (by decide) lf_C_51 rfl ?_
                refine lk_aload_n d_C_search_109 rfl ?_
                refine lk_getR (k := 3) d_C_search_110 ha7 (by decide) rfl (by decide) lf_C_23 rfl ?_
                obtain ⟨a8, ha8, h⟩ := x_b h
                obtain ⟨p9, hp9, h⟩ := x_b h
                refine lk_callV0 d_C_search_113 (x_obm ha8 rfl) (c_Ma_find hp9) (Nat.le_of_ble_eq_true rfl) rfl M_Ma_find lm_C_146 in_Ma_find se_Ma_find (by decide) rfl (Nat.le_of_ble_eq_true rfl) ?_
                obtain ⟨a10, ha10, h⟩ := x_b h
                replace h := x_nm h
                refine lk_putJ (k := 11) d_C_search_116 ha10 (by decide) rfl (by decide) lf_C_58 rfl rfl ?_
                refine lk_aload_n d_C_search_119 rfl ?_
                refine lk_iconst (v := 1) d_C_search_120 rfl ?_
                refine lk_aload_n d_C_search_121 rfl ?_
                refine lk_getR (k := 5) d_C_search_122 ha10 (by decide) rfl (by decide) lf_C_37 rfl ?_
                obtain ⟨a12, ha12, h⟩ := x_b h
                obtain ⟨p13, hp13, h⟩ := x_b h
                refine lk_callV0 d_C_search_125 (x_obm ha12 rfl) (c_Ma_marksSet hp13) (Nat.le_of_ble_eq_true rfl) rfl M_Ma_marksSet lm_C_150 in_Ma_marksSet se_Ma_marksSet (by decide) rfl (Nat.le_of_ble_eq_true rfl) ?_
                obtain ⟨a14, ha14, h⟩ := x_b h
                obtain ⟨p15, hp15, h⟩ := x_b h
                refine lk_callV0 d_C_search_128 (x_obm ha14 rfl) (c_C_note hp15) (Nat.le_of_ble_eq_true rfl) rfl M_C_note lm_C_153 in_C_note se_C_note (by decide) rfl (Nat.le_of_ble_eq_true rfl) ?_
                refine lk_goto (tgt := 181) d_C_search_131 (by decide) ?_
                cases h
                refine Lk.sel [0] rfl ?_
                exact Lk.stop ⟨rfl, rfl, rfl, rfl, rfl, rfl⟩
              · rcases x_ifc h with ⟨g1, h⟩ | ⟨g1, h⟩
                · refine lk_tableIn (tgt := 134) d_C_search_74 (by rw [g1]; decide) (by rw [g1]; decide) (by rw [g1]; rfl) (by decide) ?_
                  refine lk_aload_n d_C_search_134 rfl ?_
                  obtain ⟨a16, ha16, h⟩ := x_b h
                  obtain ⟨p17, hp17, h⟩ := x_b h
                  refine lk_callV0 d_C_search_135 (x_obm ha16 rfl) (c_C_runAutomaton hp17) (Nat.le_of_ble_eq_true rfl) rfl M_C_runAutomaton lm_C_157 in_C_runAutomaton se_C_runAutomaton (by decide) rfl (Nat.le_of_ble_eq_true rfl) ?_
                  refine lk_goto (tgt := 181) d_C_search_138 (by decide) ?_
                  cases h
                  refine Lk.sel [0] rfl ?_
                  exact Lk.stop ⟨rfl, rfl, rfl, rfl, rfl, rfl⟩
                · rcases x_ifc h with ⟨g2, h⟩ | ⟨g2, h⟩
                  · refine lk_tableIn (tgt := 141) d_C_search_74 (by rw [g2]; decide) (by rw [g2]; decide) (by rw [g2]; rfl) (by decide) ?_
                    refine lk_aload_n d_C_search_141 rfl ?_
                    refine lk_aload_n d_C_search_142 rfl ?_
                    obtain ⟨a18, ha18, h⟩ := x_b h
                    refine lk_getR (k := 6) d_C_search_143 ha18 (by decide) rfl (by decide) lf_C_44 rfl ?_
                    refine lk_aload_n d_C_search_146 rfl ?_
                    refine lk_getR (k := 8) d_C_search_147 ha18 (by decide) rfl (by decide) lf_C_51 rfl ?_
                    refine lk_aload_n d_C_search_150 rfl ?_
                    refine lk_getR (k := 3) d_C_search_151 ha18 (by decide) rfl (by decide) lf_C_23 rfl ?_
                    obtain ⟨a19, ha19, h⟩ := x_b h
                    obtain ⟨p20, hp20, h⟩ := x_b h
                    refine lk_callV0 d_C_search_154 (x_obm ha19 rfl) (c_Si_find hp20) (Nat.le_of_ble_eq_true rfl) rfl M_Si_find lm_C_160 in_Si_find se_Si_find (by decide) rfl (Nat.le_of_ble_eq_true rfl) ?_
                    obtain ⟨a21, ha21, h⟩ := x_b h
                    replace h := x_nm h
                    refine lk_putJ (k := 11) d_C_search_157 ha21 (by decide) rfl (by decide) lf_C_58 rfl rfl ?_
                    refine lk_aload_n d_C_search_160 rfl ?_
                    refine lk_iconst (v := 3) d_C_search_161 rfl ?_
                    refine lk_aload_n d_C_search_162 rfl ?_
                    refine lk_getR (k := 6) d_C_search_163 ha21 (by decide) rfl (by decide) lf_C_44 rfl ?_
                    obtain ⟨a23, ha23, h⟩ := x_b h
                    obtain ⟨p24, hp24, h⟩ := x_b h
                    refine lk_callV0 d_C_search_166 (x_obm ha23 rfl) (c_Si_lettersPassed hp24) (Nat.le_of_ble_eq_true rfl) rfl M_Si_lettersPassed lm_C_161 in_Si_lettersPassed se_Si_lettersPassed (by decide) rfl (Nat.le_of_ble_eq_true rfl) ?_
                    refine lk_iconst (v := 1) d_C_search_169 rfl ?_
                    refine lk_iadd d_C_search_170 ?_
                    obtain ⟨a25, ha25, h⟩ := x_b h
                    obtain ⟨p26, hp26, h⟩ := x_b h
                    refine lk_callV0 d_C_search_171 (x_obm ha25 rfl) (c_C_note hp26) (Nat.le_of_ble_eq_true rfl) rfl M_C_note lm_C_153 in_C_note se_C_note (by decide) rfl (Nat.le_of_ble_eq_true rfl) ?_
                    refine lk_goto (tgt := 181) d_C_search_174 (by decide) ?_
                    cases h
                    refine Lk.sel [0] rfl ?_
                    exact Lk.stop ⟨rfl, rfl, rfl, rfl, rfl, rfl⟩
                  · have e0 := lv_neT g0 (a := 1) rfl
                    have e1 := lv_neT g1 (a := 2) rfl
                    have e2 := lv_neT g2 (a := 3) rfl
                    refine lk_tableOut (tgt := 177) d_C_search_74 (by omega) (by decide) ?_
                    refine lk_aload_n d_C_search_177 rfl ?_
                    obtain ⟨a27, ha27, h⟩ := x_b h
                    obtain ⟨p28, hp28, h⟩ := x_b h
                    refine lk_callV0 d_C_search_178 (x_obm ha27 rfl) (c_C_runLists hp28) (Nat.le_of_ble_eq_true rfl) rfl M_C_runLists lm_C_164 in_C_runLists se_C_runLists (by decide) rfl (Nat.le_of_ble_eq_true rfl) ?_
                    cases h
                    refine Lk.sel [0] rfl ?_
                    exact Lk.stop ⟨rfl, rfl, rfl, rfl, rfl, rfl⟩
            · clear hj
              refine lk_aload_n d_C_search_181 rfl ?_
              obtain ⟨a30, ha30, h⟩ := x_b h
              refine lk_getJ (k := 11) d_C_search_182 ha30 (by decide) rfl (by decide) lf_C_58 rfl ?_
              refine lk_iconst (v := 0) d_C_search_185 rfl ?_
              obtain ⟨p31, hp31, h⟩ := x_b h
              refine lk_callS0 d_C_search_186 (c_C_placeIn hp31) (Nat.le_of_ble_eq_true rfl) rfl M_C_placeIn lm_C_167 st_C_placeIn (Nat.le_of_ble_eq_true rfl) ?_
              cases h
              exact Lk.stop ⟨rfl, Or.inr (Or.inl ⟨_, _, d_C_search_189, rfl, rfl, rfl, rfl⟩)⟩
        · replace h := x_ifp hc h
          refine lk_aload_n d_C_search_44 rfl ?_
          obtain ⟨a32, ha32, h⟩ := x_b h
          refine lk_getI (k := 10) d_C_search_45 ha32 (by decide) rfl (by decide) lf_C_96 rfl ?_
          refine lk_if_ne (tgt := 61) d_C_search_48 (by decide) (fun hc => ?_) (fun hc => ?_)
          · replace h := x_ifn hc h
            refine lk_iload_n d_C_search_61 rfl ?_
            refine lk_iconst (v := 4) d_C_search_62 rfl ?_
            obtain ⟨t34, hj, h⟩ := x_b h
            refine Lk.joinS 74 [0] [] rfl 2 [vI t34.1] t34.2 ?_ ?_
            · replace h := hj
              refine lk_icmp_ne (tgt := 73) d_C_search_63 (by decide) (fun hc => ?_) (fun hc => ?_)
              · replace h := x_ifn hc h
                refine lk_iload_n d_C_search_73 rfl ?_
                cases h
                refine Lk.sel [0] rfl ?_
                exact Lk.stop ⟨rfl, rfl, rfl, rfl, rfl, rfl⟩
              · replace h := x_ifp hc h
                refine lk_aload_n d_C_search_66 rfl ?_
                obtain ⟨p33, hp33, h⟩ := x_b h
                refine lk_callV0 d_C_search_67 (x_obm ha32 rfl) (c_C_plannedMatcher hp33) (Nat.le_of_ble_eq_true rfl) rfl M_C_plannedMatcher lm_C_143 in_C_plannedMatcher se_C_plannedMatcher (by decide) rfl (Nat.le_of_ble_eq_true rfl) ?_
                refine lk_goto (tgt := 74) d_C_search_70 (by decide) ?_
                cases h
                refine Lk.sel [0] rfl ?_
                exact Lk.stop ⟨rfl, rfl, rfl, rfl, rfl, rfl⟩
            · clear hj
              obtain ⟨t57, hj, h⟩ := x_b h
              refine Lk.joinS 181 [0] [] rfl 1 [] t57 ?_ ?_
              · replace h := hj
                rcases x_ifc h with ⟨g0, h⟩ | ⟨g0, h⟩
                · refine lk_tableIn (tgt := 100) d_C_search_74 (by rw [g0]; decide) (by rw [g0]; decide) (by rw [g0]; rfl) (by decide) ?_
                  refine lk_aload_n d_C_search_100 rfl ?_
                  refine lk_aload_n d_C_search_101 rfl ?_
                  obtain ⟨a35, ha35, h⟩ := x_b h
                  refine lk_getR (k := 5) d_C_search_102 ha35 (by decide) rfl (by decide) lf_C_37 rfl ?_
                  refine lk_aload_n d_C_search_105 rfl ?_
                  refine lk_getR (k := 8) d_C_search_106 ha35 (by decide) rfl (by decide) lf_C_51 rfl ?_
                  refine lk_aload_n d_C_search_109 rfl ?_
                  refine lk_getR (k := 3) d_C_search_110 ha35 (by decide) rfl (by decide) lf_C_23 rfl ?_
                  obtain ⟨a36, ha36, h⟩ := x_b h
                  obtain ⟨p37, hp37, h⟩ := x_b h
                  refine lk_callV0 d_C_search_113 (x_obm ha36 rfl) (c_Ma_find hp37) (Nat.le_of_ble_eq_true rfl) rfl M_Ma_find lm_C_146 in_Ma_find se_Ma_find (by decide) rfl (Nat.le_of_ble_eq_true rfl) ?_
                  obtain ⟨a38, ha38, h⟩ := x_b h
                  replace h := x_nm h
                  refine lk_putJ (k := 11) d_C_search_116 ha38 (by decide) rfl (by decide) lf_C_58 rfl rfl ?_
                  refine lk_aload_n d_C_search_119 rfl ?_
                  refine lk_iconst (v := 1) d_C_search_120 rfl ?_
                  refine lk_aload_n d_C_search_121 rfl ?_
                  refine lk_getR (k := 5) d_C_search_122 ha38 (by decide) rfl (by decide) lf_C_37 rfl ?_
                  obtain ⟨a40, ha40, h⟩ := x_b h
                  obtain ⟨p41, hp41, h⟩ := x_b h
                  refine lk_callV0 d_C_search_125 (x_obm ha40 rfl) (c_Ma_marksSet hp41) (Nat.le_of_ble_eq_true rfl) rfl M_Ma_marksSet lm_C_150 in_Ma_marksSet se_Ma_marksSet (by decide) rfl (Nat.le_of_ble_eq_true rfl) ?_
                  obtain ⟨a42, ha42, h⟩ := x_b h
                  obtain ⟨p43, hp43, h⟩ := x_b h
                  refine lk_callV0 d_C_search_128 (x_obm ha42 rfl) (c_C_note hp43) (Nat.le_of_ble_eq_true rfl) rfl M_C_note lm_C_153 in_C_note se_C_note (by decide) rfl (Nat.le_of_ble_eq_true rfl) ?_
                  refine lk_goto (tgt := 181) d_C_search_131 (by decide) ?_
                  cases h
                  refine Lk.sel [0] rfl ?_
                  exact Lk.stop ⟨rfl, rfl, rfl, rfl, rfl, rfl⟩
                · rcases x_ifc h with ⟨g1, h⟩ | ⟨g1, h⟩
                  · refine lk_tableIn (tgt := 134) d_C_search_74 (by rw [g1]; decide) (by rw [g1]; decide) (by rw [g1]; rfl) (by decide) ?_
                    refine lk_aload_n d_C_search_134 rfl ?_
                    obtain ⟨a44, ha44, h⟩ := x_b h
                    obtain ⟨p45, hp45, h⟩ := x_b h
                    refine lk_callV0 d_C_search_135 (x_obm ha44 rfl) (c_C_runAutomaton hp45) (Nat.le_of_ble_eq_true rfl) rfl M_C_runAutomaton lm_C_157 in_C_runAutomaton se_C_runAutomaton (by decide) rfl (Nat.le_of_ble_eq_true rfl) ?_
                    refine lk_goto (tgt := 181) d_C_search_138 (by decide) ?_
                    cases h
                    refine Lk.sel [0] rfl ?_
                    exact Lk.stop ⟨rfl, rfl, rfl, rfl, rfl, rfl⟩
                  · rcases x_ifc h with ⟨g2, h⟩ | ⟨g2, h⟩
                    · refine lk_tableIn (tgt := 141) d_C_search_74 (by rw [g2]; decide) (by rw [g2]; decide) (by rw [g2]; rfl) (by decide) ?_
                      refine lk_aload_n d_C_search_141 rfl ?_
                      refine lk_aload_n d_C_search_142 rfl ?_
                      obtain ⟨a46, ha46, h⟩ := x_b h
                      refine lk_getR (k := 6) d_C_search_143 ha46 (by decide) rfl (by decide) lf_C_44 rfl ?_
                      refine lk_aload_n d_C_search_146 rfl ?_
                      refine lk_getR (k := 8) d_C_search_147 ha46 (by decide) rfl (by decide) lf_C_51 rfl ?_
                      refine lk_aload_n d_C_search_150 rfl ?_
                      refine lk_getR (k := 3) d_C_search_151 ha46 (by decide) rfl (by decide) lf_C_23 rfl ?_
                      obtain ⟨a47, ha47, h⟩ := x_b h
                      obtain ⟨p48, hp48, h⟩ := x_b h
                      refine lk_callV0 d_C_search_154 (x_obm ha47 rfl) (c_Si_find hp48) (Nat.le_of_ble_eq_true rfl) rfl M_Si_find lm_C_160 in_Si_find se_Si_find (by decide) rfl (Nat.le_of_ble_eq_true rfl) ?_
                      obtain ⟨a49, ha49, h⟩ := x_b h
                      replace h := x_nm h
                      refine lk_putJ (k := 11) d_C_search_157 ha49 (by decide) rfl (by decide) lf_C_58 rfl rfl ?_
                      refine lk_aload_n d_C_search_160 rfl ?_
                      refine lk_iconst (v := 3) d_C_search_161 rfl ?_
                      refine lk_aload_n d_C_search_162 rfl ?_
                      refine lk_getR (k := 6) d_C_search_163 ha49 (by decide) rfl (by decide) lf_C_44 rfl ?_
                      obtain ⟨a51, ha51, h⟩ := x_b h
                      obtain ⟨p52, hp52, h⟩ := x_b h
                      refine lk_callV0 d_C_search_166 (x_obm ha51 rfl) (c_Si_lettersPassed hp52) (Nat.le_of_ble_eq_true rfl) rfl M_Si_lettersPassed lm_C_161 in_Si_lettersPassed se_Si_lettersPassed (by decide) rfl (Nat.le_of_ble_eq_true rfl) ?_
                      refine lk_iconst (v := 1) d_C_search_169 rfl ?_
                      refine lk_iadd d_C_search_170 ?_
                      obtain ⟨a53, ha53, h⟩ := x_b h
                      obtain ⟨p54, hp54, h⟩ := x_b h
                      refine lk_callV0 d_C_search_171 (x_obm ha53 rfl) (c_C_note hp54) (Nat.le_of_ble_eq_true rfl) rfl M_C_note lm_C_153 in_C_note se_C_note (by decide) rfl (Nat.le_of_ble_eq_true rfl) ?_
                      refine lk_goto (tgt := 181) d_C_search_174 (by decide) ?_
                      cases h
                      refine Lk.sel [0] rfl ?_
                      exact Lk.stop ⟨rfl, rfl, rfl, rfl, rfl, rfl⟩
                    · have e0 := lv_neT g0 (a := 1) rfl
                      have e1 := lv_neT g1 (a := 2) rfl
                      have e2 := lv_neT g2 (a := 3) rfl
                      refine lk_tableOut (tgt := 177) d_C_search_74 (by omega) (by decide) ?_
                      refine lk_aload_n d_C_search_177 rfl ?_
                      obtain ⟨a55, ha55, h⟩ := x_b h
                      obtain ⟨p56, hp56, h⟩ := x_b h
                      refine lk_callV0 d_C_search_178 (x_obm ha55 rfl) (c_C_runLists hp56) (Nat.le_of_ble_eq_true rfl) rfl M_C_runLists lm_C_164 in_C_runLists se_C_runLists (by decide) rfl (Nat.le_of_ble_eq_true rfl) ?_
                      cases h
                      refine Lk.sel [0] rfl ?_
                      exact Lk.stop ⟨rfl, rfl, rfl, rfl, rfl, rfl⟩
              · clear hj
                refine lk_aload_n d_C_search_181 rfl ?_
                obtain ⟨a58, ha58, h⟩ := x_b h
                refine lk_getJ (k := 11) d_C_search_182 ha58 (by decide) rfl (by decide) lf_C_58 rfl ?_
                refine lk_iconst (v := 0) d_C_search_185 rfl ?_
                obtain ⟨p59, hp59, h⟩ := x_b h
                refine lk_callS0 d_C_search_186 (c_C_placeIn hp59) (Nat.le_of_ble_eq_true rfl) rfl M_C_placeIn lm_C_167 st_C_placeIn (Nat.le_of_ble_eq_true rfl) ?_
                cases h
                exact Lk.stop ⟨rfl, Or.inr (Or.inl ⟨_, _, d_C_search_189, rfl, rfl, rfl, rfl⟩)⟩
          · replace h := x_ifp hc h
            cases h
      · replace h := x_ifp hc h
        cases h
    · replace h := x_ifn hc h
      cases h
set_option maxRecDepth 4000 in
set_option maxHeartbeats 2000000 in
theorem t_C_search {G : lt_G} (hG : ∀ s A, G.2.2 s A → th_Y s A) {z0 : Nat} {x1 : Int32} {s s9 : hv_S} {ic : Nat} (h : f_C_search z0 x1 s = some (.inr ic, s9)) : Cth G m_C_search 8 [vR (some z0), vI x1] s ic s9 := by
  refine Cth.of hG rfl (by decide) (Nat.le_of_ble_eq_true rfl) (by decide) ?_
  unfold f_C_search at h
  refine lk_iload_n d_C_search_0 rfl ?_
  refine lk_if_lt (tgt := 9) d_C_search_1 (by decide) (fun hc => ?_) (fun hc => ?_)
  · replace h := x_ifp hc h
    cases h
    exact Lk.stop ⟨rfl, rfl, Nat.le_refl _, Nat.le_refl _, by decide, 85, 139, "no such matcher", ⟨d_C_search_9, d_C_search_12, d_C_search_13, d_C_search_15, d_C_search_18⟩, by decide, lc_C_85, nE_89⟩
  · replace h := x_ifn hc h
    refine lk_iload_n d_C_search_4 rfl ?_
    refine lk_iconst (v := 4) d_C_search_5 rfl ?_
    refine lk_icmp_le (tgt := 19) d_C_search_6 (by decide) (fun hc => ?_) (fun hc => ?_)
    · replace h := x_ifp hc h
      refine lk_aload_n d_C_search_19 rfl ?_
      obtain ⟨a1, ha1, h⟩ := x_b h
      refine lk_getR (k := 8) d_C_search_20 ha1 (by decide) rfl (by decide) lf_C_51 rfl ?_
      obtain ⟨a2, ha2, h⟩ := x_b h
      obtain ⟨p3, hp3, h⟩ := x_b h
      refine lk_callV0 d_C_search_23 (x_obm ha2 rfl) (c_Pr_size hp3) (Nat.le_of_ble_eq_true rfl) rfl M_Pr_size lm_C_106 in_Pr_size se_Pr_size (by decide) rfl (Nat.le_of_ble_eq_true rfl) ?_
      refine lk_if_ne (tgt := 39) d_C_search_26 (by decide) (fun hc => ?_) (fun hc => ?_)
      · replace h := x_ifn hc h
        refine lk_iload_n d_C_search_39 rfl ?_
        refine lk_iconst (v := 3) d_C_search_40 rfl ?_
        refine lk_icmp_ne (tgt := 61) d_C_search_41 (by decide) (fun hc => ?_) (fun hc => ?_)
        · replace h := x_ifn hc h
          refine lk_iload_n d_C_search_61 rfl ?_
          refine lk_iconst (v := 4) d_C_search_62 rfl ?_
          obtain ⟨t6, hj, h⟩ := x_b h
          refine Lk.joinS 74 [0] [] rfl 2 [vI t6.1] t6.2 ?_ ?_
          · replace h := hj
            refine lk_icmp_ne (tgt := 73) d_C_search_63 (by decide) (fun hc => ?_) (fun hc => ?_)
            · replace h := x_ifn hc h
              refine lk_iload_n d_C_search_73 rfl ?_
              cases h
              refine Lk.sel [0] rfl ?_
              exact Lk.stop ⟨rfl, rfl, rfl, rfl, rfl, rfl⟩
            · replace h := x_ifp hc h
              refine lk_aload_n d_C_search_66 rfl ?_
              obtain ⟨a4, ha4, h⟩ := x_b h
              obtain ⟨p5, hp5, h⟩ := x_b h
              refine lk_callV0 d_C_search_67 (x_obm ha4 rfl) (c_C_plannedMatcher hp5) (Nat.le_of_ble_eq_true rfl) rfl M_C_plannedMatcher lm_C_143 in_C_plannedMatcher se_C_plannedMatcher (by decide) rfl (Nat.le_of_ble_eq_true rfl) ?_
              refine lk_goto (tgt := 74) d_C_search_70 (by decide) ?_
              cases h
              refine Lk.sel [0] rfl ?_
              exact Lk.stop ⟨rfl, rfl, rfl, rfl, rfl, rfl⟩
          · clear hj
            obtain ⟨t29, hj, h⟩ := x_b h
            refine Lk.joinS 181 [0] [] rfl 1 [] t29 ?_ ?_
            · replace h := hj
              rcases x_ifc h with ⟨g0, h⟩ | ⟨g0, h⟩
              · refine lk_tableIn (tgt := 100) d_C_search_74 (by rw [g0]; decide) (by rw [g0]; decide) (by rw [g0]; rfl) (by decide) ?_
                refine lk_aload_n d_C_search_100 rfl ?_
                refine lk_aload_n d_C_search_101 rfl ?_
                obtain ⟨a7, ha7, h⟩ := x_b h
                refine lk_getR (k := 5) d_C_search_102 ha7 (by decide) rfl (by decide) lf_C_37 rfl ?_
                refine lk_aload_n d_C_search_105 rfl ?_
                refine lk_getR (k := 8) d_C_search_106 ha7 (by decide) rfl (by decide) lf_C_51 rfl ?_
                refine lk_aload_n d_C_search_109 rfl ?_
                refine lk_getR (k := 3) d_C_search_110 ha7 (by decide) rfl (by decide) lf_C_23 rfl ?_
                obtain ⟨a8, ha8, h⟩ := x_b h
                obtain ⟨p9, hp9, h⟩ := x_b h
                refine lk_callV0 d_C_search_113 (x_obm ha8 rfl) (c_Ma_find hp9) (Nat.le_of_ble_eq_true rfl) rfl M_Ma_find lm_C_146 in_Ma_find se_Ma_find (by decide) rfl (Nat.le_of_ble_eq_true rfl) ?_
                obtain ⟨a10, ha10, h⟩ := x_b h
                replace h := x_nm h
                refine lk_putJ (k := 11) d_C_search_116 ha10 (by decide) rfl (by decide) lf_C_58 rfl rfl ?_
                refine lk_aload_n d_C_search_119 rfl ?_
                refine lk_iconst (v := 1) d_C_search_120 rfl ?_
                refine lk_aload_n d_C_search_121 rfl ?_
                refine lk_getR (k := 5) d_C_search_122 ha10 (by decide) rfl (by decide) lf_C_37 rfl ?_
                obtain ⟨a12, ha12, h⟩ := x_b h
                obtain ⟨p13, hp13, h⟩ := x_b h
                refine lk_callV0 d_C_search_125 (x_obm ha12 rfl) (c_Ma_marksSet hp13) (Nat.le_of_ble_eq_true rfl) rfl M_Ma_marksSet lm_C_150 in_Ma_marksSet se_Ma_marksSet (by decide) rfl (Nat.le_of_ble_eq_true rfl) ?_
                obtain ⟨a14, ha14, h⟩ := x_b h
                obtain ⟨p15, hp15, h⟩ := x_b h
                refine lk_callV0 d_C_search_128 (x_obm ha14 rfl) (c_C_note hp15) (Nat.le_of_ble_eq_true rfl) rfl M_C_note lm_C_153 in_C_note se_C_note (by decide) rfl (Nat.le_of_ble_eq_true rfl) ?_
                refine lk_goto (tgt := 181) d_C_search_131 (by decide) ?_
                cases h
                refine Lk.sel [0] rfl ?_
                exact Lk.stop ⟨rfl, rfl, rfl, rfl, rfl, rfl⟩
              · rcases x_ifc h with ⟨g1, h⟩ | ⟨g1, h⟩
                · refine lk_tableIn (tgt := 134) d_C_search_74 (by rw [g1]; decide) (by rw [g1]; decide) (by rw [g1]; rfl) (by decide) ?_
                  refine lk_aload_n d_C_search_134 rfl ?_
                  obtain ⟨a16, ha16, h⟩ := x_b h
                  obtain ⟨p17, hp17, h⟩ := x_b h
                  refine lk_callV0 d_C_search_135 (x_obm ha16 rfl) (c_C_runAutomaton hp17) (Nat.le_of_ble_eq_true rfl) rfl M_C_runAutomaton lm_C_157 in_C_runAutomaton se_C_runAutomaton (by decide) rfl (Nat.le_of_ble_eq_true rfl) ?_
                  refine lk_goto (tgt := 181) d_C_search_138 (by decide) ?_
                  cases h
                  refine Lk.sel [0] rfl ?_
                  exact Lk.stop ⟨rfl, rfl, rfl, rfl, rfl, rfl⟩
                · rcases x_ifc h with ⟨g2, h⟩ | ⟨g2, h⟩
                  · refine lk_tableIn (tgt := 141) d_C_search_74 (by rw [g2]; decide) (by rw [g2]; decide) (by rw [g2]; rfl) (by decide) ?_
                    refine lk_aload_n d_C_search_141 rfl ?_
                    refine lk_aload_n d_C_search_142 rfl ?_
                    obtain ⟨a18, ha18, h⟩ := x_b h
                    refine lk_getR (k := 6) d_C_search_143 ha18 (by decide) rfl (by decide) lf_C_44 rfl ?_
                    refine lk_aload_n d_C_search_146 rfl ?_
                    refine lk_getR (k := 8) d_C_search_147 ha18 (by decide) rfl (by decide) lf_C_51 rfl ?_
                    refine lk_aload_n d_C_search_150 rfl ?_
                    refine lk_getR (k := 3) d_C_search_151 ha18 (by decide) rfl (by decide) lf_C_23 rfl ?_
                    obtain ⟨a19, ha19, h⟩ := x_b h
                    obtain ⟨p20, hp20, h⟩ := x_b h
                    refine lk_callV0 d_C_search_154 (x_obm ha19 rfl) (c_Si_find hp20) (Nat.le_of_ble_eq_true rfl) rfl M_Si_find lm_C_160 in_Si_find se_Si_find (by decide) rfl (Nat.le_of_ble_eq_true rfl) ?_
                    obtain ⟨a21, ha21, h⟩ := x_b h
                    replace h := x_nm h
                    refine lk_putJ (k := 11) d_C_search_157 ha21 (by decide) rfl (by decide) lf_C_58 rfl rfl ?_
                    refine lk_aload_n d_C_search_160 rfl ?_
                    refine lk_iconst (v := 3) d_C_search_161 rfl ?_
                    refine lk_aload_n d_C_search_162 rfl ?_
                    refine lk_getR (k := 6) d_C_search_163 ha21 (by decide) rfl (by decide) lf_C_44 rfl ?_
                    obtain ⟨a23, ha23, h⟩ := x_b h
                    obtain ⟨p24, hp24, h⟩ := x_b h
                    refine lk_callV0 d_C_search_166 (x_obm ha23 rfl) (c_Si_lettersPassed hp24) (Nat.le_of_ble_eq_true rfl) rfl M_Si_lettersPassed lm_C_161 in_Si_lettersPassed se_Si_lettersPassed (by decide) rfl (Nat.le_of_ble_eq_true rfl) ?_
                    refine lk_iconst (v := 1) d_C_search_169 rfl ?_
                    refine lk_iadd d_C_search_170 ?_
                    obtain ⟨a25, ha25, h⟩ := x_b h
                    obtain ⟨p26, hp26, h⟩ := x_b h
                    refine lk_callV0 d_C_search_171 (x_obm ha25 rfl) (c_C_note hp26) (Nat.le_of_ble_eq_true rfl) rfl M_C_note lm_C_153 in_C_note se_C_note (by decide) rfl (Nat.le_of_ble_eq_true rfl) ?_
                    refine lk_goto (tgt := 181) d_C_search_174 (by decide) ?_
                    cases h
                    refine Lk.sel [0] rfl ?_
                    exact Lk.stop ⟨rfl, rfl, rfl, rfl, rfl, rfl⟩
                  · have e0 := lv_neT g0 (a := 1) rfl
                    have e1 := lv_neT g1 (a := 2) rfl
                    have e2 := lv_neT g2 (a := 3) rfl
                    refine lk_tableOut (tgt := 177) d_C_search_74 (by omega) (by decide) ?_
                    refine lk_aload_n d_C_search_177 rfl ?_
                    obtain ⟨a27, ha27, h⟩ := x_b h
                    obtain ⟨p28, hp28, h⟩ := x_b h
                    refine lk_callV0 d_C_search_178 (x_obm ha27 rfl) (c_C_runLists hp28) (Nat.le_of_ble_eq_true rfl) rfl M_C_runLists lm_C_164 in_C_runLists se_C_runLists (by decide) rfl (Nat.le_of_ble_eq_true rfl) ?_
                    cases h
                    refine Lk.sel [0] rfl ?_
                    exact Lk.stop ⟨rfl, rfl, rfl, rfl, rfl, rfl⟩
            · clear hj
              refine lk_aload_n d_C_search_181 rfl ?_
              obtain ⟨a30, ha30, h⟩ := x_b h
              refine lk_getJ (k := 11) d_C_search_182 ha30 (by decide) rfl (by decide) lf_C_58 rfl ?_
              refine lk_iconst (v := 0) d_C_search_185 rfl ?_
              obtain ⟨p31, hp31, h⟩ := x_b h
              refine lk_callS0 d_C_search_186 (c_C_placeIn hp31) (Nat.le_of_ble_eq_true rfl) rfl M_C_placeIn lm_C_167 st_C_placeIn (Nat.le_of_ble_eq_true rfl) ?_
              cases h
        · replace h := x_ifp hc h
          refine lk_aload_n d_C_search_44 rfl ?_
          obtain ⟨a32, ha32, h⟩ := x_b h
          refine lk_getI (k := 10) d_C_search_45 ha32 (by decide) rfl (by decide) lf_C_96 rfl ?_
          refine lk_if_ne (tgt := 61) d_C_search_48 (by decide) (fun hc => ?_) (fun hc => ?_)
          · replace h := x_ifn hc h
            refine lk_iload_n d_C_search_61 rfl ?_
            refine lk_iconst (v := 4) d_C_search_62 rfl ?_
            obtain ⟨t34, hj, h⟩ := x_b h
            refine Lk.joinS 74 [0] [] rfl 2 [vI t34.1] t34.2 ?_ ?_
            · replace h := hj
              refine lk_icmp_ne (tgt := 73) d_C_search_63 (by decide) (fun hc => ?_) (fun hc => ?_)
              · replace h := x_ifn hc h
                refine lk_iload_n d_C_search_73 rfl ?_
                cases h
                refine Lk.sel [0] rfl ?_
                exact Lk.stop ⟨rfl, rfl, rfl, rfl, rfl, rfl⟩
              · replace h := x_ifp hc h
                refine lk_aload_n d_C_search_66 rfl ?_
                obtain ⟨p33, hp33, h⟩ := x_b h
                refine lk_callV0 d_C_search_67 (x_obm ha32 rfl) (c_C_plannedMatcher hp33) (Nat.le_of_ble_eq_true rfl) rfl M_C_plannedMatcher lm_C_143 in_C_plannedMatcher se_C_plannedMatcher (by decide) rfl (Nat.le_of_ble_eq_true rfl) ?_
                refine lk_goto (tgt := 74) d_C_search_70 (by decide) ?_
                cases h
                refine Lk.sel [0] rfl ?_
                exact Lk.stop ⟨rfl, rfl, rfl, rfl, rfl, rfl⟩
            · clear hj
              obtain ⟨t57, hj, h⟩ := x_b h
              refine Lk.joinS 181 [0] [] rfl 1 [] t57 ?_ ?_
              · replace h := hj
                rcases x_ifc h with ⟨g0, h⟩ | ⟨g0, h⟩
                · refine lk_tableIn (tgt := 100) d_C_search_74 (by rw [g0]; decide) (by rw [g0]; decide) (by rw [g0]; rfl) (by decide) ?_
                  refine lk_aload_n d_C_search_100 rfl ?_
                  refine lk_aload_n d_C_search_101 rfl ?_
                  obtain ⟨a35, ha35, h⟩ := x_b h
                  refine lk_getR (k := 5) d_C_search_102 ha35 (by decide) rfl (by decide) lf_C_37 rfl ?_
                  refine lk_aload_n d_C_search_105 rfl ?_
                  refine lk_getR (k := 8) d_C_search_106 ha35 (by decide) rfl (by decide) lf_C_51 rfl ?_
                  refine lk_aload_n d_C_search_109 rfl ?_
                  refine lk_getR (k := 3) d_C_search_110 ha35 (by decide) rfl (by decide) lf_C_23 rfl ?_
                  obtain ⟨a36, ha36, h⟩ := x_b h
                  obtain ⟨p37, hp37, h⟩ := x_b h
                  refine lk_callV0 d_C_search_113 (x_obm ha36 rfl) (c_Ma_find hp37) (Nat.le_of_ble_eq_true rfl) rfl M_Ma_find lm_C_146 in_Ma_find se_Ma_find (by decide) rfl (Nat.le_of_ble_eq_true rfl) ?_
                  obtain ⟨a38, ha38, h⟩ := x_b h
                  replace h := x_nm h
                  refine lk_putJ (k := 11) d_C_search_116 ha38 (by decide) rfl (by decide) lf_C_58 rfl rfl ?_
                  refine lk_aload_n d_C_search_119 rfl ?_
                  refine lk_iconst (v := 1) d_C_search_120 rfl ?_
                  refine lk_aload_n d_C_search_121 rfl ?_
                  refine lk_getR (k := 5) d_C_search_122 ha38 (by decide) rfl (by decide) lf_C_37 rfl ?_
                  obtain ⟨a40, ha40, h⟩ := x_b h
                  obtain ⟨p41, hp41, h⟩ := x_b h
                  refine lk_callV0 d_C_search_125 (x_obm ha40 rfl) (c_Ma_marksSet hp41) (Nat.le_of_ble_eq_true rfl) rfl M_Ma_marksSet lm_C_150 in_Ma_marksSet se_Ma_marksSet (by decide) rfl (Nat.le_of_ble_eq_true rfl) ?_
                  obtain ⟨a42, ha42, h⟩ := x_b h
                  obtain ⟨p43, hp43, h⟩ := x_b h
                  refine lk_callV0 d_C_search_128 (x_obm ha42 rfl) (c_C_note hp43) (Nat.le_of_ble_eq_true rfl) rfl M_C_note lm_C_153 in_C_note se_C_note (by decide) rfl (Nat.le_of_ble_eq_true rfl) ?_
                  refine lk_goto (tgt := 181) d_C_search_131 (by decide) ?_
                  cases h
                  refine Lk.sel [0] rfl ?_
                  exact Lk.stop ⟨rfl, rfl, rfl, rfl, rfl, rfl⟩
                · rcases x_ifc h with ⟨g1, h⟩ | ⟨g1, h⟩
                  · refine lk_tableIn (tgt := 134) d_C_search_74 (by rw [g1]; decide) (by rw [g1]; decide) (by rw [g1]; rfl) (by decide) ?_
                    refine lk_aload_n d_C_search_134 rfl ?_
                    obtain ⟨a44, ha44, h⟩ := x_b h
                    obtain ⟨p45, hp45, h⟩ := x_b h
                    refine lk_callV0 d_C_search_135 (x_obm ha44 rfl) (c_C_runAutomaton hp45) (Nat.le_of_ble_eq_true rfl) rfl M_C_runAutomaton lm_C_157 in_C_runAutomaton se_C_runAutomaton (by decide) rfl (Nat.le_of_ble_eq_true rfl) ?_
                    refine lk_goto (tgt := 181) d_C_search_138 (by decide) ?_
                    cases h
                    refine Lk.sel [0] rfl ?_
                    exact Lk.stop ⟨rfl, rfl, rfl, rfl, rfl, rfl⟩
                  · rcases x_ifc h with ⟨g2, h⟩ | ⟨g2, h⟩
                    · refine lk_tableIn (tgt := 141) d_C_search_74 (by rw [g2]; decide) (by rw [g2]; decide) (by rw [g2]; rfl) (by decide) ?_
                      refine lk_aload_n d_C_search_141 rfl ?_
                      refine lk_aload_n d_C_search_142 rfl ?_
                      obtain ⟨a46, ha46, h⟩ := x_b h
                      refine lk_getR (k := 6) d_C_search_143 ha46 (by decide) rfl (by decide) lf_C_44 rfl ?_
                      refine lk_aload_n d_C_search_146 rfl ?_
                      refine lk_getR (k := 8) d_C_search_147 ha46 (by decide) rfl (by decide) lf_C_51 rfl ?_
                      refine lk_aload_n d_C_search_150 rfl ?_
                      refine lk_getR (k := 3) d_C_search_151 ha46 (by decide) rfl (by decide) lf_C_23 rfl ?_
                      obtain ⟨a47, ha47, h⟩ := x_b h
                      obtain ⟨p48, hp48, h⟩ := x_b h
                      refine lk_callV0 d_C_search_154 (x_obm ha47 rfl) (c_Si_find hp48) (Nat.le_of_ble_eq_true rfl) rfl M_Si_find lm_C_160 in_Si_find se_Si_find (by decide) rfl (Nat.le_of_ble_eq_true rfl) ?_
                      obtain ⟨a49, ha49, h⟩ := x_b h
                      replace h := x_nm h
                      refine lk_putJ (k := 11) d_C_search_157 ha49 (by decide) rfl (by decide) lf_C_58 rfl rfl ?_
                      refine lk_aload_n d_C_search_160 rfl ?_
                      refine lk_iconst (v := 3) d_C_search_161 rfl ?_
                      refine lk_aload_n d_C_search_162 rfl ?_
                      refine lk_getR (k := 6) d_C_search_163 ha49 (by decide) rfl (by decide) lf_C_44 rfl ?_
                      obtain ⟨a51, ha51, h⟩ := x_b h
                      obtain ⟨p52, hp52, h⟩ := x_b h
                      refine lk_callV0 d_C_search_166 (x_obm ha51 rfl) (c_Si_lettersPassed hp52) (Nat.le_of_ble_eq_true rfl) rfl M_Si_lettersPassed lm_C_161 in_Si_lettersPassed se_Si_lettersPassed (by decide) rfl (Nat.le_of_ble_eq_true rfl) ?_
                      refine lk_iconst (v := 1) d_C_search_169 rfl ?_
                      refine lk_iadd d_C_search_170 ?_
                      obtain ⟨a53, ha53, h⟩ := x_b h
                      obtain ⟨p54, hp54, h⟩ := x_b h
                      refine lk_callV0 d_C_search_171 (x_obm ha53 rfl) (c_C_note hp54) (Nat.le_of_ble_eq_true rfl) rfl M_C_note lm_C_153 in_C_note se_C_note (by decide) rfl (Nat.le_of_ble_eq_true rfl) ?_
                      refine lk_goto (tgt := 181) d_C_search_174 (by decide) ?_
                      cases h
                      refine Lk.sel [0] rfl ?_
                      exact Lk.stop ⟨rfl, rfl, rfl, rfl, rfl, rfl⟩
                    · have e0 := lv_neT g0 (a := 1) rfl
                      have e1 := lv_neT g1 (a := 2) rfl
                      have e2 := lv_neT g2 (a := 3) rfl
                      refine lk_tableOut (tgt := 177) d_C_search_74 (by omega) (by decide) ?_
                      refine lk_aload_n d_C_search_177 rfl ?_
                      obtain ⟨a55, ha55, h⟩ := x_b h
                      obtain ⟨p56, hp56, h⟩ := x_b h
                      refine lk_callV0 d_C_search_178 (x_obm ha55 rfl) (c_C_runLists hp56) (Nat.le_of_ble_eq_true rfl) rfl M_C_runLists lm_C_164 in_C_runLists se_C_runLists (by decide) rfl (Nat.le_of_ble_eq_true rfl) ?_
                      cases h
                      refine Lk.sel [0] rfl ?_
                      exact Lk.stop ⟨rfl, rfl, rfl, rfl, rfl, rfl⟩
              · clear hj
                refine lk_aload_n d_C_search_181 rfl ?_
                obtain ⟨a58, ha58, h⟩ := x_b h
                refine lk_getJ (k := 11) d_C_search_182 ha58 (by decide) rfl (by decide) lf_C_58 rfl ?_
                refine lk_iconst (v := 0) d_C_search_185 rfl ?_
                obtain ⟨p59, hp59, h⟩ := x_b h
                refine lk_callS0 d_C_search_186 (c_C_placeIn hp59) (Nat.le_of_ble_eq_true rfl) rfl M_C_placeIn lm_C_167 st_C_placeIn (Nat.le_of_ble_eq_true rfl) ?_
                cases h
          · replace h := x_ifp hc h
            cases h
            exact Lk.stop ⟨rfl, rfl, Nat.le_refl _, Nat.le_refl _, by decide, 127, 141, "the pattern is not simple", ⟨d_C_search_51, d_C_search_54, d_C_search_55, d_C_search_57, d_C_search_60⟩, by decide, lc_C_127, nE_131⟩
      · replace h := x_ifp hc h
        cases h
        exact Lk.stop ⟨rfl, rfl, Nat.le_refl _, Nat.le_refl _, by decide, 127, 129, "nothing is compiled", ⟨d_C_search_29, d_C_search_32, d_C_search_33, d_C_search_35, d_C_search_38⟩, by decide, lc_C_127, nE_131⟩
    · replace h := x_ifn hc h
      cases h
      exact Lk.stop ⟨rfl, rfl, Nat.le_refl _, Nat.le_refl _, by decide, 85, 139, "no such matcher", ⟨d_C_search_9, d_C_search_12, d_C_search_13, d_C_search_15, d_C_search_18⟩, by decide, lc_C_85, nE_89⟩
def f_C_compile (z0 : Nat) (s : hv_S) : Option ((Int32 ⊕ Nat) × hv_S) :=
  (x_ob s 0 ((some z0))).bind fun a1 =>
  (x_ob s 1 (hv_R s a1 2)).bind fun a2 =>
  (f_Wr_write a2 (hv_R s a1 0) (hv_I s a1 1) (hv_R s a1 9) s).bind fun p3 =>
  if p3.1 = 0 then
    some (.inr 89, hv_bump p3.2)
  else
    (x_ob p3.2 0 ((some z0))).bind fun a4 =>
    (some (hv_setR p3.2 a4 8 (hv_R p3.2 a4 9))).bind fun s5 =>
    (some (hv_setR s5 a4 9 (hv_R p3.2 a4 8))).bind fun s6 =>
    (x_ob s6 7 (hv_R s6 a4 6)).bind fun a7 =>
    (f_Si_fits a7 (hv_R s6 a4 8) s6).bind fun p8 =>
    (x_ob p8.2 0 ((some z0))).bind fun a9 =>
    (x_z p8.1).bind fun z10 =>
    (some (hv_setI p8.2 a9 10 z10)).bind fun s11 =>
    (x_ob s11 9 (hv_R s11 a9 7)).bind fun a12 =>
    (f_Au_reset a12 s11).bind fun p13 =>
    (x_ob p13 0 ((some z0))).bind fun a14 =>
    (f_C_forgetSearch a14 p13).bind fun p15 =>
    (x_ob p15 0 ((some z0))).bind fun a16 =>
    (x_ob p15 8 (hv_R p15 a16 8)).bind fun a17 =>
    (f_Pr_size a17 p15).bind fun p18 =>
    some ((.inl p18.1, p18.2))
set_option maxRecDepth 4000 in
set_option maxHeartbeats 2000000 in
theorem c_C_compile {G : lt_G} {z0 : Nat} {s s9 : hv_S} {v : Int32} (h : f_C_compile z0 s = some (.inl v, s9)) : Ck G m_C_compile 37 0 0 [vR (some z0)] s (some (vI v)) s9 := by
  refine Ck.of (by decide) (Nat.le_of_ble_eq_true rfl) ?_
  unfold f_C_compile at h
  refine lk_aload_n d_C_compile_0 rfl ?_
  obtain ⟨a1, ha1, h⟩ := x_b h
  refine lk_getR (k := 2) d_C_compile_1 ha1 (by decide) rfl (by decide) lf_C_16 rfl ?_
  refine lk_aload_n d_C_compile_4 rfl ?_
  refine lk_getR (k := 0) d_C_compile_5 ha1 (by decide) rfl (by decide) lf_C_9 rfl ?_
  refine lk_aload_n d_C_compile_8 rfl ?_
  refine lk_getI (k := 1) d_C_compile_9 ha1 (by decide) rfl (by decide) lf_C_78 rfl ?_
  refine lk_aload_n d_C_compile_12 rfl ?_
  refine lk_getR (k := 9) d_C_compile_13 ha1 (by decide) rfl (by decide) lf_C_55 rfl ?_
  obtain ⟨a2, ha2, h⟩ := x_b h
  obtain ⟨p3, hp3, h⟩ := x_b h
  refine lk_callV0 d_C_compile_16 (x_obm ha2 rfl) (c_Wr_write hp3) (Nat.le_of_ble_eq_true rfl) rfl M_Wr_write lm_C_81 in_Wr_write se_Wr_write (by decide) rfl (Nat.le_of_ble_eq_true rfl) ?_
  refine lk_if_ne (tgt := 32) d_C_compile_19 (by decide) (fun hc => ?_) (fun hc => ?_)
  · replace h := x_ifn hc h
    refine lk_aload_n d_C_compile_32 rfl ?_
    obtain ⟨a4, ha4, h⟩ := x_b h
    refine lk_getR (k := 8) d_C_compile_33 ha4 (by decide) rfl (by decide) lf_C_51 rfl ?_
    refine lk_astore_n d_C_compile_36 (by decide) rfl ?_
    refine lk_aload_n d_C_compile_37 rfl ?_
    refine lk_aload_n d_C_compile_38 rfl ?_
    refine lk_getR (k := 9) d_C_compile_39 ha4 (by decide) rfl (by decide) lf_C_55 rfl ?_
    replace h := x_nm h
    refine lk_putR (k := 8) d_C_compile_42 ha4 (by decide) rfl (by decide) lf_C_51 rfl rfl ?_
    refine lk_aload_n d_C_compile_45 rfl ?_
    refine lk_aload_n d_C_compile_46 rfl ?_
    replace h := x_nm h
    refine lk_putR (k := 9) d_C_compile_47 ha4 (by decide) rfl (by decide) lf_C_55 rfl rfl ?_
    refine lk_aload_n d_C_compile_50 rfl ?_
    refine lk_aload_n d_C_compile_51 rfl ?_
    refine lk_getR (k := 6) d_C_compile_52 ha4 (by decide) rfl (by decide) lf_C_44 rfl ?_
    refine lk_aload_n d_C_compile_55 rfl ?_
    refine lk_getR (k := 8) d_C_compile_56 ha4 (by decide) rfl (by decide) lf_C_51 rfl ?_
    obtain ⟨a7, ha7, h⟩ := x_b h
    obtain ⟨p8, hp8, h⟩ := x_b h
    refine lk_callV0 d_C_compile_59 (x_obm ha7 rfl) (c_Si_fits hp8) (Nat.le_of_ble_eq_true rfl) rfl M_Si_fits lm_C_92 in_Si_fits se_Si_fits (by decide) rfl (Nat.le_of_ble_eq_true rfl) ?_
    obtain ⟨a9, ha9, h⟩ := x_b h
    obtain ⟨z10, hz100, h⟩ := x_b h
    obtain ⟨rfl, hz10⟩ := x_z_some hz100
    replace h := x_nm h
    refine lk_putZ (k := 10) d_C_compile_62 ha9 hz10 (by decide) rfl (by decide) lf_C_96 rfl rfl ?_
    refine lk_aload_n d_C_compile_65 rfl ?_
    refine lk_getR (k := 7) d_C_compile_66 ha9 (by decide) rfl (by decide) lf_C_74 rfl ?_
    obtain ⟨a12, ha12, h⟩ := x_b h
    obtain ⟨p13, hp13, h⟩ := x_b h
    refine lk_callV0 d_C_compile_69 (x_obm ha12 rfl) (c_Au_reset hp13) (Nat.le_of_ble_eq_true rfl) rfl M_Au_reset lm_C_100 in_Au_reset se_Au_reset (by decide) rfl (Nat.le_of_ble_eq_true rfl) ?_
    refine lk_aload_n d_C_compile_72 rfl ?_
    obtain ⟨a14, ha14, h⟩ := x_b h
    obtain ⟨p15, hp15, h⟩ := x_b h
    refine lk_callV0 d_C_compile_73 (x_obm ha14 rfl) (c_C_forgetSearch hp15) (Nat.le_of_ble_eq_true rfl) rfl M_C_forgetSearch lm_C_103 in_C_forgetSearch se_C_forgetSearch (by decide) rfl (Nat.le_of_ble_eq_true rfl) ?_
    refine lk_aload_n d_C_compile_76 rfl ?_
    obtain ⟨a16, ha16, h⟩ := x_b h
    refine lk_getR (k := 8) d_C_compile_77 ha16 (by decide) rfl (by decide) lf_C_51 rfl ?_
    obtain ⟨a17, ha17, h⟩ := x_b h
    obtain ⟨p18, hp18, h⟩ := x_b h
    refine lk_callV0 d_C_compile_80 (x_obm ha17 rfl) (c_Pr_size hp18) (Nat.le_of_ble_eq_true rfl) rfl M_Pr_size lm_C_106 in_Pr_size se_Pr_size (by decide) rfl (Nat.le_of_ble_eq_true rfl) ?_
    cases h
    exact Lk.stop ⟨rfl, Or.inr (Or.inl ⟨_, _, d_C_compile_83, rfl, rfl, rfl, rfl⟩)⟩
  · replace h := x_ifp hc h
    cases h
set_option maxRecDepth 4000 in
set_option maxHeartbeats 2000000 in
theorem t_C_compile {G : lt_G} (hG : ∀ s A, G.2.2 s A → th_Y s A) {z0 : Nat} {s s9 : hv_S} {ic : Nat} (h : f_C_compile z0 s = some (.inr ic, s9)) : Cth G m_C_compile 37 [vR (some z0)] s ic s9 := by
  refine Cth.of hG rfl (by decide) (Nat.le_of_ble_eq_true rfl) (by decide) ?_
  unfold f_C_compile at h
  refine lk_aload_n d_C_compile_0 rfl ?_
  obtain ⟨a1, ha1, h⟩ := x_b h
  refine lk_getR (k := 2) d_C_compile_1 ha1 (by decide) rfl (by decide) lf_C_16 rfl ?_
  refine lk_aload_n d_C_compile_4 rfl ?_
  refine lk_getR (k := 0) d_C_compile_5 ha1 (by decide) rfl (by decide) lf_C_9 rfl ?_
  refine lk_aload_n d_C_compile_8 rfl ?_
  refine lk_getI (k := 1) d_C_compile_9 ha1 (by decide) rfl (by decide) lf_C_78 rfl ?_
  refine lk_aload_n d_C_compile_12 rfl ?_
  refine lk_getR (k := 9) d_C_compile_13 ha1 (by decide) rfl (by decide) lf_C_55 rfl ?_
  obtain ⟨a2, ha2, h⟩ := x_b h
  obtain ⟨p3, hp3, h⟩ := x_b h
  refine lk_callV0 d_C_compile_16 (x_obm ha2 rfl) (c_Wr_write hp3) (Nat.le_of_ble_eq_true rfl) rfl M_Wr_write lm_C_81 in_Wr_write se_Wr_write (by decide) rfl (Nat.le_of_ble_eq_true rfl) ?_
  refine lk_if_ne (tgt := 32) d_C_compile_19 (by decide) (fun hc => ?_) (fun hc => ?_)
  · replace h := x_ifn hc h
    refine lk_aload_n d_C_compile_32 rfl ?_
    obtain ⟨a4, ha4, h⟩ := x_b h
    refine lk_getR (k := 8) d_C_compile_33 ha4 (by decide) rfl (by decide) lf_C_51 rfl ?_
    refine lk_astore_n d_C_compile_36 (by decide) rfl ?_
    refine lk_aload_n d_C_compile_37 rfl ?_
    refine lk_aload_n d_C_compile_38 rfl ?_
    refine lk_getR (k := 9) d_C_compile_39 ha4 (by decide) rfl (by decide) lf_C_55 rfl ?_
    replace h := x_nm h
    refine lk_putR (k := 8) d_C_compile_42 ha4 (by decide) rfl (by decide) lf_C_51 rfl rfl ?_
    refine lk_aload_n d_C_compile_45 rfl ?_
    refine lk_aload_n d_C_compile_46 rfl ?_
    replace h := x_nm h
    refine lk_putR (k := 9) d_C_compile_47 ha4 (by decide) rfl (by decide) lf_C_55 rfl rfl ?_
    refine lk_aload_n d_C_compile_50 rfl ?_
    refine lk_aload_n d_C_compile_51 rfl ?_
    refine lk_getR (k := 6) d_C_compile_52 ha4 (by decide) rfl (by decide) lf_C_44 rfl ?_
    refine lk_aload_n d_C_compile_55 rfl ?_
    refine lk_getR (k := 8) d_C_compile_56 ha4 (by decide) rfl (by decide) lf_C_51 rfl ?_
    obtain ⟨a7, ha7, h⟩ := x_b h
    obtain ⟨p8, hp8, h⟩ := x_b h
    refine lk_callV0 d_C_compile_59 (x_obm ha7 rfl) (c_Si_fits hp8) (Nat.le_of_ble_eq_true rfl) rfl M_Si_fits lm_C_92 in_Si_fits se_Si_fits (by decide) rfl (Nat.le_of_ble_eq_true rfl) ?_
    obtain ⟨a9, ha9, h⟩ := x_b h
    obtain ⟨z10, hz100, h⟩ := x_b h
    obtain ⟨rfl, hz10⟩ := x_z_some hz100
    replace h := x_nm h
    refine lk_putZ (k := 10) d_C_compile_62 ha9 hz10 (by decide) rfl (by decide) lf_C_96 rfl rfl ?_
    refine lk_aload_n d_C_compile_65 rfl ?_
    refine lk_getR (k := 7) d_C_compile_66 ha9 (by decide) rfl (by decide) lf_C_74 rfl ?_
    obtain ⟨a12, ha12, h⟩ := x_b h
    obtain ⟨p13, hp13, h⟩ := x_b h
    refine lk_callV0 d_C_compile_69 (x_obm ha12 rfl) (c_Au_reset hp13) (Nat.le_of_ble_eq_true rfl) rfl M_Au_reset lm_C_100 in_Au_reset se_Au_reset (by decide) rfl (Nat.le_of_ble_eq_true rfl) ?_
    refine lk_aload_n d_C_compile_72 rfl ?_
    obtain ⟨a14, ha14, h⟩ := x_b h
    obtain ⟨p15, hp15, h⟩ := x_b h
    refine lk_callV0 d_C_compile_73 (x_obm ha14 rfl) (c_C_forgetSearch hp15) (Nat.le_of_ble_eq_true rfl) rfl M_C_forgetSearch lm_C_103 in_C_forgetSearch se_C_forgetSearch (by decide) rfl (Nat.le_of_ble_eq_true rfl) ?_
    refine lk_aload_n d_C_compile_76 rfl ?_
    obtain ⟨a16, ha16, h⟩ := x_b h
    refine lk_getR (k := 8) d_C_compile_77 ha16 (by decide) rfl (by decide) lf_C_51 rfl ?_
    obtain ⟨a17, ha17, h⟩ := x_b h
    obtain ⟨p18, hp18, h⟩ := x_b h
    refine lk_callV0 d_C_compile_80 (x_obm ha17 rfl) (c_Pr_size hp18) (Nat.le_of_ble_eq_true rfl) rfl M_Pr_size lm_C_106 in_Pr_size se_Pr_size (by decide) rfl (Nat.le_of_ble_eq_true rfl) ?_
    cases h
  · replace h := x_ifp hc h
    cases h
    exact Lk.stop ⟨rfl, rfl, Nat.le_refl _, Nat.le_refl _, by decide, 85, 87, "no pattern", ⟨d_C_compile_22, d_C_compile_25, d_C_compile_26, d_C_compile_28, d_C_compile_31⟩, by decide, lc_C_85, nE_89⟩
