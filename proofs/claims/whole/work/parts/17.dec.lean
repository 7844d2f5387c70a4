/-! WHAT THE METHODS DO: partial functions f_ over the view, loops L_, and the proofs c_, l_ that the bytecode does so; printed by wip/whole/gen_dec.py -/
def f_C_type (z0 : Nat) (x1 : Int32) (s : hv_S) : Option (Int32 × hv_S) :=
  (x_ob s 0 ((some z0))).bind fun a1 =>
  if (hv_I s a1 1) < 0 then
    some ((0, s))
  else
    (x_ar s 2 (hv_R s a1 0)).bind fun q2 =>
    if (hv_I s a1 1) < (nI q2.2) then
      (x_ix q2.2 (hv_I s a1 1)).bind fun k3 =>
      (some (hv_setI s q2.1 k3 (vp_nar .char x1))).bind fun s4 =>
      (some (hv_setI s4 a1 1 ((hv_I s4 a1 1) + (1 : Int32)))).bind fun s5 =>
      some ((1, s5))
    else
      some ((0, s))
set_option maxRecDepth 4000 in
set_option maxHeartbeats 2000000 in
theorem c_C_type {G : lt_G} {z0 : Nat} {x1 : Int32} {s : hv_S} {p : Int32 × hv_S} (h : f_C_type z0 x1 s = some p) : Ck G m_C_type 1 0 0 [vR (some z0), vI x1] s (some (vI p.1)) p.2 := by
  refine Ck.of (by decide) (Nat.le_of_ble_eq_true rfl) ?_
  unfold f_C_type at h
  refine lk_aload_n d_C_type_0 rfl ?_
  obtain ⟨a1, ha1, h⟩ := x_b h
  refine lk_getI (k := 1) d_C_type_1 ha1 (by decide) rfl (by decide) lf_C_78 rfl ?_
  refine lk_if_lt (tgt := 19) d_C_type_4 (by decide) (fun hc => ?_) (fun hc => ?_)
  · replace h := x_ifp hc h
    refine lk_iconst (v := 0) d_C_type_19 rfl ?_
    cases h
    exact Lk.stop ⟨rfl, Or.inr (Or.inl ⟨_, _, d_C_type_20, rfl, rfl, rfl, rfl⟩)⟩
  · replace h := x_ifn hc h
    refine lk_aload_n d_C_type_7 rfl ?_
    refine lk_getI (k := 1) d_C_type_8 ha1 (by decide) rfl (by decide) lf_C_78 rfl ?_
    refine lk_aload_n d_C_type_11 rfl ?_
    refine lk_getR (k := 0) d_C_type_12 ha1 (by decide) rfl (by decide) lf_C_9 rfl ?_
    obtain ⟨q2, hq2, h⟩ := x_b h
    refine lk_alen d_C_type_15 hq2 (by decide) ?_
    refine lk_icmp_lt (tgt := 21) d_C_type_16 (by decide) (fun hc => ?_) (fun hc => ?_)
    · replace h := x_ifp hc h
      refine lk_aload_n d_C_type_21 rfl ?_
      refine lk_getR (k := 0) d_C_type_22 ha1 (by decide) rfl (by decide) lf_C_9 rfl ?_
      refine lk_aload_n d_C_type_25 rfl ?_
      refine lk_getI (k := 1) d_C_type_26 ha1 (by decide) rfl (by decide) lf_C_78 rfl ?_
      refine lk_iload_n d_C_type_29 rfl ?_
      obtain ⟨k3, hk3, h⟩ := x_b h
      replace h := x_nm h
      refine lk_cast d_C_type_30 hq2 hk3 ?_
      refine lk_aload_n d_C_type_31 rfl ?_
      refine lk_dup d_C_type_32 rfl ?_
      refine lk_getI (k := 1) d_C_type_33 ha1 (by decide) rfl (by decide) lf_C_78 rfl ?_
      refine lk_iconst (v := 1) d_C_type_36 rfl ?_
      refine lk_iadd d_C_type_37 ?_
      replace h := x_nm h
      refine lk_putI (k := 1) d_C_type_38 ha1 (by decide) rfl (by decide) lf_C_78 rfl rfl ?_
      refine lk_iconst (v := 1) d_C_type_41 rfl ?_
      cases h
      exact Lk.stop ⟨rfl, Or.inr (Or.inl ⟨_, _, d_C_type_42, rfl, rfl, rfl, rfl⟩)⟩
    · replace h := x_ifn hc h
      refine lk_iconst (v := 0) d_C_type_19 rfl ?_
      cases h
      exact Lk.stop ⟨rfl, Or.inr (Or.inl ⟨_, _, d_C_type_20, rfl, rfl, rfl, rfl⟩)⟩
def f_C_wipe (z0 : Nat) (s : hv_S) : Option (hv_S) :=
  (x_ob s 0 ((some z0))).bind fun a1 =>
  (some (hv_setI s a1 1 0)).bind fun s2 =>
  some s2
set_option maxRecDepth 4000 in
set_option maxHeartbeats 2000000 in
theorem c_C_wipe {G : lt_G} {z0 : Nat} {s : hv_S} {p : hv_S} (h : f_C_wipe z0 s = some p) : Ck G m_C_wipe 1 0 0 [vR (some z0)] s none p := by
  refine Ck.of (by decide) (Nat.le_of_ble_eq_true rfl) ?_
  unfold f_C_wipe at h
  refine lk_aload_n d_C_wipe_0 rfl ?_
  refine lk_iconst (v := 0) d_C_wipe_1 rfl ?_
  obtain ⟨a1, ha1, h⟩ := x_b h
  replace h := x_nm h
  refine lk_putI (k := 1) d_C_wipe_2 ha1 (by decide) rfl (by decide) lf_C_78 rfl rfl ?_
  cases h
  exact Lk.stop ⟨rfl, Or.inl ⟨d_C_wipe_5, rfl, rfl, rfl⟩⟩
def f_C_note (z0 : Nat) (x1 : Int32) (x2 : Int32) (s : hv_S) : Option (hv_S) :=
  (x_ob s 0 ((some z0))).bind fun a1 =>
  (some (hv_setI s a1 13 x1)).bind fun s2 =>
  (some (hv_setI s2 a1 12 x2)).bind fun s3 =>
  some s3
set_option maxRecDepth 4000 in
set_option maxHeartbeats 2000000 in
theorem c_C_note {G : lt_G} {z0 : Nat} {x1 : Int32} {x2 : Int32} {s : hv_S} {p : hv_S} (h : f_C_note z0 x1 x2 s = some p) : Ck G m_C_note 1 0 0 [vR (some z0), vI x1, vI x2] s none p := by
  refine Ck.of (by decide) (Nat.le_of_ble_eq_true rfl) ?_
  unfold f_C_note at h
  refine lk_aload_n d_C_note_0 rfl ?_
  refine lk_iload_n d_C_note_1 rfl ?_
  obtain ⟨a1, ha1, h⟩ := x_b h
  replace h := x_nm h
  refine lk_putI (k := 13) d_C_note_2 ha1 (by decide) rfl (by decide) lf_C_66 rfl rfl ?_
  refine lk_aload_n d_C_note_5 rfl ?_
  refine lk_iload_n d_C_note_6 rfl ?_
  replace h := x_nm h
  refine lk_putI (k := 12) d_C_note_7 ha1 (by decide) rfl (by decide) lf_C_62 rfl rfl ?_
  cases h
  exact Lk.stop ⟨rfl, Or.inl ⟨d_C_note_10, rfl, rfl, rfl⟩⟩
def f_C_forgetSearch (z0 : Nat) (s : hv_S) : Option (hv_S) :=
  (x_ob s 0 ((some z0))).bind fun a1 =>
  (some (hv_setJ s a1 11 0)).bind fun s2 =>
  (f_C_note a1 ((-1)) ((-1)) s2).bind fun p3 =>
  some p3
set_option maxRecDepth 4000 in
set_option maxHeartbeats 2000000 in
theorem c_C_forgetSearch {G : lt_G} {z0 : Nat} {s : hv_S} {p : hv_S} (h : f_C_forgetSearch z0 s = some p) : Ck G m_C_forgetSearch 2 0 0 [vR (some z0)] s none p := by
  refine Ck.of (by decide) (Nat.le_of_ble_eq_true rfl) ?_
  unfold f_C_forgetSearch at h
  refine lk_aload_n d_C_forgetSearch_0 rfl ?_
  refine lk_lconst (v := 0) d_C_forgetSearch_1 rfl ?_
  obtain ⟨a1, ha1, h⟩ := x_b h
  replace h := x_nm h
  refine lk_putJ (k := 11) d_C_forgetSearch_2 ha1 (by decide) rfl (by decide) lf_C_58 rfl rfl ?_
  refine lk_aload_n d_C_forgetSearch_5 rfl ?_
  refine lk_iconst (v := (-1)) d_C_forgetSearch_6 rfl ?_
  refine lk_iconst (v := (-1)) d_C_forgetSearch_7 rfl ?_
  obtain ⟨p3, hp3, h⟩ := x_b h
  refine lk_callV0 d_C_forgetSearch_8 (x_obm ha1 rfl) (c_C_note hp3) (Nat.le_of_ble_eq_true rfl) rfl M_C_note lm_C_153 in_C_note se_C_note (by decide) rfl (Nat.le_of_ble_eq_true rfl) ?_
  cases h
  exact Lk.stop ⟨rfl, Or.inl ⟨d_C_forgetSearch_11, rfl, rfl, rfl⟩⟩
def f_C_feed (z0 : Nat) (x1 : Int32) (s : hv_S) : Option (Int32 × hv_S) :=
  (x_ob s 0 ((some z0))).bind fun a1 =>
  (x_ob s 2 (hv_R s a1 3)).bind fun a2 =>
  (f_Tx_add a2 x1 s).bind fun p3 =>
  if p3.1 = 0 then
    some ((0, p3.2))
  else
    (x_ob p3.2 0 ((some z0))).bind fun a4 =>
    (f_C_forgetSearch a4 p3.2).bind fun p5 =>
    some ((1, p5))
set_option maxRecDepth 4000 in
set_option maxHeartbeats 2000000 in
theorem c_C_feed {G : lt_G} {z0 : Nat} {x1 : Int32} {s : hv_S} {p : Int32 × hv_S} (h : f_C_feed z0 x1 s = some p) : Ck G m_C_feed 3 0 0 [vR (some z0), vI x1] s (some (vI p.1)) p.2 := by
  refine Ck.of (by decide) (Nat.le_of_ble_eq_true rfl) ?_
  unfold f_C_feed at h
  refine lk_aload_n d_C_feed_0 rfl ?_
  obtain ⟨a1, ha1, h⟩ := x_b h
  refine lk_getR (k := 3) d_C_feed_1 ha1 (by decide) rfl (by decide) lf_C_23 rfl ?_
  refine lk_iload_n d_C_feed_4 rfl ?_
  obtain ⟨a2, ha2, h⟩ := x_b h
  obtain ⟨p3, hp3, h⟩ := x_b h
  refine lk_callV0 d_C_feed_5 (x_obm ha2 rfl) (c_Tx_add hp3) (Nat.le_of_ble_eq_true rfl) rfl M_Tx_add lm_C_132 in_Tx_add se_Tx_add (by decide) rfl (Nat.le_of_ble_eq_true rfl) ?_
  refine lk_if_ne (tgt := 13) d_C_feed_8 (by decide) (fun hc => ?_) (fun hc => ?_)
  · replace h := x_ifn hc h
    refine lk_aload_n d_C_feed_13 rfl ?_
    obtain ⟨a4, ha4, h⟩ := x_b h
    obtain ⟨p5, hp5, h⟩ := x_b h
    refine lk_callV0 d_C_feed_14 (x_obm ha4 rfl) (c_C_forgetSearch hp5) (Nat.le_of_ble_eq_true rfl) rfl M_C_forgetSearch lm_C_103 in_C_forgetSearch se_C_forgetSearch (by decide) rfl (Nat.le_of_ble_eq_true rfl) ?_
    refine lk_iconst (v := 1) d_C_feed_17 rfl ?_
    cases h
    exact Lk.stop ⟨rfl, Or.inr (Or.inl ⟨_, _, d_C_feed_18, rfl, rfl, rfl, rfl⟩)⟩
  · replace h := x_ifp hc h
    refine lk_iconst (v := 0) d_C_feed_11 rfl ?_
    cases h
    exact Lk.stop ⟨rfl, Or.inr (Or.inl ⟨_, _, d_C_feed_12, rfl, rfl, rfl, rfl⟩)⟩
def f_C_clear (z0 : Nat) (s : hv_S) : Option (hv_S) :=
  (x_ob s 0 ((some z0))).bind fun a1 =>
  (x_ob s 2 (hv_R s a1 3)).bind fun a2 =>
  (f_Tx_empty a2 s).bind fun p3 =>
  (x_ob p3 0 ((some z0))).bind fun a4 =>
  (f_C_forgetSearch a4 p3).bind fun p5 =>
  some p5
set_option maxRecDepth 4000 in
set_option maxHeartbeats 2000000 in
theorem c_C_clear {G : lt_G} {z0 : Nat} {s : hv_S} {p : hv_S} (h : f_C_clear z0 s = some p) : Ck G m_C_clear 3 0 0 [vR (some z0)] s none p := by
  refine Ck.of (by decide) (Nat.le_of_ble_eq_true rfl) ?_
  unfold f_C_clear at h
  refine lk_aload_n d_C_clear_0 rfl ?_
  obtain ⟨a1, ha1, h⟩ := x_b h
  refine lk_getR (k := 3) d_C_clear_1 ha1 (by decide) rfl (by decide) lf_C_23 rfl ?_
  obtain ⟨a2, ha2, h⟩ := x_b h
  obtain ⟨p3, hp3, h⟩ := x_b h
  refine lk_callV0 d_C_clear_4 (x_obm ha2 rfl) (c_Tx_empty hp3) (Nat.le_of_ble_eq_true rfl) rfl M_Tx_empty lm_C_136 in_Tx_empty se_Tx_empty (by decide) rfl (Nat.le_of_ble_eq_true rfl) ?_
  refine lk_aload_n d_C_clear_7 rfl ?_
  obtain ⟨a4, ha4, h⟩ := x_b h
  obtain ⟨p5, hp5, h⟩ := x_b h
  refine lk_callV0 d_C_clear_8 (x_obm ha4 rfl) (c_C_forgetSearch hp5) (Nat.le_of_ble_eq_true rfl) rfl M_C_forgetSearch lm_C_103 in_C_forgetSearch se_C_forgetSearch (by decide) rfl (Nat.le_of_ble_eq_true rfl) ?_
  cases h
  exact Lk.stop ⟨rfl, Or.inl ⟨d_C_clear_11, rfl, rfl, rfl⟩⟩
def f_C_work (z0 : Nat) (s : hv_S) : Option (Int32 × hv_S) :=
  (x_ob s 0 ((some z0))).bind fun a1 =>
  some ((hv_I s a1 12, s))
set_option maxRecDepth 4000 in
set_option maxHeartbeats 2000000 in
theorem c_C_work {G : lt_G} {z0 : Nat} {s : hv_S} {p : Int32 × hv_S} (h : f_C_work z0 s = some p) : Ck G m_C_work 1 0 0 [vR (some z0)] s (some (vI p.1)) p.2 := by
  refine Ck.of (by decide) (Nat.le_of_ble_eq_true rfl) ?_
  unfold f_C_work at h
  refine lk_aload_n d_C_work_0 rfl ?_
  obtain ⟨a1, ha1, h⟩ := x_b h
  refine lk_getI (k := 12) d_C_work_1 ha1 (by decide) rfl (by decide) lf_C_62 rfl ?_
  cases h
  exact Lk.stop ⟨rfl, Or.inr (Or.inl ⟨_, _, d_C_work_4, rfl, rfl, rfl, rfl⟩)⟩
def f_C_matcher (z0 : Nat) (s : hv_S) : Option (Int32 × hv_S) :=
  (x_ob s 0 ((some z0))).bind fun a1 =>
  some ((hv_I s a1 13, s))
set_option maxRecDepth 4000 in
set_option maxHeartbeats 2000000 in
theorem c_C_matcher {G : lt_G} {z0 : Nat} {s : hv_S} {p : Int32 × hv_S} (h : f_C_matcher z0 s = some p) : Ck G m_C_matcher 1 0 0 [vR (some z0)] s (some (vI p.1)) p.2 := by
  refine Ck.of (by decide) (Nat.le_of_ble_eq_true rfl) ?_
  unfold f_C_matcher at h
  refine lk_aload_n d_C_matcher_0 rfl ?_
  obtain ⟨a1, ha1, h⟩ := x_b h
  refine lk_getI (k := 13) d_C_matcher_1 ha1 (by decide) rfl (by decide) lf_C_66 rfl ?_
  cases h
  exact Lk.stop ⟨rfl, Or.inr (Or.inl ⟨_, _, d_C_matcher_4, rfl, rfl, rfl, rfl⟩)⟩
def f_C_states (z0 : Nat) (s : hv_S) : Option (Int32 × hv_S) :=
  (x_ob s 0 ((some z0))).bind fun a1 =>
  (x_ob s 9 (hv_R s a1 7)).bind fun a2 =>
  (f_Au_keptCount a2 s).bind fun p3 =>
  some ((p3.1, p3.2))
set_option maxRecDepth 4000 in
set_option maxHeartbeats 2000000 in
theorem c_C_states {G : lt_G} {z0 : Nat} {s : hv_S} {p : Int32 × hv_S} (h : f_C_states z0 s = some p) : Ck G m_C_states 2 0 0 [vR (some z0)] s (some (vI p.1)) p.2 := by
  refine Ck.of (by decide) (Nat.le_of_ble_eq_true rfl) ?_
  unfold f_C_states at h
  refine lk_aload_n d_C_states_0 rfl ?_
  obtain ⟨a1, ha1, h⟩ := x_b h
  refine lk_getR (k := 7) d_C_states_1 ha1 (by decide) rfl (by decide) lf_C_74 rfl ?_
  obtain ⟨a2, ha2, h⟩ := x_b h
  obtain ⟨p3, hp3, h⟩ := x_b h
  refine lk_callV0 d_C_states_4 (x_obm ha2 rfl) (c_Au_keptCount hp3) (Nat.le_of_ble_eq_true rfl) rfl M_Au_keptCount lm_C_173 in_Au_keptCount se_Au_keptCount (by decide) rfl (Nat.le_of_ble_eq_true rfl) ?_
  cases h
  exact Lk.stop ⟨rfl, Or.inr (Or.inl ⟨_, _, d_C_states_7, rfl, rfl, rfl, rfl⟩)⟩
def f_C_flushes (z0 : Nat) (s : hv_S) : Option (Int32 × hv_S) :=
  (x_ob s 0 ((some z0))).bind fun a1 =>
  (x_ob s 9 (hv_R s a1 7)).bind fun a2 =>
  (f_Au_flushCount a2 s).bind fun p3 =>
  some ((p3.1, p3.2))
set_option maxRecDepth 4000 in
set_option maxHeartbeats 2000000 in
theorem c_C_flushes {G : lt_G} {z0 : Nat} {s : hv_S} {p : Int32 × hv_S} (h : f_C_flushes z0 s = some p) : Ck G m_C_flushes 2 0 0 [vR (some z0)] s (some (vI p.1)) p.2 := by
  refine Ck.of (by decide) (Nat.le_of_ble_eq_true rfl) ?_
  unfold f_C_flushes at h
  refine lk_aload_n d_C_flushes_0 rfl ?_
  obtain ⟨a1, ha1, h⟩ := x_b h
  refine lk_getR (k := 7) d_C_flushes_1 ha1 (by decide) rfl (by decide) lf_C_74 rfl ?_
  obtain ⟨a2, ha2, h⟩ := x_b h
  obtain ⟨p3, hp3, h⟩ := x_b h
  refine lk_callV0 d_C_flushes_4 (x_obm ha2 rfl) (c_Au_flushCount hp3) (Nat.le_of_ble_eq_true rfl) rfl M_Au_flushCount lm_C_176 in_Au_flushCount se_Au_flushCount (by decide) rfl (Nat.le_of_ble_eq_true rfl) ?_
  cases h
  exact Lk.stop ⟨rfl, Or.inr (Or.inl ⟨_, _, d_C_flushes_7, rfl, rfl, rfl, rfl⟩)⟩
def f_C_plannedMatcher (z0 : Nat) (s : hv_S) : Option (Int32 × hv_S) :=
  (x_ob s 0 ((some z0))).bind fun a1 =>
  if (hv_I s a1 10) = 0 then
    (x_ob s 8 (hv_R s a1 8)).bind fun a2 =>
    (f_Pr_size a2 s).bind fun p3 =>
    (x_ob p3.2 0 ((some z0))).bind fun a4 =>
    (x_ob p3.2 2 (hv_R p3.2 a4 3)).bind fun a5 =>
    (f_Tx_length a5 p3.2).bind fun p6 =>
    ((
      if 128 < (p3.1 * (p6.1 + (1 : Int32))) then
        some 2
      else
        some 1
    ) : Option (Int32)).bind fun t7 =>
    some ((t7, p6.2))
  else
    some ((3, s))
set_option maxRecDepth 4000 in
set_option maxHeartbeats 2000000 in
theorem c_C_plannedMatcher {G : lt_G} {z0 : Nat} {s : hv_S} {p : Int32 × hv_S} (h : f_C_plannedMatcher z0 s = some p) : Ck G m_C_plannedMatcher 2 0 0 [vR (some z0)] s (some (vI p.1)) p.2 := by
  refine Ck.of (by decide) (Nat.le_of_ble_eq_true rfl) ?_
  unfold f_C_plannedMatcher at h
  refine lk_aload_n d_C_plannedMatcher_0 rfl ?_
  obtain ⟨a1, ha1, h⟩ := x_b h
  refine lk_getI (k := 10) d_C_plannedMatcher_1 ha1 (by decide) rfl (by decide) lf_C_96 rfl ?_
  refine lk_if_eq (tgt := 9) d_C_plannedMatcher_4 (by decide) (fun hc => ?_) (fun hc => ?_)
  · replace h := x_ifp hc h
    refine lk_aload_n d_C_plannedMatcher_9 rfl ?_
    refine lk_getR (k := 8) d_C_plannedMatcher_10 ha1 (by decide) rfl (by decide) lf_C_51 rfl ?_
    obtain ⟨a2, ha2, h⟩ := x_b h
    obtain ⟨p3, hp3, h⟩ := x_b h
    refine lk_callV0 d_C_plannedMatcher_13 (x_obm ha2 rfl) (c_Pr_size hp3) (Nat.le_of_ble_eq_true rfl) rfl M_Pr_size lm_C_106 in_Pr_size se_Pr_size (by decide) rfl (Nat.le_of_ble_eq_true rfl) ?_
    refine lk_aload_n d_C_plannedMatcher_16 rfl ?_
    obtain ⟨a4, ha4, h⟩ := x_b h
    refine lk_getR (k := 3) d_C_plannedMatcher_17 ha4 (by decide) rfl (by decide) lf_C_23 rfl ?_
    obtain ⟨a5, ha5, h⟩ := x_b h
    obtain ⟨p6, hp6, h⟩ := x_b h
    refine lk_callV0 d_C_plannedMatcher_20 (x_obm ha5 rfl) (c_Tx_length hp6) (Nat.le_of_ble_eq_true rfl) rfl M_Tx_length lm_C_179 in_Tx_length se_Tx_length (by decide) rfl (Nat.le_of_ble_eq_true rfl) ?_
    refine lk_iconst (v := 1) d_C_plannedMatcher_23 rfl ?_
    refine lk_iadd d_C_plannedMatcher_24 ?_
    refine lk_imul d_C_plannedMatcher_25 ?_
    refine lk_sipush (v := 128) d_C_plannedMatcher_26 rfl ?_
    obtain ⟨t7, hj, h⟩ := x_b h
    refine Lk.joinA 37 [] [] rfl 2 [vI t7] ?_ ?_
    · replace h := hj
      refine lk_icmp_gt (tgt := 36) d_C_plannedMatcher_29 (by decide) (fun hc => ?_) (fun hc => ?_)
      · replace h := x_ifp hc h
        refine lk_iconst (v := 2) d_C_plannedMatcher_36 rfl ?_
        cases h
        refine Lk.sel [] rfl ?_
        exact Lk.stop ⟨rfl, rfl, rfl, rfl, rfl, rfl⟩
      · replace h := x_ifn hc h
        refine lk_iconst (v := 1) d_C_plannedMatcher_32 rfl ?_
        refine lk_goto (tgt := 37) d_C_plannedMatcher_33 (by decide) ?_
        cases h
        refine Lk.sel [] rfl ?_
        exact Lk.stop ⟨rfl, rfl, rfl, rfl, rfl, rfl⟩
    · clear hj
      cases h
      exact Lk.stop ⟨rfl, Or.inr (Or.inl ⟨_, _, d_C_plannedMatcher_37, rfl, rfl, rfl, rfl⟩)⟩
  · replace h := x_ifn hc h
    refine lk_iconst (v := 3) d_C_plannedMatcher_7 rfl ?_
    cases h
    exact Lk.stop ⟨rfl, Or.inr (Or.inl ⟨_, _, d_C_plannedMatcher_8, rfl, rfl, rfl, rfl⟩)⟩
def f_C_runLists (z0 : Nat) (s : hv_S) : Option (hv_S) :=
  (x_ob s 0 ((some z0))).bind fun a1 =>
  (x_ob s 3 (hv_R s a1 4)).bind fun a2 =>
  (f_Ls_find a2 (hv_R s a1 8) (hv_R s a1 3) 0 1 s).bind fun p3 =>
  (x_ob p3.2 0 ((some z0))).bind fun a4 =>
  (some (hv_setJ p3.2 a4 11 p3.1)).bind fun s5 =>
  (x_ob s5 3 (hv_R s5 a4 4)).bind fun a6 =>
  (f_Ls_entriesPassed a6 s5).bind fun p7 =>
  (x_ob p7.2 0 ((some z0))).bind fun a8 =>
  (f_C_note a8 0 p7.1 p7.2).bind fun p9 =>
  some p9
set_option maxRecDepth 4000 in
set_option maxHeartbeats 2000000 in
theorem c_C_runLists {G : lt_G} {z0 : Nat} {s : hv_S} {p : hv_S} (h : f_C_runLists z0 s = some p) : Ck G m_C_runLists 6 0 0 [vR (some z0)] s none p := by
  refine Ck.of (by decide) (Nat.le_of_ble_eq_true rfl) ?_
  unfold f_C_runLists at h
  refine lk_aload_n d_C_runLists_0 rfl ?_
  refine lk_aload_n d_C_runLists_1 rfl ?_
  obtain ⟨a1, ha1, h⟩ := x_b h
  refine lk_getR (k := 4) d_C_runLists_2 ha1 (by decide) rfl (by decide) lf_C_30 rfl ?_
  refine lk_aload_n d_C_runLists_5 rfl ?_
  refine lk_getR (k := 8) d_C_runLists_6 ha1 (by decide) rfl (by decide) lf_C_51 rfl ?_
  refine lk_aload_n d_C_runLists_9 rfl ?_
  refine lk_getR (k := 3) d_C_runLists_10 ha1 (by decide) rfl (by decide) lf_C_23 rfl ?_
  refine lk_iconst (v := 0) d_C_runLists_13 rfl ?_
  refine lk_iconst (v := 1) d_C_runLists_14 rfl ?_
  obtain ⟨a2, ha2, h⟩ := x_b h
  obtain ⟨p3, hp3, h⟩ := x_b h
  refine lk_callV0 d_C_runLists_15 (x_obm ha2 rfl) (c_Ls_find hp3) (Nat.le_of_ble_eq_true rfl) rfl M_Ls_find lm_C_182 in_Ls_find se_Ls_find (by decide) rfl (Nat.le_of_ble_eq_true rfl) ?_
  obtain ⟨a4, ha4, h⟩ := x_b h
  replace h := x_nm h
  refine lk_putJ (k := 11) d_C_runLists_18 ha4 (by decide) rfl (by decide) lf_C_58 rfl rfl ?_
  refine lk_aload_n d_C_runLists_21 rfl ?_
  refine lk_iconst (v := 0) d_C_runLists_22 rfl ?_
  refine lk_aload_n d_C_runLists_23 rfl ?_
  refine lk_getR (k := 4) d_C_runLists_24 ha4 (by decide) rfl (by decide) lf_C_30 rfl ?_
  obtain ⟨a6, ha6, h⟩ := x_b h
  obtain ⟨p7, hp7, h⟩ := x_b h
  refine lk_callV0 d_C_runLists_27 (x_obm ha6 rfl) (c_Ls_entriesPassed hp7) (Nat.le_of_ble_eq_true rfl) rfl M_Ls_entriesPassed lm_C_185 in_Ls_entriesPassed se_Ls_entriesPassed (by decide) rfl (Nat.le_of_ble_eq_true rfl) ?_
  obtain ⟨a8, ha8, h⟩ := x_b h
  obtain ⟨p9, hp9, h⟩ := x_b h
  refine lk_callV0 d_C_runLists_30 (x_obm ha8 rfl) (c_C_note hp9) (Nat.le_of_ble_eq_true rfl) rfl M_C_note lm_C_153 in_C_note se_C_note (by decide) rfl (Nat.le_of_ble_eq_true rfl) ?_
  cases h
  exact Lk.stop ⟨rfl, Or.inl ⟨d_C_runLists_33, rfl, rfl, rfl⟩⟩
def L_C_leftmostEndingAt_2 : Nat → Option Nat → Int32 → Int32 → hv_S → Option ((hv_S) ⊕ (Int64 × hv_S))
  | 0, _, _, _, _ => none
  | n + 1, x0, x1, x2, s =>
    if x1 < x2 then
      some (.inl s)
    else
      (x_ob s 0 x0).bind fun a1 =>
      (x_ob s 3 (hv_R s a1 4)).bind fun a2 =>
      (f_Ls_find a2 (hv_R s a1 8) (hv_R s a1 3) x2 0 s).bind fun p3 =>
      if (lg_cmp p3.1 0) = 0 then
        L_C_leftmostEndingAt_2 n x0 x1 (x2 + 1) p3.2
      else
        (f_C_placeIn p3.1 1 p3.2).bind fun p4 =>
        if p4.1 = x1 then
          some (.inr ((p3.1, p4.2)))
        else
          L_C_leftmostEndingAt_2 n x0 x1 (x2 + 1) p4.2
set_option maxRecDepth 4000 in
set_option maxHeartbeats 2000000 in
theorem l_C_leftmostEndingAt_2 {G : lt_G} : ∀ (n : Nat) (x0 : Option Nat) (x1 : Int32) (x2 : Int32) (s : hv_S) (e0 : (hv_S) ⊕ (Int64 × hv_S)), L_C_leftmostEndingAt_2 n x0 x1 x2 s = some e0 → Lk G m_C_leftmostEndingAt 6 2 [(0, vR x0), (1, vI x1), (2, vI x2)] [] s 0 0 (fun a b c d e f => match e0 with | .inl t => lk_at 48 [] [] t 0 0 a b c d e f | .inr w => lk_end m_C_leftmostEndingAt (some (vJ w.1)) w.2 a b c d e f) := by
  intro n
  induction n with
  | zero => intro x0 x1 x2 s e0 h; cases h
  | succ n ih =>
    intro x0 x1 x2 s e0 h
    unfold L_C_leftmostEndingAt_2 at h
    refine lk_iload_n d_C_leftmostEndingAt_2 rfl ?_
    refine lk_iload_n d_C_leftmostEndingAt_3 rfl ?_
    refine lk_icmp_gt (tgt := 48) d_C_leftmostEndingAt_4 (by decide) (fun hc => ?_) (fun hc => ?_)
    · replace h := x_ifp hc h
      cases h
      refine Lk.sel [] rfl ?_
      exact Lk.stop ⟨rfl, rfl, rfl, rfl, rfl, rfl⟩
    · replace h := x_ifn hc h
      refine lk_aload_n d_C_leftmostEndingAt_7 rfl ?_
      obtain ⟨a1, ha1, h⟩ := x_b h
      refine lk_getR (k := 4) d_C_leftmostEndingAt_8 ha1 (by decide) rfl (by decide) lf_C_30 rfl ?_
      refine lk_aload_n d_C_leftmostEndingAt_11 rfl ?_
      refine lk_getR (k := 8) d_C_leftmostEndingAt_12 ha1 (by decide) rfl (by decide) lf_C_51 rfl ?_
      refine lk_aload_n d_C_leftmostEndingAt_15 rfl ?_
      refine lk_getR (k := 3) d_C_leftmostEndingAt_16 ha1 (by decide) rfl (by decide) lf_C_23 rfl ?_
      refine lk_iload_n d_C_leftmostEndingAt_19 rfl ?_
      refine lk_iconst (v := 0) d_C_leftmostEndingAt_20 rfl ?_
      obtain ⟨a2, ha2, h⟩ := x_b h
      obtain ⟨p3, hp3, h⟩ := x_b h
      refine lk_callV0 d_C_leftmostEndingAt_21 (x_obm ha2 rfl) (c_Ls_find hp3) (Nat.le_of_ble_eq_true rfl) rfl M_Ls_find lm_C_182 in_Ls_find se_Ls_find (by decide) rfl (Nat.le_of_ble_eq_true rfl) ?_
      refine lk_lstore_n d_C_leftmostEndingAt_24 (by decide) rfl ?_
      refine lk_lload_n d_C_leftmostEndingAt_25 rfl ?_
      refine lk_lconst (v := 0) d_C_leftmostEndingAt_26 rfl ?_
      refine lk_lcmp d_C_leftmostEndingAt_27 ?_
      refine lk_if_eq (tgt := 42) d_C_leftmostEndingAt_28 (by decide) (fun hc => ?_) (fun hc => ?_)
      · replace h := x_ifp hc h
        refine lk_iinc (v := _ + 1) d_C_leftmostEndingAt_42 rfl rfl (by decide) rfl ?_
        refine lk_goto (tgt := 2) d_C_leftmostEndingAt_45 (by decide) ?_
        refine Lk.sel [0, 1, 2] rfl ?_
        exact ih _ _ _ _ _ h
      · replace h := x_ifn hc h
        refine lk_lload_n d_C_leftmostEndingAt_31 rfl ?_
        refine lk_iconst (v := 1) d_C_leftmostEndingAt_32 rfl ?_
        obtain ⟨p4, hp4, h⟩ := x_b h
        refine lk_callS0 d_C_leftmostEndingAt_33 (c_C_placeIn hp4) (Nat.le_of_ble_eq_true rfl) rfl M_C_placeIn lm_C_167 st_C_placeIn (Nat.le_of_ble_eq_true rfl) ?_
        refine lk_iload_n d_C_leftmostEndingAt_36 rfl ?_
        refine lk_icmp_ne (tgt := 42) d_C_leftmostEndingAt_37 (by decide) (fun hc => ?_) (fun hc => ?_)
        · replace h := x_ifn hc h
          refine lk_iinc (v := _ + 1) d_C_leftmostEndingAt_42 rfl rfl (by decide) rfl ?_
          refine lk_goto (tgt := 2) d_C_leftmostEndingAt_45 (by decide) ?_
          refine Lk.sel [0, 1, 2] rfl ?_
          exact ih _ _ _ _ _ h
        · replace h := x_ifp hc h
          refine lk_lload_n d_C_leftmostEndingAt_40 rfl ?_
          cases h
          exact Lk.stop ⟨rfl, Or.inr (Or.inr (Or.inl ⟨_, d_C_leftmostEndingAt_41, rfl, rfl, rfl⟩))⟩
def f_C_leftmostEndingAt (z0 : Nat) (x1 : Int32) (s : hv_S) : Option (Int64 × hv_S) :=
  (L_C_leftmostEndingAt_2 100000 ((some z0)) x1 0 s).bind fun e5r => e5r.elim (fun e5 =>
    some ((0, e5))
  ) (fun w => some w)
set_option maxRecDepth 4000 in
set_option maxHeartbeats 2000000 in
theorem c_C_leftmostEndingAt {G : lt_G} {z0 : Nat} {x1 : Int32} {s : hv_S} {p : Int64 × hv_S} (h : f_C_leftmostEndingAt z0 x1 s = some p) : Ck G m_C_leftmostEndingAt 6 0 0 [vR (some z0), vI x1] s (some (vJ p.1)) p.2 := by
  refine Ck.of (by decide) (Nat.le_of_ble_eq_true rfl) ?_
  unfold f_C_leftmostEndingAt at h
  refine lk_iconst (v := 0) d_C_leftmostEndingAt_0 rfl ?_
  refine lk_istore_n d_C_leftmostEndingAt_1 (by decide) rfl ?_
  obtain ⟨e5r, hl, h⟩ := x_b h
  refine Lk.sel [0, 1, 2] rfl ?_
  refine Lk.trans (l_C_leftmostEndingAt_2 _ _ _ _ _ _ hl) ?_
  intro pc' lo' st' s' mc' ms' hx
  cases e5r with
  | inl e5 =>
    obtain ⟨rfl, rfl, rfl, rfl, rfl, rfl⟩ := hx
    refine lk_lconst (v := 0) d_C_leftmostEndingAt_48 rfl ?_
    cases h
    exact Lk.stop ⟨rfl, Or.inr (Or.inr (Or.inl ⟨_, d_C_leftmostEndingAt_49, rfl, rfl, rfl⟩))⟩
  | inr w =>
    cases h
    exact Lk.stop hx
def f_C_runAutomaton (z0 : Nat) (s : hv_S) : Option (hv_S) :=
  (x_ob s 0 ((some z0))).bind fun a1 =>
  (x_ob s 9 (hv_R s a1 7)).bind fun a2 =>
  (f_Au_lastEnd a2 (hv_R s a1 8) (hv_R s a1 3) s).bind fun p3 =>
  (x_ob p3.2 0 ((some z0))).bind fun a4 =>
  (x_ob p3.2 9 (hv_R p3.2 a4 7)).bind fun a5 =>
  (f_Au_gaveUp a5 p3.2).bind fun p6 =>
  if p6.1 = 0 then
    ((
      if p3.1 = ((-1)) then
        some (0, p6.2)
      else
        (x_ob p6.2 0 ((some z0))).bind fun a7 =>
        (f_C_leftmostEndingAt a7 p3.1 p6.2).bind fun p8 =>
        some (p8.1, p8.2)
    ) : Option (Int64 × hv_S)).bind fun t9 =>
    (x_ob t9.2 0 ((some z0))).bind fun a10 =>
    (some (hv_setJ t9.2 a10 11 t9.1)).bind fun s11 =>
    (x_ob s11 9 (hv_R s11 a10 7)).bind fun a12 =>
    (f_Au_statesMade a12 s11).bind fun p13 =>
    (x_ob p13.2 0 ((some z0))).bind fun a14 =>
    (f_C_note a14 2 p13.1 p13.2).bind fun p15 =>
    some p15
  else
    (x_ob p6.2 0 ((some z0))).bind fun a16 =>
    (f_C_runLists a16 p6.2).bind fun p17 =>
    some p17
set_option maxRecDepth 4000 in
set_option maxHeartbeats 2000000 in
theorem c_C_runAutomaton {G : lt_G} {z0 : Nat} {s : hv_S} {p : hv_S} (h : f_C_runAutomaton z0 s = some p) : Ck G m_C_runAutomaton 7 0 0 [vR (some z0)] s none p := by
  refine Ck.of (by decide) (Nat.le_of_ble_eq_true rfl) ?_
  unfold f_C_runAutomaton at h
  refine lk_aload_n d_C_runAutomaton_0 rfl ?_
  obtain ⟨a1, ha1, h⟩ := x_b h
  refine lk_getR (k := 7) d_C_runAutomaton_1 ha1 (by decide) rfl (by decide) lf_C_74 rfl ?_
  refine lk_aload_n d_C_runAutomaton_4 rfl ?_
  refine lk_getR (k := 8) d_C_runAutomaton_5 ha1 (by decide) rfl (by decide) lf_C_51 rfl ?_
  refine lk_aload_n d_C_runAutomaton_8 rfl ?_
  refine lk_getR (k := 3) d_C_runAutomaton_9 ha1 (by decide) rfl (by decide) lf_C_23 rfl ?_
  obtain ⟨a2, ha2, h⟩ := x_b h
  obtain ⟨p3, hp3, h⟩ := x_b h
  refine lk_callV0 d_C_runAutomaton_12 (x_obm ha2 rfl) (c_Au_lastEnd hp3) (Nat.le_of_ble_eq_true rfl) rfl M_Au_lastEnd lm_C_188 in_Au_lastEnd se_Au_lastEnd (by decide) rfl (Nat.le_of_ble_eq_true rfl) ?_
  refine lk_istore_n d_C_runAutomaton_15 (by decide) rfl ?_
  refine lk_aload_n d_C_runAutomaton_16 rfl ?_
  obtain ⟨a4, ha4, h⟩ := x_b h
  refine lk_getR (k := 7) d_C_runAutomaton_17 ha4 (by decide) rfl (by decide) lf_C_74 rfl ?_
  obtain ⟨a5, ha5, h⟩ := x_b h
  obtain ⟨p6, hp6, h⟩ := x_b h
  refine lk_callV0 d_C_runAutomaton_20 (x_obm ha5 rfl) (c_Au_gaveUp hp6) (Nat.le_of_ble_eq_true rfl) rfl M_Au_gaveUp lm_C_192 in_Au_gaveUp se_Au_gaveUp (by decide) rfl (Nat.le_of_ble_eq_true rfl) ?_
  refine lk_if_eq (tgt := 31) d_C_runAutomaton_23 (by decide) (fun hc => ?_) (fun hc => ?_)
  · replace h := x_ifp hc h
    refine lk_aload_n d_C_runAutomaton_31 rfl ?_
    refine lk_iload_n d_C_runAutomaton_32 rfl ?_
    refine lk_iconst (v := (-1)) d_C_runAutomaton_33 rfl ?_
    obtain ⟨t9, hj, h⟩ := x_b h
    refine Lk.joinS 46 [0] [] rfl 2 [vJ t9.1] t9.2 ?_ ?_
    · replace h := hj
      refine lk_icmp_ne (tgt := 41) d_C_runAutomaton_34 (by decide) (fun hc => ?_) (fun hc => ?_)
      · replace h := x_ifn hc h
        refine lk_aload_n d_C_runAutomaton_41 rfl ?_
        refine lk_iload_n d_C_runAutomaton_42 rfl ?_
        obtain ⟨a7, ha7, h⟩ := x_b h
        obtain ⟨p8, hp8, h⟩ := x_b h
        refine lk_callV0 d_C_runAutomaton_43 (x_obm ha7 rfl) (c_C_leftmostEndingAt hp8) (Nat.le_of_ble_eq_true rfl) rfl M_C_leftmostEndingAt lm_C_196 in_C_leftmostEndingAt se_C_leftmostEndingAt (by decide) rfl (Nat.le_of_ble_eq_true rfl) ?_
        cases h
        refine Lk.sel [0] rfl ?_
        exact Lk.stop ⟨rfl, rfl, rfl, rfl, rfl, rfl⟩
      · replace h := x_ifp hc h
        refine lk_lconst (v := 0) d_C_runAutomaton_37 rfl ?_
        refine lk_goto (tgt := 46) d_C_runAutomaton_38 (by decide) ?_
        cases h
        refine Lk.sel [0] rfl ?_
        exact Lk.stop ⟨rfl, rfl, rfl, rfl, rfl, rfl⟩
    · clear hj
      obtain ⟨a10, ha10, h⟩ := x_b h
      replace h := x_nm h
      refine lk_putJ (k := 11) d_C_runAutomaton_46 ha10 (by decide) rfl (by decide) lf_C_58 rfl rfl ?_
      refine lk_aload_n d_C_runAutomaton_49 rfl ?_
      refine lk_iconst (v := 2) d_C_runAutomaton_50 rfl ?_
      refine lk_aload_n d_C_runAutomaton_51 rfl ?_
      refine lk_getR (k := 7) d_C_runAutomaton_52 ha10 (by decide) rfl (by decide) lf_C_74 rfl ?_
      obtain ⟨a12, ha12, h⟩ := x_b h
      obtain ⟨p13, hp13, h⟩ := x_b h
      refine lk_callV0 d_C_runAutomaton_55 (x_obm ha12 rfl) (c_Au_statesMade hp13) (Nat.le_of_ble_eq_true rfl) rfl M_Au_statesMade lm_C_200 in_Au_statesMade se_Au_statesMade (by decide) rfl (Nat.le_of_ble_eq_true rfl) ?_
      obtain ⟨a14, ha14, h⟩ := x_b h
      obtain ⟨p15, hp15, h⟩ := x_b h
      refine lk_callV0 d_C_runAutomaton_58 (x_obm ha14 rfl) (c_C_note hp15) (Nat.le_of_ble_eq_true rfl) rfl M_C_note lm_C_153 in_C_note se_C_note (by decide) rfl (Nat.le_of_ble_eq_true rfl) ?_
      cases h
      exact Lk.stop ⟨rfl, Or.inl ⟨d_C_runAutomaton_61, rfl, rfl, rfl⟩⟩
  · replace h := x_ifn hc h
    refine lk_aload_n d_C_runAutomaton_26 rfl ?_
    obtain ⟨a16, ha16, h⟩ := x_b h
    obtain ⟨p17, hp17, h⟩ := x_b h
    refine lk_callV0 d_C_runAutomaton_27 (x_obm ha16 rfl) (c_C_runLists hp17) (Nat.le_of_ble_eq_true rfl) rfl M_C_runLists lm_C_164 in_C_runLists se_C_runLists (by decide) rfl (Nat.le_of_ble_eq_true rfl) ?_
    cases h
    exact Lk.stop ⟨rfl, Or.inl ⟨d_C_runAutomaton_30, rfl, rfl, rfl⟩⟩
