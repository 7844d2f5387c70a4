/-! WHAT THE METHODS DO: partial functions f_ over the view, loops L_, and the proofs c_, l_ that the bytecode does so; printed by wip/whole/gen_dec.py -/
def f_Mo_thrown (z0 : Nat) (s : hv_S) : Option (Int32 × hv_S) :=
  (x_ob s 11 ((some z0))).bind fun a1 =>
  some ((hv_I s a1 0, s))
set_option maxRecDepth 4000 in
set_option maxHeartbeats 2000000 in
theorem c_Mo_thrown {G : lt_G} {z0 : Nat} {s : hv_S} {p : Int32 × hv_S} (h : f_Mo_thrown z0 s = some p) : Ck G m_Mo_thrown 1 0 0 [vR (some z0)] s (some (vI p.1)) p.2 := by
  refine Ck.of (by decide) (Nat.le_of_ble_eq_true rfl) ?_
  unfold f_Mo_thrown at h
  refine lk_aload_n d_Mo_thrown_0 rfl ?_
  obtain ⟨a1, ha1, h⟩ := x_b h
  refine lk_getI (k := 0) d_Mo_thrown_1 ha1 (by decide) rfl (by decide) lf_Mo_102 rfl ?_
  cases h
  exact Lk.stop ⟨rfl, Or.inr (Or.inl ⟨_, _, d_Mo_thrown_4, rfl, rfl, rfl, rfl⟩)⟩
def f_Mo_fail (z0 : Nat) (x1 : Int32) (s : hv_S) : Option (Int32 × hv_S) :=
  (x_ob s 11 ((some z0))).bind fun a1 =>
  (some (hv_setI s a1 0 x1)).bind fun s2 =>
  some ((0, s2))
set_option maxRecDepth 4000 in
set_option maxHeartbeats 2000000 in
theorem c_Mo_fail {G : lt_G} {z0 : Nat} {x1 : Int32} {s : hv_S} {p : Int32 × hv_S} (h : f_Mo_fail z0 x1 s = some p) : Ck G m_Mo_fail 1 0 0 [vR (some z0), vI x1] s (some (vI p.1)) p.2 := by
  refine Ck.of (by decide) (Nat.le_of_ble_eq_true rfl) ?_
  unfold f_Mo_fail at h
  refine lk_aload_n d_Mo_fail_0 rfl ?_
  refine lk_iload_n d_Mo_fail_1 rfl ?_
  obtain ⟨a1, ha1, h⟩ := x_b h
  replace h := x_nm h
  refine lk_putI (k := 0) d_Mo_fail_2 ha1 (by decide) rfl (by decide) lf_Mo_102 rfl rfl ?_
  refine lk_iconst (v := 0) d_Mo_fail_5 rfl ?_
  cases h
  exact Lk.stop ⟨rfl, Or.inr (Or.inl ⟨_, _, d_Mo_fail_6, rfl, rfl, rfl, rfl⟩)⟩
def f_Mo_noSearch (z0 : Nat) (s : hv_S) : Option (hv_S) :=
  (x_ob s 11 ((some z0))).bind fun a1 =>
  (some (hv_setI s a1 37 ((-1)))).bind fun s2 =>
  (some (hv_setI s2 a1 38 ((-1)))).bind fun s3 =>
  (some (hv_setI s3 a1 39 0)).bind fun s4 =>
  some s4
set_option maxRecDepth 4000 in
set_option maxHeartbeats 2000000 in
theorem c_Mo_noSearch {G : lt_G} {z0 : Nat} {s : hv_S} {p : hv_S} (h : f_Mo_noSearch z0 s = some p) : Ck G m_Mo_noSearch 1 0 0 [vR (some z0)] s none p := by
  refine Ck.of (by decide) (Nat.le_of_ble_eq_true rfl) ?_
  unfold f_Mo_noSearch at h
  refine lk_aload_n d_Mo_noSearch_0 rfl ?_
  refine lk_iconst (v := (-1)) d_Mo_noSearch_1 rfl ?_
  obtain ⟨a1, ha1, h⟩ := x_b h
  replace h := x_nm h
  refine lk_putI (k := 37) d_Mo_noSearch_2 ha1 (by decide) rfl (by decide) lf_Mo_77 rfl rfl ?_
  refine lk_aload_n d_Mo_noSearch_5 rfl ?_
  refine lk_iconst (v := (-1)) d_Mo_noSearch_6 rfl ?_
  replace h := x_nm h
  refine lk_putI (k := 38) d_Mo_noSearch_7 ha1 (by decide) rfl (by decide) lf_Mo_81 rfl rfl ?_
  refine lk_aload_n d_Mo_noSearch_10 rfl ?_
  refine lk_iconst (v := 0) d_Mo_noSearch_11 rfl ?_
  replace h := x_nm h
  refine lk_putZ (k := 39) d_Mo_noSearch_12 ha1 (by decide) (by decide) rfl (by decide) lf_Mo_105 rfl rfl ?_
  cases h
  exact Lk.stop ⟨rfl, Or.inl ⟨d_Mo_noSearch_15, rfl, rfl, rfl⟩⟩
def f_Mo_type (z0 : Nat) (x1 : Int32) (s : hv_S) : Option (Int32 × hv_S) :=
  (x_ob s 11 ((some z0))).bind fun a1 =>
  (some (hv_setI s a1 0 0)).bind fun s2 =>
  if (hv_I s2 a1 2) = 24 then
    some ((0, s2))
  else
    (x_ar s2 0 (hv_R s2 a1 3)).bind fun q3 =>
    (x_ix q3.2 (hv_I s2 a1 2)).bind fun k4 =>
    (some (hv_setI s2 q3.1 k4 x1)).bind fun s5 =>
    (some (hv_setI s5 a1 2 ((hv_I s5 a1 2) + (1 : Int32)))).bind fun s6 =>
    some ((1, s6))
set_option maxRecDepth 4000 in
set_option maxHeartbeats 2000000 in
theorem c_Mo_type {G : lt_G} {z0 : Nat} {x1 : Int32} {s : hv_S} {p : Int32 × hv_S} (h : f_Mo_type z0 x1 s = some p) : Ck G m_Mo_type 1 0 0 [vR (some z0), vI x1] s (some (vI p.1)) p.2 := by
  refine Ck.of (by decide) (Nat.le_of_ble_eq_true rfl) ?_
  unfold f_Mo_type at h
  refine lk_aload_n d_Mo_type_0 rfl ?_
  refine lk_iconst (v := 0) d_Mo_type_1 rfl ?_
  obtain ⟨a1, ha1, h⟩ := x_b h
  replace h := x_nm h
  refine lk_putI (k := 0) d_Mo_type_2 ha1 (by decide) rfl (by decide) lf_Mo_102 rfl rfl ?_
  refine lk_aload_n d_Mo_type_5 rfl ?_
  refine lk_getI (k := 2) d_Mo_type_6 ha1 (by decide) rfl (by decide) lf_Mo_109 rfl ?_
  refine lk_bipush (v := 24) d_Mo_type_9 rfl ?_
  refine lk_icmp_ne (tgt := 16) d_Mo_type_11 (by decide) (fun hc => ?_) (fun hc => ?_)
  · replace h := x_ifn hc h
    refine lk_aload_n d_Mo_type_16 rfl ?_
    refine lk_getR (k := 3) d_Mo_type_17 ha1 (by decide) rfl (by decide) lf_Mo_7 rfl ?_
    refine lk_aload_n d_Mo_type_20 rfl ?_
    refine lk_getI (k := 2) d_Mo_type_21 ha1 (by decide) rfl (by decide) lf_Mo_109 rfl ?_
    refine lk_iload_n d_Mo_type_24 rfl ?_
    obtain ⟨q3, hq3, h⟩ := x_b h
    obtain ⟨k4, hk4, h⟩ := x_b h
    replace h := x_nm h
    refine lk_iast d_Mo_type_25 hq3 hk4 ?_
    refine lk_aload_n d_Mo_type_26 rfl ?_
    refine lk_dup d_Mo_type_27 rfl ?_
    refine lk_getI (k := 2) d_Mo_type_28 ha1 (by decide) rfl (by decide) lf_Mo_109 rfl ?_
    refine lk_iconst (v := 1) d_Mo_type_31 rfl ?_
    refine lk_iadd d_Mo_type_32 ?_
    replace h := x_nm h
    refine lk_putI (k := 2) d_Mo_type_33 ha1 (by decide) rfl (by decide) lf_Mo_109 rfl rfl ?_
    refine lk_iconst (v := 1) d_Mo_type_36 rfl ?_
    cases h
    exact Lk.stop ⟨rfl, Or.inr (Or.inl ⟨_, _, d_Mo_type_37, rfl, rfl, rfl, rfl⟩)⟩
  · replace h := x_ifp hc h
    refine lk_iconst (v := 0) d_Mo_type_14 rfl ?_
    cases h
    exact Lk.stop ⟨rfl, Or.inr (Or.inl ⟨_, _, d_Mo_type_15, rfl, rfl, rfl, rfl⟩)⟩
def f_Mo_wipe (z0 : Nat) (s : hv_S) : Option (hv_S) :=
  (x_ob s 11 ((some z0))).bind fun a1 =>
  (some (hv_setI s a1 0 0)).bind fun s2 =>
  (some (hv_setI s2 a1 2 0)).bind fun s3 =>
  some s3
set_option maxRecDepth 4000 in
set_option maxHeartbeats 2000000 in
theorem c_Mo_wipe {G : lt_G} {z0 : Nat} {s : hv_S} {p : hv_S} (h : f_Mo_wipe z0 s = some p) : Ck G m_Mo_wipe 1 0 0 [vR (some z0)] s none p := by
  refine Ck.of (by decide) (Nat.le_of_ble_eq_true rfl) ?_
  unfold f_Mo_wipe at h
  refine lk_aload_n d_Mo_wipe_0 rfl ?_
  refine lk_iconst (v := 0) d_Mo_wipe_1 rfl ?_
  obtain ⟨a1, ha1, h⟩ := x_b h
  replace h := x_nm h
  refine lk_putI (k := 0) d_Mo_wipe_2 ha1 (by decide) rfl (by decide) lf_Mo_102 rfl rfl ?_
  refine lk_aload_n d_Mo_wipe_5 rfl ?_
  refine lk_iconst (v := 0) d_Mo_wipe_6 rfl ?_
  replace h := x_nm h
  refine lk_putI (k := 2) d_Mo_wipe_7 ha1 (by decide) rfl (by decide) lf_Mo_109 rfl rfl ?_
  cases h
  exact Lk.stop ⟨rfl, Or.inl ⟨d_Mo_wipe_10, rfl, rfl, rfl⟩⟩
def f_Mo_peek (z0 : Nat) (s : hv_S) : Option (Int32 × hv_S) :=
  (x_ob s 11 ((some z0))).bind fun a1 =>
  ((
    if (hv_I s a1 2) ≤ (hv_I s a1 14) then
      some 0
    else
      (x_ar s 0 (hv_R s a1 3)).bind fun q2 =>
      (x_ix q2.2 (hv_I s a1 14)).bind fun k3 =>
      some (hv_I s q2.1 k3)
  ) : Option (Int32)).bind fun t4 =>
  some ((t4, s))
set_option maxRecDepth 4000 in
set_option maxHeartbeats 2000000 in
theorem c_Mo_peek {G : lt_G} {z0 : Nat} {s : hv_S} {p : Int32 × hv_S} (h : f_Mo_peek z0 s = some p) : Ck G m_Mo_peek 1 0 0 [vR (some z0)] s (some (vI p.1)) p.2 := by
  refine Ck.of (by decide) (Nat.le_of_ble_eq_true rfl) ?_
  unfold f_Mo_peek at h
  refine lk_aload_n d_Mo_peek_0 rfl ?_
  obtain ⟨a1, ha1, h⟩ := x_b h
  refine lk_getI (k := 14) d_Mo_peek_1 ha1 (by decide) rfl (by decide) lf_Mo_112 rfl ?_
  refine lk_aload_n d_Mo_peek_4 rfl ?_
  refine lk_getI (k := 2) d_Mo_peek_5 ha1 (by decide) rfl (by decide) lf_Mo_109 rfl ?_
  obtain ⟨t4, hj, h⟩ := x_b h
  refine Lk.joinA 24 [] [] rfl 2 [vI t4] ?_ ?_
  · replace h := hj
    refine lk_icmp_ge (tgt := 23) d_Mo_peek_8 (by decide) (fun hc => ?_) (fun hc => ?_)
    · replace h := x_ifp hc h
      refine lk_iconst (v := 0) d_Mo_peek_23 rfl ?_
      cases h
      refine Lk.sel [] rfl ?_
      exact Lk.stop ⟨rfl, rfl, rfl, rfl, rfl, rfl⟩
    · replace h := x_ifn hc h
      refine lk_aload_n d_Mo_peek_11 rfl ?_
      refine lk_getR (k := 3) d_Mo_peek_12 ha1 (by decide) rfl (by decide) lf_Mo_7 rfl ?_
      refine lk_aload_n d_Mo_peek_15 rfl ?_
      refine lk_getI (k := 14) d_Mo_peek_16 ha1 (by decide) rfl (by decide) lf_Mo_112 rfl ?_
      obtain ⟨q2, hq2, h⟩ := x_b h
      obtain ⟨k3, hk3, h⟩ := x_b h
      refine lk_iald d_Mo_peek_19 hq2 hk3 ?_
      refine lk_goto (tgt := 24) d_Mo_peek_20 (by decide) ?_
      cases h
      refine Lk.sel [] rfl ?_
      exact Lk.stop ⟨rfl, rfl, rfl, rfl, rfl, rfl⟩
  · clear hj
    cases h
    exact Lk.stop ⟨rfl, Or.inr (Or.inl ⟨_, _, d_Mo_peek_24, rfl, rfl, rfl, rfl⟩)⟩
def f_Mo_emit (z0 : Nat) (x1 : Int32) (x2 : Int32) (x3 : Int32) (s : hv_S) : Option (hv_S) :=
  (x_ob s 11 ((some z0))).bind fun a1 =>
  (x_ar s 0 (hv_R s a1 11)).bind fun q2 =>
  (x_ix q2.2 (hv_I s a1 10)).bind fun k3 =>
  (some (hv_setI s q2.1 k3 x1)).bind fun s4 =>
  (x_ar s4 0 (hv_R s4 a1 12)).bind fun q5 =>
  (x_ix q5.2 (hv_I s4 a1 10)).bind fun k6 =>
  (some (hv_setI s4 q5.1 k6 x2)).bind fun s7 =>
  (x_ar s7 0 (hv_R s7 a1 13)).bind fun q8 =>
  (x_ix q8.2 (hv_I s7 a1 10)).bind fun k9 =>
  (some (hv_setI s7 q8.1 k9 x3)).bind fun s10 =>
  (some (hv_setI s10 a1 10 ((hv_I s10 a1 10) + (1 : Int32)))).bind fun s11 =>
  some s11
set_option maxRecDepth 4000 in
set_option maxHeartbeats 2000000 in
theorem c_Mo_emit {G : lt_G} {z0 : Nat} {x1 : Int32} {x2 : Int32} {x3 : Int32} {s : hv_S} {p : hv_S} (h : f_Mo_emit z0 x1 x2 x3 s = some p) : Ck G m_Mo_emit 1 0 0 [vR (some z0), vI x1, vI x2, vI x3] s none p := by
  refine Ck.of (by decide) (Nat.le_of_ble_eq_true rfl) ?_
  unfold f_Mo_emit at h
  refine lk_aload_n d_Mo_emit_0 rfl ?_
  obtain ⟨a1, ha1, h⟩ := x_b h
  refine lk_getR (k := 11) d_Mo_emit_1 ha1 (by decide) rfl (by decide) lf_Mo_25 rfl ?_
  refine lk_aload_n d_Mo_emit_4 rfl ?_
  refine lk_getI (k := 10) d_Mo_emit_5 ha1 (by decide) rfl (by decide) lf_Mo_115 rfl ?_
  refine lk_iload_n d_Mo_emit_8 rfl ?_
  obtain ⟨q2, hq2, h⟩ := x_b h
  obtain ⟨k3, hk3, h⟩ := x_b h
  replace h := x_nm h
  refine lk_iast d_Mo_emit_9 hq2 hk3 ?_
  refine lk_aload_n d_Mo_emit_10 rfl ?_
  refine lk_getR (k := 12) d_Mo_emit_11 ha1 (by decide) rfl (by decide) lf_Mo_28 rfl ?_
  refine lk_aload_n d_Mo_emit_14 rfl ?_
  refine lk_getI (k := 10) d_Mo_emit_15 ha1 (by decide) rfl (by decide) lf_Mo_115 rfl ?_
  refine lk_iload_n d_Mo_emit_18 rfl ?_
  obtain ⟨q5, hq5, h⟩ := x_b h
  obtain ⟨k6, hk6, h⟩ := x_b h
  replace h := x_nm h
  refine lk_iast d_Mo_emit_19 hq5 hk6 ?_
  refine lk_aload_n d_Mo_emit_20 rfl ?_
  refine lk_getR (k := 13) d_Mo_emit_21 ha1 (by decide) rfl (by decide) lf_Mo_31 rfl ?_
  refine lk_aload_n d_Mo_emit_24 rfl ?_
  refine lk_getI (k := 10) d_Mo_emit_25 ha1 (by decide) rfl (by decide) lf_Mo_115 rfl ?_
  refine lk_iload_n d_Mo_emit_28 rfl ?_
  obtain ⟨q8, hq8, h⟩ := x_b h
  obtain ⟨k9, hk9, h⟩ := x_b h
  replace h := x_nm h
  refine lk_iast d_Mo_emit_29 hq8 hk9 ?_
  refine lk_aload_n d_Mo_emit_30 rfl ?_
  refine lk_dup d_Mo_emit_31 rfl ?_
  refine lk_getI (k := 10) d_Mo_emit_32 ha1 (by decide) rfl (by decide) lf_Mo_115 rfl ?_
  refine lk_iconst (v := 1) d_Mo_emit_35 rfl ?_
  refine lk_iadd d_Mo_emit_36 ?_
  replace h := x_nm h
  refine lk_putI (k := 10) d_Mo_emit_37 ha1 (by decide) rfl (by decide) lf_Mo_115 rfl rfl ?_
  cases h
  exact Lk.stop ⟨rfl, Or.inl ⟨d_Mo_emit_40, rfl, rfl, rfl⟩⟩
def L_Mo_push_5 : Nat → Option Nat → Int32 → Int32 → hv_S → Option (hv_S)
  | 0, _, _, _, _ => none
  | n + 1, x0, x1, x2, s =>
    if x2 ≤ x1 then
      some s
    else
      (x_ob s 11 x0).bind fun a2 =>
      (x_ar s 0 (hv_R s a2 11)).bind fun q3 =>
      (x_ix q3.2 (x2 - (1 : Int32))).bind fun k4 =>
      (x_ix q3.2 x2).bind fun k5 =>
      (some (hv_setI s q3.1 k5 (hv_I s q3.1 k4))).bind fun s6 =>
      (x_ar s6 0 (hv_R s6 a2 12)).bind fun q7 =>
      (x_ix q7.2 (x2 - (1 : Int32))).bind fun k8 =>
      (x_ix q7.2 x2).bind fun k9 =>
      (some (hv_setI s6 q7.1 k9 (hv_I s6 q7.1 k8))).bind fun s10 =>
      (x_ar s10 0 (hv_R s10 a2 13)).bind fun q11 =>
      (x_ix q11.2 (x2 - (1 : Int32))).bind fun k12 =>
      (x_ix q11.2 x2).bind fun k13 =>
      (some (hv_setI s10 q11.1 k13 (hv_I s10 q11.1 k12))).bind fun s14 =>
      (x_ar s14 0 (hv_R s14 a2 11)).bind fun q15 =>
      (x_ix q15.2 x2).bind fun k16 =>
      ((
        if (hv_I s14 q15.1 k16) = 2 then
          some 1
        else
          (x_ix q15.2 x2).bind fun k17 =>
          if (hv_I s14 q15.1 k17) = 3 then
            some 1
          else
            some 0
      ) : Option (Int32)).bind fun t18 =>
      ((
        if t18 = 0 then
          some s14
        else
          (x_ar s14 0 (hv_R s14 a2 12)).bind fun q19 =>
          (x_ix q19.2 x2).bind fun k20 =>
          if (hv_I s14 q19.1 k20) < x1 then
            some s14
          else
            (x_ix q19.2 x2).bind fun k21 =>
            (x_ix q19.2 x2).bind fun k22 =>
            (some (hv_setI s14 q19.1 k22 ((hv_I s14 q19.1 k21) + (1 : Int32)))).bind fun s23 =>
            some s23
      ) : Option (hv_S)).bind fun t24 =>
      (x_ob t24 11 x0).bind fun a25 =>
      (x_ar t24 0 (hv_R t24 a25 11)).bind fun q26 =>
      (x_ix q26.2 x2).bind fun k27 =>
      ((
        if (hv_I t24 q26.1 k27) = 2 then
          (x_ar t24 0 (hv_R t24 a25 13)).bind fun q28 =>
          (x_ix q28.2 x2).bind fun k29 =>
          if (hv_I t24 q28.1 k29) < x1 then
            some t24
          else
            (x_ix q28.2 x2).bind fun k30 =>
            (x_ix q28.2 x2).bind fun k31 =>
            (some (hv_setI t24 q28.1 k31 ((hv_I t24 q28.1 k30) + (1 : Int32)))).bind fun s32 =>
            some s32
        else
          some t24
      ) : Option (hv_S)).bind fun t33 =>
      L_Mo_push_5 n x0 x1 (x2 + (-1)) t33
set_option maxRecDepth 4000 in
set_option maxHeartbeats 2000000 in
theorem l_Mo_push_5 {G : lt_G} : ∀ (n : Nat) (x0 : Option Nat) (x1 : Int32) (x2 : Int32) (s : hv_S) (e0 : hv_S), L_Mo_push_5 n x0 x1 x2 s = some e0 → Lk G m_Mo_push 1 5 [(0, vR x0), (1, vI x1), (2, vI x2)] [] s 0 0 (lk_at 138 [(0, vR x0), (1, vI x1)] [] e0 0 0) := by
  intro n
  induction n with
  | zero => intro x0 x1 x2 s e0 h; cases h
  | succ n ih =>
    intro x0 x1 x2 s e0 h
    unfold L_Mo_push_5 at h
    refine lk_iload_n d_Mo_push_5 rfl ?_
    refine lk_iload_n d_Mo_push_6 rfl ?_
    refine lk_icmp_le (tgt := 138) d_Mo_push_7 (by decide) (fun hc => ?_) (fun hc => ?_)
    · replace h := x_ifp hc h
      cases h
      refine Lk.sel [0, 1] rfl ?_
      exact Lk.stop ⟨rfl, rfl, rfl, rfl, rfl, rfl⟩
    · replace h := x_ifn hc h
      refine lk_aload_n d_Mo_push_10 rfl ?_
      obtain ⟨a2, ha2, h⟩ := x_b h
      refine lk_getR (k := 11) d_Mo_push_11 ha2 (by decide) rfl (by decide) lf_Mo_25 rfl ?_
      refine lk_iload_n d_Mo_push_14 rfl ?_
      refine lk_aload_n d_Mo_push_15 rfl ?_
      refine lk_getR (k := 11) d_Mo_push_16 ha2 (by decide) rfl (by decide) lf_Mo_25 rfl ?_
      refine lk_iload_n d_Mo_push_19 rfl ?_
      refine lk_iconst (v := 1) d_Mo_push_20 rfl ?_
      refine lk_isub d_Mo_push_21 ?_
      obtain ⟨q3, hq3, h⟩ := x_b h
      obtain ⟨k4, hk4, h⟩ := x_b h
      refine lk_iald d_Mo_push_22 hq3 hk4 ?_
      obtain ⟨k5, hk5, h⟩ := x_b h
      replace h := x_nm h
      refine lk_iast d_Mo_push_23 hq3 hk5 ?_
      refine lk_aload_n d_Mo_push_24 rfl ?_
      refine lk_getR (k := 12) d_Mo_push_25 ha2 (by decide) rfl (by decide) lf_Mo_28 rfl ?_
      refine lk_iload_n d_Mo_push_28 rfl ?_
      refine lk_aload_n d_Mo_push_29 rfl ?_
      refine lk_getR (k := 12) d_Mo_push_30 ha2 (by decide) rfl (by decide) lf_Mo_28 rfl ?_
      refine lk_iload_n d_Mo_push_33 rfl ?_
      refine lk_iconst (v := 1) d_Mo_push_34 rfl ?_
      refine lk_isub d_Mo_push_35 ?_
      obtain ⟨q7, hq7, h⟩ := x_b h
      obtain ⟨k8, hk8, h⟩ := x_b h
      refine lk_iald d_Mo_push_36 hq7 hk8 ?_
      obtain ⟨k9, hk9, h⟩ := x_b h
      replace h := x_nm h
      refine lk_iast d_Mo_push_37 hq7 hk9 ?_
      refine lk_aload_n d_Mo_push_38 rfl ?_
      refine lk_getR (k := 13) d_Mo_push_39 ha2 (by decide) rfl (by decide) lf_Mo_31 rfl ?_
      refine lk_iload_n d_Mo_push_42 rfl ?_
      refine lk_aload_n d_Mo_push_43 rfl ?_
      refine lk_getR (k := 13) d_Mo_push_44 ha2 (by decide) rfl (by decide) lf_Mo_31 rfl ?_
      refine lk_iload_n d_Mo_push_47 rfl ?_
      refine lk_iconst (v := 1) d_Mo_push_48 rfl ?_
      refine lk_isub d_Mo_push_49 ?_
      obtain ⟨q11, hq11, h⟩ := x_b h
      obtain ⟨k12, hk12, h⟩ := x_b h
      refine lk_iald d_Mo_push_50 hq11 hk12 ?_
      obtain ⟨k13, hk13, h⟩ := x_b h
      replace h := x_nm h
      refine lk_iast d_Mo_push_51 hq11 hk13 ?_
      refine lk_aload_n d_Mo_push_52 rfl ?_
      refine lk_getR (k := 11) d_Mo_push_53 ha2 (by decide) rfl (by decide) lf_Mo_25 rfl ?_
      refine lk_iload_n d_Mo_push_56 rfl ?_
      obtain ⟨q15, hq15, h⟩ := x_b h
      obtain ⟨k16, hk16, h⟩ := x_b h
      refine lk_iald d_Mo_push_57 hq15 hk16 ?_
      refine lk_iconst (v := 2) d_Mo_push_58 rfl ?_
      obtain ⟨t18, hj, h⟩ := x_b h
      refine Lk.joinA 77 [0, 1, 2] [] rfl 2 [vI t18] ?_ ?_
      · replace h := hj
        refine lk_icmp_eq (tgt := 72) d_Mo_push_59 (by decide) (fun hc => ?_) (fun hc => ?_)
        · replace h := x_ifp hc h
          refine lk_iconst (v := 1) d_Mo_push_72 rfl ?_
          refine lk_goto (tgt := 77) d_Mo_push_73 (by decide) ?_
          cases h
          refine Lk.sel [0, 1, 2] rfl ?_
          exact Lk.stop ⟨rfl, rfl, rfl, rfl, rfl, rfl⟩
        · replace h := x_ifn hc h
          refine lk_aload_n d_Mo_push_62 rfl ?_
          refine lk_getR (k := 11) d_Mo_push_63 ha2 (by decide) rfl (by decide) lf_Mo_25 rfl ?_
          refine lk_iload_n d_Mo_push_66 rfl ?_
          obtain ⟨k17, hk17, h⟩ := x_b h
          refine lk_iald d_Mo_push_67 hq15 hk17 ?_
          refine lk_iconst (v := 3) d_Mo_push_68 rfl ?_
          refine lk_icmp_ne (tgt := 76) d_Mo_push_69 (by decide) (fun hc => ?_) (fun hc => ?_)
          · replace h := x_ifn hc h
            refine lk_iconst (v := 0) d_Mo_push_76 rfl ?_
            cases h
            refine Lk.sel [0, 1, 2] rfl ?_
            exact Lk.stop ⟨rfl, rfl, rfl, rfl, rfl, rfl⟩
          · replace h := x_ifp hc h
            refine lk_iconst (v := 1) d_Mo_push_72 rfl ?_
            refine lk_goto (tgt := 77) d_Mo_push_73 (by decide) ?_
            cases h
            refine Lk.sel [0, 1, 2] rfl ?_
            exact Lk.stop ⟨rfl, rfl, rfl, rfl, rfl, rfl⟩
      · clear hj
        refine lk_istore_n d_Mo_push_77 (by decide) rfl ?_
        refine lk_iload_n d_Mo_push_78 rfl ?_
        obtain ⟨t24, hj, h⟩ := x_b h
        refine Lk.joinS 102 [0, 1, 2] [] rfl 1 [] t24 ?_ ?_
        · replace h := hj
          refine lk_if_eq (tgt := 102) d_Mo_push_79 (by decide) (fun hc => ?_) (fun hc => ?_)
          · replace h := x_ifp hc h
            cases h
            refine Lk.sel [0, 1, 2] rfl ?_
            exact Lk.stop ⟨rfl, rfl, rfl, rfl, rfl, rfl⟩
          · replace h := x_ifn hc h
            refine lk_aload_n d_Mo_push_82 rfl ?_
            refine lk_getR (k := 12) d_Mo_push_83 ha2 (by decide) rfl (by decide) lf_Mo_28 rfl ?_
            refine lk_iload_n d_Mo_push_86 rfl ?_
            obtain ⟨q19, hq19, h⟩ := x_b h
            obtain ⟨k20, hk20, h⟩ := x_b h
            refine lk_iald d_Mo_push_87 hq19 hk20 ?_
            refine lk_iload_n d_Mo_push_88 rfl ?_
            refine lk_icmp_lt (tgt := 102) d_Mo_push_89 (by decide) (fun hc => ?_) (fun hc => ?_)
            · replace h := x_ifp hc h
              cases h
              refine Lk.sel [0, 1, 2] rfl ?_
              exact Lk.stop ⟨rfl, rfl, rfl, rfl, rfl, rfl⟩
            · replace h := x_ifn hc h
              refine lk_aload_n d_Mo_push_92 rfl ?_
              refine lk_getR (k := 12) d_Mo_push_93 ha2 (by decide) rfl (by decide) lf_Mo_28 rfl ?_
              refine lk_iload_n d_Mo_push_96 rfl ?_
              refine lk_dup2_11 d_Mo_push_97 rfl rfl ?_
              obtain ⟨k21, hk21, h⟩ := x_b h
              refine lk_iald d_Mo_push_98 hq19 hk21 ?_
              refine lk_iconst (v := 1) d_Mo_push_99 rfl ?_
              refine lk_iadd d_Mo_push_100 ?_
              obtain ⟨k22, hk22, h⟩ := x_b h
              replace h := x_nm h
              refine lk_iast d_Mo_push_101 hq19 hk22 ?_
              cases h
              refine Lk.sel [0, 1, 2] rfl ?_
              exact Lk.stop ⟨rfl, rfl, rfl, rfl, rfl, rfl⟩
        · clear hj
          refine lk_aload_n d_Mo_push_102 rfl ?_
          obtain ⟨a25, ha25, h⟩ := x_b h
          refine lk_getR (k := 11) d_Mo_push_103 ha25 (by decide) rfl (by decide) lf_Mo_25 rfl ?_
          refine lk_iload_n d_Mo_push_106 rfl ?_
          obtain ⟨q26, hq26, h⟩ := x_b h
          obtain ⟨k27, hk27, h⟩ := x_b h
          refine lk_iald d_Mo_push_107 hq26 hk27 ?_
          refine lk_iconst (v := 2) d_Mo_push_108 rfl ?_
          obtain ⟨t33, hj, h⟩ := x_b h
          refine Lk.joinS 132 [0, 1, 2] [] rfl 2 [] t33 ?_ ?_
          · replace h := hj
            refine lk_icmp_ne (tgt := 132) d_Mo_push_109 (by decide) (fun hc => ?_) (fun hc => ?_)
            · replace h := x_ifn hc h
              cases h
              refine Lk.sel [0, 1, 2] rfl ?_
              exact Lk.stop ⟨rfl, rfl, rfl, rfl, rfl, rfl⟩
            · replace h := x_ifp hc h
              refine lk_aload_n d_Mo_push_112 rfl ?_
              refine lk_getR (k := 13) d_Mo_push_113 ha25 (by decide) rfl (by decide) lf_Mo_31 rfl ?_
              refine lk_iload_n d_Mo_push_116 rfl ?_
              obtain ⟨q28, hq28, h⟩ := x_b h
              obtain ⟨k29, hk29, h⟩ := x_b h
              refine lk_iald d_Mo_push_117 hq28 hk29 ?_
              refine lk_iload_n d_Mo_push_118 rfl ?_
              refine lk_icmp_lt (tgt := 132) d_Mo_push_119 (by decide) (fun hc => ?_) (fun hc => ?_)
              · replace h := x_ifp hc h
                cases h
                refine Lk.sel [0, 1, 2] rfl ?_
                exact Lk.stop ⟨rfl, rfl, rfl, rfl, rfl, rfl⟩
              · replace h := x_ifn hc h
                refine lk_aload_n d_Mo_push_122 rfl ?_
                refine lk_getR (k := 13) d_Mo_push_123 ha25 (by decide) rfl (by decide) lf_Mo_31 rfl ?_
                refine lk_iload_n d_Mo_push_126 rfl ?_
                refine lk_dup2_11 d_Mo_push_127 rfl rfl ?_
                obtain ⟨k30, hk30, h⟩ := x_b h
                refine lk_iald d_Mo_push_128 hq28 hk30 ?_
                refine lk_iconst (v := 1) d_Mo_push_129 rfl ?_
                refine lk_iadd d_Mo_push_130 ?_
                obtain ⟨k31, hk31, h⟩ := x_b h
                replace h := x_nm h
                refine lk_iast d_Mo_push_131 hq28 hk31 ?_
                cases h
                refine Lk.sel [0, 1, 2] rfl ?_
                exact Lk.stop ⟨rfl, rfl, rfl, rfl, rfl, rfl⟩
          · clear hj
            refine lk_iinc (v := _ + (-1)) d_Mo_push_132 rfl rfl (by decide) rfl ?_
            refine lk_goto (tgt := 5) d_Mo_push_135 (by decide) ?_
            refine Lk.sel [0, 1, 2] rfl ?_
            exact ih _ _ _ _ _ h
def f_Mo_push (z0 : Nat) (x1 : Int32) (s : hv_S) : Option (hv_S) :=
  (x_ob s 11 ((some z0))).bind fun a1 =>
  (L_Mo_push_5 100000 ((some z0)) x1 (hv_I s a1 10) s).bind fun e34 =>
  (x_ob e34 11 ((some z0))).bind fun a35 =>
  (some (hv_setI e34 a35 10 ((hv_I e34 a35 10) + (1 : Int32)))).bind fun s36 =>
  (x_ar s36 0 (hv_R s36 a35 11)).bind fun q37 =>
  (x_ix q37.2 x1).bind fun k38 =>
  (some (hv_setI s36 q37.1 k38 2)).bind fun s39 =>
  (x_ar s39 0 (hv_R s39 a35 12)).bind fun q40 =>
  (x_ix q40.2 x1).bind fun k41 =>
  (some (hv_setI s39 q40.1 k41 (x1 + (1 : Int32)))).bind fun s42 =>
  (x_ar s42 0 (hv_R s42 a35 13)).bind fun q43 =>
  (x_ix q43.2 x1).bind fun k44 =>
  (some (hv_setI s42 q43.1 k44 0)).bind fun s45 =>
  some s45
set_option maxRecDepth 4000 in
set_option maxHeartbeats 2000000 in
theorem c_Mo_push {G : lt_G} {z0 : Nat} {x1 : Int32} {s : hv_S} {p : hv_S} (h : f_Mo_push z0 x1 s = some p) : Ck G m_Mo_push 1 0 0 [vR (some z0), vI x1] s none p := by
  refine Ck.of (by decide) (Nat.le_of_ble_eq_true rfl) ?_
  unfold f_Mo_push at h
  refine lk_aload_n d_Mo_push_0 rfl ?_
  obtain ⟨a1, ha1, h⟩ := x_b h
  refine lk_getI (k := 10) d_Mo_push_1 ha1 (by decide) rfl (by decide) lf_Mo_115 rfl ?_
  refine lk_istore_n d_Mo_push_4 (by decide) rfl ?_
  obtain ⟨e34, hl, h⟩ := x_b h
  refine Lk.sel [0, 1, 2] rfl ?_
  refine Lk.trans (l_Mo_push_5 _ _ _ _ _ _ hl) ?_
  intro pc' lo' st' s' mc' ms' hx
  obtain ⟨rfl, rfl, rfl, rfl, rfl, rfl⟩ := hx
  refine lk_aload_n d_Mo_push_138 rfl ?_
  refine lk_dup d_Mo_push_139 rfl ?_
  obtain ⟨a35, ha35, h⟩ := x_b h
  refine lk_getI (k := 10) d_Mo_push_140 ha35 (by decide) rfl (by decide) lf_Mo_115 rfl ?_
  refine lk_iconst (v := 1) d_Mo_push_143 rfl ?_
  refine lk_iadd d_Mo_push_144 ?_
  replace h := x_nm h
  refine lk_putI (k := 10) d_Mo_push_145 ha35 (by decide) rfl (by decide) lf_Mo_115 rfl rfl ?_
  refine lk_aload_n d_Mo_push_148 rfl ?_
  refine lk_getR (k := 11) d_Mo_push_149 ha35 (by decide) rfl (by decide) lf_Mo_25 rfl ?_
  refine lk_iload_n d_Mo_push_152 rfl ?_
  refine lk_iconst (v := 2) d_Mo_push_153 rfl ?_
  obtain ⟨q37, hq37, h⟩ := x_b h
  obtain ⟨k38, hk38, h⟩ := x_b h
  replace h := x_nm h
  refine lk_iast d_Mo_push_154 hq37 hk38 ?_
  refine lk_aload_n d_Mo_push_155 rfl ?_
  refine lk_getR (k := 12) d_Mo_push_156 ha35 (by decide) rfl (by decide) lf_Mo_28 rfl ?_
  refine lk_iload_n d_Mo_push_159 rfl ?_
  refine lk_iload_n d_Mo_push_160 rfl ?_
  refine lk_iconst (v := 1) d_Mo_push_161 rfl ?_
  refine lk_iadd d_Mo_push_162 ?_
  obtain ⟨q40, hq40, h⟩ := x_b h
  obtain ⟨k41, hk41, h⟩ := x_b h
  replace h := x_nm h
  refine lk_iast d_Mo_push_163 hq40 hk41 ?_
  refine lk_aload_n d_Mo_push_164 rfl ?_
  refine lk_getR (k := 13) d_Mo_push_165 ha35 (by decide) rfl (by decide) lf_Mo_31 rfl ?_
  refine lk_iload_n d_Mo_push_168 rfl ?_
  refine lk_iconst (v := 0) d_Mo_push_169 rfl ?_
  obtain ⟨q43, hq43, h⟩ := x_b h
  obtain ⟨k44, hk44, h⟩ := x_b h
  replace h := x_nm h
  refine lk_iast d_Mo_push_170 hq43 hk44 ?_
  cases h
  exact Lk.stop ⟨rfl, Or.inl ⟨d_Mo_push_171, rfl, rfl, rfl⟩⟩
def L_Mo_land_2 : Nat → Option Nat → Int32 → Int32 → hv_S → Option (hv_S)
  | 0, _, _, _, _ => none
  | n + 1, x0, x1, x2, s =>
    (x_ob s 11 x0).bind fun a1 =>
    if (hv_I s a1 10) ≤ x2 then
      some s
    else
      (x_ar s 0 (hv_R s a1 11)).bind fun q2 =>
      (x_ix q2.2 x2).bind fun k3 =>
      ((
        if (hv_I s q2.1 k3) = 3 then
          (x_ar s 0 (hv_R s a1 12)).bind fun q4 =>
          (x_ix q4.2 x2).bind fun k5 =>
          if (hv_I s q4.1 k5) = (((-1)) - x1) then
            (x_ix q4.2 x2).bind fun k6 =>
            (some (hv_setI s q4.1 k6 (hv_I s a1 10))).bind fun s7 =>
            some s7
          else
            some s
        else
          some s
      ) : Option (hv_S)).bind fun t8 =>
      L_Mo_land_2 n x0 x1 (x2 + 1) t8
set_option maxRecDepth 4000 in
set_option maxHeartbeats 2000000 in
theorem l_Mo_land_2 {G : lt_G} : ∀ (n : Nat) (x0 : Option Nat) (x1 : Int32) (x2 : Int32) (s : hv_S) (e0 : hv_S), L_Mo_land_2 n x0 x1 x2 s = some e0 → Lk G m_Mo_land 1 2 [(0, vR x0), (1, vI x1), (2, vI x2)] [] s 0 0 (lk_at 48 [] [] e0 0 0) := by
  intro n
  induction n with
  | zero => intro x0 x1 x2 s e0 h; cases h
  | succ n ih =>
    intro x0 x1 x2 s e0 h
    unfold L_Mo_land_2 at h
    refine lk_iload_n d_Mo_land_2 rfl ?_
    refine lk_aload_n d_Mo_land_3 rfl ?_
    obtain ⟨a1, ha1, h⟩ := x_b h
    refine lk_getI (k := 10) d_Mo_land_4 ha1 (by decide) rfl (by decide) lf_Mo_115 rfl ?_
    refine lk_icmp_ge (tgt := 48) d_Mo_land_7 (by decide) (fun hc => ?_) (fun hc => ?_)
    · replace h := x_ifp hc h
      cases h
      refine Lk.sel [] rfl ?_
      exact Lk.stop ⟨rfl, rfl, rfl, rfl, rfl, rfl⟩
    · replace h := x_ifn hc h
      refine lk_aload_n d_Mo_land_10 rfl ?_
      refine lk_getR (k := 11) d_Mo_land_11 ha1 (by decide) rfl (by decide) lf_Mo_25 rfl ?_
      refine lk_iload_n d_Mo_land_14 rfl ?_
      obtain ⟨q2, hq2, h⟩ := x_b h
      obtain ⟨k3, hk3, h⟩ := x_b h
      refine lk_iald d_Mo_land_15 hq2 hk3 ?_
      refine lk_iconst (v := 3) d_Mo_land_16 rfl ?_
      obtain ⟨t8, hj, h⟩ := x_b h
      refine Lk.joinS 42 [0, 1, 2] [] rfl 2 [] t8 ?_ ?_
      · replace h := hj
        refine lk_icmp_ne (tgt := 42) d_Mo_land_17 (by decide) (fun hc => ?_) (fun hc => ?_)
        · replace h := x_ifn hc h
          cases h
          refine Lk.sel [0, 1, 2] rfl ?_
          exact Lk.stop ⟨rfl, rfl, rfl, rfl, rfl, rfl⟩
        · replace h := x_ifp hc h
          refine lk_aload_n d_Mo_land_20 rfl ?_
          refine lk_getR (k := 12) d_Mo_land_21 ha1 (by decide) rfl (by decide) lf_Mo_28 rfl ?_
          refine lk_iload_n d_Mo_land_24 rfl ?_
          obtain ⟨q4, hq4, h⟩ := x_b h
          obtain ⟨k5, hk5, h⟩ := x_b h
          refine lk_iald d_Mo_land_25 hq4 hk5 ?_
          refine lk_iconst (v := (-1)) d_Mo_land_26 rfl ?_
          refine lk_iload_n d_Mo_land_27 rfl ?_
          refine lk_isub d_Mo_land_28 ?_
          refine lk_icmp_ne (tgt := 42) d_Mo_land_29 (by decide) (fun hc => ?_) (fun hc => ?_)
          · replace h := x_ifn hc h
            cases h
            refine Lk.sel [0, 1, 2] rfl ?_
            exact Lk.stop ⟨rfl, rfl, rfl, rfl, rfl, rfl⟩
          · replace h := x_ifp hc h
            refine lk_aload_n d_Mo_land_32 rfl ?_
            refine lk_getR (k := 12) d_Mo_land_33 ha1 (by decide) rfl (by decide) lf_Mo_28 rfl ?_
            refine lk_iload_n d_Mo_land_36 rfl ?_
            refine lk_aload_n d_Mo_land_37 rfl ?_
            refine lk_getI (k := 10) d_Mo_land_38 ha1 (by decide) rfl (by decide) lf_Mo_115 rfl ?_
            obtain ⟨k6, hk6, h⟩ := x_b h
            replace h := x_nm h
            refine lk_iast d_Mo_land_41 hq4 hk6 ?_
            cases h
            refine Lk.sel [0, 1, 2] rfl ?_
            exact Lk.stop ⟨rfl, rfl, rfl, rfl, rfl, rfl⟩
      · clear hj
        refine lk_iinc (v := _ + 1) d_Mo_land_42 rfl rfl (by decide) rfl ?_
        refine lk_goto (tgt := 2) d_Mo_land_45 (by decide) ?_
        refine Lk.sel [0, 1, 2] rfl ?_
        exact ih _ _ _ _ _ h
def f_Mo_land (z0 : Nat) (x1 : Int32) (s : hv_S) : Option (hv_S) :=
  (L_Mo_land_2 100000 ((some z0)) x1 0 s).bind fun e9 =>
  some e9
set_option maxRecDepth 4000 in
set_option maxHeartbeats 2000000 in
theorem c_Mo_land {G : lt_G} {z0 : Nat} {x1 : Int32} {s : hv_S} {p : hv_S} (h : f_Mo_land z0 x1 s = some p) : Ck G m_Mo_land 1 0 0 [vR (some z0), vI x1] s none p := by
  refine Ck.of (by decide) (Nat.le_of_ble_eq_true rfl) ?_
  unfold f_Mo_land at h
  refine lk_iconst (v := 0) d_Mo_land_0 rfl ?_
  refine lk_istore_n d_Mo_land_1 (by decide) rfl ?_
  obtain ⟨e9, hl, h⟩ := x_b h
  refine Lk.sel [0, 1, 2] rfl ?_
  refine Lk.trans (l_Mo_land_2 _ _ _ _ _ _ hl) ?_
  intro pc' lo' st' s' mc' ms' hx
  obtain ⟨rfl, rfl, rfl, rfl, rfl, rfl⟩ := hx
  cases h
  exact Lk.stop ⟨rfl, Or.inl ⟨d_Mo_land_48, rfl, rfl, rfl⟩⟩
def f_Mo_sign (z0 : Nat) (x1 : Int32) (s : hv_S) : Option (hv_S) :=
  (x_ob s 11 ((some z0))).bind fun a1 =>
  (f_Mo_peek a1 s).bind fun p2 =>
  if p2.1 = 63 then
    (x_ob p2.2 11 ((some z0))).bind fun a3 =>
    (some (hv_setI p2.2 a3 14 ((hv_I p2.2 a3 14) + (1 : Int32)))).bind fun s4 =>
    ((
      if p2.1 = 43 then
        (f_Mo_emit a3 2 x1 ((hv_I s4 a3 10) + (1 : Int32)) s4).bind fun p13 =>
        some (hv_I s4 a3 10, p13)
      else
        (f_Mo_push a3 x1 s4).bind fun p5 =>
        ((
          if p2.1 = 42 then
            (x_ob p5 11 ((some z0))).bind fun a6 =>
            (f_Mo_emit a6 3 x1 0 p5).bind fun p7 =>
            some p7
          else
            some p5
        ) : Option (hv_S)).bind fun t8 =>
        (x_ob t8 11 ((some z0))).bind fun a9 =>
        (x_ar t8 0 (hv_R t8 a9 13)).bind fun q10 =>
        (x_ix q10.2 x1).bind fun k11 =>
        (some (hv_setI t8 q10.1 k11 (hv_I t8 a9 10))).bind fun s12 =>
        some (x1, s12)
    ) : Option (Int32 × hv_S)).bind fun t14 =>
    (x_ob t14.2 11 ((some z0))).bind fun a15 =>
    (f_Mo_peek a15 t14.2).bind fun p16 =>
    if p16.1 = 63 then
      (x_ob p16.2 11 ((some z0))).bind fun a17 =>
      (some (hv_setI p16.2 a17 14 ((hv_I p16.2 a17 14) + (1 : Int32)))).bind fun s18 =>
      (x_ar s18 0 (hv_R s18 a17 12)).bind fun q19 =>
      (x_ix q19.2 t14.1).bind fun k20 =>
      (some (hv_I s18 q19.1 k20)).bind fun y21 =>
      (x_ar s18 0 (hv_R s18 a17 13)).bind fun q22 =>
      (x_ix q22.2 t14.1).bind fun k23 =>
      (x_ix q19.2 t14.1).bind fun k24 =>
      (some (hv_setI s18 q19.1 k24 (hv_I s18 q22.1 k23))).bind fun s25 =>
      (x_ar s25 0 (hv_R s25 a17 13)).bind fun q26 =>
      (x_ix q26.2 t14.1).bind fun k27 =>
      (some (hv_setI s25 q26.1 k27 y21)).bind fun s28 =>
      some s28
    else
      some p16.2
  else
    if p2.1 = 42 then
      (x_ob p2.2 11 ((some z0))).bind fun a29 =>
      (some (hv_setI p2.2 a29 14 ((hv_I p2.2 a29 14) + (1 : Int32)))).bind fun s30 =>
      ((
        if p2.1 = 43 then
          (some (hv_I s30 a29 10)).bind fun y39 =>
          (f_Mo_emit a29 2 x1 ((hv_I s30 a29 10) + (1 : Int32)) s30).bind fun p40 =>
          some (y39, p40)
        else
          (f_Mo_push a29 x1 s30).bind fun p31 =>
          ((
            if p2.1 = 42 then
              (x_ob p31 11 ((some z0))).bind fun a32 =>
              (f_Mo_emit a32 3 x1 0 p31).bind fun p33 =>
              some p33
            else
              some p31
          ) : Option (hv_S)).bind fun t34 =>
          (x_ob t34 11 ((some z0))).bind fun a35 =>
          (x_ar t34 0 (hv_R t34 a35 13)).bind fun q36 =>
          (x_ix q36.2 x1).bind fun k37 =>
          (some (hv_setI t34 q36.1 k37 (hv_I t34 a35 10))).bind fun s38 =>
          some (x1, s38)
      ) : Option (Int32 × hv_S)).bind fun t41 =>
      (x_ob t41.2 11 ((some z0))).bind fun a42 =>
      (f_Mo_peek a42 t41.2).bind fun p43 =>
      if p43.1 = 63 then
        (x_ob p43.2 11 ((some z0))).bind fun a44 =>
        (some (hv_setI p43.2 a44 14 ((hv_I p43.2 a44 14) + (1 : Int32)))).bind fun s45 =>
        (x_ar s45 0 (hv_R s45 a44 12)).bind fun q46 =>
        (x_ix q46.2 t41.1).bind fun k47 =>
        (some (hv_I s45 q46.1 k47)).bind fun y48 =>
        (x_ar s45 0 (hv_R s45 a44 13)).bind fun q49 =>
        (x_ix q49.2 t41.1).bind fun k50 =>
        (x_ix q46.2 t41.1).bind fun k51 =>
        (some (hv_setI s45 q46.1 k51 (hv_I s45 q49.1 k50))).bind fun s52 =>
        (x_ar s52 0 (hv_R s52 a44 13)).bind fun q53 =>
        (x_ix q53.2 t41.1).bind fun k54 =>
        (some (hv_setI s52 q53.1 k54 y48)).bind fun s55 =>
        some s55
      else
        some p43.2
    else
      if p2.1 = 43 then
        (x_ob p2.2 11 ((some z0))).bind fun a56 =>
        (some (hv_setI p2.2 a56 14 ((hv_I p2.2 a56 14) + (1 : Int32)))).bind fun s57 =>
        ((
          if p2.1 = 43 then
            (some (hv_I s57 a56 10)).bind fun y66 =>
            (f_Mo_emit a56 2 x1 ((hv_I s57 a56 10) + (1 : Int32)) s57).bind fun p67 =>
            some (y66, p67)
          else
            (f_Mo_push a56 x1 s57).bind fun p58 =>
            ((
              if p2.1 = 42 then
                (x_ob p58 11 ((some z0))).bind fun a59 =>
                (f_Mo_emit a59 3 x1 0 p58).bind fun p60 =>
                some p60
              else
                some p58
            ) : Option (hv_S)).bind fun t61 =>
            (x_ob t61 11 ((some z0))).bind fun a62 =>
            (x_ar t61 0 (hv_R t61 a62 13)).bind fun q63 =>
            (x_ix q63.2 x1).bind fun k64 =>
            (some (hv_setI t61 q63.1 k64 (hv_I t61 a62 10))).bind fun s65 =>
            some (x1, s65)
        ) : Option (Int32 × hv_S)).bind fun t68 =>
        (x_ob t68.2 11 ((some z0))).bind fun a69 =>
        (f_Mo_peek a69 t68.2).bind fun p70 =>
        if p70.1 = 63 then
          (x_ob p70.2 11 ((some z0))).bind fun a71 =>
          (some (hv_setI p70.2 a71 14 ((hv_I p70.2 a71 14) + (1 : Int32)))).bind fun s72 =>
          (x_ar s72 0 (hv_R s72 a71 12)).bind fun q73 =>
          (x_ix q73.2 t68.1).bind fun k74 =>
          (some (hv_I s72 q73.1 k74)).bind fun y75 =>
          (x_ar s72 0 (hv_R s72 a71 13)).bind fun q76 =>
          (x_ix q76.2 t68.1).bind fun k77 =>
          (x_ix q73.2 t68.1).bind fun k78 =>
          (some (hv_setI s72 q73.1 k78 (hv_I s72 q76.1 k77))).bind fun s79 =>
          (x_ar s79 0 (hv_R s79 a71 13)).bind fun q80 =>
          (x_ix q80.2 t68.1).bind fun k81 =>
          (some (hv_setI s79 q80.1 k81 y75)).bind fun s82 =>
          some s82
        else
          some p70.2
      else
        some p2.2
set_option maxRecDepth 4000 in
set_option maxHeartbeats 2000000 in
theorem c_Mo_sign {G : lt_G} {z0 : Nat} {x1 : Int32} {s : hv_S} {p : hv_S} (h : f_Mo_sign z0 x1 s = some p) : Ck G m_Mo_sign 2 0 0 [vR (some z0), vI x1] s none p := by
  refine Ck.of (by decide) (Nat.le_of_ble_eq_true rfl) ?_
  unfold f_Mo_sign at h
  refine lk_aload_n d_Mo_sign_0 rfl ?_
  obtain ⟨a1, ha1, h⟩ := x_b h
  obtain ⟨p2, hp2, h⟩ := x_b h
  refine lk_callV0 d_Mo_sign_1 (x_obm ha1 rfl) (c_Mo_peek hp2) (Nat.le_of_ble_eq_true rfl) rfl M_Mo_peek lm_Mo_118 in_Mo_peek se_Mo_peek (by decide) rfl (Nat.le_of_ble_eq_true rfl) ?_
  refine lk_istore_n d_Mo_sign_4 (by decide) rfl ?_
  refine lk_iload_n d_Mo_sign_5 rfl ?_
  refine lk_bipush (v := 63) d_Mo_sign_6 rfl ?_
  refine lk_icmp_eq (tgt := 24) d_Mo_sign_8 (by decide) (fun hc => ?_) (fun hc => ?_)
  · replace h := x_ifp hc h
    refine lk_aload_n d_Mo_sign_24 rfl ?_
    refine lk_dup d_Mo_sign_25 rfl ?_
    obtain ⟨a3, ha3, h⟩ := x_b h
    refine lk_getI (k := 14) d_Mo_sign_26 ha3 (by decide) rfl (by decide) lf_Mo_112 rfl ?_
    refine lk_iconst (v := 1) d_Mo_sign_29 rfl ?_
    refine lk_iadd d_Mo_sign_30 ?_
    replace h := x_nm h
    refine lk_putI (k := 14) d_Mo_sign_31 ha3 (by decide) rfl (by decide) lf_Mo_112 rfl rfl ?_
    refine lk_iload_n d_Mo_sign_34 rfl ?_
    refine lk_istore_n d_Mo_sign_35 (by decide) rfl ?_
    refine lk_iload_n d_Mo_sign_36 rfl ?_
    refine lk_bipush (v := 43) d_Mo_sign_37 rfl ?_
    obtain ⟨t14, hj, h⟩ := x_b h
    refine Lk.joinS 90 [0, 3] [(3, vI t14.1)] rfl 2 [] t14.2 ?_ ?_
    · replace h := hj
      refine lk_icmp_ne (tgt := 62) d_Mo_sign_39 (by decide) (fun hc => ?_) (fun hc => ?_)
      · replace h := x_ifn hc h
        refine lk_aload_n d_Mo_sign_62 rfl ?_
        refine lk_iload_n d_Mo_sign_63 rfl ?_
        obtain ⟨p5, hp5, h⟩ := x_b h
        refine lk_callV0 d_Mo_sign_64 (x_obm ha3 rfl) (c_Mo_push hp5) (Nat.le_of_ble_eq_true rfl) rfl M_Mo_push lm_Mo_126 in_Mo_push se_Mo_push (by decide) rfl (Nat.le_of_ble_eq_true rfl) ?_
        refine lk_iload_n d_Mo_sign_67 rfl ?_
        refine lk_bipush (v := 42) d_Mo_sign_68 rfl ?_
        obtain ⟨t8, hj, h⟩ := x_b h
        refine Lk.joinS 80 [0, 1, 3] [] rfl 2 [] t8 ?_ ?_
        · replace h := hj
          refine lk_icmp_ne (tgt := 80) d_Mo_sign_70 (by decide) (fun hc => ?_) (fun hc => ?_)
          · replace h := x_ifn hc h
            cases h
            refine Lk.sel [0, 1, 3] rfl ?_
            exact Lk.stop ⟨rfl, rfl, rfl, rfl, rfl, rfl⟩
          · replace h := x_ifp hc h
            refine lk_aload_n d_Mo_sign_73 rfl ?_
            refine lk_iconst (v := 3) d_Mo_sign_74 rfl ?_
            refine lk_iload_n d_Mo_sign_75 rfl ?_
            refine lk_iconst (v := 0) d_Mo_sign_76 rfl ?_
            obtain ⟨a6, ha6, h⟩ := x_b h
            obtain ⟨p7, hp7, h⟩ := x_b h
            refine lk_callV0 d_Mo_sign_77 (x_obm ha6 rfl) (c_Mo_emit hp7) (Nat.le_of_ble_eq_true rfl) rfl M_Mo_emit lm_Mo_122 in_Mo_emit se_Mo_emit (by decide) rfl (Nat.le_of_ble_eq_true rfl) ?_
            cases h
            refine Lk.sel [0, 1, 3] rfl ?_
            exact Lk.stop ⟨rfl, rfl, rfl, rfl, rfl, rfl⟩
        · clear hj
          refine lk_aload_n d_Mo_sign_80 rfl ?_
          obtain ⟨a9, ha9, h⟩ := x_b h
          refine lk_getR (k := 13) d_Mo_sign_81 ha9 (by decide) rfl (by decide) lf_Mo_31 rfl ?_
          refine lk_iload_n d_Mo_sign_84 rfl ?_
          refine lk_aload_n d_Mo_sign_85 rfl ?_
          refine lk_getI (k := 10) d_Mo_sign_86 ha9 (by decide) rfl (by decide) lf_Mo_115 rfl ?_
          obtain ⟨q10, hq10, h⟩ := x_b h
          obtain ⟨k11, hk11, h⟩ := x_b h
          replace h := x_nm h
          refine lk_iast d_Mo_sign_89 hq10 hk11 ?_
          cases h
          refine Lk.sel [0, 3] rfl ?_
          exact Lk.stop ⟨rfl, rfl, rfl, rfl, rfl, rfl⟩
      · replace h := x_ifp hc h
        refine lk_aload_n d_Mo_sign_42 rfl ?_
        refine lk_getI (k := 10) d_Mo_sign_43 ha3 (by decide) rfl (by decide) lf_Mo_115 rfl ?_
        refine lk_istore_n d_Mo_sign_46 (by decide) rfl ?_
        refine lk_aload_n d_Mo_sign_47 rfl ?_
        refine lk_iconst (v := 2) d_Mo_sign_48 rfl ?_
        refine lk_iload_n d_Mo_sign_49 rfl ?_
        refine lk_aload_n d_Mo_sign_50 rfl ?_
        refine lk_getI (k := 10) d_Mo_sign_51 ha3 (by decide) rfl (by decide) lf_Mo_115 rfl ?_
        refine lk_iconst (v := 1) d_Mo_sign_54 rfl ?_
        refine lk_iadd d_Mo_sign_55 ?_
        obtain ⟨p13, hp13, h⟩ := x_b h
        refine lk_callV0 d_Mo_sign_56 (x_obm ha3 rfl) (c_Mo_emit hp13) (Nat.le_of_ble_eq_true rfl) rfl M_Mo_emit lm_Mo_122 in_Mo_emit se_Mo_emit (by decide) rfl (Nat.le_of_ble_eq_true rfl) ?_
        refine lk_goto (tgt := 90) d_Mo_sign_59 (by decide) ?_
        cases h
        refine Lk.sel [0, 3] rfl ?_
        exact Lk.stop ⟨rfl, rfl, rfl, rfl, rfl, rfl⟩
    · clear hj
      refine lk_aload_n d_Mo_sign_90 rfl ?_
      obtain ⟨a15, ha15, h⟩ := x_b h
      obtain ⟨p16, hp16, h⟩ := x_b h
      refine lk_callV0 d_Mo_sign_91 (x_obm ha15 rfl) (c_Mo_peek hp16) (Nat.le_of_ble_eq_true rfl) rfl M_Mo_peek lm_Mo_118 in_Mo_peek se_Mo_peek (by decide) rfl (Nat.le_of_ble_eq_true rfl) ?_
      refine lk_bipush (v := 63) d_Mo_sign_94 rfl ?_
      refine lk_icmp_eq (tgt := 100) d_Mo_sign_96 (by decide) (fun hc => ?_) (fun hc => ?_)
      · replace h := x_ifp hc h
        refine lk_aload_n d_Mo_sign_100 rfl ?_
        refine lk_dup d_Mo_sign_101 rfl ?_
        obtain ⟨a17, ha17, h⟩ := x_b h
        refine lk_getI (k := 14) d_Mo_sign_102 ha17 (by decide) rfl (by decide) lf_Mo_112 rfl ?_
        refine lk_iconst (v := 1) d_Mo_sign_105 rfl ?_
        refine lk_iadd d_Mo_sign_106 ?_
        replace h := x_nm h
        refine lk_putI (k := 14) d_Mo_sign_107 ha17 (by decide) rfl (by decide) lf_Mo_112 rfl rfl ?_
        refine lk_aload_n d_Mo_sign_110 rfl ?_
        refine lk_getR (k := 12) d_Mo_sign_111 ha17 (by decide) rfl (by decide) lf_Mo_28 rfl ?_
        refine lk_iload_n d_Mo_sign_114 rfl ?_
        obtain ⟨q19, hq19, h⟩ := x_b h
        obtain ⟨k20, hk20, h⟩ := x_b h
        refine lk_iald d_Mo_sign_115 hq19 hk20 ?_
        replace h := x_nm h
        refine lk_istore d_Mo_sign_116 (by decide) rfl ?_
        refine lk_aload_n d_Mo_sign_118 rfl ?_
        refine lk_getR (k := 12) d_Mo_sign_119 ha17 (by decide) rfl (by decide) lf_Mo_28 rfl ?_
        refine lk_iload_n d_Mo_sign_122 rfl ?_
        refine lk_aload_n d_Mo_sign_123 rfl ?_
        refine lk_getR (k := 13) d_Mo_sign_124 ha17 (by decide) rfl (by decide) lf_Mo_31 rfl ?_
        refine lk_iload_n d_Mo_sign_127 rfl ?_
        obtain ⟨q22, hq22, h⟩ := x_b h
        obtain ⟨k23, hk23, h⟩ := x_b h
        refine lk_iald d_Mo_sign_128 hq22 hk23 ?_
        obtain ⟨k24, hk24, h⟩ := x_b h
        replace h := x_nm h
        refine lk_iast d_Mo_sign_129 hq19 hk24 ?_
        refine lk_aload_n d_Mo_sign_130 rfl ?_
        refine lk_getR (k := 13) d_Mo_sign_131 ha17 (by decide) rfl (by decide) lf_Mo_31 rfl ?_
        refine lk_iload_n d_Mo_sign_134 rfl ?_
        refine lk_iload d_Mo_sign_135 rfl ?_
        obtain ⟨q26, hq26, h⟩ := x_b h
        obtain ⟨k27, hk27, h⟩ := x_b h
        replace h := x_nm h
        refine lk_iast d_Mo_sign_137 hq26 hk27 ?_
        cases h
        exact Lk.stop ⟨rfl, Or.inl ⟨d_Mo_sign_138, rfl, rfl, rfl⟩⟩
      · replace h := x_ifn hc h
        cases h
        exact Lk.stop ⟨rfl, Or.inl ⟨d_Mo_sign_99, rfl, rfl, rfl⟩⟩
  · replace h := x_ifn hc h
    refine lk_iload_n d_Mo_sign_11 rfl ?_
    refine lk_bipush (v := 42) d_Mo_sign_12 rfl ?_
    refine lk_icmp_eq (tgt := 24) d_Mo_sign_14 (by decide) (fun hc => ?_) (fun hc => ?_)
    · replace h := x_ifp hc h
      refine lk_aload_n d_Mo_sign_24 rfl ?_
      refine lk_dup d_Mo_sign_25 rfl ?_
      obtain ⟨a29, ha29, h⟩ := x_b h
      refine lk_getI (k := 14) d_Mo_sign_26 ha29 (by decide) rfl (by decide) lf_Mo_112 rfl ?_
      refine lk_iconst (v := 1) d_Mo_sign_29 rfl ?_
      refine lk_iadd d_Mo_sign_30 ?_
      replace h := x_nm h
      refine lk_putI (k := 14) d_Mo_sign_31 ha29 (by decide) rfl (by decide) lf_Mo_112 rfl rfl ?_
      refine lk_iload_n d_Mo_sign_34 rfl ?_
      refine lk_istore_n d_Mo_sign_35 (by decide) rfl ?_
      refine lk_iload_n d_Mo_sign_36 rfl ?_
      refine lk_bipush (v := 43) d_Mo_sign_37 rfl ?_
      obtain ⟨t41, hj, h⟩ := x_b h
      refine Lk.joinS 90 [0, 3] [(3, vI t41.1)] rfl 2 [] t41.2 ?_ ?_
      · replace h := hj
        refine lk_icmp_ne (tgt := 62) d_Mo_sign_39 (by decide) (fun hc => ?_) (fun hc => ?_)
        · replace h := x_ifn hc h
          refine lk_aload_n d_Mo_sign_62 rfl ?_
          refine lk_iload_n d_Mo_sign_63 rfl ?_
          obtain ⟨p31, hp31, h⟩ := x_b h
          refine lk_callV0 d_Mo_sign_64 (x_obm ha29 rfl) (c_Mo_push hp31) (Nat.le_of_ble_eq_true rfl) rfl M_Mo_push lm_Mo_126 in_Mo_push se_Mo_push (by decide) rfl (Nat.le_of_ble_eq_true rfl) ?_
          refine lk_iload_n d_Mo_sign_67 rfl ?_
          refine lk_bipush (v := 42) d_Mo_sign_68 rfl ?_
          obtain ⟨t34, hj, h⟩ := x_b h
          refine Lk.joinS 80 [0, 1, 3] [] rfl 2 [] t34 ?_ ?_
          · replace h := hj
            refine lk_icmp_ne (tgt := 80) d_Mo_sign_70 (by decide) (fun hc => ?_) (fun hc => ?_)
            · replace h := x_ifn hc h
              cases h
              refine Lk.sel [0, 1, 3] rfl ?_
              exact Lk.stop ⟨rfl, rfl, rfl, rfl, rfl, rfl⟩
            · replace h := x_ifp hc h
              refine lk_aload_n d_Mo_sign_73 rfl ?_
              refine lk_iconst (v := 3) d_Mo_sign_74 rfl ?_
              refine lk_iload_n d_Mo_sign_75 rfl ?_
              refine lk_iconst (v := 0) d_Mo_sign_76 rfl ?_
              obtain ⟨a32, ha32, h⟩ := x_b h
              obtain ⟨p33, hp33, h⟩ := x_b h
              refine lk_callV0 d_Mo_sign_77 (x_obm ha32 rfl) (c_Mo_emit hp33) (Nat.le_of_ble_eq_true rfl) rfl M_Mo_emit lm_Mo_122 in_Mo_emit se_Mo_emit (by decide) rfl (Nat.le_of_ble_eq_true rfl) ?_
              cases h
              refine Lk.sel [0, 1, 3] rfl ?_
              exact Lk.stop ⟨rfl, rfl, rfl, rfl, rfl, rfl⟩
          · clear hj
            refine lk_aload_n d_Mo_sign_80 rfl ?_
            obtain ⟨a35, ha35, h⟩ := x_b h
            refine lk_getR (k := 13) d_Mo_sign_81 ha35 (by decide) rfl (by decide) lf_Mo_31 rfl ?_
            refine lk_iload_n d_Mo_sign_84 rfl ?_
            refine lk_aload_n d_Mo_sign_85 rfl ?_
            refine lk_getI (k := 10) d_Mo_sign_86 ha35 (by decide) rfl (by decide) lf_Mo_115 rfl ?_
            obtain ⟨q36, hq36, h⟩ := x_b h
            obtain ⟨k37, hk37, h⟩ := x_b h
            replace h := x_nm h
            refine lk_iast d_Mo_sign_89 hq36 hk37 ?_
            cases h
            refine Lk.sel [0, 3] rfl ?_
            exact Lk.stop ⟨rfl, rfl, rfl, rfl, rfl, rfl⟩
        · replace h := x_ifp hc h
          refine lk_aload_n d_Mo_sign_42 rfl ?_
          refine lk_getI (k := 10) d_Mo_sign_43 ha29 (by decide) rfl (by decide) lf_Mo_115 rfl ?_
          replace h := x_nm h
          refine lk_istore_n d_Mo_sign_46 (by decide) rfl ?_
          refine lk_aload_n d_Mo_sign_47 rfl ?_
          refine lk_iconst (v := 2) d_Mo_sign_48 rfl ?_
          refine lk_iload_n d_Mo_sign_49 rfl ?_
          refine lk_aload_n d_Mo_sign_50 rfl ?_
          refine lk_getI (k := 10) d_Mo_sign_51 ha29 (by decide) rfl (by decide) lf_Mo_115 rfl ?_
          refine lk_iconst (v := 1) d_Mo_sign_54 rfl ?_
          refine lk_iadd d_Mo_sign_55 ?_
          obtain ⟨p40, hp40, h⟩ := x_b h
          refine lk_callV0 d_Mo_sign_56 (x_obm ha29 rfl) (c_Mo_emit hp40) (Nat.le_of_ble_eq_true rfl) rfl M_Mo_emit lm_Mo_122 in_Mo_emit se_Mo_emit (by decide) rfl (Nat.le_of_ble_eq_true rfl) ?_
          refine lk_goto (tgt := 90) d_Mo_sign_59 (by decide) ?_
          cases h
          refine Lk.sel [0, 3] rfl ?_
          exact Lk.stop ⟨rfl, rfl, rfl, rfl, rfl, rfl⟩
      · clear hj
        refine lk_aload_n d_Mo_sign_90 rfl ?_
        obtain ⟨a42, ha42, h⟩ := x_b h
        obtain ⟨p43, hp43, h⟩ := x_b h
        refine lk_callV0 d_Mo_sign_91 (x_obm ha42 rfl) (c_Mo_peek hp43) (Nat.le_of_ble_eq_true rfl) rfl M_Mo_peek lm_Mo_118 in_Mo_peek se_Mo_peek (by decide) rfl (Nat.le_of_ble_eq_true rfl) ?_
        refine lk_bipush (v := 63) d_Mo_sign_94 rfl ?_
        refine lk_icmp_eq (tgt := 100) d_Mo_sign_96 (by decide) (fun hc => ?_) (fun hc => ?_)
        · replace h := x_ifp hc h
          refine lk_aload_n d_Mo_sign_100 rfl ?_
          refine lk_dup d_Mo_sign_101 rfl ?_
          obtain ⟨a44, ha44, h⟩ := x_b h
          refine lk_getI (k := 14) d_Mo_sign_102 ha44 (by decide) rfl (by decide) lf_Mo_112 rfl ?_
          refine lk_iconst (v := 1) d_Mo_sign_105 rfl ?_
          refine lk_iadd d_Mo_sign_106 ?_
          replace h := x_nm h
          refine lk_putI (k := 14) d_Mo_sign_107 ha44 (by decide) rfl (by decide) lf_Mo_112 rfl rfl ?_
          refine lk_aload_n d_Mo_sign_110 rfl ?_
          refine lk_getR (k := 12) d_Mo_sign_111 ha44 (by decide) rfl (by decide) lf_Mo_28 rfl ?_
          refine lk_iload_n d_Mo_sign_114 rfl ?_
          obtain ⟨q46, hq46, h⟩ := x_b h
          obtain ⟨k47, hk47, h⟩ := x_b h
          refine lk_iald d_Mo_sign_115 hq46 hk47 ?_
          replace h := x_nm h
          refine lk_istore d_Mo_sign_116 (by decide) rfl ?_
          refine lk_aload_n d_Mo_sign_118 rfl ?_
          refine lk_getR (k := 12) d_Mo_sign_119 ha44 (by decide) rfl (by decide) lf_Mo_28 rfl ?_
          refine lk_iload_n d_Mo_sign_122 rfl ?_
          refine lk_aload_n d_Mo_sign_123 rfl ?_
          refine lk_getR (k := 13) d_Mo_sign_124 ha44 (by decide) rfl (by decide) lf_Mo_31 rfl ?_
          refine lk_iload_n d_Mo_sign_127 rfl ?_
          obtain ⟨q49, hq49, h⟩ := x_b h
          obtain ⟨k50, hk50, h⟩ := x_b h
          refine lk_iald d_Mo_sign_128 hq49 hk50 ?_
          obtain ⟨k51, hk51, h⟩ := x_b h
          replace h := x_nm h
          refine lk_iast d_Mo_sign_129 hq46 hk51 ?_
          refine lk_aload_n d_Mo_sign_130 rfl ?_
          refine lk_getR (k := 13) d_Mo_sign_131 ha44 (by decide) rfl (by decide) lf_Mo_31 rfl ?_
          refine lk_iload_n d_Mo_sign_134 rfl ?_
          refine lk_iload d_Mo_sign_135 rfl ?_
          obtain ⟨q53, hq53, h⟩ := x_b h
          obtain ⟨k54, hk54, h⟩ := x_b h
          replace h := x_nm h
          refine lk_iast d_Mo_sign_137 hq53 hk54 ?_
          cases h
          exact Lk.stop ⟨rfl, Or.inl ⟨d_Mo_sign_138, rfl, rfl, rfl⟩⟩
        · replace h := x_ifn hc h
          cases h
          exact Lk.stop ⟨rfl, Or.inl ⟨d_Mo_sign_99, rfl, rfl, rfl⟩⟩
    · replace h := x_ifn hc h
      refine lk_iload_n d_Mo_sign_17 rfl ?_
      refine lk_bipush (v := 43) d_Mo_sign_18 rfl ?_
      refine lk_icmp_eq (tgt := 24) d_Mo_sign_20 (by decide) (fun hc => ?_) (fun hc => ?_)
      · replace h := x_ifp hc h
        refine lk_aload_n d_Mo_sign_24 rfl ?_
        refine lk_dup d_Mo_sign_25 rfl ?_
        obtain ⟨a56, ha56, h⟩ := x_b h
        refine lk_getI (k := 14) d_Mo_sign_26 ha56 (by decide) rfl (by decide) lf_Mo_112 rfl ?_
        refine lk_iconst (v := 1) d_Mo_sign_29 rfl ?_
        refine lk_iadd d_Mo_sign_30 ?_
        replace h := x_nm h
        refine lk_putI (k := 14) d_Mo_sign_31 ha56 (by decide) rfl (by decide) lf_Mo_112 rfl rfl ?_
        refine lk_iload_n d_Mo_sign_34 rfl ?_
        refine lk_istore_n d_Mo_sign_35 (by decide) rfl ?_
        refine lk_iload_n d_Mo_sign_36 rfl ?_
        refine lk_bipush (v := 43) d_Mo_sign_37 rfl ?_
        obtain ⟨t68, hj, h⟩ := x_b h
        refine Lk.joinS 90 [0, 3] [(3, vI t68.1)] rfl 2 [] t68.2 ?_ ?_
        · replace h := hj
          refine lk_icmp_ne (tgt := 62) d_Mo_sign_39 (by decide) (fun hc => ?_) (fun hc => ?_)
          · replace h := x_ifn hc h
            refine lk_aload_n d_Mo_sign_62 rfl ?_
            refine lk_iload_n d_Mo_sign_63 rfl ?_
            obtain ⟨p58, hp58, h⟩ := x_b h
            refine lk_callV0 d_Mo_sign_64 (x_obm ha56 rfl) (c_Mo_push hp58) (Nat.le_of_ble_eq_true rfl) rfl M_Mo_push lm_Mo_126 in_Mo_push se_Mo_push (by decide) rfl (Nat.le_of_ble_eq_true rfl) ?_
            refine lk_iload_n d_Mo_sign_67 rfl ?_
            refine lk_bipush (v := 42) d_Mo_sign_68 rfl ?_
            obtain ⟨t61, hj, h⟩ := x_b h
            refine Lk.joinS 80 [0, 1, 3] [] rfl 2 [] t61 ?_ ?_
            · replace h := hj
              refine lk_icmp_ne (tgt := 80) d_Mo_sign_70 (by decide) (fun hc => ?_) (fun hc => ?_)
              · replace h := x_ifn hc h
                cases h
                refine Lk.sel [0, 1, 3] rfl ?_
                exact Lk.stop ⟨rfl, rfl, rfl, rfl, rfl, rfl⟩
              · replace h := x_ifp hc h
                refine lk_aload_n d_Mo_sign_73 rfl ?_
                refine lk_iconst (v := 3) d_Mo_sign_74 rfl ?_
                refine lk_iload_n d_Mo_sign_75 rfl ?_
                refine lk_iconst (v := 0) d_Mo_sign_76 rfl ?_
                obtain ⟨a59, ha59, h⟩ := x_b h
                obtain ⟨p60, hp60, h⟩ := x_b h
                refine lk_callV0 d_Mo_sign_77 (x_obm ha59 rfl) (c_Mo_emit hp60) (Nat.le_of_ble_eq_true rfl) rfl M_Mo_emit lm_Mo_122 in_Mo_emit se_Mo_emit (by decide) rfl (Nat.le_of_ble_eq_true rfl) ?_
                cases h
                refine Lk.sel [0, 1, 3] rfl ?_
                exact Lk.stop ⟨rfl, rfl, rfl, rfl, rfl, rfl⟩
            · clear hj
              refine lk_aload_n d_Mo_sign_80 rfl ?_
              obtain ⟨a62, ha62, h⟩ := x_b h
              refine lk_getR (k := 13) d_Mo_sign_81 ha62 (by decide) rfl (by decide) lf_Mo_31 rfl ?_
              refine lk_iload_n d_Mo_sign_84 rfl ?_
              refine lk_aload_n d_Mo_sign_85 rfl ?_
              refine lk_getI (k := 10) d_Mo_sign_86 ha62 (by decide) rfl (by decide) lf_Mo_115 rfl ?_
              obtain ⟨q63, hq63, h⟩ := x_b h
              obtain ⟨k64, hk64, h⟩ := x_b h
              replace h := x_nm h
              refine lk_iast d_Mo_sign_89 hq63 hk64 ?_
              cases h
              refine Lk.sel [0, 3] rfl ?_
              exact Lk.stop ⟨rfl, rfl, rfl, rfl, rfl, rfl⟩
          · replace h := x_ifp hc h
            refine lk_aload_n d_Mo_sign_42 rfl ?_
            refine lk_getI (k := 10) d_Mo_sign_43 ha56 (by decide) rfl (by decide) lf_Mo_115 rfl ?_
            replace h := x_nm h
            refine lk_istore_n d_Mo_sign_46 (by decide) rfl ?_
            refine lk_aload_n d_Mo_sign_47 rfl ?_
            refine lk_iconst (v := 2) d_Mo_sign_48 rfl ?_
            refine lk_iload_n d_Mo_sign_49 rfl ?_
            refine lk_aload_n d_Mo_sign_50 rfl ?_
            refine lk_getI (k := 10) d_Mo_sign_51 ha56 (by decide) rfl (by decide) lf_Mo_115 rfl ?_
            refine lk_iconst (v := 1) d_Mo_sign_54 rfl ?_
            refine lk_iadd d_Mo_sign_55 ?_
            obtain ⟨p67, hp67, h⟩ := x_b h
            refine lk_callV0 d_Mo_sign_56 (x_obm ha56 rfl) (c_Mo_emit hp67) (Nat.le_of_ble_eq_true rfl) rfl M_Mo_emit lm_Mo_122 in_Mo_emit se_Mo_emit (by decide) rfl (Nat.le_of_ble_eq_true rfl) ?_
            refine lk_goto (tgt := 90) d_Mo_sign_59 (by decide) ?_
            cases h
            refine Lk.sel [0, 3] rfl ?_
            exact Lk.stop ⟨rfl, rfl, rfl, rfl, rfl, rfl⟩
        · clear hj
          refine lk_aload_n d_Mo_sign_90 rfl ?_
          obtain ⟨a69, ha69, h⟩ := x_b h
          obtain ⟨p70, hp70, h⟩ := x_b h
          refine lk_callV0 d_Mo_sign_91 (x_obm ha69 rfl) (c_Mo_peek hp70) (Nat.le_of_ble_eq_true rfl) rfl M_Mo_peek lm_Mo_118 in_Mo_peek se_Mo_peek (by decide) rfl (Nat.le_of_ble_eq_true rfl) ?_
          refine lk_bipush (v := 63) d_Mo_sign_94 rfl ?_
          refine lk_icmp_eq (tgt := 100) d_Mo_sign_96 (by decide) (fun hc => ?_) (fun hc => ?_)
          · replace h := x_ifp hc h
            refine lk_aload_n d_Mo_sign_100 rfl ?_
            refine lk_dup d_Mo_sign_101 rfl ?_
            obtain ⟨a71, ha71, h⟩ := x_b h
            refine lk_getI (k := 14) d_Mo_sign_102 ha71 (by decide) rfl (by decide) lf_Mo_112 rfl ?_
            refine lk_iconst (v := 1) d_Mo_sign_105 rfl ?_
            refine lk_iadd d_Mo_sign_106 ?_
            replace h := x_nm h
            refine lk_putI (k := 14) d_Mo_sign_107 ha71 (by decide) rfl (by decide) lf_Mo_112 rfl rfl ?_
            refine lk_aload_n d_Mo_sign_110 rfl ?_
            refine lk_getR (k := 12) d_Mo_sign_111 ha71 (by decide) rfl (by decide) lf_Mo_28 rfl ?_
            refine lk_iload_n d_Mo_sign_114 rfl ?_
            obtain ⟨q73, hq73, h⟩ := x_b h
            obtain ⟨k74, hk74, h⟩ := x_b h
            refine lk_iald d_Mo_sign_115 hq73 hk74 ?_
            replace h := x_nm h
            refine lk_istore d_Mo_sign_116 (by decide) rfl ?_
            refine lk_aload_n d_Mo_sign_118 rfl ?_
            refine lk_getR (k := 12) d_Mo_sign_119 ha71 (by decide) rfl (by decide) lf_Mo_28 rfl ?_
            refine lk_iload_n d_Mo_sign_122 rfl ?_
            refine lk_aload_n d_Mo_sign_123 rfl ?_
            refine lk_getR (k := 13) d_Mo_sign_124 ha71 (by decide) rfl (by decide) lf_Mo_31 rfl ?_
            refine lk_iload_n d_Mo_sign_127 rfl ?_
            obtain ⟨q76, hq76, h⟩ := x_b h
            obtain ⟨k77, hk77, h⟩ := x_b h
            refine lk_iald d_Mo_sign_128 hq76 hk77 ?_
            obtain ⟨k78, hk78, h⟩ := x_b h
            replace h := x_nm h
            refine lk_iast d_Mo_sign_129 hq73 hk78 ?_
            refine lk_aload_n d_Mo_sign_130 rfl ?_
            refine lk_getR (k := 13) d_Mo_sign_131 ha71 (by decide) rfl (by decide) lf_Mo_31 rfl ?_
            refine lk_iload_n d_Mo_sign_134 rfl ?_
            refine lk_iload d_Mo_sign_135 rfl ?_
            obtain ⟨q80, hq80, h⟩ := x_b h
            obtain ⟨k81, hk81, h⟩ := x_b h
            replace h := x_nm h
            refine lk_iast d_Mo_sign_137 hq80 hk81 ?_
            cases h
            exact Lk.stop ⟨rfl, Or.inl ⟨d_Mo_sign_138, rfl, rfl, rfl⟩⟩
          · replace h := x_ifn hc h
            cases h
            exact Lk.stop ⟨rfl, Or.inl ⟨d_Mo_sign_99, rfl, rfl, rfl⟩⟩
      · replace h := x_ifn hc h
        cases h
        exact Lk.stop ⟨rfl, Or.inl ⟨d_Mo_sign_23, rfl, rfl, rfl⟩⟩
def f_Mo_isLetter (x0 : Int32) (s : hv_S) : Option (Int32 × hv_S) :=
  ((
    if x0 < 97 then
      some 0
    else
      if 104 < x0 then
        some 0
      else
        some 1
  ) : Option (Int32)).bind fun t1 =>
  (x_z t1).bind fun z2 =>
  some ((z2, s))
set_option maxRecDepth 4000 in
set_option maxHeartbeats 2000000 in
theorem c_Mo_isLetter {G : lt_G} {x0 : Int32} {s : hv_S} {p : Int32 × hv_S} (h : f_Mo_isLetter x0 s = some p) : Ck G m_Mo_isLetter 1 0 0 [vI x0] s (some (vI p.1)) p.2 := by
  refine Ck.of (by decide) (Nat.le_of_ble_eq_true rfl) ?_
  unfold f_Mo_isLetter at h
  refine lk_iload_n d_Mo_isLetter_0 rfl ?_
  refine lk_bipush (v := 97) d_Mo_isLetter_1 rfl ?_
  obtain ⟨t1, hj, h⟩ := x_b h
  refine Lk.joinA 17 [] [] rfl 2 [vI t1] ?_ ?_
  · replace h := hj
    refine lk_icmp_lt (tgt := 16) d_Mo_isLetter_3 (by decide) (fun hc => ?_) (fun hc => ?_)
    · replace h := x_ifp hc h
      refine lk_iconst (v := 0) d_Mo_isLetter_16 rfl ?_
      cases h
      refine Lk.sel [] rfl ?_
      exact Lk.stop ⟨rfl, rfl, rfl, rfl, rfl, rfl⟩
    · replace h := x_ifn hc h
      refine lk_iload_n d_Mo_isLetter_6 rfl ?_
      refine lk_bipush (v := 104) d_Mo_isLetter_7 rfl ?_
      refine lk_icmp_gt (tgt := 16) d_Mo_isLetter_9 (by decide) (fun hc => ?_) (fun hc => ?_)
      · replace h := x_ifp hc h
        refine lk_iconst (v := 0) d_Mo_isLetter_16 rfl ?_
        cases h
        refine Lk.sel [] rfl ?_
        exact Lk.stop ⟨rfl, rfl, rfl, rfl, rfl, rfl⟩
      · replace h := x_ifn hc h
        refine lk_iconst (v := 1) d_Mo_isLetter_12 rfl ?_
        refine lk_goto (tgt := 17) d_Mo_isLetter_13 (by decide) ?_
        cases h
        refine Lk.sel [] rfl ?_
        exact Lk.stop ⟨rfl, rfl, rfl, rfl, rfl, rfl⟩
  · clear hj
    obtain ⟨z2, hz20, h⟩ := x_b h
    obtain ⟨rfl, hz2⟩ := x_z_some hz20
    cases h
    exact Lk.stop ⟨rfl, Or.inr (Or.inl ⟨_, _, d_Mo_isLetter_17, rfl, x_zn hz2, rfl, rfl⟩)⟩
def L_Mo_read_21 : Nat → Option Nat → Int32 → Int32 → hv_S → Option ((Int32 × hv_S) ⊕ (Int32 × hv_S))
  | 0, _, _, _, _ => none
  | n + 1, x0, x1, x2, s =>
    (x_ob s 11 x0).bind fun a7 =>
    if (hv_I s a7 2) ≤ (hv_I s a7 14) then
      some (.inl (x1, s))
    else
      (x_ar s 0 (hv_R s a7 3)).bind fun q8 =>
      (x_ix q8.2 (hv_I s a7 14)).bind fun k9 =>
      (some (hv_I s q8.1 k9)).bind fun y10 =>
      (some (hv_setI s a7 14 ((hv_I s a7 14) + (1 : Int32)))).bind fun s11 =>
      (some (hv_I s11 a7 10)).bind fun y12 =>
      if y10 = 124 then
        (x_ar s11 0 (hv_R s11 a7 41)).bind fun q176 =>
        (x_ix q176.2 x1).bind fun k177 =>
        (f_Mo_push a7 (hv_I s11 q176.1 k177) s11).bind fun p178 =>
        (x_ob p178 11 x0).bind fun a179 =>
        (f_Mo_emit a179 3 (((-1)) - x1) 0 p178).bind fun p180 =>
        (x_ob p180 11 x0).bind fun a181 =>
        (x_ar p180 0 (hv_R p180 a181 41)).bind fun q182 =>
        (x_ix q182.2 x1).bind fun k183 =>
        (x_ar p180 0 (hv_R p180 a181 13)).bind fun q184 =>
        (x_ix q184.2 (hv_I p180 q182.1 k183)).bind fun k185 =>
        (some (hv_setI p180 q184.1 k185 (hv_I p180 a181 10))).bind fun s186 =>
        (x_ar s186 0 (hv_R s186 a181 41)).bind fun q187 =>
        (x_ix q187.2 x1).bind fun k188 =>
        (some (hv_setI s186 q187.1 k188 (hv_I s186 a181 10))).bind fun s189 =>
        L_Mo_read_21 n x0 x1 x2 s189
      else
        if y10 = 40 then
          if 3 ≤ x2 then
            if y10 = 41 then
              if x1 ≤ 0 then
                (f_Mo_isLetter y10 s11).bind fun p122 =>
                if p122.1 = 0 then
                  if y10 = 46 then
                    (f_Mo_isLetter y10 p122.2).bind fun p131 =>
                    ((
                      if p131.1 = 0 then
                        if y10 = 46 then
                          some 1
                        else
                          if y10 = 94 then
                            some 5
                          else
                            some 6
                      else
                        some 0
                    ) : Option (Int32)).bind fun t132 =>
                    (f_Mo_isLetter y10 p131.2).bind fun p133 =>
                    ((
                      if p133.1 = 0 then
                        some 0
                      else
                        some (y10 - (97 : Int32))
                    ) : Option (Int32)).bind fun t134 =>
                    (x_ob p133.2 11 x0).bind fun a135 =>
                    (f_Mo_emit a135 t132 t134 0 p133.2).bind fun p136 =>
                    (x_ob p136 11 x0).bind fun a137 =>
                    (f_Mo_sign a137 y12 p136).bind fun p138 =>
                    L_Mo_read_21 n x0 x1 x2 p138
                  else
                    if y10 = 94 then
                      (f_Mo_isLetter y10 p122.2).bind fun p139 =>
                      ((
                        if p139.1 = 0 then
                          if y10 = 46 then
                            some 1
                          else
                            if y10 = 94 then
                              some 5
                            else
                              some 6
                        else
                          some 0
                      ) : Option (Int32)).bind fun t140 =>
                      (f_Mo_isLetter y10 p139.2).bind fun p141 =>
                      ((
                        if p141.1 = 0 then
                          some 0
                        else
                          some (y10 - (97 : Int32))
                      ) : Option (Int32)).bind fun t142 =>
                      (x_ob p141.2 11 x0).bind fun a143 =>
                      (f_Mo_emit a143 t140 t142 0 p141.2).bind fun p144 =>
                      (x_ob p144 11 x0).bind fun a145 =>
                      (f_Mo_sign a145 y12 p144).bind fun p146 =>
                      L_Mo_read_21 n x0 x1 x2 p146
                    else
                      if y10 = 36 then
                        (f_Mo_isLetter y10 p122.2).bind fun p147 =>
                        ((
                          if p147.1 = 0 then
                            if y10 = 46 then
                              some 1
                            else
                              if y10 = 94 then
                                some 5
                              else
                                some 6
                          else
                            some 0
                        ) : Option (Int32)).bind fun t148 =>
                        (f_Mo_isLetter y10 p147.2).bind fun p149 =>
                        ((
                          if p149.1 = 0 then
                            some 0
                          else
                            some (y10 - (97 : Int32))
                        ) : Option (Int32)).bind fun t150 =>
                        (x_ob p149.2 11 x0).bind fun a151 =>
                        (f_Mo_emit a151 t148 t150 0 p149.2).bind fun p152 =>
                        (x_ob p152 11 x0).bind fun a153 =>
                        (f_Mo_sign a153 y12 p152).bind fun p154 =>
                        L_Mo_read_21 n x0 x1 x2 p154
                      else
                        some (.inr ((0, p122.2)))
                else
                  (f_Mo_isLetter y10 p122.2).bind fun p123 =>
                  ((
                    if p123.1 = 0 then
                      if y10 = 46 then
                        some 1
                      else
                        if y10 = 94 then
                          some 5
                        else
                          some 6
                    else
                      some 0
                  ) : Option (Int32)).bind fun t124 =>
                  (f_Mo_isLetter y10 p123.2).bind fun p125 =>
                  ((
                    if p125.1 = 0 then
                      some 0
                    else
                      some (y10 - (97 : Int32))
                  ) : Option (Int32)).bind fun t126 =>
                  (x_ob p125.2 11 x0).bind fun a127 =>
                  (f_Mo_emit a127 t124 t126 0 p125.2).bind fun p128 =>
                  (x_ob p128 11 x0).bind fun a129 =>
                  (f_Mo_sign a129 y12 p128).bind fun p130 =>
                  L_Mo_read_21 n x0 x1 x2 p130
              else
                (f_Mo_land a7 x1 s11).bind fun p155 =>
                (x_ob p155 11 x0).bind fun a156 =>
                (x_ar p155 0 (hv_R p155 a156 43)).bind fun q157 =>
                (x_ix q157.2 x1).bind fun k158 =>
                (f_Mo_emit a156 4 (((2 : Int32) * (hv_I p155 q157.1 k158)) + (1 : Int32)) 0 p155).bind fun p159 =>
                (x_ob p159 11 x0).bind fun a160 =>
                (x_ar p159 0 (hv_R p159 a160 42)).bind fun q161 =>
                (x_ix q161.2 x1).bind fun k162 =>
                (some (hv_I p159 q161.1 k162)).bind fun y163 =>
                (f_Mo_sign a160 y163 p159).bind fun p164 =>
                L_Mo_read_21 n x0 (x1 + (-1)) x2 p164
            else
              (f_Mo_isLetter y10 s11).bind fun p89 =>
              if p89.1 = 0 then
                if y10 = 46 then
                  (f_Mo_isLetter y10 p89.2).bind fun p98 =>
                  ((
                    if p98.1 = 0 then
                      if y10 = 46 then
                        some 1
                      else
                        if y10 = 94 then
                          some 5
                        else
                          some 6
                    else
                      some 0
                  ) : Option (Int32)).bind fun t99 =>
                  (f_Mo_isLetter y10 p98.2).bind fun p100 =>
                  ((
                    if p100.1 = 0 then
                      some 0
                    else
                      some (y10 - (97 : Int32))
                  ) : Option (Int32)).bind fun t101 =>
                  (x_ob p100.2 11 x0).bind fun a102 =>
                  (f_Mo_emit a102 t99 t101 0 p100.2).bind fun p103 =>
                  (x_ob p103 11 x0).bind fun a104 =>
                  (f_Mo_sign a104 y12 p103).bind fun p105 =>
                  L_Mo_read_21 n x0 x1 x2 p105
                else
                  if y10 = 94 then
                    (f_Mo_isLetter y10 p89.2).bind fun p106 =>
                    ((
                      if p106.1 = 0 then
                        if y10 = 46 then
                          some 1
                        else
                          if y10 = 94 then
                            some 5
                          else
                            some 6
                      else
                        some 0
                    ) : Option (Int32)).bind fun t107 =>
                    (f_Mo_isLetter y10 p106.2).bind fun p108 =>
                    ((
                      if p108.1 = 0 then
                        some 0
                      else
                        some (y10 - (97 : Int32))
                    ) : Option (Int32)).bind fun t109 =>
                    (x_ob p108.2 11 x0).bind fun a110 =>
                    (f_Mo_emit a110 t107 t109 0 p108.2).bind fun p111 =>
                    (x_ob p111 11 x0).bind fun a112 =>
                    (f_Mo_sign a112 y12 p111).bind fun p113 =>
                    L_Mo_read_21 n x0 x1 x2 p113
                  else
                    if y10 = 36 then
                      (f_Mo_isLetter y10 p89.2).bind fun p114 =>
                      ((
                        if p114.1 = 0 then
                          if y10 = 46 then
                            some 1
                          else
                            if y10 = 94 then
                              some 5
                            else
                              some 6
                        else
                          some 0
                      ) : Option (Int32)).bind fun t115 =>
                      (f_Mo_isLetter y10 p114.2).bind fun p116 =>
                      ((
                        if p116.1 = 0 then
                          some 0
                        else
                          some (y10 - (97 : Int32))
                      ) : Option (Int32)).bind fun t117 =>
                      (x_ob p116.2 11 x0).bind fun a118 =>
                      (f_Mo_emit a118 t115 t117 0 p116.2).bind fun p119 =>
                      (x_ob p119 11 x0).bind fun a120 =>
                      (f_Mo_sign a120 y12 p119).bind fun p121 =>
                      L_Mo_read_21 n x0 x1 x2 p121
                    else
                      some (.inr ((0, p89.2)))
              else
                (f_Mo_isLetter y10 p89.2).bind fun p90 =>
                ((
                  if p90.1 = 0 then
                    if y10 = 46 then
                      some 1
                    else
                      if y10 = 94 then
                        some 5
                      else
                        some 6
                  else
                    some 0
                ) : Option (Int32)).bind fun t91 =>
                (f_Mo_isLetter y10 p90.2).bind fun p92 =>
                ((
                  if p92.1 = 0 then
                    some 0
                  else
                    some (y10 - (97 : Int32))
                ) : Option (Int32)).bind fun t93 =>
                (x_ob p92.2 11 x0).bind fun a94 =>
                (f_Mo_emit a94 t91 t93 0 p92.2).bind fun p95 =>
                (x_ob p95 11 x0).bind fun a96 =>
                (f_Mo_sign a96 y12 p95).bind fun p97 =>
                L_Mo_read_21 n x0 x1 x2 p97
          else
            (f_Mo_emit a7 4 ((2 : Int32) * (x2 + 1)) 0 s11).bind fun p165 =>
            (x_ob p165 11 x0).bind fun a166 =>
            (x_ar p165 0 (hv_R p165 a166 42)).bind fun q167 =>
            (x_ix q167.2 (x1 + 1)).bind fun k168 =>
            (some (hv_setI p165 q167.1 k168 y12)).bind fun s169 =>
            (x_ar s169 0 (hv_R s169 a166 43)).bind fun q170 =>
            (x_ix q170.2 (x1 + 1)).bind fun k171 =>
            (some (hv_setI s169 q170.1 k171 (x2 + 1))).bind fun s172 =>
            (x_ar s172 0 (hv_R s172 a166 41)).bind fun q173 =>
            (x_ix q173.2 (x1 + 1)).bind fun k174 =>
            (some (hv_setI s172 q173.1 k174 (hv_I s172 a166 10))).bind fun s175 =>
            L_Mo_read_21 n x0 (x1 + 1) (x2 + 1) s175
        else
          if y10 = 41 then
            if x1 ≤ 0 then
              (f_Mo_isLetter y10 s11).bind fun p46 =>
              if p46.1 = 0 then
                if y10 = 46 then
                  (f_Mo_isLetter y10 p46.2).bind fun p55 =>
                  ((
                    if p55.1 = 0 then
                      if y10 = 46 then
                        some 1
                      else
                        if y10 = 94 then
                          some 5
                        else
                          some 6
                    else
                      some 0
                  ) : Option (Int32)).bind fun t56 =>
                  (f_Mo_isLetter y10 p55.2).bind fun p57 =>
                  ((
                    if p57.1 = 0 then
                      some 0
                    else
                      some (y10 - (97 : Int32))
                  ) : Option (Int32)).bind fun t58 =>
                  (x_ob p57.2 11 x0).bind fun a59 =>
                  (f_Mo_emit a59 t56 t58 0 p57.2).bind fun p60 =>
                  (x_ob p60 11 x0).bind fun a61 =>
                  (f_Mo_sign a61 y12 p60).bind fun p62 =>
                  L_Mo_read_21 n x0 x1 x2 p62
                else
                  if y10 = 94 then
                    (f_Mo_isLetter y10 p46.2).bind fun p63 =>
                    ((
                      if p63.1 = 0 then
                        if y10 = 46 then
                          some 1
                        else
                          if y10 = 94 then
                            some 5
                          else
                            some 6
                      else
                        some 0
                    ) : Option (Int32)).bind fun t64 =>
                    (f_Mo_isLetter y10 p63.2).bind fun p65 =>
                    ((
                      if p65.1 = 0 then
                        some 0
                      else
                        some (y10 - (97 : Int32))
                    ) : Option (Int32)).bind fun t66 =>
                    (x_ob p65.2 11 x0).bind fun a67 =>
                    (f_Mo_emit a67 t64 t66 0 p65.2).bind fun p68 =>
                    (x_ob p68 11 x0).bind fun a69 =>
                    (f_Mo_sign a69 y12 p68).bind fun p70 =>
                    L_Mo_read_21 n x0 x1 x2 p70
                  else
                    if y10 = 36 then
                      (f_Mo_isLetter y10 p46.2).bind fun p71 =>
                      ((
                        if p71.1 = 0 then
                          if y10 = 46 then
                            some 1
                          else
                            if y10 = 94 then
                              some 5
                            else
                              some 6
                        else
                          some 0
                      ) : Option (Int32)).bind fun t72 =>
                      (f_Mo_isLetter y10 p71.2).bind fun p73 =>
                      ((
                        if p73.1 = 0 then
                          some 0
                        else
                          some (y10 - (97 : Int32))
                      ) : Option (Int32)).bind fun t74 =>
                      (x_ob p73.2 11 x0).bind fun a75 =>
                      (f_Mo_emit a75 t72 t74 0 p73.2).bind fun p76 =>
                      (x_ob p76 11 x0).bind fun a77 =>
                      (f_Mo_sign a77 y12 p76).bind fun p78 =>
                      L_Mo_read_21 n x0 x1 x2 p78
                    else
                      some (.inr ((0, p46.2)))
              else
                (f_Mo_isLetter y10 p46.2).bind fun p47 =>
                ((
                  if p47.1 = 0 then
                    if y10 = 46 then
                      some 1
                    else
                      if y10 = 94 then
                        some 5
                      else
                        some 6
                  else
                    some 0
                ) : Option (Int32)).bind fun t48 =>
                (f_Mo_isLetter y10 p47.2).bind fun p49 =>
                ((
                  if p49.1 = 0 then
                    some 0
                  else
                    some (y10 - (97 : Int32))
                ) : Option (Int32)).bind fun t50 =>
                (x_ob p49.2 11 x0).bind fun a51 =>
                (f_Mo_emit a51 t48 t50 0 p49.2).bind fun p52 =>
                (x_ob p52 11 x0).bind fun a53 =>
                (f_Mo_sign a53 y12 p52).bind fun p54 =>
                L_Mo_read_21 n x0 x1 x2 p54
            else
              (f_Mo_land a7 x1 s11).bind fun p79 =>
              (x_ob p79 11 x0).bind fun a80 =>
              (x_ar p79 0 (hv_R p79 a80 43)).bind fun q81 =>
              (x_ix q81.2 x1).bind fun k82 =>
              (f_Mo_emit a80 4 (((2 : Int32) * (hv_I p79 q81.1 k82)) + (1 : Int32)) 0 p79).bind fun p83 =>
              (x_ob p83 11 x0).bind fun a84 =>
              (x_ar p83 0 (hv_R p83 a84 42)).bind fun q85 =>
              (x_ix q85.2 x1).bind fun k86 =>
              (some (hv_I p83 q85.1 k86)).bind fun y87 =>
              (f_Mo_sign a84 y87 p83).bind fun p88 =>
              L_Mo_read_21 n x0 (x1 + (-1)) x2 p88
          else
            (f_Mo_isLetter y10 s11).bind fun p13 =>
            if p13.1 = 0 then
              if y10 = 46 then
                (f_Mo_isLetter y10 p13.2).bind fun p22 =>
                ((
                  if p22.1 = 0 then
                    if y10 = 46 then
                      some 1
                    else
                      if y10 = 94 then
                        some 5
                      else
                        some 6
                  else
                    some 0
                ) : Option (Int32)).bind fun t23 =>
                (f_Mo_isLetter y10 p22.2).bind fun p24 =>
                ((
                  if p24.1 = 0 then
                    some 0
                  else
                    some (y10 - (97 : Int32))
                ) : Option (Int32)).bind fun t25 =>
                (x_ob p24.2 11 x0).bind fun a26 =>
                (f_Mo_emit a26 t23 t25 0 p24.2).bind fun p27 =>
                (x_ob p27 11 x0).bind fun a28 =>
                (f_Mo_sign a28 y12 p27).bind fun p29 =>
                L_Mo_read_21 n x0 x1 x2 p29
              else
                if y10 = 94 then
                  (f_Mo_isLetter y10 p13.2).bind fun p30 =>
                  ((
                    if p30.1 = 0 then
                      if y10 = 46 then
                        some 1
                      else
                        if y10 = 94 then
                          some 5
                        else
                          some 6
                    else
                      some 0
                  ) : Option (Int32)).bind fun t31 =>
                  (f_Mo_isLetter y10 p30.2).bind fun p32 =>
                  ((
                    if p32.1 = 0 then
                      some 0
                    else
                      some (y10 - (97 : Int32))
                  ) : Option (Int32)).bind fun t33 =>
                  (x_ob p32.2 11 x0).bind fun a34 =>
                  (f_Mo_emit a34 t31 t33 0 p32.2).bind fun p35 =>
                  (x_ob p35 11 x0).bind fun a36 =>
                  (f_Mo_sign a36 y12 p35).bind fun p37 =>
                  L_Mo_read_21 n x0 x1 x2 p37
                else
                  if y10 = 36 then
                    (f_Mo_isLetter y10 p13.2).bind fun p38 =>
                    ((
                      if p38.1 = 0 then
                        if y10 = 46 then
                          some 1
                        else
                          if y10 = 94 then
                            some 5
                          else
                            some 6
                      else
                        some 0
                    ) : Option (Int32)).bind fun t39 =>
                    (f_Mo_isLetter y10 p38.2).bind fun p40 =>
                    ((
                      if p40.1 = 0 then
                        some 0
                      else
                        some (y10 - (97 : Int32))
                    ) : Option (Int32)).bind fun t41 =>
                    (x_ob p40.2 11 x0).bind fun a42 =>
                    (f_Mo_emit a42 t39 t41 0 p40.2).bind fun p43 =>
                    (x_ob p43 11 x0).bind fun a44 =>
                    (f_Mo_sign a44 y12 p43).bind fun p45 =>
                    L_Mo_read_21 n x0 x1 x2 p45
                  else
                    some (.inr ((0, p13.2)))
            else
              (f_Mo_isLetter y10 p13.2).bind fun p14 =>
              ((
                if p14.1 = 0 then
                  if y10 = 46 then
                    some 1
                  else
                    if y10 = 94 then
                      some 5
                    else
                      some 6
                else
                  some 0
              ) : Option (Int32)).bind fun t15 =>
              (f_Mo_isLetter y10 p14.2).bind fun p16 =>
              ((
                if p16.1 = 0 then
                  some 0
                else
                  some (y10 - (97 : Int32))
              ) : Option (Int32)).bind fun t17 =>
              (x_ob p16.2 11 x0).bind fun a18 =>
              (f_Mo_emit a18 t15 t17 0 p16.2).bind fun p19 =>
              (x_ob p19 11 x0).bind fun a20 =>
              (f_Mo_sign a20 y12 p19).bind fun p21 =>
              L_Mo_read_21 n x0 x1 x2 p21
set_option maxRecDepth 4000 in
set_option maxHeartbeats 2000000 in
theorem l_Mo_read_21 {G : lt_G} : ∀ (n : Nat) (x0 : Option Nat) (x1 : Int32) (x2 : Int32) (s : hv_S) (e0 : (Int32 × hv_S) ⊕ (Int32 × hv_S)), L_Mo_read_21 n x0 x1 x2 s = some e0 → Lk G m_Mo_read 3 21 [(0, vR x0), (1, vI x1), (2, vI x2)] [] s 0 0 (fun a b c d e f => match e0 with | .inl t => lk_at 308 [(0, vR x0), (1, vI t.1)] [] t.2 0 0 a b c d e f | .inr w => lk_end m_Mo_read (some (vI w.1)) w.2 a b c d e f) := by
  intro n
  induction n with
  | zero => intro x0 x1 x2 s e0 h; cases h
  | succ n ih =>
    intro x0 x1 x2 s e0 h
    unfold L_Mo_read_21 at h
    refine lk_aload_n d_Mo_read_21 rfl ?_
    obtain ⟨a7, ha7, h⟩ := x_b h
    refine lk_getI (k := 14) d_Mo_read_22 ha7 (by decide) rfl (by decide) lf_Mo_112 rfl ?_
    refine lk_aload_n d_Mo_read_25 rfl ?_
    refine lk_getI (k := 2) d_Mo_read_26 ha7 (by decide) rfl (by decide) lf_Mo_109 rfl ?_
    refine lk_icmp_ge (tgt := 308) d_Mo_read_29 (by decide) (fun hc => ?_) (fun hc => ?_)
    · replace h := x_ifp hc h
      cases h
      refine Lk.sel [0, 1] rfl ?_
      exact Lk.stop ⟨rfl, rfl, rfl, rfl, rfl, rfl⟩
    · replace h := x_ifn hc h
      refine lk_aload_n d_Mo_read_32 rfl ?_
      refine lk_getR (k := 3) d_Mo_read_33 ha7 (by decide) rfl (by decide) lf_Mo_7 rfl ?_
      refine lk_aload_n d_Mo_read_36 rfl ?_
      refine lk_getI (k := 14) d_Mo_read_37 ha7 (by decide) rfl (by decide) lf_Mo_112 rfl ?_
      obtain ⟨q8, hq8, h⟩ := x_b h
      obtain ⟨k9, hk9, h⟩ := x_b h
      refine lk_iald d_Mo_read_40 hq8 hk9 ?_
      replace h := x_nm h
      refine lk_istore_n d_Mo_read_41 (by decide) rfl ?_
      refine lk_aload_n d_Mo_read_42 rfl ?_
      refine lk_dup d_Mo_read_43 rfl ?_
      refine lk_getI (k := 14) d_Mo_read_44 ha7 (by decide) rfl (by decide) lf_Mo_112 rfl ?_
      refine lk_iconst (v := 1) d_Mo_read_47 rfl ?_
      refine lk_iadd d_Mo_read_48 ?_
      replace h := x_nm h
      refine lk_putI (k := 14) d_Mo_read_49 ha7 (by decide) rfl (by decide) lf_Mo_112 rfl rfl ?_
      refine lk_aload_n d_Mo_read_52 rfl ?_
      refine lk_getI (k := 10) d_Mo_read_53 ha7 (by decide) rfl (by decide) lf_Mo_115 rfl ?_
      replace h := x_nm h
      refine lk_istore d_Mo_read_56 (by decide) rfl ?_
      refine lk_iload_n d_Mo_read_58 rfl ?_
      refine lk_bipush (v := 124) d_Mo_read_59 rfl ?_
      refine lk_icmp_ne (tgt := 111) d_Mo_read_61 (by decide) (fun hc => ?_) (fun hc => ?_)
      · replace h := x_ifn hc h
        refine lk_iload_n d_Mo_read_111 rfl ?_
        refine lk_bipush (v := 40) d_Mo_read_112 rfl ?_
        refine lk_icmp_ne (tgt := 165) d_Mo_read_114 (by decide) (fun hc => ?_) (fun hc => ?_)
        · replace h := x_ifn hc h
          refine lk_iload_n d_Mo_read_165 rfl ?_
          refine lk_bipush (v := 41) d_Mo_read_166 rfl ?_
          refine lk_icmp_ne (tgt := 216) d_Mo_read_168 (by decide) (fun hc => ?_) (fun hc => ?_)
          · replace h := x_ifn hc h
            refine lk_iload_n d_Mo_read_216 rfl ?_
            obtain ⟨p13, hp13, h⟩ := x_b h
            refine lk_callS0 d_Mo_read_217 (c_Mo_isLetter hp13) (Nat.le_of_ble_eq_true rfl) rfl M_Mo_isLetter lm_Mo_136 st_Mo_isLetter (Nat.le_of_ble_eq_true rfl) ?_
            refine lk_if_ne (tgt := 241) d_Mo_read_220 (by decide) (fun hc => ?_) (fun hc => ?_)
            · replace h := x_ifn hc h
              refine lk_aload_n d_Mo_read_241 rfl ?_
              refine lk_iload_n d_Mo_read_242 rfl ?_
              obtain ⟨p14, hp14, h⟩ := x_b h
              refine lk_callS0 d_Mo_read_243 (c_Mo_isLetter hp14) (Nat.le_of_ble_eq_true rfl) rfl M_Mo_isLetter lm_Mo_136 st_Mo_isLetter (Nat.le_of_ble_eq_true rfl) ?_
              obtain ⟨t15, hj, h⟩ := x_b h
              refine Lk.joinA 275 [0, 1, 2, 3, 4] [] rfl 1 [vI t15] ?_ ?_
              · replace h := hj
                refine lk_if_eq (tgt := 253) d_Mo_read_246 (by decide) (fun hc => ?_) (fun hc => ?_)
                · replace h := x_ifp hc h
                  refine lk_iload_n d_Mo_read_253 rfl ?_
                  refine lk_bipush (v := 46) d_Mo_read_254 rfl ?_
                  refine lk_icmp_ne (tgt := 263) d_Mo_read_256 (by decide) (fun hc => ?_) (fun hc => ?_)
                  · replace h := x_ifn hc h
                    refine lk_iload_n d_Mo_read_263 rfl ?_
                    refine lk_bipush (v := 94) d_Mo_read_264 rfl ?_
                    refine lk_icmp_ne (tgt := 273) d_Mo_read_266 (by decide) (fun hc => ?_) (fun hc => ?_)
                    · replace h := x_ifn hc h
                      refine lk_bipush (v := 6) d_Mo_read_273 rfl ?_
                      cases h
                      refine Lk.sel [0, 1, 2, 3, 4] rfl ?_
                      exact Lk.stop ⟨rfl, rfl, rfl, rfl, rfl, rfl⟩
                    · replace h := x_ifp hc h
                      refine lk_iconst (v := 5) d_Mo_read_269 rfl ?_
                      refine lk_goto (tgt := 275) d_Mo_read_270 (by decide) ?_
                      cases h
                      refine Lk.sel [0, 1, 2, 3, 4] rfl ?_
                      exact Lk.stop ⟨rfl, rfl, rfl, rfl, rfl, rfl⟩
                  · replace h := x_ifp hc h
                    refine lk_iconst (v := 1) d_Mo_read_259 rfl ?_
                    refine lk_goto (tgt := 275) d_Mo_read_260 (by decide) ?_
                    cases h
                    refine Lk.sel [0, 1, 2, 3, 4] rfl ?_
                    exact Lk.stop ⟨rfl, rfl, rfl, rfl, rfl, rfl⟩
                · replace h := x_ifn hc h
                  refine lk_iconst (v := 0) d_Mo_read_249 rfl ?_
                  refine lk_goto (tgt := 275) d_Mo_read_250 (by decide) ?_
                  cases h
                  refine Lk.sel [0, 1, 2, 3, 4] rfl ?_
                  exact Lk.stop ⟨rfl, rfl, rfl, rfl, rfl, rfl⟩
              · clear hj
                refine lk_iload_n d_Mo_read_275 rfl ?_
                obtain ⟨p16, hp16, h⟩ := x_b h
                refine lk_callS0 d_Mo_read_276 (c_Mo_isLetter hp16) (Nat.le_of_ble_eq_true rfl) rfl M_Mo_isLetter lm_Mo_136 st_Mo_isLetter (Nat.le_of_ble_eq_true rfl) ?_
                obtain ⟨t17, hj, h⟩ := x_b h
                refine Lk.joinA 290 [0, 1, 2, 4] [] rfl 1 [vI t17] ?_ ?_
                · replace h := hj
                  refine lk_if_eq (tgt := 289) d_Mo_read_279 (by decide) (fun hc => ?_) (fun hc => ?_)
                  · replace h := x_ifp hc h
                    refine lk_iconst (v := 0) d_Mo_read_289 rfl ?_
                    cases h
                    refine Lk.sel [0, 1, 2, 4] rfl ?_
                    exact Lk.stop ⟨rfl, rfl, rfl, rfl, rfl, rfl⟩
                  · replace h := x_ifn hc h
                    refine lk_iload_n d_Mo_read_282 rfl ?_
                    refine lk_bipush (v := 97) d_Mo_read_283 rfl ?_
                    refine lk_isub d_Mo_read_285 ?_
                    refine lk_goto (tgt := 290) d_Mo_read_286 (by decide) ?_
                    cases h
                    refine Lk.sel [0, 1, 2, 4] rfl ?_
                    exact Lk.stop ⟨rfl, rfl, rfl, rfl, rfl, rfl⟩
                · clear hj
                  refine lk_iconst (v := 0) d_Mo_read_290 rfl ?_
                  obtain ⟨a18, ha18, h⟩ := x_b h
                  obtain ⟨p19, hp19, h⟩ := x_b h
                  refine lk_callV0 d_Mo_read_291 (x_obm ha18 rfl) (c_Mo_emit hp19) (Nat.le_of_ble_eq_true rfl) rfl M_Mo_emit lm_Mo_122 in_Mo_emit se_Mo_emit (by decide) rfl (Nat.le_of_ble_eq_true rfl) ?_
                  refine lk_aload_n d_Mo_read_294 rfl ?_
                  refine lk_iload d_Mo_read_295 rfl ?_
                  obtain ⟨a20, ha20, h⟩ := x_b h
                  obtain ⟨p21, hp21, h⟩ := x_b h
                  refine lk_callV0 d_Mo_read_297 (x_obm ha20 rfl) (c_Mo_sign hp21) (Nat.le_of_ble_eq_true rfl) rfl M_Mo_sign lm_Mo_133 in_Mo_sign se_Mo_sign (by decide) rfl (Nat.le_of_ble_eq_true rfl) ?_
                  refine lk_goto (tgt := 305) d_Mo_read_300 (by decide) ?_
                  refine lk_goto (tgt := 21) d_Mo_read_305 (by decide) ?_
                  refine Lk.sel [0, 1, 2] rfl ?_
                  exact ih _ _ _ _ _ h
            · replace h := x_ifp hc h
              refine lk_iload_n d_Mo_read_223 rfl ?_
              refine lk_bipush (v := 46) d_Mo_read_224 rfl ?_
              refine lk_icmp_eq (tgt := 241) d_Mo_read_226 (by decide) (fun hc => ?_) (fun hc => ?_)
              · replace h := x_ifp hc h
                refine lk_aload_n d_Mo_read_241 rfl ?_
                refine lk_iload_n d_Mo_read_242 rfl ?_
                obtain ⟨p22, hp22, h⟩ := x_b h
                refine lk_callS0 d_Mo_read_243 (c_Mo_isLetter hp22) (Nat.le_of_ble_eq_true rfl) rfl M_Mo_isLetter lm_Mo_136 st_Mo_isLetter (Nat.le_of_ble_eq_true rfl) ?_
                obtain ⟨t23, hj, h⟩ := x_b h
                refine Lk.joinA 275 [0, 1, 2, 3, 4] [] rfl 1 [vI t23] ?_ ?_
                · replace h := hj
                  refine lk_if_eq (tgt := 253) d_Mo_read_246 (by decide) (fun hc => ?_) (fun hc => ?_)
                  · replace h := x_ifp hc h
                    refine lk_iload_n d_Mo_read_253 rfl ?_
                    refine lk_bipush (v := 46) d_Mo_read_254 rfl ?_
                    refine lk_icmp_ne (tgt := 263) d_Mo_read_256 (by decide) (fun hc => ?_) (fun hc => ?_)
                    · replace h := x_ifn hc h
                      refine lk_iload_n d_Mo_read_263 rfl ?_
                      refine lk_bipush (v := 94) d_Mo_read_264 rfl ?_
                      refine lk_icmp_ne (tgt := 273) d_Mo_read_266 (by decide) (fun hc => ?_) (fun hc => ?_)
                      · replace h := x_ifn hc h
                        refine lk_bipush (v := 6) d_Mo_read_273 rfl ?_
                        cases h
                        refine Lk.sel [0, 1, 2, 3, 4] rfl ?_
                        exact Lk.stop ⟨rfl, rfl, rfl, rfl, rfl, rfl⟩
                      · replace h := x_ifp hc h
                        refine lk_iconst (v := 5) d_Mo_read_269 rfl ?_
                        refine lk_goto (tgt := 275) d_Mo_read_270 (by decide) ?_
                        cases h
                        refine Lk.sel [0, 1, 2, 3, 4] rfl ?_
                        exact Lk.stop ⟨rfl, rfl, rfl, rfl, rfl, rfl⟩
                    · replace h := x_ifp hc h
                      refine lk_iconst (v := 1) d_Mo_read_259 rfl ?_
                      refine lk_goto (tgt := 275) d_Mo_read_260 (by decide) ?_
                      cases h
                      refine Lk.sel [0, 1, 2, 3, 4] rfl ?_
                      exact Lk.stop ⟨rfl, rfl, rfl, rfl, rfl, rfl⟩
                  · replace h := x_ifn hc h
                    refine lk_iconst (v := 0) d_Mo_read_249 rfl ?_
                    refine lk_goto (tgt := 275) d_Mo_read_250 (by decide) ?_
                    cases h
                    refine Lk.sel [0, 1, 2, 3, 4] rfl ?_
                    exact Lk.stop ⟨rfl, rfl, rfl, rfl, rfl, rfl⟩
                · clear hj
                  refine lk_iload_n d_Mo_read_275 rfl ?_
                  obtain ⟨p24, hp24, h⟩ := x_b h
                  refine lk_callS0 d_Mo_read_276 (c_Mo_isLetter hp24) (Nat.le_of_ble_eq_true rfl) rfl M_Mo_isLetter lm_Mo_136 st_Mo_isLetter (Nat.le_of_ble_eq_true rfl) ?_
                  obtain ⟨t25, hj, h⟩ := x_b h
                  refine Lk.joinA 290 [0, 1, 2, 4] [] rfl 1 [vI t25] ?_ ?_
                  · replace h := hj
                    refine lk_if_eq (tgt := 289) d_Mo_read_279 (by decide) (fun hc => ?_) (fun hc => ?_)
                    · replace h := x_ifp hc h
                      refine lk_iconst (v := 0) d_Mo_read_289 rfl ?_
                      cases h
                      refine Lk.sel [0, 1, 2, 4] rfl ?_
                      exact Lk.stop ⟨rfl, rfl, rfl, rfl, rfl, rfl⟩
                    · replace h := x_ifn hc h
                      refine lk_iload_n d_Mo_read_282 rfl ?_
                      refine lk_bipush (v := 97) d_Mo_read_283 rfl ?_
                      refine lk_isub d_Mo_read_285 ?_
                      refine lk_goto (tgt := 290) d_Mo_read_286 (by decide) ?_
                      cases h
                      refine Lk.sel [0, 1, 2, 4] rfl ?_
                      exact Lk.stop ⟨rfl, rfl, rfl, rfl, rfl, rfl⟩
                  · clear hj
                    refine lk_iconst (v := 0) d_Mo_read_290 rfl ?_
                    obtain ⟨a26, ha26, h⟩ := x_b h
                    obtain ⟨p27, hp27, h⟩ := x_b h
                    refine lk_callV0 d_Mo_read_291 (x_obm ha26 rfl) (c_Mo_emit hp27) (Nat.le_of_ble_eq_true rfl) rfl M_Mo_emit lm_Mo_122 in_Mo_emit se_Mo_emit (by decide) rfl (Nat.le_of_ble_eq_true rfl) ?_
                    refine lk_aload_n d_Mo_read_294 rfl ?_
                    refine lk_iload d_Mo_read_295 rfl ?_
                    obtain ⟨a28, ha28, h⟩ := x_b h
                    obtain ⟨p29, hp29, h⟩ := x_b h
                    refine lk_callV0 d_Mo_read_297 (x_obm ha28 rfl) (c_Mo_sign hp29) (Nat.le_of_ble_eq_true rfl) rfl M_Mo_sign lm_Mo_133 in_Mo_sign se_Mo_sign (by decide) rfl (Nat.le_of_ble_eq_true rfl) ?_
                    refine lk_goto (tgt := 305) d_Mo_read_300 (by decide) ?_
                    refine lk_goto (tgt := 21) d_Mo_read_305 (by decide) ?_
                    refine Lk.sel [0, 1, 2] rfl ?_
                    exact ih _ _ _ _ _ h
              · replace h := x_ifn hc h
                refine lk_iload_n d_Mo_read_229 rfl ?_
                refine lk_bipush (v := 94) d_Mo_read_230 rfl ?_
                refine lk_icmp_eq (tgt := 241) d_Mo_read_232 (by decide) (fun hc => ?_) (fun hc => ?_)
                · replace h := x_ifp hc h
                  refine lk_aload_n d_Mo_read_241 rfl ?_
                  refine lk_iload_n d_Mo_read_242 rfl ?_
                  obtain ⟨p30, hp30, h⟩ := x_b h
                  refine lk_callS0 d_Mo_read_243 (c_Mo_isLetter hp30) (Nat.le_of_ble_eq_true rfl) rfl M_Mo_isLetter lm_Mo_136 st_Mo_isLetter (Nat.le_of_ble_eq_true rfl) ?_
                  obtain ⟨t31, hj, h⟩ := x_b h
                  refine Lk.joinA 275 [0, 1, 2, 3, 4] [] rfl 1 [vI t31] ?_ ?_
                  · replace h := hj
                    refine lk_if_eq (tgt := 253) d_Mo_read_246 (by decide) (fun hc => ?_) (fun hc => ?_)
                    · replace h := x_ifp hc h
                      refine lk_iload_n d_Mo_read_253 rfl ?_
                      refine lk_bipush (v := 46) d_Mo_read_254 rfl ?_
                      refine lk_icmp_ne (tgt := 263) d_Mo_read_256 (by decide) (fun hc => ?_) (fun hc => ?_)
                      · replace h := x_ifn hc h
                        refine lk_iload_n d_Mo_read_263 rfl ?_
                        refine lk_bipush (v := 94) d_Mo_read_264 rfl ?_
                        refine lk_icmp_ne (tgt := 273) d_Mo_read_266 (by decide) (fun hc => ?_) (fun hc => ?_)
                        · replace h := x_ifn hc h
                          refine lk_bipush (v := 6) d_Mo_read_273 rfl ?_
                          cases h
                          refine Lk.sel [0, 1, 2, 3, 4] rfl ?_
                          exact Lk.stop ⟨rfl, rfl, rfl, rfl, rfl, rfl⟩
                        · replace h := x_ifp hc h
                          refine lk_iconst (v := 5) d_Mo_read_269 rfl ?_
                          refine lk_goto (tgt := 275) d_Mo_read_270 (by decide) ?_
                          cases h
                          refine Lk.sel [0, 1, 2, 3, 4] rfl ?_
                          exact Lk.stop ⟨rfl, rfl, rfl, rfl, rfl, rfl⟩
                      · replace h := x_ifp hc h
                        refine lk_iconst (v := 1) d_Mo_read_259 rfl ?_
                        refine lk_goto (tgt := 275) d_Mo_read_260 (by decide) ?_
                        cases h
                        refine Lk.sel [0, 1, 2, 3, 4] rfl ?_
                        exact Lk.stop ⟨rfl, rfl, rfl, rfl, rfl, rfl⟩
                    · replace h := x_ifn hc h
                      refine lk_iconst (v := 0) d_Mo_read_249 rfl ?_
                      refine lk_goto (tgt := 275) d_Mo_read_250 (by decide) ?_
                      cases h
                      refine Lk.sel [0, 1, 2, 3, 4] rfl ?_
                      exact Lk.stop ⟨rfl, rfl, rfl, rfl, rfl, rfl⟩
                  · clear hj
                    refine lk_iload_n d_Mo_read_275 rfl ?_
                    obtain ⟨p32, hp32, h⟩ := x_b h
                    refine lk_callS0 d_Mo_read_276 (c_Mo_isLetter hp32) (Nat.le_of_ble_eq_true rfl) rfl M_Mo_isLetter lm_Mo_136 st_Mo_isLetter (Nat.le_of_ble_eq_true rfl) ?_
                    obtain ⟨t33, hj, h⟩ := x_b h
                    refine Lk.joinA 290 [0, 1, 2, 4] [] rfl 1 [vI t33] ?_ ?_
                    · replace h := hj
                      refine lk_if_eq (tgt := 289) d_Mo_read_279 (by decide) (fun hc => ?_) (fun hc => ?_)
                      · replace h := x_ifp hc h
                        refine lk_iconst (v := 0) d_Mo_read_289 rfl ?_
                        cases h
                        refine Lk.sel [0, 1, 2, 4] rfl ?_
                        exact Lk.stop ⟨rfl, rfl, rfl, rfl, rfl, rfl⟩
                      · replace h := x_ifn hc h
                        refine lk_iload_n d_Mo_read_282 rfl ?_
                        refine lk_bipush (v := 97) d_Mo_read_283 rfl ?_
                        refine lk_isub d_Mo_read_285 ?_
                        refine lk_goto (tgt := 290) d_Mo_read_286 (by decide) ?_
                        cases h
                        refine Lk.sel [0, 1, 2, 4] rfl ?_
                        exact Lk.stop ⟨rfl, rfl, rfl, rfl, rfl, rfl⟩
                    · clear hj
                      refine lk_iconst (v := 0) d_Mo_read_290 rfl ?_
                      obtain ⟨a34, ha34, h⟩ := x_b h
                      obtain ⟨p35, hp35, h⟩ := x_b h
                      refine lk_callV0 d_Mo_read_291 (x_obm ha34 rfl) (c_Mo_emit hp35) (Nat.le_of_ble_eq_true rfl) rfl M_Mo_emit lm_Mo_122 in_Mo_emit se_Mo_emit (by decide) rfl (Nat.le_of_ble_eq_true rfl) ?_
                      refine lk_aload_n d_Mo_read_294 rfl ?_
                      refine lk_iload d_Mo_read_295 rfl ?_
                      obtain ⟨a36, ha36, h⟩ := x_b h
                      obtain ⟨p37, hp37, h⟩ := x_b h
                      refine lk_callV0 d_Mo_read_297 (x_obm ha36 rfl) (c_Mo_sign hp37) (Nat.le_of_ble_eq_true rfl) rfl M_Mo_sign lm_Mo_133 in_Mo_sign se_Mo_sign (by decide) rfl (Nat.le_of_ble_eq_true rfl) ?_
                      refine lk_goto (tgt := 305) d_Mo_read_300 (by decide) ?_
                      refine lk_goto (tgt := 21) d_Mo_read_305 (by decide) ?_
                      refine Lk.sel [0, 1, 2] rfl ?_
                      exact ih _ _ _ _ _ h
                · replace h := x_ifn hc h
                  refine lk_iload_n d_Mo_read_235 rfl ?_
                  refine lk_bipush (v := 36) d_Mo_read_236 rfl ?_
                  refine lk_icmp_ne (tgt := 303) d_Mo_read_238 (by decide) (fun hc => ?_) (fun hc => ?_)
                  · replace h := x_ifn hc h
                    refine lk_iconst (v := 0) d_Mo_read_303 rfl ?_
                    cases h
                    exact Lk.stop ⟨rfl, Or.inr (Or.inl ⟨_, _, d_Mo_read_304, rfl, rfl, rfl, rfl⟩)⟩
                  · replace h := x_ifp hc h
                    refine lk_aload_n d_Mo_read_241 rfl ?_
                    refine lk_iload_n d_Mo_read_242 rfl ?_
                    obtain ⟨p38, hp38, h⟩ := x_b h
                    refine lk_callS0 d_Mo_read_243 (c_Mo_isLetter hp38) (Nat.le_of_ble_eq_true rfl) rfl M_Mo_isLetter lm_Mo_136 st_Mo_isLetter (Nat.le_of_ble_eq_true rfl) ?_
                    obtain ⟨t39, hj, h⟩ := x_b h
                    refine Lk.joinA 275 [0, 1, 2, 3, 4] [] rfl 1 [vI t39] ?_ ?_
                    · replace h := hj
                      refine lk_if_eq (tgt := 253) d_Mo_read_246 (by decide) (fun hc => ?_) (fun hc => ?_)
                      · replace h := x_ifp hc h
                        refine lk_iload_n d_Mo_read_253 rfl ?_
                        refine lk_bipush (v := 46) d_Mo_read_254 rfl ?_
                        refine lk_icmp_ne (tgt := 263) d_Mo_read_256 (by decide) (fun hc => ?_) (fun hc => ?_)
                        · replace h := x_ifn hc h
                          refine lk_iload_n d_Mo_read_263 rfl ?_
                          refine lk_bipush (v := 94) d_Mo_read_264 rfl ?_
                          refine lk_icmp_ne (tgt := 273) d_Mo_read_266 (by decide) (fun hc => ?_) (fun hc => ?_)
                          · replace h := x_ifn hc h
                            refine lk_bipush (v := 6) d_Mo_read_273 rfl ?_
                            cases h
                            refine Lk.sel [0, 1, 2, 3, 4] rfl ?_
                            exact Lk.stop ⟨rfl, rfl, rfl, rfl, rfl, rfl⟩
                          · replace h := x_ifp hc h
                            refine lk_iconst (v := 5) d_Mo_read_269 rfl ?_
                            refine lk_goto (tgt := 275) d_Mo_read_270 (by decide) ?_
                            cases h
                            refine Lk.sel [0, 1, 2, 3, 4] rfl ?_
                            exact Lk.stop ⟨rfl, rfl, rfl, rfl, rfl, rfl⟩
                        · replace h := x_ifp hc h
                          refine lk_iconst (v := 1) d_Mo_read_259 rfl ?_
                          refine lk_goto (tgt := 275) d_Mo_read_260 (by decide) ?_
                          cases h
                          refine Lk.sel [0, 1, 2, 3, 4] rfl ?_
                          exact Lk.stop ⟨rfl, rfl, rfl, rfl, rfl, rfl⟩
                      · replace h := x_ifn hc h
                        refine lk_iconst (v := 0) d_Mo_read_249 rfl ?_
                        refine lk_goto (tgt := 275) d_Mo_read_250 (by decide) ?_
                        cases h
                        refine Lk.sel [0, 1, 2, 3, 4] rfl ?_
                        exact Lk.stop ⟨rfl, rfl, rfl, rfl, rfl, rfl⟩
                    · clear hj
                      refine lk_iload_n d_Mo_read_275 rfl ?_
                      obtain ⟨p40, hp40, h⟩ := x_b h
                      refine lk_callS0 d_Mo_read_276 (c_Mo_isLetter hp40) (Nat.le_of_ble_eq_true rfl) rfl M_Mo_isLetter lm_Mo_136 st_Mo_isLetter (Nat.le_of_ble_eq_true rfl) ?_
                      obtain ⟨t41, hj, h⟩ := x_b h
                      refine Lk.joinA 290 [0, 1, 2, 4] [] rfl 1 [vI t41] ?_ ?_
                      · replace h := hj
                        refine lk_if_eq (tgt := 289) d_Mo_read_279 (by decide) (fun hc => ?_) (fun hc => ?_)
                        · replace h := x_ifp hc h
                          refine lk_iconst (v := 0) d_Mo_read_289 rfl ?_
                          cases h
                          refine Lk.sel [0, 1, 2, 4] rfl ?_
                          exact Lk.stop ⟨rfl, rfl, rfl, rfl, rfl, rfl⟩
                        · replace h := x_ifn hc h
                          refine lk_iload_n d_Mo_read_282 rfl ?_
                          refine lk_bipush (v := 97) d_Mo_read_283 rfl ?_
                          refine lk_isub d_Mo_read_285 ?_
                          refine lk_goto (tgt := 290) d_Mo_read_286 (by decide) ?_
                          cases h
                          refine Lk.sel [0, 1, 2, 4] rfl ?_
                          exact Lk.stop ⟨rfl, rfl, rfl, rfl, rfl, rfl⟩
                      · clear hj
                        refine lk_iconst (v := 0) d_Mo_read_290 rfl ?_
                        obtain ⟨a42, ha42, h⟩ := x_b h
                        obtain ⟨p43, hp43, h⟩ := x_b h
                        refine lk_callV0 d_Mo_read_291 (x_obm ha42 rfl) (c_Mo_emit hp43) (Nat.le_of_ble_eq_true rfl) rfl M_Mo_emit lm_Mo_122 in_Mo_emit se_Mo_emit (by decide) rfl (Nat.le_of_ble_eq_true rfl) ?_
                        refine lk_aload_n d_Mo_read_294 rfl ?_
                        refine lk_iload d_Mo_read_295 rfl ?_
                        obtain ⟨a44, ha44, h⟩ := x_b h
                        obtain ⟨p45, hp45, h⟩ := x_b h
                        refine lk_callV0 d_Mo_read_297 (x_obm ha44 rfl) (c_Mo_sign hp45) (Nat.le_of_ble_eq_true rfl) rfl M_Mo_sign lm_Mo_133 in_Mo_sign se_Mo_sign (by decide) rfl (Nat.le_of_ble_eq_true rfl) ?_
                        refine lk_goto (tgt := 305) d_Mo_read_300 (by decide) ?_
                        refine lk_goto (tgt := 21) d_Mo_read_305 (by decide) ?_
                        refine Lk.sel [0, 1, 2] rfl ?_
                        exact ih _ _ _ _ _ h
          · replace h := x_ifp hc h
            refine lk_iload_n d_Mo_read_171 rfl ?_
            refine lk_if_le (tgt := 216) d_Mo_read_172 (by decide) (fun hc => ?_) (fun hc => ?_)
            · replace h := x_ifp hc h
              refine lk_iload_n d_Mo_read_216 rfl ?_
              obtain ⟨p46, hp46, h⟩ := x_b h
              refine lk_callS0 d_Mo_read_217 (c_Mo_isLetter hp46) (Nat.le_of_ble_eq_true rfl) rfl M_Mo_isLetter lm_Mo_136 st_Mo_isLetter (Nat.le_of_ble_eq_true rfl) ?_
              refine lk_if_ne (tgt := 241) d_Mo_read_220 (by decide) (fun hc => ?_) (fun hc => ?_)
              · replace h := x_ifn hc h
                refine lk_aload_n d_Mo_read_241 rfl ?_
                refine lk_iload_n d_Mo_read_242 rfl ?_
                obtain ⟨p47, hp47, h⟩ := x_b h
                refine lk_callS0 d_Mo_read_243 (c_Mo_isLetter hp47) (Nat.le_of_ble_eq_true rfl) rfl M_Mo_isLetter lm_Mo_136 st_Mo_isLetter (Nat.le_of_ble_eq_true rfl) ?_
                obtain ⟨t48, hj, h⟩ := x_b h
                refine Lk.joinA 275 [0, 1, 2, 3, 4] [] rfl 1 [vI t48] ?_ ?_
                · replace h := hj
                  refine lk_if_eq (tgt := 253) d_Mo_read_246 (by decide) (fun hc => ?_) (fun hc => ?_)
                  · replace h := x_ifp hc h
                    refine lk_iload_n d_Mo_read_253 rfl ?_
                    refine lk_bipush (v := 46) d_Mo_read_254 rfl ?_
                    refine lk_icmp_ne (tgt := 263) d_Mo_read_256 (by decide) (fun hc => ?_) (fun hc => ?_)
                    · replace h := x_ifn hc h
                      refine lk_iload_n d_Mo_read_263 rfl ?_
                      refine lk_bipush (v := 94) d_Mo_read_264 rfl ?_
                      refine lk_icmp_ne (tgt := 273) d_Mo_read_266 (by decide) (fun hc => ?_) (fun hc => ?_)
                      · replace h := x_ifn hc h
                        refine lk_bipush (v := 6) d_Mo_read_273 rfl ?_
                        cases h
                        refine Lk.sel [0, 1, 2, 3, 4] rfl ?_
                        exact Lk.stop ⟨rfl, rfl, rfl, rfl, rfl, rfl⟩
                      · replace h := x_ifp hc h
                        refine lk_iconst (v := 5) d_Mo_read_269 rfl ?_
                        refine lk_goto (tgt := 275) d_Mo_read_270 (by decide) ?_
                        cases h
                        refine Lk.sel [0, 1, 2, 3, 4] rfl ?_
                        exact Lk.stop ⟨rfl, rfl, rfl, rfl, rfl, rfl⟩
                    · replace h := x_ifp hc h
                      refine lk_iconst (v := 1) d_Mo_read_259 rfl ?_
                      refine lk_goto (tgt := 275) d_Mo_read_260 (by decide) ?_
                      cases h
                      refine Lk.sel [0, 1, 2, 3, 4] rfl ?_
                      exact Lk.stop ⟨rfl, rfl, rfl, rfl, rfl, rfl⟩
                  · replace h := x_ifn hc h
                    refine lk_iconst (v := 0) d_Mo_read_249 rfl ?_
                    refine lk_goto (tgt := 275) d_Mo_read_250 (by decide) ?_
                    cases h
                    refine Lk.sel [0, 1, 2, 3, 4] rfl ?_
                    exact Lk.stop ⟨rfl, rfl, rfl, rfl, rfl, rfl⟩
                · clear hj
                  refine lk_iload_n d_Mo_read_275 rfl ?_
                  obtain ⟨p49, hp49, h⟩ := x_b h
                  refine lk_callS0 d_Mo_read_276 (c_Mo_isLetter hp49) (Nat.le_of_ble_eq_true rfl) rfl M_Mo_isLetter lm_Mo_136 st_Mo_isLetter (Nat.le_of_ble_eq_true rfl) ?_
                  obtain ⟨t50, hj, h⟩ := x_b h
                  refine Lk.joinA 290 [0, 1, 2, 4] [] rfl 1 [vI t50] ?_ ?_
                  · replace h := hj
                    refine lk_if_eq (tgt := 289) d_Mo_read_279 (by decide) (fun hc => ?_) (fun hc => ?_)
                    · replace h := x_ifp hc h
                      refine lk_iconst (v := 0) d_Mo_read_289 rfl ?_
                      cases h
                      refine Lk.sel [0, 1, 2, 4] rfl ?_
                      exact Lk.stop ⟨rfl, rfl, rfl, rfl, rfl, rfl⟩
                    · replace h := x_ifn hc h
                      refine lk_iload_n d_Mo_read_282 rfl ?_
                      refine lk_bipush (v := 97) d_Mo_read_283 rfl ?_
                      refine lk_isub d_Mo_read_285 ?_
                      refine lk_goto (tgt := 290) d_Mo_read_286 (by decide) ?_
                      cases h
                      refine Lk.sel [0, 1, 2, 4] rfl ?_
                      exact Lk.stop ⟨rfl, rfl, rfl, rfl, rfl, rfl⟩
                  · clear hj
                    refine lk_iconst (v := 0) d_Mo_read_290 rfl ?_
                    obtain ⟨a51, ha51, h⟩ := x_b h
                    obtain ⟨p52, hp52, h⟩ := x_b h
                    refine lk_callV0 d_Mo_read_291 (x_obm ha51 rfl) (c_Mo_emit hp52) (Nat.le_of_ble_eq_true rfl) rfl M_Mo_emit lm_Mo_122 in_Mo_emit se_Mo_emit (by decide) rfl (Nat.le_of_ble_eq_true rfl) ?_
                    refine lk_aload_n d_Mo_read_294 rfl ?_
                    refine lk_iload d_Mo_read_295 rfl ?_
                    obtain ⟨a53, ha53, h⟩ := x_b h
                    obtain ⟨p54, hp54, h⟩ := x_b h
                    refine lk_callV0 d_Mo_read_297 (x_obm ha53 rfl) (c_Mo_sign hp54) (Nat.le_of_ble_eq_true rfl) rfl M_Mo_sign lm_Mo_133 in_Mo_sign se_Mo_sign (by decide) rfl (Nat.le_of_ble_eq_true rfl) ?_
                    refine lk_goto (tgt := 305) d_Mo_read_300 (by decide) ?_
                    refine lk_goto (tgt := 21) d_Mo_read_305 (by decide) ?_
                    refine Lk.sel [0, 1, 2] rfl ?_
                    exact ih _ _ _ _ _ h
              · replace h := x_ifp hc h
                refine lk_iload_n d_Mo_read_223 rfl ?_
                refine lk_bipush (v := 46) d_Mo_read_224 rfl ?_
                refine lk_icmp_eq (tgt := 241) d_Mo_read_226 (by decide) (fun hc => ?_) (fun hc => ?_)
                · replace h := x_ifp hc h
                  refine lk_aload_n d_Mo_read_241 rfl ?_
                  refine lk_iload_n d_Mo_read_242 rfl ?_
                  obtain ⟨p55, hp55, h⟩ := x_b h
                  refine lk_callS0 d_Mo_read_243 (c_Mo_isLetter hp55) (Nat.le_of_ble_eq_true rfl) rfl M_Mo_isLetter lm_Mo_136 st_Mo_isLetter (Nat.le_of_ble_eq_true rfl) ?_
                  obtain ⟨t56, hj, h⟩ := x_b h
                  refine Lk.joinA 275 [0, 1, 2, 3, 4] [] rfl 1 [vI t56] ?_ ?_
                  · replace h := hj
                    refine lk_if_eq (tgt := 253) d_Mo_read_246 (by decide) (fun hc => ?_) (fun hc => ?_)
                    · replace h := x_ifp hc h
                      refine lk_iload_n d_Mo_read_253 rfl ?_
                      refine lk_bipush (v := 46) d_Mo_read_254 rfl ?_
                      refine lk_icmp_ne (tgt := 263) d_Mo_read_256 (by decide) (fun hc => ?_) (fun hc => ?_)
                      · replace h := x_ifn hc h
                        refine lk_iload_n d_Mo_read_263 rfl ?_
                        refine lk_bipush (v := 94) d_Mo_read_264 rfl ?_
                        refine lk_icmp_ne (tgt := 273) d_Mo_read_266 (by decide) (fun hc => ?_) (fun hc => ?_)
                        · replace h := x_ifn hc h
                          refine lk_bipush (v := 6) d_Mo_read_273 rfl ?_
                          cases h
                          refine Lk.sel [0, 1, 2, 3, 4] rfl ?_
                          exact Lk.stop ⟨rfl, rfl, rfl, rfl, rfl, rfl⟩
                        · replace h := x_ifp hc h
                          refine lk_iconst (v := 5) d_Mo_read_269 rfl ?_
                          refine lk_goto (tgt := 275) d_Mo_read_270 (by decide) ?_
                          cases h
                          refine Lk.sel [0, 1, 2, 3, 4] rfl ?_
                          exact Lk.stop ⟨rfl, rfl, rfl, rfl, rfl, rfl⟩
                      · replace h := x_ifp hc h
                        refine lk_iconst (v := 1) d_Mo_read_259 rfl ?_
                        refine lk_goto (tgt := 275) d_Mo_read_260 (by decide) ?_
                        cases h
                        refine Lk.sel [0, 1, 2, 3, 4] rfl ?_
                        exact Lk.stop ⟨rfl, rfl, rfl, rfl, rfl, rfl⟩
                    · replace h := x_ifn hc h
                      refine lk_iconst (v := 0) d_Mo_read_249 rfl ?_
                      refine lk_goto (tgt := 275) d_Mo_read_250 (by decide) ?_
                      cases h
                      refine Lk.sel [0, 1, 2, 3, 4] rfl ?_
                      exact Lk.stop ⟨rfl, rfl, rfl, rfl, rfl, rfl⟩
                  · clear hj
                    refine lk_iload_n d_Mo_read_275 rfl ?_
                    obtain ⟨p57, hp57, h⟩ := x_b h
                    refine lk_callS0 d_Mo_read_276 (c_Mo_isLetter hp57) (Nat.le_of_ble_eq_true rfl) rfl M_Mo_isLetter lm_Mo_136 st_Mo_isLetter (Nat.le_of_ble_eq_true rfl) ?_
                    obtain ⟨t58, hj, h⟩ := x_b h
                    refine Lk.joinA 290 [0, 1, 2, 4] [] rfl 1 [vI t58] ?_ ?_
                    · replace h := hj
                      refine lk_if_eq (tgt := 289) d_Mo_read_279 (by decide) (fun hc => ?_) (fun hc => ?_)
                      · replace h := x_ifp hc h
                        refine lk_iconst (v := 0) d_Mo_read_289 rfl ?_
                        cases h
                        refine Lk.sel [0, 1, 2, 4] rfl ?_
                        exact Lk.stop ⟨rfl, rfl, rfl, rfl, rfl, rfl⟩
                      · replace h := x_ifn hc h
                        refine lk_iload_n d_Mo_read_282 rfl ?_
                        refine lk_bipush (v := 97) d_Mo_read_283 rfl ?_
                        refine lk_isub d_Mo_read_285 ?_
                        refine lk_goto (tgt := 290) d_Mo_read_286 (by decide) ?_
                        cases h
                        refine Lk.sel [0, 1, 2, 4] rfl ?_
                        exact Lk.stop ⟨rfl, rfl, rfl, rfl, rfl, rfl⟩
                    · clear hj
                      refine lk_iconst (v := 0) d_Mo_read_290 rfl ?_
                      obtain ⟨a59, ha59, h⟩ := x_b h
                      obtain ⟨p60, hp60, h⟩ := x_b h
                      refine lk_callV0 d_Mo_read_291 (x_obm ha59 rfl) (c_Mo_emit hp60) (Nat.le_of_ble_eq_true rfl) rfl M_Mo_emit lm_Mo_122 in_Mo_emit se_Mo_emit (by decide) rfl (Nat.le_of_ble_eq_true rfl) ?_
                      refine lk_aload_n d_Mo_read_294 rfl ?_
                      refine lk_iload d_Mo_read_295 rfl ?_
                      obtain ⟨a61, ha61, h⟩ := x_b h
                      obtain ⟨p62, hp62, h⟩ := x_b h
                      refine lk_callV0 d_Mo_read_297 (x_obm ha61 rfl) (c_Mo_sign hp62) (Nat.le_of_ble_eq_true rfl) rfl M_Mo_sign lm_Mo_133 in_Mo_sign se_Mo_sign (by decide) rfl (Nat.le_of_ble_eq_true rfl) ?_
                      refine lk_goto (tgt := 305) d_Mo_read_300 (by decide) ?_
                      refine lk_goto (tgt := 21) d_Mo_read_305 (by decide) ?_
                      refine Lk.sel [0, 1, 2] rfl ?_
                      exact ih _ _ _ _ _ h
                · replace h := x_ifn hc h
                  refine lk_iload_n d_Mo_read_229 rfl ?_
                  refine lk_bipush (v := 94) d_Mo_read_230 rfl ?_
                  refine lk_icmp_eq (tgt := 241) d_Mo_read_232 (by decide) (fun hc => ?_) (fun hc => ?_)
                  · replace h := x_ifp hc h
                    refine lk_aload_n d_Mo_read_241 rfl ?_
                    refine lk_iload_n d_Mo_read_242 rfl ?_
                    obtain ⟨p63, hp63, h⟩ := x_b h
                    refine lk_callS0 d_Mo_read_243 (c_Mo_isLetter hp63) (Nat.le_of_ble_eq_true rfl) rfl M_Mo_isLetter lm_Mo_136 st_Mo_isLetter (Nat.le_of_ble_eq_true rfl) ?_
                    obtain ⟨t64, hj, h⟩ := x_b h
                    refine Lk.joinA 275 [0, 1, 2, 3, 4] [] rfl 1 [vI t64] ?_ ?_
                    · replace h := hj
                      refine lk_if_eq (tgt := 253) d_Mo_read_246 (by decide) (fun hc => ?_) (fun hc => ?_)
                      · replace h := x_ifp hc h
                        refine lk_iload_n d_Mo_read_253 rfl ?_
                        refine lk_bipush (v := 46) d_Mo_read_254 rfl ?_
                        refine lk_icmp_ne (tgt := 263) d_Mo_read_256 (by decide) (fun hc => ?_) (fun hc => ?_)
                        · replace h := x_ifn hc h
                          refine lk_iload_n d_Mo_read_263 rfl ?_
                          refine lk_bipush (v := 94) d_Mo_read_264 rfl ?_
                          refine lk_icmp_ne (tgt := 273) d_Mo_read_266 (by decide) (fun hc => ?_) (fun hc => ?_)
                          · replace h := x_ifn hc h
                            refine lk_bipush (v := 6) d_Mo_read_273 rfl ?_
                            cases h
                            refine Lk.sel [0, 1, 2, 3, 4] rfl ?_
                            exact Lk.stop ⟨rfl, rfl, rfl, rfl, rfl, rfl⟩
                          · replace h := x_ifp hc h
                            refine lk_iconst (v := 5) d_Mo_read_269 rfl ?_
                            refine lk_goto (tgt := 275) d_Mo_read_270 (by decide) ?_
                            cases h
                            refine Lk.sel [0, 1, 2, 3, 4] rfl ?_
                            exact Lk.stop ⟨rfl, rfl, rfl, rfl, rfl, rfl⟩
                        · replace h := x_ifp hc h
                          refine lk_iconst (v := 1) d_Mo_read_259 rfl ?_
                          refine lk_goto (tgt := 275) d_Mo_read_260 (by decide) ?_
                          cases h
                          refine Lk.sel [0, 1, 2, 3, 4] rfl ?_
                          exact Lk.stop ⟨rfl, rfl, rfl, rfl, rfl, rfl⟩
                      · replace h := x_ifn hc h
                        refine lk_iconst (v := 0) d_Mo_read_249 rfl ?_
                        refine lk_goto (tgt := 275) d_Mo_read_250 (by decide) ?_
                        cases h
                        refine Lk.sel [0, 1, 2, 3, 4] rfl ?_
                        exact Lk.stop ⟨rfl, rfl, rfl, rfl, rfl, rfl⟩
                    · clear hj
                      refine lk_iload_n d_Mo_read_275 rfl ?_
                      obtain ⟨p65, hp65, h⟩ := x_b h
                      refine lk_callS0 d_Mo_read_276 (c_Mo_isLetter hp65) (Nat.le_of_ble_eq_true rfl) rfl M_Mo_isLetter lm_Mo_136 st_Mo_isLetter (Nat.le_of_ble_eq_true rfl) ?_
                      obtain ⟨t66, hj, h⟩ := x_b h
                      refine Lk.joinA 290 [0, 1, 2, 4] [] rfl 1 [vI t66] ?_ ?_
                      · replace h := hj
                        refine lk_if_eq (tgt := 289) d_Mo_read_279 (by decide) (fun hc => ?_) (fun hc => ?_)
                        · replace h := x_ifp hc h
                          refine lk_iconst (v := 0) d_Mo_read_289 rfl ?_
                          cases h
                          refine Lk.sel [0, 1, 2, 4] rfl ?_
                          exact Lk.stop ⟨rfl, rfl, rfl, rfl, rfl, rfl⟩
                        · replace h := x_ifn hc h
                          refine lk_iload_n d_Mo_read_282 rfl ?_
                          refine lk_bipush (v := 97) d_Mo_read_283 rfl ?_
                          refine lk_isub d_Mo_read_285 ?_
                          refine lk_goto (tgt := 290) d_Mo_read_286 (by decide) ?_
                          cases h
                          refine Lk.sel [0, 1, 2, 4] rfl ?_
                          exact Lk.stop ⟨rfl, rfl, rfl, rfl, rfl, rfl⟩
                      · clear hj
                        refine lk_iconst (v := 0) d_Mo_read_290 rfl ?_
                        obtain ⟨a67, ha67, h⟩ := x_b h
                        obtain ⟨p68, hp68, h⟩ := x_b h
                        refine lk_callV0 d_Mo_read_291 (x_obm ha67 rfl) (c_Mo_emit hp68) (Nat.le_of_ble_eq_true rfl) rfl M_Mo_emit lm_Mo_122 in_Mo_emit se_Mo_emit (by decide) rfl (Nat.le_of_ble_eq_true rfl) ?_
                        refine lk_aload_n d_Mo_read_294 rfl ?_
                        refine lk_iload d_Mo_read_295 rfl ?_
                        obtain ⟨a69, ha69, h⟩ := x_b h
                        obtain ⟨p70, hp70, h⟩ := x_b h
                        refine lk_callV0 d_Mo_read_297 (x_obm ha69 rfl) (c_Mo_sign hp70) (Nat.le_of_ble_eq_true rfl) rfl M_Mo_sign lm_Mo_133 in_Mo_sign se_Mo_sign (by decide) rfl (Nat.le_of_ble_eq_true rfl) ?_
                        refine lk_goto (tgt := 305) d_Mo_read_300 (by decide) ?_
                        refine lk_goto (tgt := 21) d_Mo_read_305 (by decide) ?_
                        refine Lk.sel [0, 1, 2] rfl ?_
                        exact ih _ _ _ _ _ h
                  · replace h := x_ifn hc h
                    refine lk_iload_n d_Mo_read_235 rfl ?_
                    refine lk_bipush (v := 36) d_Mo_read_236 rfl ?_
                    refine lk_icmp_ne (tgt := 303) d_Mo_read_238 (by decide) (fun hc => ?_) (fun hc => ?_)
                    · replace h := x_ifn hc h
                      refine lk_iconst (v := 0) d_Mo_read_303 rfl ?_
                      cases h
                      exact Lk.stop ⟨rfl, Or.inr (Or.inl ⟨_, _, d_Mo_read_304, rfl, rfl, rfl, rfl⟩)⟩
                    · replace h := x_ifp hc h
                      refine lk_aload_n d_Mo_read_241 rfl ?_
                      refine lk_iload_n d_Mo_read_242 rfl ?_
                      obtain ⟨p71, hp71, h⟩ := x_b h
                      refine lk_callS0 d_Mo_read_243 (c_Mo_isLetter hp71) (Nat.le_of_ble_eq_true rfl) rfl M_Mo_isLetter lm_Mo_136 st_Mo_isLetter (Nat.le_of_ble_eq_true rfl) ?_
                      obtain ⟨t72, hj, h⟩ := x_b h
                      refine Lk.joinA 275 [0, 1, 2, 3, 4] [] rfl 1 [vI t72] ?_ ?_
                      · replace h := hj
                        refine lk_if_eq (tgt := 253) d_Mo_read_246 (by decide) (fun hc => ?_) (fun hc => ?_)
                        · replace h := x_ifp hc h
                          refine lk_iload_n d_Mo_read_253 rfl ?_
                          refine lk_bipush (v := 46) d_Mo_read_254 rfl ?_
                          refine lk_icmp_ne (tgt := 263) d_Mo_read_256 (by decide) (fun hc => ?_) (fun hc => ?_)
                          · replace h := x_ifn hc h
                            refine lk_iload_n d_Mo_read_263 rfl ?_
                            refine lk_bipush (v := 94) d_Mo_read_264 rfl ?_
                            refine lk_icmp_ne (tgt := 273) d_Mo_read_266 (by decide) (fun hc => ?_) (fun hc => ?_)
                            · replace h := x_ifn hc h
                              refine lk_bipush (v := 6) d_Mo_read_273 rfl ?_
                              cases h
                              refine Lk.sel [0, 1, 2, 3, 4] rfl ?_
                              exact Lk.stop ⟨rfl, rfl, rfl, rfl, rfl, rfl⟩
                            · replace h := x_ifp hc h
                              refine lk_iconst (v := 5) d_Mo_read_269 rfl ?_
                              refine lk_goto (tgt := 275) d_Mo_read_270 (by decide) ?_
                              cases h
                              refine Lk.sel [0, 1, 2, 3, 4] rfl ?_
                              exact Lk.stop ⟨rfl, rfl, rfl, rfl, rfl, rfl⟩
                          · replace h := x_ifp hc h
                            refine lk_iconst (v := 1) d_Mo_read_259 rfl ?_
                            refine lk_goto (tgt := 275) d_Mo_read_260 (by decide) ?_
                            cases h
                            refine Lk.sel [0, 1, 2, 3, 4] rfl ?_
                            exact Lk.stop ⟨rfl, rfl, rfl, rfl, rfl, rfl⟩
                        · replace h := x_ifn hc h
                          refine lk_iconst (v := 0) d_Mo_read_249 rfl ?_
                          refine lk_goto (tgt := 275) d_Mo_read_250 (by decide) ?_
                          cases h
                          refine Lk.sel [0, 1, 2, 3, 4] rfl ?_
                          exact Lk.stop ⟨rfl, rfl, rfl, rfl, rfl, rfl⟩
                      · clear hj
                        refine lk_iload_n d_Mo_read_275 rfl ?_
                        obtain ⟨p73, hp73, h⟩ := x_b h
                        refine lk_callS0 d_Mo_read_276 (c_Mo_isLetter hp73) (Nat.le_of_ble_eq_true rfl) rfl M_Mo_isLetter lm_Mo_136 st_Mo_isLetter (Nat.le_of_ble_eq_true rfl) ?_
                        obtain ⟨t74, hj, h⟩ := x_b h
                        refine Lk.joinA 290 [0, 1, 2, 4] [] rfl 1 [vI t74] ?_ ?_
                        · replace h := hj
                          refine lk_if_eq (tgt := 289) d_Mo_read_279 (by decide) (fun hc => ?_) (fun hc => ?_)
                          · replace h := x_ifp hc h
                            refine lk_iconst (v := 0) d_Mo_read_289 rfl ?_
                            cases h
                            refine Lk.sel [0, 1, 2, 4] rfl ?_
                            exact Lk.stop ⟨rfl, rfl, rfl, rfl, rfl, rfl⟩
                          · replace h := x_ifn hc h
                            refine lk_iload_n d_Mo_read_282 rfl ?_
                            refine lk_bipush (v := 97) d_Mo_read_283 rfl ?_
                            refine lk_isub d_Mo_read_285 ?_
                            refine lk_goto (tgt := 290) d_Mo_read_286 (by decide) ?_
                            cases h
                            refine Lk.sel [0, 1, 2, 4] rfl ?_
                            exact Lk.stop ⟨rfl, rfl, rfl, rfl, rfl, rfl⟩
                        · clear hj
                          refine lk_iconst (v := 0) d_Mo_read_290 rfl ?_
                          obtain ⟨a75, ha75, h⟩ := x_b h
                          obtain ⟨p76, hp76, h⟩ := x_b h
                          refine lk_callV0 d_Mo_read_291 (x_obm ha75 rfl) (c_Mo_emit hp76) (Nat.le_of_ble_eq_true rfl) rfl M_Mo_emit lm_Mo_122 in_Mo_emit se_Mo_emit (by decide) rfl (Nat.le_of_ble_eq_true rfl) ?_
                          refine lk_aload_n d_Mo_read_294 rfl ?_
                          refine lk_iload d_Mo_read_295 rfl ?_
                          obtain ⟨a77, ha77, h⟩ := x_b h
                          obtain ⟨p78, hp78, h⟩ := x_b h
                          refine lk_callV0 d_Mo_read_297 (x_obm ha77 rfl) (c_Mo_sign hp78) (Nat.le_of_ble_eq_true rfl) rfl M_Mo_sign lm_Mo_133 in_Mo_sign se_Mo_sign (by decide) rfl (Nat.le_of_ble_eq_true rfl) ?_
                          refine lk_goto (tgt := 305) d_Mo_read_300 (by decide) ?_
                          refine lk_goto (tgt := 21) d_Mo_read_305 (by decide) ?_
                          refine Lk.sel [0, 1, 2] rfl ?_
                          exact ih _ _ _ _ _ h
            · replace h := x_ifn hc h
              refine lk_aload_n d_Mo_read_175 rfl ?_
              refine lk_iload_n d_Mo_read_176 rfl ?_
              obtain ⟨p79, hp79, h⟩ := x_b h
              refine lk_callV0 d_Mo_read_177 (x_obm ha7 rfl) (c_Mo_land hp79) (Nat.le_of_ble_eq_true rfl) rfl M_Mo_land lm_Mo_130 in_Mo_land se_Mo_land (by decide) rfl (Nat.le_of_ble_eq_true rfl) ?_
              refine lk_aload_n d_Mo_read_180 rfl ?_
              refine lk_iconst (v := 4) d_Mo_read_181 rfl ?_
              refine lk_iconst (v := 2) d_Mo_read_182 rfl ?_
              refine lk_aload_n d_Mo_read_183 rfl ?_
              obtain ⟨a80, ha80, h⟩ := x_b h
              refine lk_getR (k := 43) d_Mo_read_184 ha80 (by decide) rfl (by decide) lf_Mo_93 rfl ?_
              refine lk_iload_n d_Mo_read_187 rfl ?_
              obtain ⟨q81, hq81, h⟩ := x_b h
              obtain ⟨k82, hk82, h⟩ := x_b h
              refine lk_iald d_Mo_read_188 hq81 hk82 ?_
              refine lk_imul d_Mo_read_189 ?_
              refine lk_iconst (v := 1) d_Mo_read_190 rfl ?_
              refine lk_iadd d_Mo_read_191 ?_
              refine lk_iconst (v := 0) d_Mo_read_192 rfl ?_
              obtain ⟨p83, hp83, h⟩ := x_b h
              refine lk_callV0 d_Mo_read_193 (x_obm ha80 rfl) (c_Mo_emit hp83) (Nat.le_of_ble_eq_true rfl) rfl M_Mo_emit lm_Mo_122 in_Mo_emit se_Mo_emit (by decide) rfl (Nat.le_of_ble_eq_true rfl) ?_
              refine lk_aload_n d_Mo_read_196 rfl ?_
              obtain ⟨a84, ha84, h⟩ := x_b h
              refine lk_getR (k := 42) d_Mo_read_197 ha84 (by decide) rfl (by decide) lf_Mo_90 rfl ?_
              refine lk_iload_n d_Mo_read_200 rfl ?_
              obtain ⟨q85, hq85, h⟩ := x_b h
              obtain ⟨k86, hk86, h⟩ := x_b h
              refine lk_iald d_Mo_read_201 hq85 hk86 ?_
              replace h := x_nm h
              refine lk_istore d_Mo_read_202 (by decide) rfl ?_
              refine lk_iinc (v := _ + (-1)) d_Mo_read_204 rfl rfl (by decide) rfl ?_
              refine lk_aload_n d_Mo_read_207 rfl ?_
              refine lk_iload d_Mo_read_208 rfl ?_
              obtain ⟨p88, hp88, h⟩ := x_b h
              refine lk_callV0 d_Mo_read_210 (x_obm ha84 rfl) (c_Mo_sign hp88) (Nat.le_of_ble_eq_true rfl) rfl M_Mo_sign lm_Mo_133 in_Mo_sign se_Mo_sign (by decide) rfl (Nat.le_of_ble_eq_true rfl) ?_
              refine lk_goto (tgt := 305) d_Mo_read_213 (by decide) ?_
              refine lk_goto (tgt := 21) d_Mo_read_305 (by decide) ?_
              refine Lk.sel [0, 1, 2] rfl ?_
              exact ih _ _ _ _ _ h
        · replace h := x_ifp hc h
          refine lk_iload_n d_Mo_read_117 rfl ?_
          refine lk_iconst (v := 3) d_Mo_read_118 rfl ?_
          refine lk_icmp_ge (tgt := 165) d_Mo_read_119 (by decide) (fun hc => ?_) (fun hc => ?_)
          · replace h := x_ifp hc h
            refine lk_iload_n d_Mo_read_165 rfl ?_
            refine lk_bipush (v := 41) d_Mo_read_166 rfl ?_
            refine lk_icmp_ne (tgt := 216) d_Mo_read_168 (by decide) (fun hc => ?_) (fun hc => ?_)
            · replace h := x_ifn hc h
              refine lk_iload_n d_Mo_read_216 rfl ?_
              obtain ⟨p89, hp89, h⟩ := x_b h
              refine lk_callS0 d_Mo_read_217 (c_Mo_isLetter hp89) (Nat.le_of_ble_eq_true rfl) rfl M_Mo_isLetter lm_Mo_136 st_Mo_isLetter (Nat.le_of_ble_eq_true rfl) ?_
              refine lk_if_ne (tgt := 241) d_Mo_read_220 (by decide) (fun hc => ?_) (fun hc => ?_)
              · replace h := x_ifn hc h
                refine lk_aload_n d_Mo_read_241 rfl ?_
                refine lk_iload_n d_Mo_read_242 rfl ?_
                obtain ⟨p90, hp90, h⟩ := x_b h
                refine lk_callS0 d_Mo_read_243 (c_Mo_isLetter hp90) (Nat.le_of_ble_eq_true rfl) rfl M_Mo_isLetter lm_Mo_136 st_Mo_isLetter (Nat.le_of_ble_eq_true rfl) ?_
                obtain ⟨t91, hj, h⟩ := x_b h
                refine Lk.joinA 275 [0, 1, 2, 3, 4] [] rfl 1 [vI t91] ?_ ?_
                · replace h := hj
                  refine lk_if_eq (tgt := 253) d_Mo_read_246 (by decide) (fun hc => ?_) (fun hc => ?_)
                  · replace h := x_ifp hc h
                    refine lk_iload_n d_Mo_read_253 rfl ?_
                    refine lk_bipush (v := 46) d_Mo_read_254 rfl ?_
                    refine lk_icmp_ne (tgt := 263) d_Mo_read_256 (by decide) (fun hc => ?_) (fun hc => ?_)
                    · replace h := x_ifn hc h
                      refine lk_iload_n d_Mo_read_263 rfl ?_
                      refine lk_bipush (v := 94) d_Mo_read_264 rfl ?_
                      refine lk_icmp_ne (tgt := 273) d_Mo_read_266 (by decide) (fun hc => ?_) (fun hc => ?_)
                      · replace h := x_ifn hc h
                        refine lk_bipush (v := 6) d_Mo_read_273 rfl ?_
                        cases h
                        refine Lk.sel [0, 1, 2, 3, 4] rfl ?_
                        exact Lk.stop ⟨rfl, rfl, rfl, rfl, rfl, rfl⟩
                      · replace h := x_ifp hc h
                        refine lk_iconst (v := 5) d_Mo_read_269 rfl ?_
                        refine lk_goto (tgt := 275) d_Mo_read_270 (by decide) ?_
                        cases h
                        refine Lk.sel [0, 1, 2, 3, 4] rfl ?_
                        exact Lk.stop ⟨rfl, rfl, rfl, rfl, rfl, rfl⟩
                    · replace h := x_ifp hc h
                      refine lk_iconst (v := 1) d_Mo_read_259 rfl ?_
                      refine lk_goto (tgt := 275) d_Mo_read_260 (by decide) ?_
                      cases h
                      refine Lk.sel [0, 1, 2, 3, 4] rfl ?_
                      exact Lk.stop ⟨rfl, rfl, rfl, rfl, rfl, rfl⟩
                  · replace h := x_ifn hc h
                    refine lk_iconst (v := 0) d_Mo_read_249 rfl ?_
                    refine lk_goto (tgt := 275) d_Mo_read_250 (by decide) ?_
                    cases h
                    refine Lk.sel [0, 1, 2, 3, 4] rfl ?_
                    exact Lk.stop ⟨rfl, rfl, rfl, rfl, rfl, rfl⟩
                · clear hj
                  refine lk_iload_n d_Mo_read_275 rfl ?_
                  obtain ⟨p92, hp92, h⟩ := x_b h
                  refine lk_callS0 d_Mo_read_276 (c_Mo_isLetter hp92) (Nat.le_of_ble_eq_true rfl) rfl M_Mo_isLetter lm_Mo_136 st_Mo_isLetter (Nat.le_of_ble_eq_true rfl) ?_
                  obtain ⟨t93, hj, h⟩ := x_b h
                  refine Lk.joinA 290 [0, 1, 2, 4] [] rfl 1 [vI t93] ?_ ?_
                  · replace h := hj
                    refine lk_if_eq (tgt := 289) d_Mo_read_279 (by decide) (fun hc => ?_) (fun hc => ?_)
                    · replace h := x_ifp hc h
                      refine lk_iconst (v := 0) d_Mo_read_289 rfl ?_
                      cases h
                      refine Lk.sel [0, 1, 2, 4] rfl ?_
                      exact Lk.stop ⟨rfl, rfl, rfl, rfl, rfl, rfl⟩
                    · replace h := x_ifn hc h
                      refine lk_iload_n d_Mo_read_282 rfl ?_
                      refine lk_bipush (v := 97) d_Mo_read_283 rfl ?_
                      refine lk_isub d_Mo_read_285 ?_
                      refine lk_goto (tgt := 290) d_Mo_read_286 (by decide) ?_
                      cases h
                      refine Lk.sel [0, 1, 2, 4] rfl ?_
                      exact Lk.stop ⟨rfl, rfl, rfl, rfl, rfl, rfl⟩
                  · clear hj
                    refine lk_iconst (v := 0) d_Mo_read_290 rfl ?_
                    obtain ⟨a94, ha94, h⟩ := x_b h
                    obtain ⟨p95, hp95, h⟩ := x_b h
                    refine lk_callV0 d_Mo_read_291 (x_obm ha94 rfl) (c_Mo_emit hp95) (Nat.le_of_ble_eq_true rfl) rfl M_Mo_emit lm_Mo_122 in_Mo_emit se_Mo_emit (by decide) rfl (Nat.le_of_ble_eq_true rfl) ?_
                    refine lk_aload_n d_Mo_read_294 rfl ?_
                    refine lk_iload d_Mo_read_295 rfl ?_
                    obtain ⟨a96, ha96, h⟩ := x_b h
                    obtain ⟨p97, hp97, h⟩ := x_b h
                    refine lk_callV0 d_Mo_read_297 (x_obm ha96 rfl) (c_Mo_sign hp97) (Nat.le_of_ble_eq_true rfl) rfl M_Mo_sign lm_Mo_133 in_Mo_sign se_Mo_sign (by decide) rfl (Nat.le_of_ble_eq_true rfl) ?_
                    refine lk_goto (tgt := 305) d_Mo_read_300 (by decide) ?_
                    refine lk_goto (tgt := 21) d_Mo_read_305 (by decide) ?_
                    refine Lk.sel [0, 1, 2] rfl ?_
                    exact ih _ _ _ _ _ h
              · replace h := x_ifp hc h
                refine lk_iload_n d_Mo_read_223 rfl ?_
                refine lk_bipush (v := 46) d_Mo_read_224 rfl ?_
                refine lk_icmp_eq (tgt := 241) d_Mo_read_226 (by decide) (fun hc => ?_) (fun hc => ?_)
                · replace h := x_ifp hc h
                  refine lk_aload_n d_Mo_read_241 rfl ?_
                  refine lk_iload_n d_Mo_read_242 rfl ?_
                  obtain ⟨p98, hp98, h⟩ := x_b h
                  refine lk_callS0 d_Mo_read_243 (c_Mo_isLetter hp98) (Nat.le_of_ble_eq_true rfl) rfl M_Mo_isLetter lm_Mo_136 st_Mo_isLetter (Nat.le_of_ble_eq_true rfl) ?_
                  obtain ⟨t99, hj, h⟩ := x_b h
                  refine Lk.joinA 275 [0, 1, 2, 3, 4] [] rfl 1 [vI t99] ?_ ?_
                  · replace h := hj
                    refine lk_if_eq (tgt := 253) d_Mo_read_246 (by decide) (fun hc => ?_) (fun hc => ?_)
                    · replace h := x_ifp hc h
                      refine lk_iload_n d_Mo_read_253 rfl ?_
                      refine lk_bipush (v := 46) d_Mo_read_254 rfl ?_
                      refine lk_icmp_ne (tgt := 263) d_Mo_read_256 (by decide) (fun hc => ?_) (fun hc => ?_)
                      · replace h := x_ifn hc h
                        refine lk_iload_n d_Mo_read_263 rfl ?_
                        refine lk_bipush (v := 94) d_Mo_read_264 rfl ?_
                        refine lk_icmp_ne (tgt := 273) d_Mo_read_266 (by decide) (fun hc => ?_) (fun hc => ?_)
                        · replace h := x_ifn hc h
                          refine lk_bipush (v := 6) d_Mo_read_273 rfl ?_
                          cases h
                          refine Lk.sel [0, 1, 2, 3, 4] rfl ?_
                          exact Lk.stop ⟨rfl, rfl, rfl, rfl, rfl, rfl⟩
                        · replace h := x_ifp hc h
                          refine lk_iconst (v := 5) d_Mo_read_269 rfl ?_
                          refine lk_goto (tgt := 275) d_Mo_read_270 (by decide) ?_
                          cases h
                          refine Lk.sel [0, 1, 2, 3, 4] rfl ?_
                          exact Lk.stop ⟨rfl, rfl, rfl, rfl, rfl, rfl⟩
                      · replace h := x_ifp hc h
                        refine lk_iconst (v := 1) d_Mo_read_259 rfl ?_
                        refine lk_goto (tgt := 275) d_Mo_read_260 (by decide) ?_
                        cases h
                        refine Lk.sel [0, 1, 2, 3, 4] rfl ?_
                        exact Lk.stop ⟨rfl, rfl, rfl, rfl, rfl, rfl⟩
                    · replace h := x_ifn hc h
                      refine lk_iconst (v := 0) d_Mo_read_249 rfl ?_
                      refine lk_goto (tgt := 275) d_Mo_read_250 (by decide) ?_
                      cases h
                      refine Lk.sel [0, 1, 2, 3, 4] rfl ?_
                      exact Lk.stop ⟨rfl, rfl, rfl, rfl, rfl, rfl⟩
                  · clear hj
                    refine lk_iload_n d_Mo_read_275 rfl ?_
                    obtain ⟨p100, hp100, h⟩ := x_b h
                    refine lk_callS0 d_Mo_read_276 (c_Mo_isLetter hp100) (Nat.le_of_ble_eq_true rfl) rfl M_Mo_isLetter lm_Mo_136 st_Mo_isLetter (Nat.le_of_ble_eq_true rfl) ?_
                    obtain ⟨t101, hj, h⟩ := x_b h
                    refine Lk.joinA 290 [0, 1, 2, 4] [] rfl 1 [vI t101] ?_ ?_
                    · replace h := hj
                      refine lk_if_eq (tgt := 289) d_Mo_read_279 (by decide) (fun hc => ?_) (fun hc => ?_)
                      · replace h := x_ifp hc h
                        refine lk_iconst (v := 0) d_Mo_read_289 rfl ?_
                        cases h
                        refine Lk.sel [0, 1, 2, 4] rfl ?_
                        exact Lk.stop ⟨rfl, rfl, rfl, rfl, rfl, rfl⟩
                      · replace h := x_ifn hc h
                        refine lk_iload_n d_Mo_read_282 rfl ?_
                        refine lk_bipush (v := 97) d_Mo_read_283 rfl ?_
                        refine lk_isub d_Mo_read_285 ?_
                        refine lk_goto (tgt := 290) d_Mo_read_286 (by decide) ?_
                        cases h
                        refine Lk.sel [0, 1, 2, 4] rfl ?_
                        exact Lk.stop ⟨rfl, rfl, rfl, rfl, rfl, rfl⟩
                    · clear hj
                      refine lk_iconst (v := 0) d_Mo_read_290 rfl ?_
                      obtain ⟨a102, ha102, h⟩ := x_b h
                      obtain ⟨p103, hp103, h⟩ := x_b h
                      refine lk_callV0 d_Mo_read_291 (x_obm ha102 rfl) (c_Mo_emit hp103) (Nat.le_of_ble_eq_true rfl) rfl M_Mo_emit lm_Mo_122 in_Mo_emit se_Mo_emit (by decide) rfl (Nat.le_of_ble_eq_true rfl) ?_
                      refine lk_aload_n d_Mo_read_294 rfl ?_
                      refine lk_iload d_Mo_read_295 rfl ?_
                      obtain ⟨a104, ha104, h⟩ := x_b h
                      obtain ⟨p105, hp105, h⟩ := x_b h
                      refine lk_callV0 d_Mo_read_297 (x_obm ha104 rfl) (c_Mo_sign hp105) (Nat.le_of_ble_eq_true rfl) rfl M_Mo_sign lm_Mo_133 in_Mo_sign se_Mo_sign (by decide) rfl (Nat.le_of_ble_eq_true rfl) ?_
                      refine lk_goto (tgt := 305) d_Mo_read_300 (by decide) ?_
                      refine lk_goto (tgt := 21) d_Mo_read_305 (by decide) ?_
                      refine Lk.sel [0, 1, 2] rfl ?_
                      exact ih _ _ _ _ _ h
                · replace h := x_ifn hc h
                  refine lk_iload_n d_Mo_read_229 rfl ?_
                  refine lk_bipush (v := 94) d_Mo_read_230 rfl ?_
                  refine lk_icmp_eq (tgt := 241) d_Mo_read_232 (by decide) (fun hc => ?_) (fun hc => ?_)
                  · replace h := x_ifp hc h
                    refine lk_aload_n d_Mo_read_241 rfl ?_
                    refine lk_iload_n d_Mo_read_242 rfl ?_
                    obtain ⟨p106, hp106, h⟩ := x_b h
                    refine lk_callS0 d_Mo_read_243 (c_Mo_isLetter hp106) (Nat.le_of_ble_eq_true rfl) rfl M_Mo_isLetter lm_Mo_136 st_Mo_isLetter (Nat.le_of_ble_eq_true rfl) ?_
                    obtain ⟨t107, hj, h⟩ := x_b h
                    refine Lk.joinA 275 [0, 1, 2, 3, 4] [] rfl 1 [vI t107] ?_ ?_
                    · replace h := hj
                      refine lk_if_eq (tgt := 253) d_Mo_read_246 (by decide) (fun hc => ?_) (fun hc => ?_)
                      · replace h := x_ifp hc h
                        refine lk_iload_n d_Mo_read_253 rfl ?_
                        refine lk_bipush (v := 46) d_Mo_read_254 rfl ?_
                        refine lk_icmp_ne (tgt := 263) d_Mo_read_256 (by decide) (fun hc => ?_) (fun hc => ?_)
                        · replace h := x_ifn hc h
                          refine lk_iload_n d_Mo_read_263 rfl ?_
                          refine lk_bipush (v := 94) d_Mo_read_264 rfl ?_
                          refine lk_icmp_ne (tgt := 273) d_Mo_read_266 (by decide) (fun hc => ?_) (fun hc => ?_)
                          · replace h := x_ifn hc h
                            refine lk_bipush (v := 6) d_Mo_read_273 rfl ?_
                            cases h
                            refine Lk.sel [0, 1, 2, 3, 4] rfl ?_
                            exact Lk.stop ⟨rfl, rfl, rfl, rfl, rfl, rfl⟩
                          · replace h := x_ifp hc h
                            refine lk_iconst (v := 5) d_Mo_read_269 rfl ?_
                            refine lk_goto (tgt := 275) d_Mo_read_270 (by decide) ?_
                            cases h
                            refine Lk.sel [0, 1, 2, 3, 4] rfl ?_
                            exact Lk.stop ⟨rfl, rfl, rfl, rfl, rfl, rfl⟩
                        · replace h := x_ifp hc h
                          refine lk_iconst (v := 1) d_Mo_read_259 rfl ?_
                          refine lk_goto (tgt := 275) d_Mo_read_260 (by decide) ?_
                          cases h
                          refine Lk.sel [0, 1, 2, 3, 4] rfl ?_
                          exact Lk.stop ⟨rfl, rfl, rfl, rfl, rfl, rfl⟩
                      · replace h := x_ifn hc h
                        refine lk_iconst (v := 0) d_Mo_read_249 rfl ?_
                        refine lk_goto (tgt := 275) d_Mo_read_250 (by decide) ?_
                        cases h
                        refine Lk.sel [0, 1, 2, 3, 4] rfl ?_
                        exact Lk.stop ⟨rfl, rfl, rfl, rfl, rfl, rfl⟩
                    · clear hj
                      refine lk_iload_n d_Mo_read_275 rfl ?_
                      obtain ⟨p108, hp108, h⟩ := x_b h
                      refine lk_callS0 d_Mo_read_276 (c_Mo_isLetter hp108) (Nat.le_of_ble_eq_true rfl) rfl M_Mo_isLetter lm_Mo_136 st_Mo_isLetter (Nat.le_of_ble_eq_true rfl) ?_
                      obtain ⟨t109, hj, h⟩ := x_b h
                      refine Lk.joinA 290 [0, 1, 2, 4] [] rfl 1 [vI t109] ?_ ?_
                      · replace h := hj
                        refine lk_if_eq (tgt := 289) d_Mo_read_279 (by decide) (fun hc => ?_) (fun hc => ?_)
                        · replace h := x_ifp hc h
                          refine lk_iconst (v := 0) d_Mo_read_289 rfl ?_
                          cases h
                          refine Lk.sel [0, 1, 2, 4] rfl ?_
                          exact Lk.stop ⟨rfl, rfl, rfl, rfl, rfl, rfl⟩
                        · replace h := x_ifn hc h
                          refine lk_iload_n d_Mo_read_282 rfl ?_
                          refine lk_bipush (v := 97) d_Mo_read_283 rfl ?_
                          refine lk_isub d_Mo_read_285 ?_
                          refine lk_goto (tgt := 290) d_Mo_read_286 (by decide) ?_
                          cases h
                          refine Lk.sel [0, 1, 2, 4] rfl ?_
                          exact Lk.stop ⟨rfl, rfl, rfl, rfl, rfl, rfl⟩
                      · clear hj
                        refine lk_iconst (v := 0) d_Mo_read_290 rfl ?_
                        obtain ⟨a110, ha110, h⟩ := x_b h
                        obtain ⟨p111, hp111, h⟩ := x_b h
                        refine lk_callV0 d_Mo_read_291 (x_obm ha110 rfl) (c_Mo_emit hp111) (Nat.le_of_ble_eq_true rfl) rfl M_Mo_emit lm_Mo_122 in_Mo_emit se_Mo_emit (by decide) rfl (Nat.le_of_ble_eq_true rfl) ?_
                        refine lk_aload_n d_Mo_read_294 rfl ?_
                        refine lk_iload d_Mo_read_295 rfl ?_
                        obtain ⟨a112, ha112, h⟩ := x_b h
                        obtain ⟨p113, hp113, h⟩ := x_b h
                        refine lk_callV0 d_Mo_read_297 (x_obm ha112 rfl) (c_Mo_sign hp113) (Nat.le_of_ble_eq_true rfl) rfl M_Mo_sign lm_Mo_133 in_Mo_sign se_Mo_sign (by decide) rfl (Nat.le_of_ble_eq_true rfl) ?_
                        refine lk_goto (tgt := 305) d_Mo_read_300 (by decide) ?_
                        refine lk_goto (tgt := 21) d_Mo_read_305 (by decide) ?_
                        refine Lk.sel [0, 1, 2] rfl ?_
                        exact ih _ _ _ _ _ h
                  · replace h := x_ifn hc h
                    refine lk_iload_n d_Mo_read_235 rfl ?_
                    refine lk_bipush (v := 36) d_Mo_read_236 rfl ?_
                    refine lk_icmp_ne (tgt := 303) d_Mo_read_238 (by decide) (fun hc => ?_) (fun hc => ?_)
                    · replace h := x_ifn hc h
                      refine lk_iconst (v := 0) d_Mo_read_303 rfl ?_
                      cases h
                      exact Lk.stop ⟨rfl, Or.inr (Or.inl ⟨_, _, d_Mo_read_304, rfl, rfl, rfl, rfl⟩)⟩
                    · replace h := x_ifp hc h
                      refine lk_aload_n d_Mo_read_241 rfl ?_
                      refine lk_iload_n d_Mo_read_242 rfl ?_
                      obtain ⟨p114, hp114, h⟩ := x_b h
                      refine lk_callS0 d_Mo_read_243 (c_Mo_isLetter hp114) (Nat.le_of_ble_eq_true rfl) rfl M_Mo_isLetter lm_Mo_136 st_Mo_isLetter (Nat.le_of_ble_eq_true rfl) ?_
                      obtain ⟨t115, hj, h⟩ := x_b h
                      refine Lk.joinA 275 [0, 1, 2, 3, 4] [] rfl 1 [vI t115] ?_ ?_
                      · replace h := hj
                        refine lk_if_eq (tgt := 253) d_Mo_read_246 (by decide) (fun hc => ?_) (fun hc => ?_)
                        · replace h := x_ifp hc h
                          refine lk_iload_n d_Mo_read_253 rfl ?_
                          refine lk_bipush (v := 46) d_Mo_read_254 rfl ?_
                          refine lk_icmp_ne (tgt := 263) d_Mo_read_256 (by decide) (fun hc => ?_) (fun hc => ?_)
                          · replace h := x_ifn hc h
                            refine lk_iload_n d_Mo_read_263 rfl ?_
                            refine lk_bipush (v := 94) d_Mo_read_264 rfl ?_
                            refine lk_icmp_ne (tgt := 273) d_Mo_read_266 (by decide) (fun hc => ?_) (fun hc => ?_)
                            · replace h := x_ifn hc h
                              refine lk_bipush (v := 6) d_Mo_read_273 rfl ?_
                              cases h
                              refine Lk.sel [0, 1, 2, 3, 4] rfl ?_
                              exact Lk.stop ⟨rfl, rfl, rfl, rfl, rfl, rfl⟩
                            · replace h := x_ifp hc h
                              refine lk_iconst (v := 5) d_Mo_read_269 rfl ?_
                              refine lk_goto (tgt := 275) d_Mo_read_270 (by decide) ?_
                              cases h
                              refine Lk.sel [0, 1, 2, 3, 4] rfl ?_
                              exact Lk.stop ⟨rfl, rfl, rfl, rfl, rfl, rfl⟩
                          · replace h := x_ifp hc h
                            refine lk_iconst (v := 1) d_Mo_read_259 rfl ?_
                            refine lk_goto (tgt := 275) d_Mo_read_260 (by decide) ?_
                            cases h
                            refine Lk.sel [0, 1, 2, 3, 4] rfl ?_
                            exact Lk.stop ⟨rfl, rfl, rfl, rfl, rfl, rfl⟩
                        · replace h := x_ifn hc h
                          refine lk_iconst (v := 0) d_Mo_read_249 rfl ?_
                          refine lk_goto (tgt := 275) d_Mo_read_250 (by decide) ?_
                          cases h
                          refine Lk.sel [0, 1, 2, 3, 4] rfl ?_
                          exact Lk.stop ⟨rfl, rfl, rfl, rfl, rfl, rfl⟩
                      · clear hj
                        refine lk_iload_n d_Mo_read_275 rfl ?_
                        obtain ⟨p116, hp116, h⟩ := x_b h
                        refine lk_callS0 d_Mo_read_276 (c_Mo_isLetter hp116) (Nat.le_of_ble_eq_true rfl) rfl M_Mo_isLetter lm_Mo_136 st_Mo_isLetter (Nat.le_of_ble_eq_true rfl) ?_
                        obtain ⟨t117, hj, h⟩ := x_b h
                        refine Lk.joinA 290 [0, 1, 2, 4] [] rfl 1 [vI t117] ?_ ?_
                        · replace h := hj
                          refine lk_if_eq (tgt := 289) d_Mo_read_279 (by decide) (fun hc => ?_) (fun hc => ?_)
                          · replace h := x_ifp hc h
                            refine lk_iconst (v := 0) d_Mo_read_289 rfl ?_
                            cases h
                            refine Lk.sel [0, 1, 2, 4] rfl ?_
                            exact Lk.stop ⟨rfl, rfl, rfl, rfl, rfl, rfl⟩
                          · replace h := x_ifn hc h
                            refine lk_iload_n d_Mo_read_282 rfl ?_
                            refine lk_bipush (v := 97) d_Mo_read_283 rfl ?_
                            refine lk_isub d_Mo_read_285 ?_
                            refine lk_goto (tgt := 290) d_Mo_read_286 (by decide) ?_
                            cases h
                            refine Lk.sel [0, 1, 2, 4] rfl ?_
                            exact Lk.stop ⟨rfl, rfl, rfl, rfl, rfl, rfl⟩
                        · clear hj
                          refine lk_iconst (v := 0) d_Mo_read_290 rfl ?_
                          obtain ⟨a118, ha118, h⟩ := x_b h
                          obtain ⟨p119, hp119, h⟩ := x_b h
                          refine lk_callV0 d_Mo_read_291 (x_obm ha118 rfl) (c_Mo_emit hp119) (Nat.le_of_ble_eq_true rfl) rfl M_Mo_emit lm_Mo_122 in_Mo_emit se_Mo_emit (by decide) rfl (Nat.le_of_ble_eq_true rfl) ?_
                          refine lk_aload_n d_Mo_read_294 rfl ?_
                          refine lk_iload d_Mo_read_295 rfl ?_
                          obtain ⟨a120, ha120, h⟩ := x_b h
                          obtain ⟨p121, hp121, h⟩ := x_b h
                          refine lk_callV0 d_Mo_read_297 (x_obm ha120 rfl) (c_Mo_sign hp121) (Nat.le_of_ble_eq_true rfl) rfl M_Mo_sign lm_Mo_133 in_Mo_sign se_Mo_sign (by decide) rfl (Nat.le_of_ble_eq_true rfl) ?_
                          refine lk_goto (tgt := 305) d_Mo_read_300 (by decide) ?_
                          refine lk_goto (tgt := 21) d_Mo_read_305 (by decide) ?_
                          refine Lk.sel [0, 1, 2] rfl ?_
                          exact ih _ _ _ _ _ h
            · replace h := x_ifp hc h
              refine lk_iload_n d_Mo_read_171 rfl ?_
              refine lk_if_le (tgt := 216) d_Mo_read_172 (by decide) (fun hc => ?_) (fun hc => ?_)
              · replace h := x_ifp hc h
                refine lk_iload_n d_Mo_read_216 rfl ?_
                obtain ⟨p122, hp122, h⟩ := x_b h
                refine lk_callS0 d_Mo_read_217 (c_Mo_isLetter hp122) (Nat.le_of_ble_eq_true rfl) rfl M_Mo_isLetter lm_Mo_136 st_Mo_isLetter (Nat.le_of_ble_eq_true rfl) ?_
                refine lk_if_ne (tgt := 241) d_Mo_read_220 (by decide) (fun hc => ?_) (fun hc => ?_)
                · replace h := x_ifn hc h
                  refine lk_aload_n d_Mo_read_241 rfl ?_
                  refine lk_iload_n d_Mo_read_242 rfl ?_
                  obtain ⟨p123, hp123, h⟩ := x_b h
                  refine lk_callS0 d_Mo_read_243 (c_Mo_isLetter hp123) (Nat.le_of_ble_eq_true rfl) rfl M_Mo_isLetter lm_Mo_136 st_Mo_isLetter (Nat.le_of_ble_eq_true rfl) ?_
                  obtain ⟨t124, hj, h⟩ := x_b h
                  refine Lk.joinA 275 [0, 1, 2, 3, 4] [] rfl 1 [vI t124] ?_ ?_
                  · replace h := hj
                    refine lk_if_eq (tgt := 253) d_Mo_read_246 (by decide) (fun hc => ?_) (fun hc => ?_)
                    · replace h := x_ifp hc h
                      refine lk_iload_n d_Mo_read_253 rfl ?_
                      refine lk_bipush (v := 46) d_Mo_read_254 rfl ?_
                      refine lk_icmp_ne (tgt := 263) d_Mo_read_256 (by decide) (fun hc => ?_) (fun hc => ?_)
                      · replace h := x_ifn hc h
                        refine lk_iload_n d_Mo_read_263 rfl ?_
                        refine lk_bipush (v := 94) d_Mo_read_264 rfl ?_
                        refine lk_icmp_ne (tgt := 273) d_Mo_read_266 (by decide) (fun hc => ?_) (fun hc => ?_)
                        · replace h := x_ifn hc h
                          refine lk_bipush (v := 6) d_Mo_read_273 rfl ?_
                          cases h
                          refine Lk.sel [0, 1, 2, 3, 4] rfl ?_
                          exact Lk.stop ⟨rfl, rfl, rfl, rfl, rfl, rfl⟩
                        · replace h := x_ifp hc h
                          refine lk_iconst (v := 5) d_Mo_read_269 rfl ?_
                          refine lk_goto (tgt := 275) d_Mo_read_270 (by decide) ?_
                          cases h
                          refine Lk.sel [0, 1, 2, 3, 4] rfl ?_
                          exact Lk.stop ⟨rfl, rfl, rfl, rfl, rfl, rfl⟩
                      · replace h := x_ifp hc h
                        refine lk_iconst (v := 1) d_Mo_read_259 rfl ?_
                        refine lk_goto (tgt := 275) d_Mo_read_260 (by decide) ?_
                        cases h
                        refine Lk.sel [0, 1, 2, 3, 4] rfl ?_
                        exact Lk.stop ⟨rfl, rfl, rfl, rfl, rfl, rfl⟩
                    · replace h := x_ifn hc h
                      refine lk_iconst (v := 0) d_Mo_read_249 rfl ?_
                      refine lk_goto (tgt := 275) d_Mo_read_250 (by decide) ?_
                      cases h
                      refine Lk.sel [0, 1, 2, 3, 4] rfl ?_
                      exact Lk.stop ⟨rfl, rfl, rfl, rfl, rfl, rfl⟩
                  · clear hj
                    refine lk_iload_n d_Mo_read_275 rfl ?_
                    obtain ⟨p125, hp125, h⟩ := x_b h
                    refine lk_callS0 d_Mo_read_276 (c_Mo_isLetter hp125) (Nat.le_of_ble_eq_true rfl) rfl M_Mo_isLetter lm_Mo_136 st_Mo_isLetter (Nat.le_of_ble_eq_true rfl) ?_
                    obtain ⟨t126, hj, h⟩ := x_b h
                    refine Lk.joinA 290 [0, 1, 2, 4] [] rfl 1 [vI t126] ?_ ?_
                    · replace h := hj
                      refine lk_if_eq (tgt := 289) d_Mo_read_279 (by decide) (fun hc => ?_) (fun hc => ?_)
                      · replace h := x_ifp hc h
                        refine lk_iconst (v := 0) d_Mo_read_289 rfl ?_
                        cases h
                        refine Lk.sel [0, 1, 2, 4] rfl ?_
                        exact Lk.stop ⟨rfl, rfl, rfl, rfl, rfl, rfl⟩
                      · replace h := x_ifn hc h
                        refine lk_iload_n d_Mo_read_282 rfl ?_
                        refine lk_bipush (v := 97) d_Mo_read_283 rfl ?_
                        refine lk_isub d_Mo_read_285 ?_
                        refine lk_goto (tgt := 290) d_Mo_read_286 (by decide) ?_
                        cases h
                        refine Lk.sel [0, 1, 2, 4] rfl ?_
                        exact Lk.stop ⟨rfl, rfl, rfl, rfl, rfl, rfl⟩
                    · clear hj
                      refine lk_iconst (v := 0) d_Mo_read_290 rfl ?_
                      obtain ⟨a127, ha127, h⟩ := x_b h
                      obtain ⟨p128, hp128, h⟩ := x_b h
                      refine lk_callV0 d_Mo_read_291 (x_obm ha127 rfl) (c_Mo_emit hp128) (Nat.le_of_ble_eq_true rfl) rfl M_Mo_emit lm_Mo_122 in_Mo_emit se_Mo_emit (by decide) rfl (Nat.le_of_ble_eq_true rfl) ?_
                      refine lk_aload_n d_Mo_read_294 rfl ?_
                      refine lk_iload d_Mo_read_295 rfl ?_
                      obtain ⟨a129, ha129, h⟩ := x_b h
                      obtain ⟨p130, hp130, h⟩ := x_b h
                      refine lk_callV0 d_Mo_read_297 (x_obm ha129 rfl) (c_Mo_sign hp130) (Nat.le_of_ble_eq_true rfl) rfl M_Mo_sign lm_Mo_133 in_Mo_sign se_Mo_sign (by decide) rfl (Nat.le_of_ble_eq_true rfl) ?_
                      refine lk_goto (tgt := 305) d_Mo_read_300 (by decide) ?_
                      refine lk_goto (tgt := 21) d_Mo_read_305 (by decide) ?_
                      refine Lk.sel [0, 1, 2] rfl ?_
                      exact ih _ _ _ _ _ h
                · replace h := x_ifp hc h
                  refine lk_iload_n d_Mo_read_223 rfl ?_
                  refine lk_bipush (v := 46) d_Mo_read_224 rfl ?_
                  refine lk_icmp_eq (tgt := 241) d_Mo_read_226 (by decide) (fun hc => ?_) (fun hc => ?_)
                  · replace h := x_ifp hc h
                    refine lk_aload_n d_Mo_read_241 rfl ?_
                    refine lk_iload_n d_Mo_read_242 rfl ?_
                    obtain ⟨p131, hp131, h⟩ := x_b h
                    refine lk_callS0 d_Mo_read_243 (c_Mo_isLetter hp131) (Nat.le_of_ble_eq_true rfl) rfl M_Mo_isLetter lm_Mo_136 st_Mo_isLetter (Nat.le_of_ble_eq_true rfl) ?_
                    obtain ⟨t132, hj, h⟩ := x_b h
                    refine Lk.joinA 275 [0, 1, 2, 3, 4] [] rfl 1 [vI t132] ?_ ?_
                    · replace h := hj
                      refine lk_if_eq (tgt := 253) d_Mo_read_246 (by decide) (fun hc => ?_) (fun hc => ?_)
                      · replace h := x_ifp hc h
                        refine lk_iload_n d_Mo_read_253 rfl ?_
                        refine lk_bipush (v := 46) d_Mo_read_254 rfl ?_
                        refine lk_icmp_ne (tgt := 263) d_Mo_read_256 (by decide) (fun hc => ?_) (fun hc => ?_)
                        · replace h := x_ifn hc h
                          refine lk_iload_n d_Mo_read_263 rfl ?_
                          refine lk_bipush (v := 94) d_Mo_read_264 rfl ?_
                          refine lk_icmp_ne (tgt := 273) d_Mo_read_266 (by decide) (fun hc => ?_) (fun hc => ?_)
                          · replace h := x_ifn hc h
                            refine lk_bipush (v := 6) d_Mo_read_273 rfl ?_
                            cases h
                            refine Lk.sel [0, 1, 2, 3, 4] rfl ?_
                            exact Lk.stop ⟨rfl, rfl, rfl, rfl, rfl, rfl⟩
                          · replace h := x_ifp hc h
                            refine lk_iconst (v := 5) d_Mo_read_269 rfl ?_
                            refine lk_goto (tgt := 275) d_Mo_read_270 (by decide) ?_
                            cases h
                            refine Lk.sel [0, 1, 2, 3, 4] rfl ?_
                            exact Lk.stop ⟨rfl, rfl, rfl, rfl, rfl, rfl⟩
                        · replace h := x_ifp hc h
                          refine lk_iconst (v := 1) d_Mo_read_259 rfl ?_
                          refine lk_goto (tgt := 275) d_Mo_read_260 (by decide) ?_
                          cases h
                          refine Lk.sel [0, 1, 2, 3, 4] rfl ?_
                          exact Lk.stop ⟨rfl, rfl, rfl, rfl, rfl, rfl⟩
                      · replace h := x_ifn hc h
                        refine lk_iconst (v := 0) d_Mo_read_249 rfl ?_
                        refine lk_goto (tgt := 275) d_Mo_read_250 (by decide) ?_
                        cases h
                        refine Lk.sel [0, 1, 2, 3, 4] rfl ?_
                        exact Lk.stop ⟨rfl, rfl, rfl, rfl, rfl, rfl⟩
                    · clear hj
                      refine lk_iload_n d_Mo_read_275 rfl ?_
                      obtain ⟨p133, hp133, h⟩ := x_b h
                      refine lk_callS0 d_Mo_read_276 (c_Mo_isLetter hp133) (Nat.le_of_ble_eq_true rfl) rfl M_Mo_isLetter lm_Mo_136 st_Mo_isLetter (Nat.le_of_ble_eq_true rfl) ?_
                      obtain ⟨t134, hj, h⟩ := x_b h
                      refine Lk.joinA 290 [0, 1, 2, 4] [] rfl 1 [vI t134] ?_ ?_
                      · replace h := hj
                        refine lk_if_eq (tgt := 289) d_Mo_read_279 (by decide) (fun hc => ?_) (fun hc => ?_)
                        · replace h := x_ifp hc h
                          refine lk_iconst (v := 0) d_Mo_read_289 rfl ?_
                          cases h
                          refine Lk.sel [0, 1, 2, 4] rfl ?_
                          exact Lk.stop ⟨rfl, rfl, rfl, rfl, rfl, rfl⟩
                        · replace h := x_ifn hc h
                          refine lk_iload_n d_Mo_read_282 rfl ?_
                          refine lk_bipush (v := 97) d_Mo_read_283 rfl ?_
                          refine lk_isub d_Mo_read_285 ?_
                          refine lk_goto (tgt := 290) d_Mo_read_286 (by decide) ?_
                          cases h
                          refine Lk.sel [0, 1, 2, 4] rfl ?_
                          exact Lk.stop ⟨rfl, rfl, rfl, rfl, rfl, rfl⟩
                      · clear hj
                        refine lk_iconst (v := 0) d_Mo_read_290 rfl ?_
                        obtain ⟨a135, ha135, h⟩ := x_b h
                        obtain ⟨p136, hp136, h⟩ := x_b h
                        refine lk_callV0 d_Mo_read_291 (x_obm ha135 rfl) (c_Mo_emit hp136) (Nat.le_of_ble_eq_true rfl) rfl M_Mo_emit lm_Mo_122 in_Mo_emit se_Mo_emit (by decide) rfl (Nat.le_of_ble_eq_true rfl) ?_
                        refine lk_aload_n d_Mo_read_294 rfl ?_
                        refine lk_iload d_Mo_read_295 rfl ?_
                        obtain ⟨a137, ha137, h⟩ := x_b h
                        obtain ⟨p138, hp138, h⟩ := x_b h
                        refine lk_callV0 d_Mo_read_297 (x_obm ha137 rfl) (c_Mo_sign hp138) (Nat.le_of_ble_eq_true rfl) rfl M_Mo_sign lm_Mo_133 in_Mo_sign se_Mo_sign (by decide) rfl (Nat.le_of_ble_eq_true rfl) ?_
                        refine lk_goto (tgt := 305) d_Mo_read_300 (by decide) ?_
                        refine lk_goto (tgt := 21) d_Mo_read_305 (by decide) ?_
                        refine Lk.sel [0, 1, 2] rfl ?_
                        exact ih _ _ _ _ _ h
                  · replace h := x_ifn hc h
                    refine lk_iload_n d_Mo_read_229 rfl ?_
                    refine lk_bipush (v := 94) d_Mo_read_230 rfl ?_
                    refine lk_icmp_eq (tgt := 241) d_Mo_read_232 (by decide) (fun hc => ?_) (fun hc => ?_)
                    · replace h := x_ifp hc h
                      refine lk_aload_n d_Mo_read_241 rfl ?_
                      refine lk_iload_n d_Mo_read_242 rfl ?_
                      obtain ⟨p139, hp139, h⟩ := x_b h
                      refine lk_callS0 d_Mo_read_243 (c_Mo_isLetter hp139) (Nat.le_of_ble_eq_true rfl) rfl M_Mo_isLetter lm_Mo_136 st_Mo_isLetter (Nat.le_of_ble_eq_true rfl) ?_
                      obtain ⟨t140, hj, h⟩ := x_b h
                      refine Lk.joinA 275 [0, 1, 2, 3, 4] [] rfl 1 [vI t140] ?_ ?_
                      · replace h := hj
                        refine lk_if_eq (tgt := 253) d_Mo_read_246 (by decide) (fun hc => ?_) (fun hc => ?_)
                        · replace h := x_ifp hc h
                          refine lk_iload_n d_Mo_read_253 rfl ?_
                          refine lk_bipush (v := 46) d_Mo_read_254 rfl ?_
                          refine lk_icmp_ne (tgt := 263) d_Mo_read_256 (by decide) (fun hc => ?_) (fun hc => ?_)
                          · replace h := x_ifn hc h
                            refine lk_iload_n d_Mo_read_263 rfl ?_
                            refine lk_bipush (v := 94) d_Mo_read_264 rfl ?_
                            refine lk_icmp_ne (tgt := 273) d_Mo_read_266 (by decide) (fun hc => ?_) (fun hc => ?_)
                            · replace h := x_ifn hc h
                              refine lk_bipush (v := 6) d_Mo_read_273 rfl ?_
                              cases h
                              refine Lk.sel [0, 1, 2, 3, 4] rfl ?_
                              exact Lk.stop ⟨rfl, rfl, rfl, rfl, rfl, rfl⟩
                            · replace h := x_ifp hc h
                              refine lk_iconst (v := 5) d_Mo_read_269 rfl ?_
                              refine lk_goto (tgt := 275) d_Mo_read_270 (by decide) ?_
                              cases h
                              refine Lk.sel [0, 1, 2, 3, 4] rfl ?_
                              exact Lk.stop ⟨rfl, rfl, rfl, rfl, rfl, rfl⟩
                          · replace h := x_ifp hc h
                            refine lk_iconst (v := 1) d_Mo_read_259 rfl ?_
                            refine lk_goto (tgt := 275) d_Mo_read_260 (by decide) ?_
                            cases h
                            refine Lk.sel [0, 1, 2, 3, 4] rfl ?_
                            exact Lk.stop ⟨rfl, rfl, rfl, rfl, rfl, rfl⟩
                        · replace h := x_ifn hc h
                          refine lk_iconst (v := 0) d_Mo_read_249 rfl ?_
                          refine lk_goto (tgt := 275) d_Mo_read_250 (by decide) ?_
                          cases h
                          refine Lk.sel [0, 1, 2, 3, 4] rfl ?_
                          exact Lk.stop ⟨rfl, rfl, rfl, rfl, rfl, rfl⟩
                      · clear hj
                        refine lk_iload_n d_Mo_read_275 rfl ?_
                        obtain ⟨p141, hp141, h⟩ := x_b h
                        refine lk_callS0 d_Mo_read_276 (c_Mo_isLetter hp141) (Nat.le_of_ble_eq_true rfl) rfl M_Mo_isLetter lm_Mo_136 st_Mo_isLetter (Nat.le_of_ble_eq_true rfl) ?_
                        obtain ⟨t142, hj, h⟩ := x_b h
                        refine Lk.joinA 290 [0, 1, 2, 4] [] rfl 1 [vI t142] ?_ ?_
                        · replace h := hj
                          refine lk_if_eq (tgt := 289) d_Mo_read_279 (by decide) (fun hc => ?_) (fun hc => ?_)
                          · replace h := x_ifp hc h
                            refine lk_iconst (v := 0) d_Mo_read_289 rfl ?_
                            cases h
                            refine Lk.sel [0, 1, 2, 4] rfl ?_
                            exact Lk.stop ⟨rfl, rfl, rfl, rfl, rfl, rfl⟩
                          · replace h := x_ifn hc h
                            refine lk_iload_n d_Mo_read_282 rfl ?_
                            refine lk_bipush (v := 97) d_Mo_read_283 rfl ?_
                            refine lk_isub d_Mo_read_285 ?_
                            refine lk_goto (tgt := 290) d_Mo_read_286 (by decide) ?_
                            cases h
                            refine Lk.sel [0, 1, 2, 4] rfl ?_
                            exact Lk.stop ⟨rfl, rfl, rfl, rfl, rfl, rfl⟩
                        · clear hj
                          refine lk_iconst (v := 0) d_Mo_read_290 rfl ?_
                          obtain ⟨a143, ha143, h⟩ := x_b h
                          obtain ⟨p144, hp144, h⟩ := x_b h
                          refine lk_callV0 d_Mo_read_291 (x_obm ha143 rfl) (c_Mo_emit hp144) (Nat.le_of_ble_eq_true rfl) rfl M_Mo_emit lm_Mo_122 in_Mo_emit se_Mo_emit (by decide) rfl (Nat.le_of_ble_eq_true rfl) ?_
                          refine lk_aload_n d_Mo_read_294 rfl ?_
                          refine lk_iload d_Mo_read_295 rfl ?_
                          obtain ⟨a145, ha145, h⟩ := x_b h
                          obtain ⟨p146, hp146, h⟩ := x_b h
                          refine lk_callV0 d_Mo_read_297 (x_obm ha145 rfl) (c_Mo_sign hp146) (Nat.le_of_ble_eq_true rfl) rfl M_Mo_sign lm_Mo_133 in_Mo_sign se_Mo_sign (by decide) rfl (Nat.le_of_ble_eq_true rfl) ?_
                          refine lk_goto (tgt := 305) d_Mo_read_300 (by decide) ?_
                          refine lk_goto (tgt := 21) d_Mo_read_305 (by decide) ?_
                          refine Lk.sel [0, 1, 2] rfl ?_
                          exact ih _ _ _ _ _ h
                    · replace h := x_ifn hc h
                      refine lk_iload_n d_Mo_read_235 rfl ?_
                      refine lk_bipush (v := 36) d_Mo_read_236 rfl ?_
                      refine lk_icmp_ne (tgt := 303) d_Mo_read_238 (by decide) (fun hc => ?_) (fun hc => ?_)
                      · replace h := x_ifn hc h
                        refine lk_iconst (v := 0) d_Mo_read_303 rfl ?_
                        cases h
                        exact Lk.stop ⟨rfl, Or.inr (Or.inl ⟨_, _, d_Mo_read_304, rfl, rfl, rfl, rfl⟩)⟩
                      · replace h := x_ifp hc h
                        refine lk_aload_n d_Mo_read_241 rfl ?_
                        refine lk_iload_n d_Mo_read_242 rfl ?_
                        obtain ⟨p147, hp147, h⟩ := x_b h
                        refine lk_callS0 d_Mo_read_243 (c_Mo_isLetter hp147) (Nat.le_of_ble_eq_true rfl) rfl M_Mo_isLetter lm_Mo_136 st_Mo_isLetter (Nat.le_of_ble_eq_true rfl) ?_
                        obtain ⟨t148, hj, h⟩ := x_b h
                        refine Lk.joinA 275 [0, 1, 2, 3, 4] [] rfl 1 [vI t148] ?_ ?_
                        · replace h := hj
                          refine lk_if_eq (tgt := 253) d_Mo_read_246 (by decide) (fun hc => ?_) (fun hc => ?_)
                          · replace h := x_ifp hc h
                            refine lk_iload_n d_Mo_read_253 rfl ?_
                            refine lk_bipush (v := 46) d_Mo_read_254 rfl ?_
                            refine lk_icmp_ne (tgt := 263) d_Mo_read_256 (by decide) (fun hc => ?_) (fun hc => ?_)
                            · replace h := x_ifn hc h
                              refine lk_iload_n d_Mo_read_263 rfl ?_
                              refine lk_bipush (v := 94) d_Mo_read_264 rfl ?_
                              refine lk_icmp_ne (tgt := 273) d_Mo_read_266 (by decide) (fun hc => ?_) (fun hc => ?_)
                              · replace h := x_ifn hc h
                                refine lk_bipush (v := 6) d_Mo_read_273 rfl ?_
                                cases h
                                refine Lk.sel [0, 1, 2, 3, 4] rfl ?_
                                exact Lk.stop ⟨rfl, rfl, rfl, rfl, rfl, rfl⟩
                              · replace h := x_ifp hc h
                                refine lk_iconst (v := 5) d_Mo_read_269 rfl ?_
                                refine lk_goto (tgt := 275) d_Mo_read_270 (by decide) ?_
                                cases h
                                refine Lk.sel [0, 1, 2, 3, 4] rfl ?_
                                exact Lk.stop ⟨rfl, rfl, rfl, rfl, rfl, rfl⟩
                            · replace h := x_ifp hc h
                              refine lk_iconst (v := 1) d_Mo_read_259 rfl ?_
                              refine lk_goto (tgt := 275) d_Mo_read_260 (by decide) ?_
                              cases h
                              refine Lk.sel [0, 1, 2, 3, 4] rfl ?_
                              exact Lk.stop ⟨rfl, rfl, rfl, rfl, rfl, rfl⟩
                          · replace h := x_ifn hc h
                            refine lk_iconst (v := 0) d_Mo_read_249 rfl ?_
                            refine lk_goto (tgt := 275) d_Mo_read_250 (by decide) ?_
                            cases h
                            refine Lk.sel [0, 1, 2, 3, 4] rfl ?_
                            exact Lk.stop ⟨rfl, rfl, rfl, rfl, rfl, rfl⟩
                        · clear hj
                          refine lk_iload_n d_Mo_read_275 rfl ?_
                          obtain ⟨p149, hp149, h⟩ := x_b h
                          refine lk_callS0 d_Mo_read_276 (c_Mo_isLetter hp149) (Nat.le_of_ble_eq_true rfl) rfl M_Mo_isLetter lm_Mo_136 st_Mo_isLetter (Nat.le_of_ble_eq_true rfl) ?_
                          obtain ⟨t150, hj, h⟩ := x_b h
                          refine Lk.joinA 290 [0, 1, 2, 4] [] rfl 1 [vI t150] ?_ ?_
                          · replace h := hj
                            refine lk_if_eq (tgt := 289) d_Mo_read_279 (by decide) (fun hc => ?_) (fun hc => ?_)
                            · replace h := x_ifp hc h
                              refine lk_iconst (v := 0) d_Mo_read_289 rfl ?_
                              cases h
                              refine Lk.sel [0, 1, 2, 4] rfl ?_
                              exact Lk.stop ⟨rfl, rfl, rfl, rfl, rfl, rfl⟩
                            · replace h := x_ifn hc h
                              refine lk_iload_n d_Mo_read_282 rfl ?_
                              refine lk_bipush (v := 97) d_Mo_read_283 rfl ?_
                              refine lk_isub d_Mo_read_285 ?_
                              refine lk_goto (tgt := 290) d_Mo_read_286 (by decide) ?_
                              cases h
                              refine Lk.sel [0, 1, 2, 4] rfl ?_
                              exact Lk.stop ⟨rfl, rfl, rfl, rfl, rfl, rfl⟩
                          · clear hj
                            refine lk_iconst (v := 0) d_Mo_read_290 rfl ?_
                            obtain ⟨a151, ha151, h⟩ := x_b h
                            obtain ⟨p152, hp152, h⟩ := x_b h
                            refine lk_callV0 d_Mo_read_291 (x_obm ha151 rfl) (c_Mo_emit hp152) (Nat.le_of_ble_eq_true rfl) rfl M_Mo_emit lm_Mo_122 in_Mo_emit se_Mo_emit (by decide) rfl (Nat.le_of_ble_eq_true rfl) ?_
                            refine lk_aload_n d_Mo_read_294 rfl ?_
                            refine lk_iload d_Mo_read_295 rfl ?_
                            obtain ⟨a153, ha153, h⟩ := x_b h
                            obtain ⟨p154, hp154, h⟩ := x_b h
                            refine lk_callV0 d_Mo_read_297 (x_obm ha153 rfl) (c_Mo_sign hp154) (Nat.le_of_ble_eq_true rfl) rfl M_Mo_sign lm_Mo_133 in_Mo_sign se_Mo_sign (by decide) rfl (Nat.le_of_ble_eq_true rfl) ?_
                            refine lk_goto (tgt := 305) d_Mo_read_300 (by decide) ?_
                            refine lk_goto (tgt := 21) d_Mo_read_305 (by decide) ?_
                            refine Lk.sel [0, 1, 2] rfl ?_
                            exact ih _ _ _ _ _ h
              · replace h := x_ifn hc h
                refine lk_aload_n d_Mo_read_175 rfl ?_
                refine lk_iload_n d_Mo_read_176 rfl ?_
                obtain ⟨p155, hp155, h⟩ := x_b h
                refine lk_callV0 d_Mo_read_177 (x_obm ha7 rfl) (c_Mo_land hp155) (Nat.le_of_ble_eq_true rfl) rfl M_Mo_land lm_Mo_130 in_Mo_land se_Mo_land (by decide) rfl (Nat.le_of_ble_eq_true rfl) ?_
                refine lk_aload_n d_Mo_read_180 rfl ?_
                refine lk_iconst (v := 4) d_Mo_read_181 rfl ?_
                refine lk_iconst (v := 2) d_Mo_read_182 rfl ?_
                refine lk_aload_n d_Mo_read_183 rfl ?_
                obtain ⟨a156, ha156, h⟩ := x_b h
                refine lk_getR (k := 43) d_Mo_read_184 ha156 (by decide) rfl (by decide) lf_Mo_93 rfl ?_
                refine lk_iload_n d_Mo_read_187 rfl ?_
                obtain ⟨q157, hq157, h⟩ := x_b h
                obtain ⟨k158, hk158, h⟩ := x_b h
                refine lk_iald d_Mo_read_188 hq157 hk158 ?_
                refine lk_imul d_Mo_read_189 ?_
                refine lk_iconst (v := 1) d_Mo_read_190 rfl ?_
                refine lk_iadd d_Mo_read_191 ?_
                refine lk_iconst (v := 0) d_Mo_read_192 rfl ?_
                obtain ⟨p159, hp159, h⟩ := x_b h
                refine lk_callV0 d_Mo_read_193 (x_obm ha156 rfl) (c_Mo_emit hp159) (Nat.le_of_ble_eq_true rfl) rfl M_Mo_emit lm_Mo_122 in_Mo_emit se_Mo_emit (by decide) rfl (Nat.le_of_ble_eq_true rfl) ?_
                refine lk_aload_n d_Mo_read_196 rfl ?_
                obtain ⟨a160, ha160, h⟩ := x_b h
                refine lk_getR (k := 42) d_Mo_read_197 ha160 (by decide) rfl (by decide) lf_Mo_90 rfl ?_
                refine lk_iload_n d_Mo_read_200 rfl ?_
                obtain ⟨q161, hq161, h⟩ := x_b h
                obtain ⟨k162, hk162, h⟩ := x_b h
                refine lk_iald d_Mo_read_201 hq161 hk162 ?_
                replace h := x_nm h
                refine lk_istore d_Mo_read_202 (by decide) rfl ?_
                refine lk_iinc (v := _ + (-1)) d_Mo_read_204 rfl rfl (by decide) rfl ?_
                refine lk_aload_n d_Mo_read_207 rfl ?_
                refine lk_iload d_Mo_read_208 rfl ?_
                obtain ⟨p164, hp164, h⟩ := x_b h
                refine lk_callV0 d_Mo_read_210 (x_obm ha160 rfl) (c_Mo_sign hp164) (Nat.le_of_ble_eq_true rfl) rfl M_Mo_sign lm_Mo_133 in_Mo_sign se_Mo_sign (by decide) rfl (Nat.le_of_ble_eq_true rfl) ?_
                refine lk_goto (tgt := 305) d_Mo_read_213 (by decide) ?_
                refine lk_goto (tgt := 21) d_Mo_read_305 (by decide) ?_
                refine Lk.sel [0, 1, 2] rfl ?_
                exact ih _ _ _ _ _ h
          · replace h := x_ifn hc h
            refine lk_iinc (v := _ + 1) d_Mo_read_122 rfl rfl (by decide) rfl ?_
            refine lk_aload_n d_Mo_read_125 rfl ?_
            refine lk_iconst (v := 4) d_Mo_read_126 rfl ?_
            refine lk_iconst (v := 2) d_Mo_read_127 rfl ?_
            refine lk_iload_n d_Mo_read_128 rfl ?_
            refine lk_imul d_Mo_read_129 ?_
            refine lk_iconst (v := 0) d_Mo_read_130 rfl ?_
            obtain ⟨p165, hp165, h⟩ := x_b h
            refine lk_callV0 d_Mo_read_131 (x_obm ha7 rfl) (c_Mo_emit hp165) (Nat.le_of_ble_eq_true rfl) rfl M_Mo_emit lm_Mo_122 in_Mo_emit se_Mo_emit (by decide) rfl (Nat.le_of_ble_eq_true rfl) ?_
            refine lk_iinc (v := _ + 1) d_Mo_read_134 rfl rfl (by decide) rfl ?_
            refine lk_aload_n d_Mo_read_137 rfl ?_
            obtain ⟨a166, ha166, h⟩ := x_b h
            refine lk_getR (k := 42) d_Mo_read_138 ha166 (by decide) rfl (by decide) lf_Mo_90 rfl ?_
            refine lk_iload_n d_Mo_read_141 rfl ?_
            refine lk_iload d_Mo_read_142 rfl ?_
            obtain ⟨q167, hq167, h⟩ := x_b h
            obtain ⟨k168, hk168, h⟩ := x_b h
            replace h := x_nm h
            refine lk_iast d_Mo_read_144 hq167 hk168 ?_
            refine lk_aload_n d_Mo_read_145 rfl ?_
            refine lk_getR (k := 43) d_Mo_read_146 ha166 (by decide) rfl (by decide) lf_Mo_93 rfl ?_
            refine lk_iload_n d_Mo_read_149 rfl ?_
            refine lk_iload_n d_Mo_read_150 rfl ?_
            obtain ⟨q170, hq170, h⟩ := x_b h
            obtain ⟨k171, hk171, h⟩ := x_b h
            replace h := x_nm h
            refine lk_iast d_Mo_read_151 hq170 hk171 ?_
            refine lk_aload_n d_Mo_read_152 rfl ?_
            refine lk_getR (k := 41) d_Mo_read_153 ha166 (by decide) rfl (by decide) lf_Mo_87 rfl ?_
            refine lk_iload_n d_Mo_read_156 rfl ?_
            refine lk_aload_n d_Mo_read_157 rfl ?_
            refine lk_getI (k := 10) d_Mo_read_158 ha166 (by decide) rfl (by decide) lf_Mo_115 rfl ?_
            obtain ⟨q173, hq173, h⟩ := x_b h
            obtain ⟨k174, hk174, h⟩ := x_b h
            replace h := x_nm h
            refine lk_iast d_Mo_read_161 hq173 hk174 ?_
            refine lk_goto (tgt := 305) d_Mo_read_162 (by decide) ?_
            refine lk_goto (tgt := 21) d_Mo_read_305 (by decide) ?_
            refine Lk.sel [0, 1, 2] rfl ?_
            exact ih _ _ _ _ _ h
      · replace h := x_ifp hc h
        refine lk_aload_n d_Mo_read_64 rfl ?_
        refine lk_aload_n d_Mo_read_65 rfl ?_
        refine lk_getR (k := 41) d_Mo_read_66 ha7 (by decide) rfl (by decide) lf_Mo_87 rfl ?_
        refine lk_iload_n d_Mo_read_69 rfl ?_
        obtain ⟨q176, hq176, h⟩ := x_b h
        obtain ⟨k177, hk177, h⟩ := x_b h
        refine lk_iald d_Mo_read_70 hq176 hk177 ?_
        obtain ⟨p178, hp178, h⟩ := x_b h
        refine lk_callV0 d_Mo_read_71 (x_obm ha7 rfl) (c_Mo_push hp178) (Nat.le_of_ble_eq_true rfl) rfl M_Mo_push lm_Mo_126 in_Mo_push se_Mo_push (by decide) rfl (Nat.le_of_ble_eq_true rfl) ?_
        refine lk_aload_n d_Mo_read_74 rfl ?_
        refine lk_iconst (v := 3) d_Mo_read_75 rfl ?_
        refine lk_iconst (v := (-1)) d_Mo_read_76 rfl ?_
        refine lk_iload_n d_Mo_read_77 rfl ?_
        refine lk_isub d_Mo_read_78 ?_
        refine lk_iconst (v := 0) d_Mo_read_79 rfl ?_
        obtain ⟨a179, ha179, h⟩ := x_b h
        obtain ⟨p180, hp180, h⟩ := x_b h
        refine lk_callV0 d_Mo_read_80 (x_obm ha179 rfl) (c_Mo_emit hp180) (Nat.le_of_ble_eq_true rfl) rfl M_Mo_emit lm_Mo_122 in_Mo_emit se_Mo_emit (by decide) rfl (Nat.le_of_ble_eq_true rfl) ?_
        refine lk_aload_n d_Mo_read_83 rfl ?_
        obtain ⟨a181, ha181, h⟩ := x_b h
        refine lk_getR (k := 13) d_Mo_read_84 ha181 (by decide) rfl (by decide) lf_Mo_31 rfl ?_
        refine lk_aload_n d_Mo_read_87 rfl ?_
        refine lk_getR (k := 41) d_Mo_read_88 ha181 (by decide) rfl (by decide) lf_Mo_87 rfl ?_
        refine lk_iload_n d_Mo_read_91 rfl ?_
        obtain ⟨q182, hq182, h⟩ := x_b h
        obtain ⟨k183, hk183, h⟩ := x_b h
        refine lk_iald d_Mo_read_92 hq182 hk183 ?_
        refine lk_aload_n d_Mo_read_93 rfl ?_
        refine lk_getI (k := 10) d_Mo_read_94 ha181 (by decide) rfl (by decide) lf_Mo_115 rfl ?_
        obtain ⟨q184, hq184, h⟩ := x_b h
        obtain ⟨k185, hk185, h⟩ := x_b h
        replace h := x_nm h
        refine lk_iast d_Mo_read_97 hq184 hk185 ?_
        refine lk_aload_n d_Mo_read_98 rfl ?_
        refine lk_getR (k := 41) d_Mo_read_99 ha181 (by decide) rfl (by decide) lf_Mo_87 rfl ?_
        refine lk_iload_n d_Mo_read_102 rfl ?_
        refine lk_aload_n d_Mo_read_103 rfl ?_
        refine lk_getI (k := 10) d_Mo_read_104 ha181 (by decide) rfl (by decide) lf_Mo_115 rfl ?_
        obtain ⟨q187, hq187, h⟩ := x_b h
        obtain ⟨k188, hk188, h⟩ := x_b h
        replace h := x_nm h
        refine lk_iast d_Mo_read_107 hq187 hk188 ?_
        refine lk_goto (tgt := 305) d_Mo_read_108 (by decide) ?_
        refine lk_goto (tgt := 21) d_Mo_read_305 (by decide) ?_
        refine Lk.sel [0, 1, 2] rfl ?_
        exact ih _ _ _ _ _ h
def f_Mo_read (z0 : Nat) (s : hv_S) : Option (Int32 × hv_S) :=
  (x_ob s 11 ((some z0))).bind fun a1 =>
  (some (hv_setI s a1 10 0)).bind fun s2 =>
  (some (hv_setI s2 a1 14 0)).bind fun s3 =>
  (x_ar s3 0 (hv_R s3 a1 41)).bind fun q4 =>
  (x_ix q4.2 0).bind fun k5 =>
  (some (hv_setI s3 q4.1 k5 0)).bind fun s6 =>
  (L_Mo_read_21 100000 ((some z0)) 0 0 s6).bind fun e190r => e190r.elim (fun e190 =>
    (x_ob e190.2 11 ((some z0))).bind fun a191 =>
    (f_Mo_land a191 0 e190.2).bind fun p192 =>
    (x_ob p192 11 ((some z0))).bind fun a193 =>
    (f_Mo_emit a193 7 0 0 p192).bind fun p194 =>
    ((
      if e190.1 = 0 then
        some 1
      else
        some 0
    ) : Option (Int32)).bind fun t195 =>
    (x_z t195).bind fun z196 =>
    some ((z196, p194))
  ) (fun w => some w)
set_option maxRecDepth 4000 in
set_option maxHeartbeats 2000000 in
theorem c_Mo_read {G : lt_G} {z0 : Nat} {s : hv_S} {p : Int32 × hv_S} (h : f_Mo_read z0 s = some p) : Ck G m_Mo_read 3 0 0 [vR (some z0)] s (some (vI p.1)) p.2 := by
  refine Ck.of (by decide) (Nat.le_of_ble_eq_true rfl) ?_
  unfold f_Mo_read at h
  refine lk_aload_n d_Mo_read_0 rfl ?_
  refine lk_iconst (v := 0) d_Mo_read_1 rfl ?_
  obtain ⟨a1, ha1, h⟩ := x_b h
  replace h := x_nm h
  refine lk_putI (k := 10) d_Mo_read_2 ha1 (by decide) rfl (by decide) lf_Mo_115 rfl rfl ?_
  refine lk_aload_n d_Mo_read_5 rfl ?_
  refine lk_iconst (v := 0) d_Mo_read_6 rfl ?_
  replace h := x_nm h
  refine lk_putI (k := 14) d_Mo_read_7 ha1 (by decide) rfl (by decide) lf_Mo_112 rfl rfl ?_
  refine lk_iconst (v := 0) d_Mo_read_10 rfl ?_
  refine lk_istore_n d_Mo_read_11 (by decide) rfl ?_
  refine lk_iconst (v := 0) d_Mo_read_12 rfl ?_
  refine lk_istore_n d_Mo_read_13 (by decide) rfl ?_
  refine lk_aload_n d_Mo_read_14 rfl ?_
  refine lk_getR (k := 41) d_Mo_read_15 ha1 (by decide) rfl (by decide) lf_Mo_87 rfl ?_
  refine lk_iconst (v := 0) d_Mo_read_18 rfl ?_
  refine lk_iconst (v := 0) d_Mo_read_19 rfl ?_
  obtain ⟨q4, hq4, h⟩ := x_b h
  obtain ⟨k5, hk5, h⟩ := x_b h
  replace h := x_nm h
  refine lk_iast d_Mo_read_20 hq4 hk5 ?_
  obtain ⟨e190r, hl, h⟩ := x_b h
  refine Lk.sel [0, 1, 2] rfl ?_
  refine Lk.trans (l_Mo_read_21 _ _ _ _ _ _ hl) ?_
  intro pc' lo' st' s' mc' ms' hx
  cases e190r with
  | inl e190 =>
    obtain ⟨rfl, rfl, rfl, rfl, rfl, rfl⟩ := hx
    refine lk_aload_n d_Mo_read_308 rfl ?_
    refine lk_iconst (v := 0) d_Mo_read_309 rfl ?_
    obtain ⟨a191, ha191, h⟩ := x_b h
    obtain ⟨p192, hp192, h⟩ := x_b h
    refine lk_callV0 d_Mo_read_310 (x_obm ha191 rfl) (c_Mo_land hp192) (Nat.le_of_ble_eq_true rfl) rfl M_Mo_land lm_Mo_130 in_Mo_land se_Mo_land (by decide) rfl (Nat.le_of_ble_eq_true rfl) ?_
    refine lk_aload_n d_Mo_read_313 rfl ?_
    refine lk_bipush (v := 7) d_Mo_read_314 rfl ?_
    refine lk_iconst (v := 0) d_Mo_read_316 rfl ?_
    refine lk_iconst (v := 0) d_Mo_read_317 rfl ?_
    obtain ⟨a193, ha193, h⟩ := x_b h
    obtain ⟨p194, hp194, h⟩ := x_b h
    refine lk_callV0 d_Mo_read_318 (x_obm ha193 rfl) (c_Mo_emit hp194) (Nat.le_of_ble_eq_true rfl) rfl M_Mo_emit lm_Mo_122 in_Mo_emit se_Mo_emit (by decide) rfl (Nat.le_of_ble_eq_true rfl) ?_
    refine lk_iload_n d_Mo_read_321 rfl ?_
    obtain ⟨t195, hj, h⟩ := x_b h
    refine Lk.joinA 330 [] [] rfl 1 [vI t195] ?_ ?_
    · replace h := hj
      refine lk_if_ne (tgt := 329) d_Mo_read_322 (by decide) (fun hc => ?_) (fun hc => ?_)
      · replace h := x_ifn hc h
        refine lk_iconst (v := 0) d_Mo_read_329 rfl ?_
        cases h
        refine Lk.sel [] rfl ?_
        exact Lk.stop ⟨rfl, rfl, rfl, rfl, rfl, rfl⟩
      · replace h := x_ifp hc h
        refine lk_iconst (v := 1) d_Mo_read_325 rfl ?_
        refine lk_goto (tgt := 330) d_Mo_read_326 (by decide) ?_
        cases h
        refine Lk.sel [] rfl ?_
        exact Lk.stop ⟨rfl, rfl, rfl, rfl, rfl, rfl⟩
    · clear hj
      obtain ⟨z196, hz1960, h⟩ := x_b h
      obtain ⟨rfl, hz196⟩ := x_z_some hz1960
      cases h
      exact Lk.stop ⟨rfl, Or.inr (Or.inl ⟨_, _, d_Mo_read_330, rfl, x_zn hz196, rfl, rfl⟩)⟩
  | inr w =>
    cases h
    exact Lk.stop hx
def L_Mo_isSingle_19 : Nat → Option Nat → Int32 → Int32 → hv_S → Option ((hv_S) ⊕ (Int32 × hv_S))
  | 0, _, _, _, _ => none
  | n + 1, x0, x2, x3, s =>
    if x3 = ((-1)) then
      some (.inl s)
    else
      (x_ob s 11 x0).bind fun a4 =>
      (x_ar s 0 (hv_R s a4 17)).bind fun q5 =>
      (x_ix q5.2 x3).bind fun k6 =>
      if (hv_I s q5.1 k6) = (hv_I s a4 16) then
        some (.inr ((0, s)))
      else
        (x_ix q5.2 x3).bind fun k7 =>
        (some (hv_setI s q5.1 k7 (hv_I s a4 16))).bind fun s8 =>
        (x_ar s8 0 (hv_R s8 a4 7)).bind fun q9 =>
        (x_ix q9.2 x3).bind fun k10 =>
        (some (hv_I s8 q9.1 k10)).bind fun y11 =>
        if 1 < y11 then
          ((
            if y11 = 2 then
              (x_ar s8 0 (hv_R s8 a4 9)).bind fun q12 =>
              (x_ix q12.2 x3).bind fun k13 =>
              (x_ar s8 0 (hv_R s8 a4 19)).bind fun q14 =>
              (x_ix q14.2 (hv_I s8 a4 18)).bind fun k15 =>
              (some (hv_setI s8 q14.1 k15 (hv_I s8 q12.1 k13))).bind fun s16 =>
              (some (hv_setI s16 a4 18 ((hv_I s16 a4 18) + (1 : Int32)))).bind fun s17 =>
              some s17
            else
              some s8
          ) : Option (hv_S)).bind fun t18 =>
          ((
            if y11 = 2 then
              (x_ob t18 11 x0).bind fun a19 =>
              (x_ar t18 0 (hv_R t18 a19 8)).bind fun q20 =>
              (x_ix q20.2 x3).bind fun k21 =>
              (some (hv_I t18 q20.1 k21)).bind fun y22 =>
              some y22
            else
              if y11 = 3 then
                (x_ob t18 11 x0).bind fun a23 =>
                (x_ar t18 0 (hv_R t18 a23 8)).bind fun q24 =>
                (x_ix q24.2 x3).bind fun k25 =>
                (some (hv_I t18 q24.1 k25)).bind fun y26 =>
                some y26
              else
                if y11 = 4 then
                  some (x3 + 1)
                else
                  if y11 = 5 then
                    some (x3 + 1)
                  else
                    if y11 = 6 then
                      some (x3 + 1)
                    else
                      some ((-1))
          ) : Option (Int32)).bind fun t27 =>
          if t27 = ((-1)) then
            (x_ob t18 11 x0).bind fun a28 =>
            if (hv_I t18 a28 18) = 0 then
              L_Mo_isSingle_19 n x0 x2 t27 t18
            else
              (some (hv_setI t18 a28 18 ((hv_I t18 a28 18) - (1 : Int32)))).bind fun s29 =>
              (x_ar s29 0 (hv_R s29 a28 19)).bind fun q30 =>
              (x_ix q30.2 (hv_I s29 a28 18)).bind fun k31 =>
              (some (hv_I s29 q30.1 k31)).bind fun y32 =>
              L_Mo_isSingle_19 n x0 x2 y32 s29
          else
            L_Mo_isSingle_19 n x0 x2 t27 t18
        else
          ((
            if y11 = 1 then
              some 255
            else
              (x_ar s8 0 (hv_R s8 a4 8)).bind fun q33 =>
              (x_ix q33.2 x3).bind fun k34 =>
              some ((1 : Int32) <<< ((hv_I s8 q33.1 k34) &&& 31))
          ) : Option (Int32)).bind fun t35 =>
          if (x2 &&& t35) = 0 then
            ((
              if y11 = 2 then
                (x_ar s8 0 (hv_R s8 a4 9)).bind fun q36 =>
                (x_ix q36.2 x3).bind fun k37 =>
                (x_ar s8 0 (hv_R s8 a4 19)).bind fun q38 =>
                (x_ix q38.2 (hv_I s8 a4 18)).bind fun k39 =>
                (some (hv_setI s8 q38.1 k39 (hv_I s8 q36.1 k37))).bind fun s40 =>
                (some (hv_setI s40 a4 18 ((hv_I s40 a4 18) + (1 : Int32)))).bind fun s41 =>
                some s41
              else
                some s8
            ) : Option (hv_S)).bind fun t42 =>
            ((
              if y11 = 2 then
                (x_ob t42 11 x0).bind fun a43 =>
                (x_ar t42 0 (hv_R t42 a43 8)).bind fun q44 =>
                (x_ix q44.2 x3).bind fun k45 =>
                (some (hv_I t42 q44.1 k45)).bind fun y46 =>
                some y46
              else
                if y11 = 3 then
                  (x_ob t42 11 x0).bind fun a47 =>
                  (x_ar t42 0 (hv_R t42 a47 8)).bind fun q48 =>
                  (x_ix q48.2 x3).bind fun k49 =>
                  (some (hv_I t42 q48.1 k49)).bind fun y50 =>
                  some y50
                else
                  if y11 = 4 then
                    some (x3 + 1)
                  else
                    if y11 = 5 then
                      some (x3 + 1)
                    else
                      if y11 = 6 then
                        some (x3 + 1)
                      else
                        some ((-1))
            ) : Option (Int32)).bind fun t51 =>
            if t51 = ((-1)) then
              (x_ob t42 11 x0).bind fun a52 =>
              if (hv_I t42 a52 18) = 0 then
                L_Mo_isSingle_19 n x0 (x2 ||| t35) t51 t42
              else
                (some (hv_setI t42 a52 18 ((hv_I t42 a52 18) - (1 : Int32)))).bind fun s53 =>
                (x_ar s53 0 (hv_R s53 a52 19)).bind fun q54 =>
                (x_ix q54.2 (hv_I s53 a52 18)).bind fun k55 =>
                (some (hv_I s53 q54.1 k55)).bind fun y56 =>
                L_Mo_isSingle_19 n x0 (x2 ||| t35) y56 s53
            else
              L_Mo_isSingle_19 n x0 (x2 ||| t35) t51 t42
          else
            some (.inr ((0, s8)))
set_option maxRecDepth 4000 in
set_option maxHeartbeats 2000000 in
theorem l_Mo_isSingle_19 {G : lt_G} : ∀ (n : Nat) (x0 : Option Nat) (x2 : Int32) (x3 : Int32) (s : hv_S) (e0 : (hv_S) ⊕ (Int32 × hv_S)), L_Mo_isSingle_19 n x0 x2 x3 s = some e0 → Lk G m_Mo_isSingle 1 19 [(0, vR x0), (2, vI x2), (3, vI x3)] [] s 0 0 (fun a b c d e f => match e0 with | .inl t => lk_at 217 [] [] t 0 0 a b c d e f | .inr w => lk_end m_Mo_isSingle (some (vI w.1)) w.2 a b c d e f) := by
  intro n
  induction n with
  | zero => intro x0 x2 x3 s e0 h; cases h
  | succ n ih =>
    intro x0 x2 x3 s e0 h
    unfold L_Mo_isSingle_19 at h
    refine lk_iload_n d_Mo_isSingle_19 rfl ?_
    refine lk_iconst (v := (-1)) d_Mo_isSingle_20 rfl ?_
    refine lk_icmp_eq (tgt := 217) d_Mo_isSingle_21 (by decide) (fun hc => ?_) (fun hc => ?_)
    · replace h := x_ifp hc h
      cases h
      refine Lk.sel [] rfl ?_
      exact Lk.stop ⟨rfl, rfl, rfl, rfl, rfl, rfl⟩
    · replace h := x_ifn hc h
      refine lk_aload_n d_Mo_isSingle_24 rfl ?_
      obtain ⟨a4, ha4, h⟩ := x_b h
      refine lk_getR (k := 17) d_Mo_isSingle_25 ha4 (by decide) rfl (by decide) lf_Mo_34 rfl ?_
      refine lk_iload_n d_Mo_isSingle_28 rfl ?_
      obtain ⟨q5, hq5, h⟩ := x_b h
      obtain ⟨k6, hk6, h⟩ := x_b h
      refine lk_iald d_Mo_isSingle_29 hq5 hk6 ?_
      refine lk_aload_n d_Mo_isSingle_30 rfl ?_
      refine lk_getI (k := 16) d_Mo_isSingle_31 ha4 (by decide) rfl (by decide) lf_Mo_166 rfl ?_
      refine lk_icmp_ne (tgt := 39) d_Mo_isSingle_34 (by decide) (fun hc => ?_) (fun hc => ?_)
      · replace h := x_ifn hc h
        refine lk_aload_n d_Mo_isSingle_39 rfl ?_
        refine lk_getR (k := 17) d_Mo_isSingle_40 ha4 (by decide) rfl (by decide) lf_Mo_34 rfl ?_
        refine lk_iload_n d_Mo_isSingle_43 rfl ?_
        refine lk_aload_n d_Mo_isSingle_44 rfl ?_
        refine lk_getI (k := 16) d_Mo_isSingle_45 ha4 (by decide) rfl (by decide) lf_Mo_166 rfl ?_
        obtain ⟨k7, hk7, h⟩ := x_b h
        replace h := x_nm h
        refine lk_iast d_Mo_isSingle_48 hq5 hk7 ?_
        refine lk_aload_n d_Mo_isSingle_49 rfl ?_
        refine lk_getR (k := 7) d_Mo_isSingle_50 ha4 (by decide) rfl (by decide) lf_Mo_16 rfl ?_
        refine lk_iload_n d_Mo_isSingle_53 rfl ?_
        obtain ⟨q9, hq9, h⟩ := x_b h
        obtain ⟨k10, hk10, h⟩ := x_b h
        refine lk_iald d_Mo_isSingle_54 hq9 hk10 ?_
        replace h := x_nm h
        refine lk_istore d_Mo_isSingle_55 (by decide) rfl ?_
        refine lk_iload d_Mo_isSingle_57 rfl ?_
        refine lk_iconst (v := 1) d_Mo_isSingle_59 rfl ?_
        refine lk_icmp_gt (tgt := 99) d_Mo_isSingle_60 (by decide) (fun hc => ?_) (fun hc => ?_)
        · replace h := x_ifp hc h
          refine lk_iload d_Mo_isSingle_99 rfl ?_
          refine lk_iconst (v := 2) d_Mo_isSingle_101 rfl ?_
          obtain ⟨t18, hj, h⟩ := x_b h
          refine Lk.joinS 130 [0, 2, 3, 4] [] rfl 2 [] t18 ?_ ?_
          · replace h := hj
            refine lk_icmp_ne (tgt := 130) d_Mo_isSingle_102 (by decide) (fun hc => ?_) (fun hc => ?_)
            · replace h := x_ifn hc h
              cases h
              refine Lk.sel [0, 2, 3, 4] rfl ?_
              exact Lk.stop ⟨rfl, rfl, rfl, rfl, rfl, rfl⟩
            · replace h := x_ifp hc h
              refine lk_aload_n d_Mo_isSingle_105 rfl ?_
              refine lk_getR (k := 19) d_Mo_isSingle_106 ha4 (by decide) rfl (by decide) lf_Mo_37 rfl ?_
              refine lk_aload_n d_Mo_isSingle_109 rfl ?_
              refine lk_getI (k := 18) d_Mo_isSingle_110 ha4 (by decide) rfl (by decide) lf_Mo_169 rfl ?_
              refine lk_aload_n d_Mo_isSingle_113 rfl ?_
              refine lk_getR (k := 9) d_Mo_isSingle_114 ha4 (by decide) rfl (by decide) lf_Mo_22 rfl ?_
              refine lk_iload_n d_Mo_isSingle_117 rfl ?_
              obtain ⟨q12, hq12, h⟩ := x_b h
              obtain ⟨k13, hk13, h⟩ := x_b h
              refine lk_iald d_Mo_isSingle_118 hq12 hk13 ?_
              obtain ⟨q14, hq14, h⟩ := x_b h
              obtain ⟨k15, hk15, h⟩ := x_b h
              replace h := x_nm h
              refine lk_iast d_Mo_isSingle_119 hq14 hk15 ?_
              refine lk_aload_n d_Mo_isSingle_120 rfl ?_
              refine lk_dup d_Mo_isSingle_121 rfl ?_
              refine lk_getI (k := 18) d_Mo_isSingle_122 ha4 (by decide) rfl (by decide) lf_Mo_169 rfl ?_
              refine lk_iconst (v := 1) d_Mo_isSingle_125 rfl ?_
              refine lk_iadd d_Mo_isSingle_126 ?_
              replace h := x_nm h
              refine lk_putI (k := 18) d_Mo_isSingle_127 ha4 (by decide) rfl (by decide) lf_Mo_169 rfl rfl ?_
              cases h
              refine Lk.sel [0, 2, 3, 4] rfl ?_
              exact Lk.stop ⟨rfl, rfl, rfl, rfl, rfl, rfl⟩
          · clear hj
            refine lk_iload d_Mo_isSingle_130 rfl ?_
            refine lk_iconst (v := 2) d_Mo_isSingle_132 rfl ?_
            obtain ⟨t27, hj, h⟩ := x_b h
            refine Lk.joinA 179 [0, 2, 3] [(3, vI t27)] rfl 2 [] ?_ ?_
            · replace h := hj
              refine lk_icmp_eq (tgt := 142) d_Mo_isSingle_133 (by decide) (fun hc => ?_) (fun hc => ?_)
              · replace h := x_ifp hc h
                refine lk_aload_n d_Mo_isSingle_142 rfl ?_
                obtain ⟨a19, ha19, h⟩ := x_b h
                refine lk_getR (k := 8) d_Mo_isSingle_143 ha19 (by decide) rfl (by decide) lf_Mo_19 rfl ?_
                refine lk_iload_n d_Mo_isSingle_146 rfl ?_
                obtain ⟨q20, hq20, h⟩ := x_b h
                obtain ⟨k21, hk21, h⟩ := x_b h
                refine lk_iald d_Mo_isSingle_147 hq20 hk21 ?_
                replace h := x_nm h
                refine lk_istore_n d_Mo_isSingle_148 (by decide) rfl ?_
                refine lk_goto (tgt := 179) d_Mo_isSingle_149 (by decide) ?_
                cases h
                refine Lk.sel [0, 2, 3] rfl ?_
                exact Lk.stop ⟨rfl, rfl, rfl, rfl, rfl, rfl⟩
              · replace h := x_ifn hc h
                refine lk_iload d_Mo_isSingle_136 rfl ?_
                refine lk_iconst (v := 3) d_Mo_isSingle_138 rfl ?_
                refine lk_icmp_ne (tgt := 152) d_Mo_isSingle_139 (by decide) (fun hc => ?_) (fun hc => ?_)
                · replace h := x_ifn hc h
                  refine lk_iload d_Mo_isSingle_152 rfl ?_
                  refine lk_iconst (v := 4) d_Mo_isSingle_154 rfl ?_
                  refine lk_icmp_eq (tgt := 171) d_Mo_isSingle_155 (by decide) (fun hc => ?_) (fun hc => ?_)
                  · replace h := x_ifp hc h
                    refine lk_iinc (v := _ + 1) d_Mo_isSingle_171 rfl rfl (by decide) rfl ?_
                    refine lk_goto (tgt := 179) d_Mo_isSingle_174 (by decide) ?_
                    cases h
                    refine Lk.sel [0, 2, 3] rfl ?_
                    exact Lk.stop ⟨rfl, rfl, rfl, rfl, rfl, rfl⟩
                  · replace h := x_ifn hc h
                    refine lk_iload d_Mo_isSingle_158 rfl ?_
                    refine lk_iconst (v := 5) d_Mo_isSingle_160 rfl ?_
                    refine lk_icmp_eq (tgt := 171) d_Mo_isSingle_161 (by decide) (fun hc => ?_) (fun hc => ?_)
                    · replace h := x_ifp hc h
                      refine lk_iinc (v := _ + 1) d_Mo_isSingle_171 rfl rfl (by decide) rfl ?_
                      refine lk_goto (tgt := 179) d_Mo_isSingle_174 (by decide) ?_
                      cases h
                      refine Lk.sel [0, 2, 3] rfl ?_
                      exact Lk.stop ⟨rfl, rfl, rfl, rfl, rfl, rfl⟩
                    · replace h := x_ifn hc h
                      refine lk_iload d_Mo_isSingle_164 rfl ?_
                      refine lk_bipush (v := 6) d_Mo_isSingle_166 rfl ?_
                      refine lk_icmp_ne (tgt := 177) d_Mo_isSingle_168 (by decide) (fun hc => ?_) (fun hc => ?_)
                      · replace h := x_ifn hc h
                        refine lk_iconst (v := (-1)) d_Mo_isSingle_177 rfl ?_
                        refine lk_istore_n d_Mo_isSingle_178 (by decide) rfl ?_
                        cases h
                        refine Lk.sel [0, 2, 3] rfl ?_
                        exact Lk.stop ⟨rfl, rfl, rfl, rfl, rfl, rfl⟩
                      · replace h := x_ifp hc h
                        refine lk_iinc (v := _ + 1) d_Mo_isSingle_171 rfl rfl (by decide) rfl ?_
                        refine lk_goto (tgt := 179) d_Mo_isSingle_174 (by decide) ?_
                        cases h
                        refine Lk.sel [0, 2, 3] rfl ?_
                        exact Lk.stop ⟨rfl, rfl, rfl, rfl, rfl, rfl⟩
                · replace h := x_ifp hc h
                  refine lk_aload_n d_Mo_isSingle_142 rfl ?_
                  obtain ⟨a23, ha23, h⟩ := x_b h
                  refine lk_getR (k := 8) d_Mo_isSingle_143 ha23 (by decide) rfl (by decide) lf_Mo_19 rfl ?_
                  refine lk_iload_n d_Mo_isSingle_146 rfl ?_
                  obtain ⟨q24, hq24, h⟩ := x_b h
                  obtain ⟨k25, hk25, h⟩ := x_b h
                  refine lk_iald d_Mo_isSingle_147 hq24 hk25 ?_
                  replace h := x_nm h
                  refine lk_istore_n d_Mo_isSingle_148 (by decide) rfl ?_
                  refine lk_goto (tgt := 179) d_Mo_isSingle_149 (by decide) ?_
                  cases h
                  refine Lk.sel [0, 2, 3] rfl ?_
                  exact Lk.stop ⟨rfl, rfl, rfl, rfl, rfl, rfl⟩
            · clear hj
              refine lk_iload_n d_Mo_isSingle_179 rfl ?_
              refine lk_iconst (v := (-1)) d_Mo_isSingle_180 rfl ?_
              refine lk_icmp_ne (tgt := 19) d_Mo_isSingle_181 (by decide) (fun hc => ?_) (fun hc => ?_)
              · replace h := x_ifn hc h
                refine Lk.sel [0, 2, 3] rfl ?_
                exact ih _ _ _ _ _ h
              · replace h := x_ifp hc h
                refine lk_aload_n d_Mo_isSingle_184 rfl ?_
                obtain ⟨a28, ha28, h⟩ := x_b h
                refine lk_getI (k := 18) d_Mo_isSingle_185 ha28 (by decide) rfl (by decide) lf_Mo_169 rfl ?_
                refine lk_if_ne (tgt := 194) d_Mo_isSingle_188 (by decide) (fun hc => ?_) (fun hc => ?_)
                · replace h := x_ifn hc h
                  refine lk_aload_n d_Mo_isSingle_194 rfl ?_
                  refine lk_dup d_Mo_isSingle_195 rfl ?_
                  refine lk_getI (k := 18) d_Mo_isSingle_196 ha28 (by decide) rfl (by decide) lf_Mo_169 rfl ?_
                  refine lk_iconst (v := 1) d_Mo_isSingle_199 rfl ?_
                  refine lk_isub d_Mo_isSingle_200 ?_
                  replace h := x_nm h
                  refine lk_putI (k := 18) d_Mo_isSingle_201 ha28 (by decide) rfl (by decide) lf_Mo_169 rfl rfl ?_
                  refine lk_aload_n d_Mo_isSingle_204 rfl ?_
                  refine lk_getR (k := 19) d_Mo_isSingle_205 ha28 (by decide) rfl (by decide) lf_Mo_37 rfl ?_
                  refine lk_aload_n d_Mo_isSingle_208 rfl ?_
                  refine lk_getI (k := 18) d_Mo_isSingle_209 ha28 (by decide) rfl (by decide) lf_Mo_169 rfl ?_
                  obtain ⟨q30, hq30, h⟩ := x_b h
                  obtain ⟨k31, hk31, h⟩ := x_b h
                  refine lk_iald d_Mo_isSingle_212 hq30 hk31 ?_
                  replace h := x_nm h
                  refine lk_istore_n d_Mo_isSingle_213 (by decide) rfl ?_
                  refine lk_goto (tgt := 19) d_Mo_isSingle_214 (by decide) ?_
                  refine Lk.sel [0, 2, 3] rfl ?_
                  exact ih _ _ _ _ _ h
                · replace h := x_ifp hc h
                  refine lk_goto (tgt := 19) d_Mo_isSingle_191 (by decide) ?_
                  refine Lk.sel [0, 2, 3] rfl ?_
                  exact ih _ _ _ _ _ h
        · replace h := x_ifn hc h
          refine lk_iload d_Mo_isSingle_63 rfl ?_
          refine lk_iconst (v := 1) d_Mo_isSingle_65 rfl ?_
          obtain ⟨t35, hj, h⟩ := x_b h
          refine Lk.joinA 83 [0, 2, 3, 4] [] rfl 2 [vI t35] ?_ ?_
          · replace h := hj
            refine lk_icmp_ne (tgt := 75) d_Mo_isSingle_66 (by decide) (fun hc => ?_) (fun hc => ?_)
            · replace h := x_ifn hc h
              refine lk_iconst (v := 1) d_Mo_isSingle_75 rfl ?_
              refine lk_aload_n d_Mo_isSingle_76 rfl ?_
              refine lk_getR (k := 8) d_Mo_isSingle_77 ha4 (by decide) rfl (by decide) lf_Mo_19 rfl ?_
              refine lk_iload_n d_Mo_isSingle_80 rfl ?_
              obtain ⟨q33, hq33, h⟩ := x_b h
              obtain ⟨k34, hk34, h⟩ := x_b h
              refine lk_iald d_Mo_isSingle_81 hq33 hk34 ?_
              refine lk_ishl d_Mo_isSingle_82 ?_
              cases h
              refine Lk.sel [0, 2, 3, 4] rfl ?_
              exact Lk.stop ⟨rfl, rfl, rfl, rfl, rfl, rfl⟩
            · replace h := x_ifp hc h
              refine lk_sipush (v := 255) d_Mo_isSingle_69 rfl ?_
              refine lk_goto (tgt := 83) d_Mo_isSingle_72 (by decide) ?_
              cases h
              refine Lk.sel [0, 2, 3, 4] rfl ?_
              exact Lk.stop ⟨rfl, rfl, rfl, rfl, rfl, rfl⟩
          · clear hj
            refine lk_istore d_Mo_isSingle_83 (by decide) rfl ?_
            refine lk_iload_n d_Mo_isSingle_85 rfl ?_
            refine lk_iload d_Mo_isSingle_86 rfl ?_
            refine lk_iand d_Mo_isSingle_88 ?_
            refine lk_if_eq (tgt := 94) d_Mo_isSingle_89 (by decide) (fun hc => ?_) (fun hc => ?_)
            · replace h := x_ifp hc h
              refine lk_iload_n d_Mo_isSingle_94 rfl ?_
              refine lk_iload d_Mo_isSingle_95 rfl ?_
              refine lk_ior d_Mo_isSingle_97 ?_
              refine lk_istore_n d_Mo_isSingle_98 (by decide) rfl ?_
              refine lk_iload d_Mo_isSingle_99 rfl ?_
              refine lk_iconst (v := 2) d_Mo_isSingle_101 rfl ?_
              obtain ⟨t42, hj, h⟩ := x_b h
              refine Lk.joinS 130 [0, 2, 3, 4] [] rfl 2 [] t42 ?_ ?_
              · replace h := hj
                refine lk_icmp_ne (tgt := 130) d_Mo_isSingle_102 (by decide) (fun hc => ?_) (fun hc => ?_)
                · replace h := x_ifn hc h
                  cases h
                  refine Lk.sel [0, 2, 3, 4] rfl ?_
                  exact Lk.stop ⟨rfl, rfl, rfl, rfl, rfl, rfl⟩
                · replace h := x_ifp hc h
                  refine lk_aload_n d_Mo_isSingle_105 rfl ?_
                  refine lk_getR (k := 19) d_Mo_isSingle_106 ha4 (by decide) rfl (by decide) lf_Mo_37 rfl ?_
                  refine lk_aload_n d_Mo_isSingle_109 rfl ?_
                  refine lk_getI (k := 18) d_Mo_isSingle_110 ha4 (by decide) rfl (by decide) lf_Mo_169 rfl ?_
                  refine lk_aload_n d_Mo_isSingle_113 rfl ?_
                  refine lk_getR (k := 9) d_Mo_isSingle_114 ha4 (by decide) rfl (by decide) lf_Mo_22 rfl ?_
                  refine lk_iload_n d_Mo_isSingle_117 rfl ?_
                  obtain ⟨q36, hq36, h⟩ := x_b h
                  obtain ⟨k37, hk37, h⟩ := x_b h
                  refine lk_iald d_Mo_isSingle_118 hq36 hk37 ?_
                  obtain ⟨q38, hq38, h⟩ := x_b h
                  obtain ⟨k39, hk39, h⟩ := x_b h
                  replace h := x_nm h
                  refine lk_iast d_Mo_isSingle_119 hq38 hk39 ?_
                  refine lk_aload_n d_Mo_isSingle_120 rfl ?_
                  refine lk_dup d_Mo_isSingle_121 rfl ?_
                  refine lk_getI (k := 18) d_Mo_isSingle_122 ha4 (by decide) rfl (by decide) lf_Mo_169 rfl ?_
                  refine lk_iconst (v := 1) d_Mo_isSingle_125 rfl ?_
                  refine lk_iadd d_Mo_isSingle_126 ?_
                  replace h := x_nm h
                  refine lk_putI (k := 18) d_Mo_isSingle_127 ha4 (by decide) rfl (by decide) lf_Mo_169 rfl rfl ?_
                  cases h
                  refine Lk.sel [0, 2, 3, 4] rfl ?_
                  exact Lk.stop ⟨rfl, rfl, rfl, rfl, rfl, rfl⟩
              · clear hj
                refine lk_iload d_Mo_isSingle_130 rfl ?_
                refine lk_iconst (v := 2) d_Mo_isSingle_132 rfl ?_
                obtain ⟨t51, hj, h⟩ := x_b h
                refine Lk.joinA 179 [0, 2, 3] [(3, vI t51)] rfl 2 [] ?_ ?_
                · replace h := hj
                  refine lk_icmp_eq (tgt := 142) d_Mo_isSingle_133 (by decide) (fun hc => ?_) (fun hc => ?_)
                  · replace h := x_ifp hc h
                    refine lk_aload_n d_Mo_isSingle_142 rfl ?_
                    obtain ⟨a43, ha43, h⟩ := x_b h
                    refine lk_getR (k := 8) d_Mo_isSingle_143 ha43 (by decide) rfl (by decide) lf_Mo_19 rfl ?_
                    refine lk_iload_n d_Mo_isSingle_146 rfl ?_
                    obtain ⟨q44, hq44, h⟩ := x_b h
                    obtain ⟨k45, hk45, h⟩ := x_b h
                    refine lk_iald d_Mo_isSingle_147 hq44 hk45 ?_
                    replace h := x_nm h
                    refine lk_istore_n d_Mo_isSingle_148 (by decide) rfl ?_
                    refine lk_goto (tgt := 179) d_Mo_isSingle_149 (by decide) ?_
                    cases h
                    refine Lk.sel [0, 2, 3] rfl ?_
                    exact Lk.stop ⟨rfl, rfl, rfl, rfl, rfl, rfl⟩
                  · replace h := x_ifn hc h
                    refine lk_iload d_Mo_isSingle_136 rfl ?_
                    refine lk_iconst (v := 3) d_Mo_isSingle_138 rfl ?_
                    refine lk_icmp_ne (tgt := 152) d_Mo_isSingle_139 (by decide) (fun hc => ?_) (fun hc => ?_)
                    · replace h := x_ifn hc h
                      refine lk_iload d_Mo_isSingle_152 rfl ?_
                      refine lk_iconst (v := 4) d_Mo_isSingle_154 rfl ?_
                      refine lk_icmp_eq (tgt := 171) d_Mo_isSingle_155 (by decide) (fun hc => ?_) (fun hc => ?_)
                      · replace h := x_ifp hc h
                        refine lk_iinc (v := _ + 1) d_Mo_isSingle_171 rfl rfl (by decide) rfl ?_
                        refine lk_goto (tgt := 179) d_Mo_isSingle_174 (by decide) ?_
                        cases h
                        refine Lk.sel [0, 2, 3] rfl ?_
                        exact Lk.stop ⟨rfl, rfl, rfl, rfl, rfl, rfl⟩
                      · replace h := x_ifn hc h
                        refine lk_iload d_Mo_isSingle_158 rfl ?_
                        refine lk_iconst (v := 5) d_Mo_isSingle_160 rfl ?_
                        refine lk_icmp_eq (tgt := 171) d_Mo_isSingle_161 (by decide) (fun hc => ?_) (fun hc => ?_)
                        · replace h := x_ifp hc h
                          refine lk_iinc (v := _ + 1) d_Mo_isSingle_171 rfl rfl (by decide) rfl ?_
                          refine lk_goto (tgt := 179) d_Mo_isSingle_174 (by decide) ?_
                          cases h
                          refine Lk.sel [0, 2, 3] rfl ?_
                          exact Lk.stop ⟨rfl, rfl, rfl, rfl, rfl, rfl⟩
                        · replace h := x_ifn hc h
                          refine lk_iload d_Mo_isSingle_164 rfl ?_
                          refine lk_bipush (v := 6) d_Mo_isSingle_166 rfl ?_
                          refine lk_icmp_ne (tgt := 177) d_Mo_isSingle_168 (by decide) (fun hc => ?_) (fun hc => ?_)
                          · replace h := x_ifn hc h
                            refine lk_iconst (v := (-1)) d_Mo_isSingle_177 rfl ?_
                            refine lk_istore_n d_Mo_isSingle_178 (by decide) rfl ?_
                            cases h
                            refine Lk.sel [0, 2, 3] rfl ?_
                            exact Lk.stop ⟨rfl, rfl, rfl, rfl, rfl, rfl⟩
                          · replace h := x_ifp hc h
                            refine lk_iinc (v := _ + 1) d_Mo_isSingle_171 rfl rfl (by decide) rfl ?_
                            refine lk_goto (tgt := 179) d_Mo_isSingle_174 (by decide) ?_
                            cases h
                            refine Lk.sel [0, 2, 3] rfl ?_
                            exact Lk.stop ⟨rfl, rfl, rfl, rfl, rfl, rfl⟩
                    · replace h := x_ifp hc h
                      refine lk_aload_n d_Mo_isSingle_142 rfl ?_
                      obtain ⟨a47, ha47, h⟩ := x_b h
                      refine lk_getR (k := 8) d_Mo_isSingle_143 ha47 (by decide) rfl (by decide) lf_Mo_19 rfl ?_
                      refine lk_iload_n d_Mo_isSingle_146 rfl ?_
                      obtain ⟨q48, hq48, h⟩ := x_b h
                      obtain ⟨k49, hk49, h⟩ := x_b h
                      refine lk_iald d_Mo_isSingle_147 hq48 hk49 ?_
                      replace h := x_nm h
                      refine lk_istore_n d_Mo_isSingle_148 (by decide) rfl ?_
                      refine lk_goto (tgt := 179) d_Mo_isSingle_149 (by decide) ?_
                      cases h
                      refine Lk.sel [0, 2, 3] rfl ?_
                      exact Lk.stop ⟨rfl, rfl, rfl, rfl, rfl, rfl⟩
                · clear hj
                  refine lk_iload_n d_Mo_isSingle_179 rfl ?_
                  refine lk_iconst (v := (-1)) d_Mo_isSingle_180 rfl ?_
                  refine lk_icmp_ne (tgt := 19) d_Mo_isSingle_181 (by decide) (fun hc => ?_) (fun hc => ?_)
                  · replace h := x_ifn hc h
                    refine Lk.sel [0, 2, 3] rfl ?_
                    exact ih _ _ _ _ _ h
                  · replace h := x_ifp hc h
                    refine lk_aload_n d_Mo_isSingle_184 rfl ?_
                    obtain ⟨a52, ha52, h⟩ := x_b h
                    refine lk_getI (k := 18) d_Mo_isSingle_185 ha52 (by decide) rfl (by decide) lf_Mo_169 rfl ?_
                    refine lk_if_ne (tgt := 194) d_Mo_isSingle_188 (by decide) (fun hc => ?_) (fun hc => ?_)
                    · replace h := x_ifn hc h
                      refine lk_aload_n d_Mo_isSingle_194 rfl ?_
                      refine lk_dup d_Mo_isSingle_195 rfl ?_
                      refine lk_getI (k := 18) d_Mo_isSingle_196 ha52 (by decide) rfl (by decide) lf_Mo_169 rfl ?_
                      refine lk_iconst (v := 1) d_Mo_isSingle_199 rfl ?_
                      refine lk_isub d_Mo_isSingle_200 ?_
                      replace h := x_nm h
                      refine lk_putI (k := 18) d_Mo_isSingle_201 ha52 (by decide) rfl (by decide) lf_Mo_169 rfl rfl ?_
                      refine lk_aload_n d_Mo_isSingle_204 rfl ?_
                      refine lk_getR (k := 19) d_Mo_isSingle_205 ha52 (by decide) rfl (by decide) lf_Mo_37 rfl ?_
                      refine lk_aload_n d_Mo_isSingle_208 rfl ?_
                      refine lk_getI (k := 18) d_Mo_isSingle_209 ha52 (by decide) rfl (by decide) lf_Mo_169 rfl ?_
                      obtain ⟨q54, hq54, h⟩ := x_b h
                      obtain ⟨k55, hk55, h⟩ := x_b h
                      refine lk_iald d_Mo_isSingle_212 hq54 hk55 ?_
                      replace h := x_nm h
                      refine lk_istore_n d_Mo_isSingle_213 (by decide) rfl ?_
                      refine lk_goto (tgt := 19) d_Mo_isSingle_214 (by decide) ?_
                      refine Lk.sel [0, 2, 3] rfl ?_
                      exact ih _ _ _ _ _ h
                    · replace h := x_ifp hc h
                      refine lk_goto (tgt := 19) d_Mo_isSingle_191 (by decide) ?_
                      refine Lk.sel [0, 2, 3] rfl ?_
                      exact ih _ _ _ _ _ h
            · replace h := x_ifn hc h
              refine lk_iconst (v := 0) d_Mo_isSingle_92 rfl ?_
              cases h
              exact Lk.stop ⟨rfl, Or.inr (Or.inl ⟨_, _, d_Mo_isSingle_93, rfl, rfl, rfl, rfl⟩)⟩
      · replace h := x_ifp hc h
        refine lk_iconst (v := 0) d_Mo_isSingle_37 rfl ?_
        cases h
        exact Lk.stop ⟨rfl, Or.inr (Or.inl ⟨_, _, d_Mo_isSingle_38, rfl, rfl, rfl, rfl⟩)⟩
def f_Mo_isSingle (z0 : Nat) (x1 : Int32) (s : hv_S) : Option (Int32 × hv_S) :=
  (x_ob s 11 ((some z0))).bind fun a1 =>
  (some (hv_setI s a1 16 ((hv_I s a1 16) + (1 : Int32)))).bind fun s2 =>
  (some (hv_setI s2 a1 18 0)).bind fun s3 =>
  (L_Mo_isSingle_19 100000 ((some z0)) 0 x1 s3).bind fun e57r => e57r.elim (fun e57 =>
    some ((1, e57))
  ) (fun w => some w)
set_option maxRecDepth 4000 in
set_option maxHeartbeats 2000000 in
theorem c_Mo_isSingle {G : lt_G} {z0 : Nat} {x1 : Int32} {s : hv_S} {p : Int32 × hv_S} (h : f_Mo_isSingle z0 x1 s = some p) : Ck G m_Mo_isSingle 1 0 0 [vR (some z0), vI x1] s (some (vI p.1)) p.2 := by
  refine Ck.of (by decide) (Nat.le_of_ble_eq_true rfl) ?_
  unfold f_Mo_isSingle at h
  refine lk_aload_n d_Mo_isSingle_0 rfl ?_
  refine lk_dup d_Mo_isSingle_1 rfl ?_
  obtain ⟨a1, ha1, h⟩ := x_b h
  refine lk_getI (k := 16) d_Mo_isSingle_2 ha1 (by decide) rfl (by decide) lf_Mo_166 rfl ?_
  refine lk_iconst (v := 1) d_Mo_isSingle_5 rfl ?_
  refine lk_iadd d_Mo_isSingle_6 ?_
  replace h := x_nm h
  refine lk_putI (k := 16) d_Mo_isSingle_7 ha1 (by decide) rfl (by decide) lf_Mo_166 rfl rfl ?_
  refine lk_aload_n d_Mo_isSingle_10 rfl ?_
  refine lk_iconst (v := 0) d_Mo_isSingle_11 rfl ?_
  replace h := x_nm h
  refine lk_putI (k := 18) d_Mo_isSingle_12 ha1 (by decide) rfl (by decide) lf_Mo_169 rfl rfl ?_
  refine lk_iconst (v := 0) d_Mo_isSingle_15 rfl ?_
  refine lk_istore_n d_Mo_isSingle_16 (by decide) rfl ?_
  refine lk_iload_n d_Mo_isSingle_17 rfl ?_
  refine lk_istore_n d_Mo_isSingle_18 (by decide) rfl ?_
  obtain ⟨e57r, hl, h⟩ := x_b h
  refine Lk.sel [0, 2, 3] rfl ?_
  refine Lk.trans (l_Mo_isSingle_19 _ _ _ _ _ _ hl) ?_
  intro pc' lo' st' s' mc' ms' hx
  cases e57r with
  | inl e57 =>
    obtain ⟨rfl, rfl, rfl, rfl, rfl, rfl⟩ := hx
    refine lk_iconst (v := 1) d_Mo_isSingle_217 rfl ?_
    cases h
    exact Lk.stop ⟨rfl, Or.inr (Or.inl ⟨_, _, d_Mo_isSingle_218, rfl, rfl, rfl, rfl⟩)⟩
  | inr w =>
    cases h
    exact Lk.stop hx
def L_Mo_compile_121 : Nat → Option Nat → Int32 → hv_S → Option (hv_S)
  | 0, _, _, _ => none
  | n + 1, x0, x1, s =>
    (x_ob s 11 x0).bind fun a35 =>
    if (hv_I s a35 6) ≤ x1 then
      some s
    else
      (x_ar s 0 (hv_R s a35 7)).bind fun q36 =>
      (x_ix q36.2 x1).bind fun k37 =>
      ((
        if 1 < (hv_I s q36.1 k37) then
          some s
        else
          ((
            if (hv_I s a35 15) = 0 then
              some (0, s)
            else
              (f_Mo_isSingle a35 (x1 + (1 : Int32)) s).bind fun p38 =>
              if p38.1 = 0 then
                some (0, p38.2)
              else
                some (1, p38.2)
          ) : Option (Int32 × hv_S)).bind fun t39 =>
          (x_ob t39.2 11 x0).bind fun a40 =>
          (x_z t39.1).bind fun z41 =>
          (some (hv_setI t39.2 a40 15 z41)).bind fun s42 =>
          some s42
      ) : Option (hv_S)).bind fun t43 =>
      L_Mo_compile_121 n x0 (x1 + 1) t43
set_option maxRecDepth 4000 in
set_option maxHeartbeats 2000000 in
theorem l_Mo_compile_121 {G : lt_G} : ∀ (n : Nat) (x0 : Option Nat) (x1 : Int32) (s : hv_S) (e0 : hv_S), L_Mo_compile_121 n x0 x1 s = some e0 → Lk G m_Mo_compile 4 121 [(0, vR x0), (1, vI x1)] [] s 0 0 (lk_at 171 [(0, vR x0)] [] e0 0 0) := by
  intro n
  induction n with
  | zero => intro x0 x1 s e0 h; cases h
  | succ n ih =>
    intro x0 x1 s e0 h
    unfold L_Mo_compile_121 at h
    refine lk_iload_n d_Mo_compile_121 rfl ?_
    refine lk_aload_n d_Mo_compile_122 rfl ?_
    obtain ⟨a35, ha35, h⟩ := x_b h
    refine lk_getI (k := 6) d_Mo_compile_123 ha35 (by decide) rfl (by decide) lf_Mo_148 rfl ?_
    refine lk_icmp_ge (tgt := 171) d_Mo_compile_126 (by decide) (fun hc => ?_) (fun hc => ?_)
    · replace h := x_ifp hc h
      cases h
      refine Lk.sel [0] rfl ?_
      exact Lk.stop ⟨rfl, rfl, rfl, rfl, rfl, rfl⟩
    · replace h := x_ifn hc h
      refine lk_aload_n d_Mo_compile_129 rfl ?_
      refine lk_getR (k := 7) d_Mo_compile_130 ha35 (by decide) rfl (by decide) lf_Mo_16 rfl ?_
      refine lk_iload_n d_Mo_compile_133 rfl ?_
      obtain ⟨q36, hq36, h⟩ := x_b h
      obtain ⟨k37, hk37, h⟩ := x_b h
      refine lk_iald d_Mo_compile_134 hq36 hk37 ?_
      refine lk_iconst (v := 1) d_Mo_compile_135 rfl ?_
      obtain ⟨t43, hj, h⟩ := x_b h
      refine Lk.joinS 165 [0, 1] [] rfl 2 [] t43 ?_ ?_
      · replace h := hj
        refine lk_icmp_gt (tgt := 165) d_Mo_compile_136 (by decide) (fun hc => ?_) (fun hc => ?_)
        · replace h := x_ifp hc h
          cases h
          refine Lk.sel [0, 1] rfl ?_
          exact Lk.stop ⟨rfl, rfl, rfl, rfl, rfl, rfl⟩
        · replace h := x_ifn hc h
          refine lk_aload_n d_Mo_compile_139 rfl ?_
          refine lk_aload_n d_Mo_compile_140 rfl ?_
          refine lk_getI (k := 15) d_Mo_compile_141 ha35 (by decide) rfl (by decide) lf_Mo_163 rfl ?_
          obtain ⟨t39, hj, h⟩ := x_b h
          refine Lk.joinS 162 [0, 1] [] rfl 1 [vI t39.1] t39.2 ?_ ?_
          · replace h := hj
            refine lk_if_eq (tgt := 161) d_Mo_compile_144 (by decide) (fun hc => ?_) (fun hc => ?_)
            · replace h := x_ifp hc h
              refine lk_iconst (v := 0) d_Mo_compile_161 rfl ?_
              cases h
              refine Lk.sel [0, 1] rfl ?_
              exact Lk.stop ⟨rfl, rfl, rfl, rfl, rfl, rfl⟩
            · replace h := x_ifn hc h
              refine lk_aload_n d_Mo_compile_147 rfl ?_
              refine lk_iload_n d_Mo_compile_148 rfl ?_
              refine lk_iconst (v := 1) d_Mo_compile_149 rfl ?_
              refine lk_iadd d_Mo_compile_150 ?_
              obtain ⟨p38, hp38, h⟩ := x_b h
              refine lk_callV0 d_Mo_compile_151 (x_obm ha35 rfl) (c_Mo_isSingle hp38) (Nat.le_of_ble_eq_true rfl) rfl M_Mo_isSingle lm_Mo_160 in_Mo_isSingle se_Mo_isSingle (by decide) rfl (Nat.le_of_ble_eq_true rfl) ?_
              refine lk_if_eq (tgt := 161) d_Mo_compile_154 (by decide) (fun hc => ?_) (fun hc => ?_)
              · replace h := x_ifp hc h
                refine lk_iconst (v := 0) d_Mo_compile_161 rfl ?_
                cases h
                refine Lk.sel [0, 1] rfl ?_
                exact Lk.stop ⟨rfl, rfl, rfl, rfl, rfl, rfl⟩
              · replace h := x_ifn hc h
                refine lk_iconst (v := 1) d_Mo_compile_157 rfl ?_
                refine lk_goto (tgt := 162) d_Mo_compile_158 (by decide) ?_
                cases h
                refine Lk.sel [0, 1] rfl ?_
                exact Lk.stop ⟨rfl, rfl, rfl, rfl, rfl, rfl⟩
          · clear hj
            obtain ⟨a40, ha40, h⟩ := x_b h
            obtain ⟨z41, hz410, h⟩ := x_b h
            obtain ⟨rfl, hz41⟩ := x_z_some hz410
            replace h := x_nm h
            refine lk_putZ (k := 15) d_Mo_compile_162 ha40 hz41 (by decide) rfl (by decide) lf_Mo_163 rfl rfl ?_
            cases h
            refine Lk.sel [0, 1] rfl ?_
            exact Lk.stop ⟨rfl, rfl, rfl, rfl, rfl, rfl⟩
      · clear hj
        refine lk_iinc (v := _ + 1) d_Mo_compile_165 rfl rfl (by decide) rfl ?_
        refine lk_goto (tgt := 121) d_Mo_compile_168 (by decide) ?_
        refine Lk.sel [0, 1] rfl ?_
        exact ih _ _ _ _ h
def L_Mo_compile_28 : Nat → Option Nat → Int32 → hv_S → Option (hv_S)
  | 0, _, _, _ => none
  | n + 1, x0, x1, s =>
    (x_ob s 11 x0).bind fun a6 =>
    if (hv_I s a6 6) ≤ x1 then
      some s
    else
      (x_ar s 0 (hv_R s a6 11)).bind fun q7 =>
      (x_ix q7.2 x1).bind fun k8 =>
      (x_ar s 0 (hv_R s a6 7)).bind fun q9 =>
      (x_ix q9.2 x1).bind fun k10 =>
      (some (hv_setI s q9.1 k10 (hv_I s q7.1 k8))).bind fun s11 =>
      (x_ar s11 0 (hv_R s11 a6 12)).bind fun q12 =>
      (x_ix q12.2 x1).bind fun k13 =>
      (x_ar s11 0 (hv_R s11 a6 8)).bind fun q14 =>
      (x_ix q14.2 x1).bind fun k15 =>
      (some (hv_setI s11 q14.1 k15 (hv_I s11 q12.1 k13))).bind fun s16 =>
      (x_ar s16 0 (hv_R s16 a6 13)).bind fun q17 =>
      (x_ix q17.2 x1).bind fun k18 =>
      (x_ar s16 0 (hv_R s16 a6 9)).bind fun q19 =>
      (x_ix q19.2 x1).bind fun k20 =>
      (some (hv_setI s16 q19.1 k20 (hv_I s16 q17.1 k18))).bind fun s21 =>
      L_Mo_compile_28 n x0 (x1 + 1) s21
set_option maxRecDepth 4000 in
set_option maxHeartbeats 2000000 in
theorem l_Mo_compile_28 {G : lt_G} : ∀ (n : Nat) (x0 : Option Nat) (x1 : Int32) (s : hv_S) (e0 : hv_S), L_Mo_compile_28 n x0 x1 s = some e0 → Lk G m_Mo_compile 4 28 [(0, vR x0), (1, vI x1)] [] s 0 0 (lk_at 78 [(0, vR x0)] [] e0 0 0) := by
  intro n
  induction n with
  | zero => intro x0 x1 s e0 h; cases h
  | succ n ih =>
    intro x0 x1 s e0 h
    unfold L_Mo_compile_28 at h
    refine lk_iload_n d_Mo_compile_28 rfl ?_
    refine lk_aload_n d_Mo_compile_29 rfl ?_
    obtain ⟨a6, ha6, h⟩ := x_b h
    refine lk_getI (k := 6) d_Mo_compile_30 ha6 (by decide) rfl (by decide) lf_Mo_148 rfl ?_
    refine lk_icmp_ge (tgt := 78) d_Mo_compile_33 (by decide) (fun hc => ?_) (fun hc => ?_)
    · replace h := x_ifp hc h
      cases h
      refine Lk.sel [0] rfl ?_
      exact Lk.stop ⟨rfl, rfl, rfl, rfl, rfl, rfl⟩
    · replace h := x_ifn hc h
      refine lk_aload_n d_Mo_compile_36 rfl ?_
      refine lk_getR (k := 7) d_Mo_compile_37 ha6 (by decide) rfl (by decide) lf_Mo_16 rfl ?_
      refine lk_iload_n d_Mo_compile_40 rfl ?_
      refine lk_aload_n d_Mo_compile_41 rfl ?_
      refine lk_getR (k := 11) d_Mo_compile_42 ha6 (by decide) rfl (by decide) lf_Mo_25 rfl ?_
      refine lk_iload_n d_Mo_compile_45 rfl ?_
      obtain ⟨q7, hq7, h⟩ := x_b h
      obtain ⟨k8, hk8, h⟩ := x_b h
      refine lk_iald d_Mo_compile_46 hq7 hk8 ?_
      obtain ⟨q9, hq9, h⟩ := x_b h
      obtain ⟨k10, hk10, h⟩ := x_b h
      replace h := x_nm h
      refine lk_iast d_Mo_compile_47 hq9 hk10 ?_
      refine lk_aload_n d_Mo_compile_48 rfl ?_
      refine lk_getR (k := 8) d_Mo_compile_49 ha6 (by decide) rfl (by decide) lf_Mo_19 rfl ?_
      refine lk_iload_n d_Mo_compile_52 rfl ?_
      refine lk_aload_n d_Mo_compile_53 rfl ?_
      refine lk_getR (k := 12) d_Mo_compile_54 ha6 (by decide) rfl (by decide) lf_Mo_28 rfl ?_
      refine lk_iload_n d_Mo_compile_57 rfl ?_
      obtain ⟨q12, hq12, h⟩ := x_b h
      obtain ⟨k13, hk13, h⟩ := x_b h
      refine lk_iald d_Mo_compile_58 hq12 hk13 ?_
      obtain ⟨q14, hq14, h⟩ := x_b h
      obtain ⟨k15, hk15, h⟩ := x_b h
      replace h := x_nm h
      refine lk_iast d_Mo_compile_59 hq14 hk15 ?_
      refine lk_aload_n d_Mo_compile_60 rfl ?_
      refine lk_getR (k := 9) d_Mo_compile_61 ha6 (by decide) rfl (by decide) lf_Mo_22 rfl ?_
      refine lk_iload_n d_Mo_compile_64 rfl ?_
      refine lk_aload_n d_Mo_compile_65 rfl ?_
      refine lk_getR (k := 13) d_Mo_compile_66 ha6 (by decide) rfl (by decide) lf_Mo_31 rfl ?_
      refine lk_iload_n d_Mo_compile_69 rfl ?_
      obtain ⟨q17, hq17, h⟩ := x_b h
      obtain ⟨k18, hk18, h⟩ := x_b h
      refine lk_iald d_Mo_compile_70 hq17 hk18 ?_
      obtain ⟨q19, hq19, h⟩ := x_b h
      obtain ⟨k20, hk20, h⟩ := x_b h
      replace h := x_nm h
      refine lk_iast d_Mo_compile_71 hq19 hk20 ?_
      refine lk_iinc (v := _ + 1) d_Mo_compile_72 rfl rfl (by decide) rfl ?_
      refine lk_goto (tgt := 28) d_Mo_compile_75 (by decide) ?_
      refine Lk.sel [0, 1] rfl ?_
      exact ih _ _ _ _ h
def f_Mo_compile (z0 : Nat) (s : hv_S) : Option (Int32 × hv_S) :=
  (x_ob s 11 ((some z0))).bind fun a1 =>
  (some (hv_setI s a1 0 0)).bind fun s2 =>
  (f_Mo_read a1 s2).bind fun p3 =>
  if p3.1 = 0 then
    (x_ob p3.2 11 ((some z0))).bind fun a46 =>
    (f_Mo_fail a46 1 p3.2).bind fun p47 =>
    some ((p47.1, p47.2))
  else
    (x_ob p3.2 11 ((some z0))).bind fun a4 =>
    (some (hv_setI p3.2 a4 6 (hv_I p3.2 a4 10))).bind fun s5 =>
    (L_Mo_compile_28 100000 ((some z0)) 0 s5).bind fun e22 =>
    (x_ob e22 11 ((some z0))).bind fun a23 =>
    (some (hv_setI e22 a23 27 0)).bind fun s24 =>
    (some (hv_setI s24 a23 28 0)).bind fun s25 =>
    (f_Mo_noSearch a23 s25).bind fun p26 =>
    (x_ob p26 11 ((some z0))).bind fun a27 =>
    (x_ar p26 0 (hv_R p26 a27 7)).bind fun q28 =>
    (x_ix q28.2 0).bind fun k29 =>
    ((
      if (hv_I p26 q28.1 k29) = 5 then
        (f_Mo_isSingle a27 0 p26).bind fun p30 =>
        if p30.1 = 0 then
          some (0, p30.2)
        else
          some (1, p30.2)
      else
        some (0, p26)
    ) : Option (Int32 × hv_S)).bind fun t31 =>
    (x_ob t31.2 11 ((some z0))).bind fun a32 =>
    (x_z t31.1).bind fun z33 =>
    (some (hv_setI t31.2 a32 15 z33)).bind fun s34 =>
    (L_Mo_compile_121 100000 ((some z0)) 0 s34).bind fun e44 =>
    (x_ob e44 11 ((some z0))).bind fun a45 =>
    some ((hv_I e44 a45 6, e44))
set_option maxRecDepth 4000 in
set_option maxHeartbeats 2000000 in
theorem c_Mo_compile {G : lt_G} {z0 : Nat} {s : hv_S} {p : Int32 × hv_S} (h : f_Mo_compile z0 s = some p) : Ck G m_Mo_compile 4 0 0 [vR (some z0)] s (some (vI p.1)) p.2 := by
  refine Ck.of (by decide) (Nat.le_of_ble_eq_true rfl) ?_
  unfold f_Mo_compile at h
  refine lk_aload_n d_Mo_compile_0 rfl ?_
  refine lk_iconst (v := 0) d_Mo_compile_1 rfl ?_
  obtain ⟨a1, ha1, h⟩ := x_b h
  replace h := x_nm h
  refine lk_putI (k := 0) d_Mo_compile_2 ha1 (by decide) rfl (by decide) lf_Mo_102 rfl rfl ?_
  refine lk_aload_n d_Mo_compile_5 rfl ?_
  obtain ⟨p3, hp3, h⟩ := x_b h
  refine lk_callV0 d_Mo_compile_6 (x_obm ha1 rfl) (c_Mo_read hp3) (Nat.le_of_ble_eq_true rfl) rfl M_Mo_read lm_Mo_140 in_Mo_read se_Mo_read (by decide) rfl (Nat.le_of_ble_eq_true rfl) ?_
  refine lk_if_ne (tgt := 18) d_Mo_compile_9 (by decide) (fun hc => ?_) (fun hc => ?_)
  · replace h := x_ifn hc h
    refine lk_aload_n d_Mo_compile_18 rfl ?_
    refine lk_aload_n d_Mo_compile_19 rfl ?_
    obtain ⟨a4, ha4, h⟩ := x_b h
    refine lk_getI (k := 10) d_Mo_compile_20 ha4 (by decide) rfl (by decide) lf_Mo_115 rfl ?_
    replace h := x_nm h
    refine lk_putI (k := 6) d_Mo_compile_23 ha4 (by decide) rfl (by decide) lf_Mo_148 rfl rfl ?_
    refine lk_iconst (v := 0) d_Mo_compile_26 rfl ?_
    refine lk_istore_n d_Mo_compile_27 (by decide) rfl ?_
    obtain ⟨e22, hl, h⟩ := x_b h
    refine Lk.sel [0, 1] rfl ?_
    refine Lk.trans (l_Mo_compile_28 _ _ _ _ _ hl) ?_
    intro pc' lo' st' s' mc' ms' hx
    obtain ⟨rfl, rfl, rfl, rfl, rfl, rfl⟩ := hx
    refine lk_aload_n d_Mo_compile_78 rfl ?_
    refine lk_iconst (v := 0) d_Mo_compile_79 rfl ?_
    obtain ⟨a23, ha23, h⟩ := x_b h
    replace h := x_nm h
    refine lk_putI (k := 27) d_Mo_compile_80 ha23 (by decide) rfl (by decide) lf_Mo_151 rfl rfl ?_
    refine lk_aload_n d_Mo_compile_83 rfl ?_
    refine lk_iconst (v := 0) d_Mo_compile_84 rfl ?_
    replace h := x_nm h
    refine lk_putI (k := 28) d_Mo_compile_85 ha23 (by decide) rfl (by decide) lf_Mo_154 rfl rfl ?_
    refine lk_aload_n d_Mo_compile_88 rfl ?_
    obtain ⟨p26, hp26, h⟩ := x_b h
    refine lk_callV0 d_Mo_compile_89 (x_obm ha23 rfl) (c_Mo_noSearch hp26) (Nat.le_of_ble_eq_true rfl) rfl M_Mo_noSearch lm_Mo_157 in_Mo_noSearch se_Mo_noSearch (by decide) rfl (Nat.le_of_ble_eq_true rfl) ?_
    refine lk_aload_n d_Mo_compile_92 rfl ?_
    refine lk_aload_n d_Mo_compile_93 rfl ?_
    obtain ⟨a27, ha27, h⟩ := x_b h
    refine lk_getR (k := 7) d_Mo_compile_94 ha27 (by decide) rfl (by decide) lf_Mo_16 rfl ?_
    refine lk_iconst (v := 0) d_Mo_compile_97 rfl ?_
    obtain ⟨q28, hq28, h⟩ := x_b h
    obtain ⟨k29, hk29, h⟩ := x_b h
    refine lk_iald d_Mo_compile_98 hq28 hk29 ?_
    refine lk_iconst (v := 5) d_Mo_compile_99 rfl ?_
    obtain ⟨t31, hj, h⟩ := x_b h
    refine Lk.joinS 116 [0] [] rfl 2 [vI t31.1] t31.2 ?_ ?_
    · replace h := hj
      refine lk_icmp_ne (tgt := 115) d_Mo_compile_100 (by decide) (fun hc => ?_) (fun hc => ?_)
      · replace h := x_ifn hc h
        refine lk_iconst (v := 0) d_Mo_compile_115 rfl ?_
        cases h
        refine Lk.sel [0] rfl ?_
        exact Lk.stop ⟨rfl, rfl, rfl, rfl, rfl, rfl⟩
      · replace h := x_ifp hc h
        refine lk_aload_n d_Mo_compile_103 rfl ?_
        refine lk_iconst (v := 0) d_Mo_compile_104 rfl ?_
        obtain ⟨p30, hp30, h⟩ := x_b h
        refine lk_callV0 d_Mo_compile_105 (x_obm ha27 rfl) (c_Mo_isSingle hp30) (Nat.le_of_ble_eq_true rfl) rfl M_Mo_isSingle lm_Mo_160 in_Mo_isSingle se_Mo_isSingle (by decide) rfl (Nat.le_of_ble_eq_true rfl) ?_
        refine lk_if_eq (tgt := 115) d_Mo_compile_108 (by decide) (fun hc => ?_) (fun hc => ?_)
        · replace h := x_ifp hc h
          refine lk_iconst (v := 0) d_Mo_compile_115 rfl ?_
          cases h
          refine Lk.sel [0] rfl ?_
          exact Lk.stop ⟨rfl, rfl, rfl, rfl, rfl, rfl⟩
        · replace h := x_ifn hc h
          refine lk_iconst (v := 1) d_Mo_compile_111 rfl ?_
          refine lk_goto (tgt := 116) d_Mo_compile_112 (by decide) ?_
          cases h
          refine Lk.sel [0] rfl ?_
          exact Lk.stop ⟨rfl, rfl, rfl, rfl, rfl, rfl⟩
    · clear hj
      obtain ⟨a32, ha32, h⟩ := x_b h
      obtain ⟨z33, hz330, h⟩ := x_b h
      obtain ⟨rfl, hz33⟩ := x_z_some hz330
      replace h := x_nm h
      refine lk_putZ (k := 15) d_Mo_compile_116 ha32 hz33 (by decide) rfl (by decide) lf_Mo_163 rfl rfl ?_
      refine lk_iconst (v := 0) d_Mo_compile_119 rfl ?_
      refine lk_istore_n d_Mo_compile_120 (by decide) rfl ?_
      obtain ⟨e44, hl, h⟩ := x_b h
      refine Lk.sel [0, 1] rfl ?_
      refine Lk.trans (l_Mo_compile_121 _ _ _ _ _ hl) ?_
      intro pc' lo' st' s' mc' ms' hx
      obtain ⟨rfl, rfl, rfl, rfl, rfl, rfl⟩ := hx
      refine lk_aload_n d_Mo_compile_171 rfl ?_
      obtain ⟨a45, ha45, h⟩ := x_b h
      refine lk_getI (k := 6) d_Mo_compile_172 ha45 (by decide) rfl (by decide) lf_Mo_148 rfl ?_
      cases h
      exact Lk.stop ⟨rfl, Or.inr (Or.inl ⟨_, _, d_Mo_compile_175, rfl, rfl, rfl, rfl⟩)⟩
  · replace h := x_ifp hc h
    refine lk_aload_n d_Mo_compile_12 rfl ?_
    refine lk_iconst (v := 1) d_Mo_compile_13 rfl ?_
    obtain ⟨a46, ha46, h⟩ := x_b h
    obtain ⟨p47, hp47, h⟩ := x_b h
    refine lk_callV0 d_Mo_compile_14 (x_obm ha46 rfl) (c_Mo_fail hp47) (Nat.le_of_ble_eq_true rfl) rfl M_Mo_fail lm_Mo_144 in_Mo_fail se_Mo_fail (by decide) rfl (Nat.le_of_ble_eq_true rfl) ?_
    cases h
    exact Lk.stop ⟨rfl, Or.inr (Or.inl ⟨_, _, d_Mo_compile_17, rfl, rfl, rfl, rfl⟩)⟩
def f_Mo_instruction (z0 : Nat) (x1 : Int32) (x2 : Int32) (s : hv_S) : Option (Int32 × hv_S) :=
  ((
    if x1 < 0 then
      some 1
    else
      (x_ob s 11 ((some z0))).bind fun a1 =>
      if x1 < (hv_I s a1 6) then
        if x2 < 0 then
          some 2
        else
          if x2 ≤ 2 then
            some 0
          else
            some 2
      else
        some 1
  ) : Option (Int32)).bind fun t2 =>
  (x_ob s 11 ((some z0))).bind fun a3 =>
  (some (hv_setI s a3 0 t2)).bind fun s4 =>
  if (hv_I s4 a3 0) ≤ 0 then
    ((
      if x2 = 0 then
        (x_ar s4 0 (hv_R s4 a3 7)).bind fun q9 =>
        (x_ix q9.2 x1).bind fun k10 =>
        some (hv_I s4 q9.1 k10)
      else
        if x2 = 1 then
          (x_ar s4 0 (hv_R s4 a3 8)).bind fun q7 =>
          (x_ix q7.2 x1).bind fun k8 =>
          some (hv_I s4 q7.1 k8)
        else
          (x_ar s4 0 (hv_R s4 a3 9)).bind fun q5 =>
          (x_ix q5.2 x1).bind fun k6 =>
          some (hv_I s4 q5.1 k6)
    ) : Option (Int32)).bind fun t11 =>
    some ((t11, s4))
  else
    some ((0, s4))
set_option maxRecDepth 4000 in
set_option maxHeartbeats 2000000 in
theorem c_Mo_instruction {G : lt_G} {z0 : Nat} {x1 : Int32} {x2 : Int32} {s : hv_S} {p : Int32 × hv_S} (h : f_Mo_instruction z0 x1 x2 s = some p) : Ck G m_Mo_instruction 1 0 0 [vR (some z0), vI x1, vI x2] s (some (vI p.1)) p.2 := by
  refine Ck.of (by decide) (Nat.le_of_ble_eq_true rfl) ?_
  unfold f_Mo_instruction at h
  refine lk_aload_n d_Mo_instruction_0 rfl ?_
  refine lk_iload_n d_Mo_instruction_1 rfl ?_
  obtain ⟨t2, hj, h⟩ := x_b h
  refine Lk.joinA 31 [0, 1, 2] [] rfl 1 [vI t2] ?_ ?_
  · replace h := hj
    refine lk_if_lt (tgt := 13) d_Mo_instruction_2 (by decide) (fun hc => ?_) (fun hc => ?_)
    · replace h := x_ifp hc h
      refine lk_iconst (v := 1) d_Mo_instruction_13 rfl ?_
      refine lk_goto (tgt := 31) d_Mo_instruction_14 (by decide) ?_
      cases h
      refine Lk.sel [0, 1, 2] rfl ?_
      exact Lk.stop ⟨rfl, rfl, rfl, rfl, rfl, rfl⟩
    · replace h := x_ifn hc h
      refine lk_iload_n d_Mo_instruction_5 rfl ?_
      refine lk_aload_n d_Mo_instruction_6 rfl ?_
      obtain ⟨a1, ha1, h⟩ := x_b h
      refine lk_getI (k := 6) d_Mo_instruction_7 ha1 (by decide) rfl (by decide) lf_Mo_148 rfl ?_
      refine lk_icmp_lt (tgt := 17) d_Mo_instruction_10 (by decide) (fun hc => ?_) (fun hc => ?_)
      · replace h := x_ifp hc h
        refine lk_iload_n d_Mo_instruction_17 rfl ?_
        refine lk_if_lt (tgt := 26) d_Mo_instruction_18 (by decide) (fun hc => ?_) (fun hc => ?_)
        · replace h := x_ifp hc h
          refine lk_iconst (v := 2) d_Mo_instruction_26 rfl ?_
          refine lk_goto (tgt := 31) d_Mo_instruction_27 (by decide) ?_
          cases h
          refine Lk.sel [0, 1, 2] rfl ?_
          exact Lk.stop ⟨rfl, rfl, rfl, rfl, rfl, rfl⟩
        · replace h := x_ifn hc h
          refine lk_iload_n d_Mo_instruction_21 rfl ?_
          refine lk_iconst (v := 2) d_Mo_instruction_22 rfl ?_
          refine lk_icmp_le (tgt := 30) d_Mo_instruction_23 (by decide) (fun hc => ?_) (fun hc => ?_)
          · replace h := x_ifp hc h
            refine lk_iconst (v := 0) d_Mo_instruction_30 rfl ?_
            cases h
            refine Lk.sel [0, 1, 2] rfl ?_
            exact Lk.stop ⟨rfl, rfl, rfl, rfl, rfl, rfl⟩
          · replace h := x_ifn hc h
            refine lk_iconst (v := 2) d_Mo_instruction_26 rfl ?_
            refine lk_goto (tgt := 31) d_Mo_instruction_27 (by decide) ?_
            cases h
            refine Lk.sel [0, 1, 2] rfl ?_
            exact Lk.stop ⟨rfl, rfl, rfl, rfl, rfl, rfl⟩
      · replace h := x_ifn hc h
        refine lk_iconst (v := 1) d_Mo_instruction_13 rfl ?_
        refine lk_goto (tgt := 31) d_Mo_instruction_14 (by decide) ?_
        cases h
        refine Lk.sel [0, 1, 2] rfl ?_
        exact Lk.stop ⟨rfl, rfl, rfl, rfl, rfl, rfl⟩
  · clear hj
    obtain ⟨a3, ha3, h⟩ := x_b h
    replace h := x_nm h
    refine lk_putI (k := 0) d_Mo_instruction_31 ha3 (by decide) rfl (by decide) lf_Mo_102 rfl rfl ?_
    refine lk_aload_n d_Mo_instruction_34 rfl ?_
    refine lk_getI (k := 0) d_Mo_instruction_35 ha3 (by decide) rfl (by decide) lf_Mo_102 rfl ?_
    refine lk_if_le (tgt := 43) d_Mo_instruction_38 (by decide) (fun hc => ?_) (fun hc => ?_)
    · replace h := x_ifp hc h
      refine lk_iload_n d_Mo_instruction_43 rfl ?_
      obtain ⟨t11, hj, h⟩ := x_b h
      refine Lk.joinA 76 [] [] rfl 1 [vI t11] ?_ ?_
      · replace h := hj
        refine lk_if_ne (tgt := 56) d_Mo_instruction_44 (by decide) (fun hc => ?_) (fun hc => ?_)
        · replace h := x_ifn hc h
          refine lk_iload_n d_Mo_instruction_56 rfl ?_
          refine lk_iconst (v := 1) d_Mo_instruction_57 rfl ?_
          refine lk_icmp_ne (tgt := 70) d_Mo_instruction_58 (by decide) (fun hc => ?_) (fun hc => ?_)
          · replace h := x_ifn hc h
            refine lk_aload_n d_Mo_instruction_70 rfl ?_
            refine lk_getR (k := 9) d_Mo_instruction_71 ha3 (by decide) rfl (by decide) lf_Mo_22 rfl ?_
            refine lk_iload_n d_Mo_instruction_74 rfl ?_
            obtain ⟨q5, hq5, h⟩ := x_b h
            obtain ⟨k6, hk6, h⟩ := x_b h
            refine lk_iald d_Mo_instruction_75 hq5 hk6 ?_
            cases h
            refine Lk.sel [] rfl ?_
            exact Lk.stop ⟨rfl, rfl, rfl, rfl, rfl, rfl⟩
          · replace h := x_ifp hc h
            refine lk_aload_n d_Mo_instruction_61 rfl ?_
            refine lk_getR (k := 8) d_Mo_instruction_62 ha3 (by decide) rfl (by decide) lf_Mo_19 rfl ?_
            refine lk_iload_n d_Mo_instruction_65 rfl ?_
            obtain ⟨q7, hq7, h⟩ := x_b h
            obtain ⟨k8, hk8, h⟩ := x_b h
            refine lk_iald d_Mo_instruction_66 hq7 hk8 ?_
            refine lk_goto (tgt := 76) d_Mo_instruction_67 (by decide) ?_
            cases h
            refine Lk.sel [] rfl ?_
            exact Lk.stop ⟨rfl, rfl, rfl, rfl, rfl, rfl⟩
        · replace h := x_ifp hc h
          refine lk_aload_n d_Mo_instruction_47 rfl ?_
          refine lk_getR (k := 7) d_Mo_instruction_48 ha3 (by decide) rfl (by decide) lf_Mo_16 rfl ?_
          refine lk_iload_n d_Mo_instruction_51 rfl ?_
          obtain ⟨q9, hq9, h⟩ := x_b h
          obtain ⟨k10, hk10, h⟩ := x_b h
          refine lk_iald d_Mo_instruction_52 hq9 hk10 ?_
          refine lk_goto (tgt := 76) d_Mo_instruction_53 (by decide) ?_
          cases h
          refine Lk.sel [] rfl ?_
          exact Lk.stop ⟨rfl, rfl, rfl, rfl, rfl, rfl⟩
      · clear hj
        cases h
        exact Lk.stop ⟨rfl, Or.inr (Or.inl ⟨_, _, d_Mo_instruction_76, rfl, rfl, rfl, rfl⟩)⟩
    · replace h := x_ifn hc h
      refine lk_iconst (v := 0) d_Mo_instruction_41 rfl ?_
      cases h
      exact Lk.stop ⟨rfl, Or.inr (Or.inl ⟨_, _, d_Mo_instruction_42, rfl, rfl, rfl, rfl⟩)⟩
def f_Mo_simple (z0 : Nat) (s : hv_S) : Option (Int32 × hv_S) :=
  (x_ob s 11 ((some z0))).bind fun a1 =>
  ((
    if (hv_I s a1 6) = 0 then
      some 1
    else
      some 0
  ) : Option (Int32)).bind fun t2 =>
  (some (hv_setI s a1 0 t2)).bind fun s3 =>
  ((
    if (hv_I s3 a1 0) = 0 then
      if (hv_I s3 a1 15) = 0 then
        some 0
      else
        some 1
    else
      some 0
  ) : Option (Int32)).bind fun t4 =>
  (x_z t4).bind fun z5 =>
  some ((z5, s3))
set_option maxRecDepth 4000 in
set_option maxHeartbeats 2000000 in
theorem c_Mo_simple {G : lt_G} {z0 : Nat} {s : hv_S} {p : Int32 × hv_S} (h : f_Mo_simple z0 s = some p) : Ck G m_Mo_simple 1 0 0 [vR (some z0)] s (some (vI p.1)) p.2 := by
  refine Ck.of (by decide) (Nat.le_of_ble_eq_true rfl) ?_
  unfold f_Mo_simple at h
  refine lk_aload_n d_Mo_simple_0 rfl ?_
  refine lk_aload_n d_Mo_simple_1 rfl ?_
  obtain ⟨a1, ha1, h⟩ := x_b h
  refine lk_getI (k := 6) d_Mo_simple_2 ha1 (by decide) rfl (by decide) lf_Mo_148 rfl ?_
  obtain ⟨t2, hj, h⟩ := x_b h
  refine Lk.joinA 13 [0] [] rfl 1 [vI t2] ?_ ?_
  · replace h := hj
    refine lk_if_ne (tgt := 12) d_Mo_simple_5 (by decide) (fun hc => ?_) (fun hc => ?_)
    · replace h := x_ifn hc h
      refine lk_iconst (v := 0) d_Mo_simple_12 rfl ?_
      cases h
      refine Lk.sel [0] rfl ?_
      exact Lk.stop ⟨rfl, rfl, rfl, rfl, rfl, rfl⟩
    · replace h := x_ifp hc h
      refine lk_iconst (v := 1) d_Mo_simple_8 rfl ?_
      refine lk_goto (tgt := 13) d_Mo_simple_9 (by decide) ?_
      cases h
      refine Lk.sel [0] rfl ?_
      exact Lk.stop ⟨rfl, rfl, rfl, rfl, rfl, rfl⟩
  · clear hj
    replace h := x_nm h
    refine lk_putI (k := 0) d_Mo_simple_13 ha1 (by decide) rfl (by decide) lf_Mo_102 rfl rfl ?_
    refine lk_aload_n d_Mo_simple_16 rfl ?_
    refine lk_getI (k := 0) d_Mo_simple_17 ha1 (by decide) rfl (by decide) lf_Mo_102 rfl ?_
    obtain ⟨t4, hj, h⟩ := x_b h
    refine Lk.joinA 35 [] [] rfl 1 [vI t4] ?_ ?_
    · replace h := hj
      refine lk_if_ne (tgt := 34) d_Mo_simple_20 (by decide) (fun hc => ?_) (fun hc => ?_)
      · replace h := x_ifn hc h
        refine lk_iconst (v := 0) d_Mo_simple_34 rfl ?_
        cases h
        refine Lk.sel [] rfl ?_
        exact Lk.stop ⟨rfl, rfl, rfl, rfl, rfl, rfl⟩
      · replace h := x_ifp hc h
        refine lk_aload_n d_Mo_simple_23 rfl ?_
        refine lk_getI (k := 15) d_Mo_simple_24 ha1 (by decide) rfl (by decide) lf_Mo_163 rfl ?_
        refine lk_if_eq (tgt := 34) d_Mo_simple_27 (by decide) (fun hc => ?_) (fun hc => ?_)
        · replace h := x_ifp hc h
          refine lk_iconst (v := 0) d_Mo_simple_34 rfl ?_
          cases h
          refine Lk.sel [] rfl ?_
          exact Lk.stop ⟨rfl, rfl, rfl, rfl, rfl, rfl⟩
        · replace h := x_ifn hc h
          refine lk_iconst (v := 1) d_Mo_simple_30 rfl ?_
          refine lk_goto (tgt := 35) d_Mo_simple_31 (by decide) ?_
          cases h
          refine Lk.sel [] rfl ?_
          exact Lk.stop ⟨rfl, rfl, rfl, rfl, rfl, rfl⟩
    · clear hj
      obtain ⟨z5, hz50, h⟩ := x_b h
      obtain ⟨rfl, hz5⟩ := x_z_some hz50
      cases h
      exact Lk.stop ⟨rfl, Or.inr (Or.inl ⟨_, _, d_Mo_simple_35, rfl, x_zn hz5, rfl, rfl⟩)⟩
def f_Mo_feed (z0 : Nat) (x1 : Int32) (s : hv_S) : Option (Int32 × hv_S) :=
  (x_ob s 11 ((some z0))).bind fun a1 =>
  (some (hv_setI s a1 0 0)).bind fun s2 =>
  (f_Mo_isLetter x1 s2).bind fun p3 =>
  if p3.1 = 0 then
    some ((0, p3.2))
  else
    (x_ob p3.2 11 ((some z0))).bind fun a4 =>
    if (hv_I p3.2 a4 4) = 20 then
      some ((0, p3.2))
    else
      (x_ar p3.2 0 (hv_R p3.2 a4 5)).bind fun q5 =>
      (x_ix q5.2 (hv_I p3.2 a4 4)).bind fun k6 =>
      (some (hv_setI p3.2 q5.1 k6 (x1 - (97 : Int32)))).bind fun s7 =>
      (some (hv_setI s7 a4 4 ((hv_I s7 a4 4) + (1 : Int32)))).bind fun s8 =>
      (f_Mo_noSearch a4 s8).bind fun p9 =>
      some ((1, p9))
set_option maxRecDepth 4000 in
set_option maxHeartbeats 2000000 in
theorem c_Mo_feed {G : lt_G} {z0 : Nat} {x1 : Int32} {s : hv_S} {p : Int32 × hv_S} (h : f_Mo_feed z0 x1 s = some p) : Ck G m_Mo_feed 2 0 0 [vR (some z0), vI x1] s (some (vI p.1)) p.2 := by
  refine Ck.of (by decide) (Nat.le_of_ble_eq_true rfl) ?_
  unfold f_Mo_feed at h
  refine lk_aload_n d_Mo_feed_0 rfl ?_
  refine lk_iconst (v := 0) d_Mo_feed_1 rfl ?_
  obtain ⟨a1, ha1, h⟩ := x_b h
  replace h := x_nm h
  refine lk_putI (k := 0) d_Mo_feed_2 ha1 (by decide) rfl (by decide) lf_Mo_102 rfl rfl ?_
  refine lk_iload_n d_Mo_feed_5 rfl ?_
  obtain ⟨p3, hp3, h⟩ := x_b h
  refine lk_callS0 d_Mo_feed_6 (c_Mo_isLetter hp3) (Nat.le_of_ble_eq_true rfl) rfl M_Mo_isLetter lm_Mo_136 st_Mo_isLetter (Nat.le_of_ble_eq_true rfl) ?_
  refine lk_if_eq (tgt := 21) d_Mo_feed_9 (by decide) (fun hc => ?_) (fun hc => ?_)
  · replace h := x_ifp hc h
    refine lk_iconst (v := 0) d_Mo_feed_21 rfl ?_
    cases h
    exact Lk.stop ⟨rfl, Or.inr (Or.inl ⟨_, _, d_Mo_feed_22, rfl, rfl, rfl, rfl⟩)⟩
  · replace h := x_ifn hc h
    refine lk_aload_n d_Mo_feed_12 rfl ?_
    obtain ⟨a4, ha4, h⟩ := x_b h
    refine lk_getI (k := 4) d_Mo_feed_13 ha4 (by decide) rfl (by decide) lf_Mo_172 rfl ?_
    refine lk_bipush (v := 20) d_Mo_feed_16 rfl ?_
    refine lk_icmp_ne (tgt := 23) d_Mo_feed_18 (by decide) (fun hc => ?_) (fun hc => ?_)
    · replace h := x_ifn hc h
      refine lk_aload_n d_Mo_feed_23 rfl ?_
      refine lk_getR (k := 5) d_Mo_feed_24 ha4 (by decide) rfl (by decide) lf_Mo_13 rfl ?_
      refine lk_aload_n d_Mo_feed_27 rfl ?_
      refine lk_getI (k := 4) d_Mo_feed_28 ha4 (by decide) rfl (by decide) lf_Mo_172 rfl ?_
      refine lk_iload_n d_Mo_feed_31 rfl ?_
      refine lk_bipush (v := 97) d_Mo_feed_32 rfl ?_
      refine lk_isub d_Mo_feed_34 ?_
      obtain ⟨q5, hq5, h⟩ := x_b h
      obtain ⟨k6, hk6, h⟩ := x_b h
      replace h := x_nm h
      refine lk_iast d_Mo_feed_35 hq5 hk6 ?_
      refine lk_aload_n d_Mo_feed_36 rfl ?_
      refine lk_dup d_Mo_feed_37 rfl ?_
      refine lk_getI (k := 4) d_Mo_feed_38 ha4 (by decide) rfl (by decide) lf_Mo_172 rfl ?_
      refine lk_iconst (v := 1) d_Mo_feed_41 rfl ?_
      refine lk_iadd d_Mo_feed_42 ?_
      replace h := x_nm h
      refine lk_putI (k := 4) d_Mo_feed_43 ha4 (by decide) rfl (by decide) lf_Mo_172 rfl rfl ?_
      refine lk_aload_n d_Mo_feed_46 rfl ?_
      obtain ⟨p9, hp9, h⟩ := x_b h
      refine lk_callV0 d_Mo_feed_47 (x_obm ha4 rfl) (c_Mo_noSearch hp9) (Nat.le_of_ble_eq_true rfl) rfl M_Mo_noSearch lm_Mo_157 in_Mo_noSearch se_Mo_noSearch (by decide) rfl (Nat.le_of_ble_eq_true rfl) ?_
      refine lk_iconst (v := 1) d_Mo_feed_50 rfl ?_
      cases h
      exact Lk.stop ⟨rfl, Or.inr (Or.inl ⟨_, _, d_Mo_feed_51, rfl, rfl, rfl, rfl⟩)⟩
    · replace h := x_ifp hc h
      refine lk_iconst (v := 0) d_Mo_feed_21 rfl ?_
      cases h
      exact Lk.stop ⟨rfl, Or.inr (Or.inl ⟨_, _, d_Mo_feed_22, rfl, rfl, rfl, rfl⟩)⟩
def f_Mo_clear (z0 : Nat) (s : hv_S) : Option (hv_S) :=
  (x_ob s 11 ((some z0))).bind fun a1 =>
  (some (hv_setI s a1 0 0)).bind fun s2 =>
  (some (hv_setI s2 a1 4 0)).bind fun s3 =>
  (f_Mo_noSearch a1 s3).bind fun p4 =>
  some p4
set_option maxRecDepth 4000 in
set_option maxHeartbeats 2000000 in
theorem c_Mo_clear {G : lt_G} {z0 : Nat} {s : hv_S} {p : hv_S} (h : f_Mo_clear z0 s = some p) : Ck G m_Mo_clear 2 0 0 [vR (some z0)] s none p := by
  refine Ck.of (by decide) (Nat.le_of_ble_eq_true rfl) ?_
  unfold f_Mo_clear at h
  refine lk_aload_n d_Mo_clear_0 rfl ?_
  refine lk_iconst (v := 0) d_Mo_clear_1 rfl ?_
  obtain ⟨a1, ha1, h⟩ := x_b h
  replace h := x_nm h
  refine lk_putI (k := 0) d_Mo_clear_2 ha1 (by decide) rfl (by decide) lf_Mo_102 rfl rfl ?_
  refine lk_aload_n d_Mo_clear_5 rfl ?_
  refine lk_iconst (v := 0) d_Mo_clear_6 rfl ?_
  replace h := x_nm h
  refine lk_putI (k := 4) d_Mo_clear_7 ha1 (by decide) rfl (by decide) lf_Mo_172 rfl rfl ?_
  refine lk_aload_n d_Mo_clear_10 rfl ?_
  obtain ⟨p4, hp4, h⟩ := x_b h
  refine lk_callV0 d_Mo_clear_11 (x_obm ha1 rfl) (c_Mo_noSearch hp4) (Nat.le_of_ble_eq_true rfl) rfl M_Mo_noSearch lm_Mo_157 in_Mo_noSearch se_Mo_noSearch (by decide) rfl (Nat.le_of_ble_eq_true rfl) ?_
  cases h
  exact Lk.stop ⟨rfl, Or.inl ⟨d_Mo_clear_14, rfl, rfl, rfl⟩⟩
def f_Mo_isRight (z0 : Nat) (x1 : Int32) (x2 : Int32) (s : hv_S) : Option (Int32 × hv_S) :=
  (x_ob s 11 ((some z0))).bind fun a1 =>
  ((
    if (hv_I s a1 4) ≤ x2 then
      some 0
    else
      (x_ar s 0 (hv_R s a1 7)).bind fun q2 =>
      (x_ix q2.2 x1).bind fun k3 =>
      if (hv_I s q2.1 k3) = 1 then
        some 1
      else
        (x_ix q2.2 x1).bind fun k4 =>
        if (hv_I s q2.1 k4) = 0 then
          (x_ar s 0 (hv_R s a1 8)).bind fun q5 =>
          (x_ix q5.2 x1).bind fun k6 =>
          (x_ar s 0 (hv_R s a1 5)).bind fun q7 =>
          (x_ix q7.2 x2).bind fun k8 =>
          if (hv_I s q5.1 k6) = (hv_I s q7.1 k8) then
            some 1
          else
            some 0
        else
          some 0
  ) : Option (Int32)).bind fun t9 =>
  (x_z t9).bind fun z10 =>
  some ((z10, s))
set_option maxRecDepth 4000 in
set_option maxHeartbeats 2000000 in
theorem c_Mo_isRight {G : lt_G} {z0 : Nat} {x1 : Int32} {x2 : Int32} {s : hv_S} {p : Int32 × hv_S} (h : f_Mo_isRight z0 x1 x2 s = some p) : Ck G m_Mo_isRight 1 0 0 [vR (some z0), vI x1, vI x2] s (some (vI p.1)) p.2 := by
  refine Ck.of (by decide) (Nat.le_of_ble_eq_true rfl) ?_
  unfold f_Mo_isRight at h
  refine lk_iload_n d_Mo_isRight_0 rfl ?_
  refine lk_aload_n d_Mo_isRight_1 rfl ?_
  obtain ⟨a1, ha1, h⟩ := x_b h
  refine lk_getI (k := 4) d_Mo_isRight_2 ha1 (by decide) rfl (by decide) lf_Mo_172 rfl ?_
  obtain ⟨t9, hj, h⟩ := x_b h
  refine Lk.joinA 47 [] [] rfl 2 [vI t9] ?_ ?_
  · replace h := hj
    refine lk_icmp_ge (tgt := 46) d_Mo_isRight_5 (by decide) (fun hc => ?_) (fun hc => ?_)
    · replace h := x_ifp hc h
      refine lk_iconst (v := 0) d_Mo_isRight_46 rfl ?_
      cases h
      refine Lk.sel [] rfl ?_
      exact Lk.stop ⟨rfl, rfl, rfl, rfl, rfl, rfl⟩
    · replace h := x_ifn hc h
      refine lk_aload_n d_Mo_isRight_8 rfl ?_
      refine lk_getR (k := 7) d_Mo_isRight_9 ha1 (by decide) rfl (by decide) lf_Mo_16 rfl ?_
      refine lk_iload_n d_Mo_isRight_12 rfl ?_
      obtain ⟨q2, hq2, h⟩ := x_b h
      obtain ⟨k3, hk3, h⟩ := x_b h
      refine lk_iald d_Mo_isRight_13 hq2 hk3 ?_
      refine lk_iconst (v := 1) d_Mo_isRight_14 rfl ?_
      refine lk_icmp_eq (tgt := 42) d_Mo_isRight_15 (by decide) (fun hc => ?_) (fun hc => ?_)
      · replace h := x_ifp hc h
        refine lk_iconst (v := 1) d_Mo_isRight_42 rfl ?_
        refine lk_goto (tgt := 47) d_Mo_isRight_43 (by decide) ?_
        cases h
        refine Lk.sel [] rfl ?_
        exact Lk.stop ⟨rfl, rfl, rfl, rfl, rfl, rfl⟩
      · replace h := x_ifn hc h
        refine lk_aload_n d_Mo_isRight_18 rfl ?_
        refine lk_getR (k := 7) d_Mo_isRight_19 ha1 (by decide) rfl (by decide) lf_Mo_16 rfl ?_
        refine lk_iload_n d_Mo_isRight_22 rfl ?_
        obtain ⟨k4, hk4, h⟩ := x_b h
        refine lk_iald d_Mo_isRight_23 hq2 hk4 ?_
        refine lk_if_ne (tgt := 46) d_Mo_isRight_24 (by decide) (fun hc => ?_) (fun hc => ?_)
        · replace h := x_ifn hc h
          refine lk_iconst (v := 0) d_Mo_isRight_46 rfl ?_
          cases h
          refine Lk.sel [] rfl ?_
          exact Lk.stop ⟨rfl, rfl, rfl, rfl, rfl, rfl⟩
        · replace h := x_ifp hc h
          refine lk_aload_n d_Mo_isRight_27 rfl ?_
          refine lk_getR (k := 8) d_Mo_isRight_28 ha1 (by decide) rfl (by decide) lf_Mo_19 rfl ?_
          refine lk_iload_n d_Mo_isRight_31 rfl ?_
          obtain ⟨q5, hq5, h⟩ := x_b h
          obtain ⟨k6, hk6, h⟩ := x_b h
          refine lk_iald d_Mo_isRight_32 hq5 hk6 ?_
          refine lk_aload_n d_Mo_isRight_33 rfl ?_
          refine lk_getR (k := 5) d_Mo_isRight_34 ha1 (by decide) rfl (by decide) lf_Mo_13 rfl ?_
          refine lk_iload_n d_Mo_isRight_37 rfl ?_
          obtain ⟨q7, hq7, h⟩ := x_b h
          obtain ⟨k8, hk8, h⟩ := x_b h
          refine lk_iald d_Mo_isRight_38 hq7 hk8 ?_
          refine lk_icmp_ne (tgt := 46) d_Mo_isRight_39 (by decide) (fun hc => ?_) (fun hc => ?_)
          · replace h := x_ifn hc h
            refine lk_iconst (v := 0) d_Mo_isRight_46 rfl ?_
            cases h
            refine Lk.sel [] rfl ?_
            exact Lk.stop ⟨rfl, rfl, rfl, rfl, rfl, rfl⟩
          · replace h := x_ifp hc h
            refine lk_iconst (v := 1) d_Mo_isRight_42 rfl ?_
            refine lk_goto (tgt := 47) d_Mo_isRight_43 (by decide) ?_
            cases h
            refine Lk.sel [] rfl ?_
            exact Lk.stop ⟨rfl, rfl, rfl, rfl, rfl, rfl⟩
  · clear hj
    obtain ⟨z10, hz100, h⟩ := x_b h
    obtain ⟨rfl, hz10⟩ := x_z_some hz100
    cases h
    exact Lk.stop ⟨rfl, Or.inr (Or.inl ⟨_, _, d_Mo_isRight_47, rfl, x_zn hz10, rfl, rfl⟩)⟩
def L_Mo_begin_2 : Nat → Option Nat → Int32 → Int32 → hv_S → Option (hv_S)
  | 0, _, _, _, _ => none
  | n + 1, x0, x1, x2, s =>
    if 8 ≤ x2 then
      some s
    else
      (x_ob s 11 x0).bind fun a1 =>
      (x_ar s 0 (hv_R s a1 22)).bind fun q2 =>
      (x_ix q2.2 x2).bind fun k3 =>
      (some (hv_setI s q2.1 k3 ((-1)))).bind fun s4 =>
      L_Mo_begin_2 n x0 x1 (x2 + 1) s4
set_option maxRecDepth 4000 in
set_option maxHeartbeats 2000000 in
theorem l_Mo_begin_2 {G : lt_G} : ∀ (n : Nat) (x0 : Option Nat) (x1 : Int32) (x2 : Int32) (s : hv_S) (e0 : hv_S), L_Mo_begin_2 n x0 x1 x2 s = some e0 → Lk G m_Mo_begin 1 2 [(0, vR x0), (1, vI x1), (2, vI x2)] [] s 0 0 (lk_at 21 [(0, vR x0), (1, vI x1)] [] e0 0 0) := by
  intro n
  induction n with
  | zero => intro x0 x1 x2 s e0 h; cases h
  | succ n ih =>
    intro x0 x1 x2 s e0 h
    unfold L_Mo_begin_2 at h
    refine lk_iload_n d_Mo_begin_2 rfl ?_
    refine lk_bipush (v := 8) d_Mo_begin_3 rfl ?_
    refine lk_icmp_ge (tgt := 21) d_Mo_begin_5 (by decide) (fun hc => ?_) (fun hc => ?_)
    · replace h := x_ifp hc h
      cases h
      refine Lk.sel [0, 1] rfl ?_
      exact Lk.stop ⟨rfl, rfl, rfl, rfl, rfl, rfl⟩
    · replace h := x_ifn hc h
      refine lk_aload_n d_Mo_begin_8 rfl ?_
      obtain ⟨a1, ha1, h⟩ := x_b h
      refine lk_getR (k := 22) d_Mo_begin_9 ha1 (by decide) rfl (by decide) lf_Mo_46 rfl ?_
      refine lk_iload_n d_Mo_begin_12 rfl ?_
      refine lk_iconst (v := (-1)) d_Mo_begin_13 rfl ?_
      obtain ⟨q2, hq2, h⟩ := x_b h
      obtain ⟨k3, hk3, h⟩ := x_b h
      replace h := x_nm h
      refine lk_iast d_Mo_begin_14 hq2 hk3 ?_
      refine lk_iinc (v := _ + 1) d_Mo_begin_15 rfl rfl (by decide) rfl ?_
      refine lk_goto (tgt := 2) d_Mo_begin_18 (by decide) ?_
      refine Lk.sel [0, 1, 2] rfl ?_
      exact ih _ _ _ _ _ h
def f_Mo_begin (z0 : Nat) (x1 : Int32) (s : hv_S) : Option (hv_S) :=
  (L_Mo_begin_2 100000 ((some z0)) x1 0 s).bind fun e5 =>
  (x_ob e5 11 ((some z0))).bind fun a6 =>
  (x_ar e5 0 (hv_R e5 a6 22)).bind fun q7 =>
  (x_ix q7.2 0).bind fun k8 =>
  (some (hv_setI e5 q7.1 k8 x1)).bind fun s9 =>
  some s9
set_option maxRecDepth 4000 in
set_option maxHeartbeats 2000000 in
theorem c_Mo_begin {G : lt_G} {z0 : Nat} {x1 : Int32} {s : hv_S} {p : hv_S} (h : f_Mo_begin z0 x1 s = some p) : Ck G m_Mo_begin 1 0 0 [vR (some z0), vI x1] s none p := by
  refine Ck.of (by decide) (Nat.le_of_ble_eq_true rfl) ?_
  unfold f_Mo_begin at h
  refine lk_iconst (v := 0) d_Mo_begin_0 rfl ?_
  refine lk_istore_n d_Mo_begin_1 (by decide) rfl ?_
  obtain ⟨e5, hl, h⟩ := x_b h
  refine Lk.sel [0, 1, 2] rfl ?_
  refine Lk.trans (l_Mo_begin_2 _ _ _ _ _ _ hl) ?_
  intro pc' lo' st' s' mc' ms' hx
  obtain ⟨rfl, rfl, rfl, rfl, rfl, rfl⟩ := hx
  refine lk_aload_n d_Mo_begin_21 rfl ?_
  obtain ⟨a6, ha6, h⟩ := x_b h
  refine lk_getR (k := 22) d_Mo_begin_22 ha6 (by decide) rfl (by decide) lf_Mo_46 rfl ?_
  refine lk_iconst (v := 0) d_Mo_begin_25 rfl ?_
  refine lk_iload_n d_Mo_begin_26 rfl ?_
  obtain ⟨q7, hq7, h⟩ := x_b h
  obtain ⟨k8, hk8, h⟩ := x_b h
  replace h := x_nm h
  refine lk_iast d_Mo_begin_27 hq7 hk8 ?_
  cases h
  exact Lk.stop ⟨rfl, Or.inl ⟨d_Mo_begin_28, rfl, rfl, rfl⟩⟩
def L_Mo_otherWay_22 : Nat → Option Nat → Int32 → hv_S → Option (hv_S)
  | 0, _, _, _ => none
  | n + 1, x0, x3, s =>
    if 8 ≤ x3 then
      some s
    else
      (x_ob s 11 x0).bind fun a8 =>
      (x_ar s 0 (hv_R s a8 22)).bind fun q9 =>
      (x_ix q9.2 x3).bind fun k10 =>
      (x_ar s 0 (hv_R s a8 21)).bind fun q11 =>
      (x_ix q11.2 (((8 : Int32) * (hv_I s a8 18)) + x3)).bind fun k12 =>
      (some (hv_setI s q11.1 k12 (hv_I s q9.1 k10))).bind fun s13 =>
      L_Mo_otherWay_22 n x0 (x3 + 1) s13
set_option maxRecDepth 4000 in
set_option maxHeartbeats 2000000 in
theorem l_Mo_otherWay_22 {G : lt_G} : ∀ (n : Nat) (x0 : Option Nat) (x3 : Int32) (s : hv_S) (e0 : hv_S), L_Mo_otherWay_22 n x0 x3 s = some e0 → Lk G m_Mo_otherWay 1 22 [(0, vR x0), (3, vI x3)] [] s 0 0 (lk_at 54 [(0, vR x0)] [] e0 0 0) := by
  intro n
  induction n with
  | zero => intro x0 x3 s e0 h; cases h
  | succ n ih =>
    intro x0 x3 s e0 h
    unfold L_Mo_otherWay_22 at h
    refine lk_iload_n d_Mo_otherWay_22 rfl ?_
    refine lk_bipush (v := 8) d_Mo_otherWay_23 rfl ?_
    refine lk_icmp_ge (tgt := 54) d_Mo_otherWay_25 (by decide) (fun hc => ?_) (fun hc => ?_)
    · replace h := x_ifp hc h
      cases h
      refine Lk.sel [0] rfl ?_
      exact Lk.stop ⟨rfl, rfl, rfl, rfl, rfl, rfl⟩
    · replace h := x_ifn hc h
      refine lk_aload_n d_Mo_otherWay_28 rfl ?_
      obtain ⟨a8, ha8, h⟩ := x_b h
      refine lk_getR (k := 21) d_Mo_otherWay_29 ha8 (by decide) rfl (by decide) lf_Mo_43 rfl ?_
      refine lk_bipush (v := 8) d_Mo_otherWay_32 rfl ?_
      refine lk_aload_n d_Mo_otherWay_34 rfl ?_
      refine lk_getI (k := 18) d_Mo_otherWay_35 ha8 (by decide) rfl (by decide) lf_Mo_169 rfl ?_
      refine lk_imul d_Mo_otherWay_38 ?_
      refine lk_iload_n d_Mo_otherWay_39 rfl ?_
      refine lk_iadd d_Mo_otherWay_40 ?_
      refine lk_aload_n d_Mo_otherWay_41 rfl ?_
      refine lk_getR (k := 22) d_Mo_otherWay_42 ha8 (by decide) rfl (by decide) lf_Mo_46 rfl ?_
      refine lk_iload_n d_Mo_otherWay_45 rfl ?_
      obtain ⟨q9, hq9, h⟩ := x_b h
      obtain ⟨k10, hk10, h⟩ := x_b h
      refine lk_iald d_Mo_otherWay_46 hq9 hk10 ?_
      obtain ⟨q11, hq11, h⟩ := x_b h
      obtain ⟨k12, hk12, h⟩ := x_b h
      replace h := x_nm h
      refine lk_iast d_Mo_otherWay_47 hq11 hk12 ?_
      refine lk_iinc (v := _ + 1) d_Mo_otherWay_48 rfl rfl (by decide) rfl ?_
      refine lk_goto (tgt := 22) d_Mo_otherWay_51 (by decide) ?_
      refine Lk.sel [0, 3] rfl ?_
      exact ih _ _ _ _ h
def f_Mo_otherWay (z0 : Nat) (x1 : Int32) (x2 : Int32) (s : hv_S) : Option (hv_S) :=
  (x_ob s 11 ((some z0))).bind fun a1 =>
  (x_ar s 0 (hv_R s a1 19)).bind fun q2 =>
  (x_ix q2.2 (hv_I s a1 18)).bind fun k3 =>
  (some (hv_setI s q2.1 k3 x1)).bind fun s4 =>
  (x_ar s4 0 (hv_R s4 a1 20)).bind fun q5 =>
  (x_ix q5.2 (hv_I s4 a1 18)).bind fun k6 =>
  (some (hv_setI s4 q5.1 k6 x2)).bind fun s7 =>
  (L_Mo_otherWay_22 100000 ((some z0)) 0 s7).bind fun e14 =>
  (x_ob e14 11 ((some z0))).bind fun a15 =>
  (some (hv_setI e14 a15 18 ((hv_I e14 a15 18) + (1 : Int32)))).bind fun s16 =>
  some s16
set_option maxRecDepth 4000 in
set_option maxHeartbeats 2000000 in
theorem c_Mo_otherWay {G : lt_G} {z0 : Nat} {x1 : Int32} {x2 : Int32} {s : hv_S} {p : hv_S} (h : f_Mo_otherWay z0 x1 x2 s = some p) : Ck G m_Mo_otherWay 1 0 0 [vR (some z0), vI x1, vI x2] s none p := by
  refine Ck.of (by decide) (Nat.le_of_ble_eq_true rfl) ?_
  unfold f_Mo_otherWay at h
  refine lk_aload_n d_Mo_otherWay_0 rfl ?_
  obtain ⟨a1, ha1, h⟩ := x_b h
  refine lk_getR (k := 19) d_Mo_otherWay_1 ha1 (by decide) rfl (by decide) lf_Mo_37 rfl ?_
  refine lk_aload_n d_Mo_otherWay_4 rfl ?_
  refine lk_getI (k := 18) d_Mo_otherWay_5 ha1 (by decide) rfl (by decide) lf_Mo_169 rfl ?_
  refine lk_iload_n d_Mo_otherWay_8 rfl ?_
  obtain ⟨q2, hq2, h⟩ := x_b h
  obtain ⟨k3, hk3, h⟩ := x_b h
  replace h := x_nm h
  refine lk_iast d_Mo_otherWay_9 hq2 hk3 ?_
  refine lk_aload_n d_Mo_otherWay_10 rfl ?_
  refine lk_getR (k := 20) d_Mo_otherWay_11 ha1 (by decide) rfl (by decide) lf_Mo_40 rfl ?_
  refine lk_aload_n d_Mo_otherWay_14 rfl ?_
  refine lk_getI (k := 18) d_Mo_otherWay_15 ha1 (by decide) rfl (by decide) lf_Mo_169 rfl ?_
  refine lk_iload_n d_Mo_otherWay_18 rfl ?_
  obtain ⟨q5, hq5, h⟩ := x_b h
  obtain ⟨k6, hk6, h⟩ := x_b h
  replace h := x_nm h
  refine lk_iast d_Mo_otherWay_19 hq5 hk6 ?_
  refine lk_iconst (v := 0) d_Mo_otherWay_20 rfl ?_
  refine lk_istore_n d_Mo_otherWay_21 (by decide) rfl ?_
  obtain ⟨e14, hl, h⟩ := x_b h
  refine Lk.sel [0, 3] rfl ?_
  refine Lk.trans (l_Mo_otherWay_22 _ _ _ _ _ hl) ?_
  intro pc' lo' st' s' mc' ms' hx
  obtain ⟨rfl, rfl, rfl, rfl, rfl, rfl⟩ := hx
  refine lk_aload_n d_Mo_otherWay_54 rfl ?_
  refine lk_dup d_Mo_otherWay_55 rfl ?_
  obtain ⟨a15, ha15, h⟩ := x_b h
  refine lk_getI (k := 18) d_Mo_otherWay_56 ha15 (by decide) rfl (by decide) lf_Mo_169 rfl ?_
  refine lk_iconst (v := 1) d_Mo_otherWay_59 rfl ?_
  refine lk_iadd d_Mo_otherWay_60 ?_
  replace h := x_nm h
  refine lk_putI (k := 18) d_Mo_otherWay_61 ha15 (by decide) rfl (by decide) lf_Mo_169 rfl rfl ?_
  cases h
  exact Lk.stop ⟨rfl, Or.inl ⟨d_Mo_otherWay_64, rfl, rfl, rfl⟩⟩
def L_Mo_back_21 : Nat → Option Nat → Int32 → hv_S → Option (hv_S)
  | 0, _, _, _ => none
  | n + 1, x0, x1, s =>
    if 8 ≤ x1 then
      some s
    else
      (x_ob s 11 x0).bind fun a3 =>
      (x_ar s 0 (hv_R s a3 21)).bind fun q4 =>
      (x_ix q4.2 (((8 : Int32) * (hv_I s a3 18)) + x1)).bind fun k5 =>
      (x_ar s 0 (hv_R s a3 22)).bind fun q6 =>
      (x_ix q6.2 x1).bind fun k7 =>
      (some (hv_setI s q6.1 k7 (hv_I s q4.1 k5))).bind fun s8 =>
      L_Mo_back_21 n x0 (x1 + 1) s8
set_option maxRecDepth 4000 in
set_option maxHeartbeats 2000000 in
theorem l_Mo_back_21 {G : lt_G} : ∀ (n : Nat) (x0 : Option Nat) (x1 : Int32) (s : hv_S) (e0 : hv_S), L_Mo_back_21 n x0 x1 s = some e0 → Lk G m_Mo_back 1 21 [(0, vR x0), (1, vI x1)] [] s 0 0 (lk_at 53 [(0, vR x0)] [] e0 0 0) := by
  intro n
  induction n with
  | zero => intro x0 x1 s e0 h; cases h
  | succ n ih =>
    intro x0 x1 s e0 h
    unfold L_Mo_back_21 at h
    refine lk_iload_n d_Mo_back_21 rfl ?_
    refine lk_bipush (v := 8) d_Mo_back_22 rfl ?_
    refine lk_icmp_ge (tgt := 53) d_Mo_back_24 (by decide) (fun hc => ?_) (fun hc => ?_)
    · replace h := x_ifp hc h
      cases h
      refine Lk.sel [0] rfl ?_
      exact Lk.stop ⟨rfl, rfl, rfl, rfl, rfl, rfl⟩
    · replace h := x_ifn hc h
      refine lk_aload_n d_Mo_back_27 rfl ?_
      obtain ⟨a3, ha3, h⟩ := x_b h
      refine lk_getR (k := 22) d_Mo_back_28 ha3 (by decide) rfl (by decide) lf_Mo_46 rfl ?_
      refine lk_iload_n d_Mo_back_31 rfl ?_
      refine lk_aload_n d_Mo_back_32 rfl ?_
      refine lk_getR (k := 21) d_Mo_back_33 ha3 (by decide) rfl (by decide) lf_Mo_43 rfl ?_
      refine lk_bipush (v := 8) d_Mo_back_36 rfl ?_
      refine lk_aload_n d_Mo_back_38 rfl ?_
      refine lk_getI (k := 18) d_Mo_back_39 ha3 (by decide) rfl (by decide) lf_Mo_169 rfl ?_
      refine lk_imul d_Mo_back_42 ?_
      refine lk_iload_n d_Mo_back_43 rfl ?_
      refine lk_iadd d_Mo_back_44 ?_
      obtain ⟨q4, hq4, h⟩ := x_b h
      obtain ⟨k5, hk5, h⟩ := x_b h
      refine lk_iald d_Mo_back_45 hq4 hk5 ?_
      obtain ⟨q6, hq6, h⟩ := x_b h
      obtain ⟨k7, hk7, h⟩ := x_b h
      replace h := x_nm h
      refine lk_iast d_Mo_back_46 hq6 hk7 ?_
      refine lk_iinc (v := _ + 1) d_Mo_back_47 rfl rfl (by decide) rfl ?_
      refine lk_goto (tgt := 21) d_Mo_back_50 (by decide) ?_
      refine Lk.sel [0, 1] rfl ?_
      exact ih _ _ _ _ h
def f_Mo_back (z0 : Nat) (s : hv_S) : Option (Int32 × hv_S) :=
  (x_ob s 11 ((some z0))).bind fun a1 =>
  if (hv_I s a1 18) = 0 then
    some (((-1), s))
  else
    (some (hv_setI s a1 18 ((hv_I s a1 18) - (1 : Int32)))).bind fun s2 =>
    (L_Mo_back_21 100000 ((some z0)) 0 s2).bind fun e9 =>
    (x_ob e9 11 ((some z0))).bind fun a10 =>
    (x_ar e9 0 (hv_R e9 a10 19)).bind fun q11 =>
    (x_ix q11.2 (hv_I e9 a10 18)).bind fun k12 =>
    some ((hv_I e9 q11.1 k12, e9))
set_option maxRecDepth 4000 in
set_option maxHeartbeats 2000000 in
theorem c_Mo_back {G : lt_G} {z0 : Nat} {s : hv_S} {p : Int32 × hv_S} (h : f_Mo_back z0 s = some p) : Ck G m_Mo_back 1 0 0 [vR (some z0)] s (some (vI p.1)) p.2 := by
  refine Ck.of (by decide) (Nat.le_of_ble_eq_true rfl) ?_
  unfold f_Mo_back at h
  refine lk_aload_n d_Mo_back_0 rfl ?_
  obtain ⟨a1, ha1, h⟩ := x_b h
  refine lk_getI (k := 18) d_Mo_back_1 ha1 (by decide) rfl (by decide) lf_Mo_169 rfl ?_
  refine lk_if_ne (tgt := 9) d_Mo_back_4 (by decide) (fun hc => ?_) (fun hc => ?_)
  · replace h := x_ifn hc h
    refine lk_aload_n d_Mo_back_9 rfl ?_
    refine lk_dup d_Mo_back_10 rfl ?_
    refine lk_getI (k := 18) d_Mo_back_11 ha1 (by decide) rfl (by decide) lf_Mo_169 rfl ?_
    refine lk_iconst (v := 1) d_Mo_back_14 rfl ?_
    refine lk_isub d_Mo_back_15 ?_
    replace h := x_nm h
    refine lk_putI (k := 18) d_Mo_back_16 ha1 (by decide) rfl (by decide) lf_Mo_169 rfl rfl ?_
    refine lk_iconst (v := 0) d_Mo_back_19 rfl ?_
    refine lk_istore_n d_Mo_back_20 (by decide) rfl ?_
    obtain ⟨e9, hl, h⟩ := x_b h
    refine Lk.sel [0, 1] rfl ?_
    refine Lk.trans (l_Mo_back_21 _ _ _ _ _ hl) ?_
    intro pc' lo' st' s' mc' ms' hx
    obtain ⟨rfl, rfl, rfl, rfl, rfl, rfl⟩ := hx
    refine lk_aload_n d_Mo_back_53 rfl ?_
    obtain ⟨a10, ha10, h⟩ := x_b h
    refine lk_getR (k := 19) d_Mo_back_54 ha10 (by decide) rfl (by decide) lf_Mo_37 rfl ?_
    refine lk_aload_n d_Mo_back_57 rfl ?_
    refine lk_getI (k := 18) d_Mo_back_58 ha10 (by decide) rfl (by decide) lf_Mo_169 rfl ?_
    obtain ⟨q11, hq11, h⟩ := x_b h
    obtain ⟨k12, hk12, h⟩ := x_b h
    refine lk_iald d_Mo_back_61 hq11 hk12 ?_
    cases h
    exact Lk.stop ⟨rfl, Or.inr (Or.inl ⟨_, _, d_Mo_back_62, rfl, rfl, rfl, rfl⟩)⟩
  · replace h := x_ifp hc h
    refine lk_iconst (v := (-1)) d_Mo_back_7 rfl ?_
    cases h
    exact Lk.stop ⟨rfl, Or.inr (Or.inl ⟨_, _, d_Mo_back_8, rfl, rfl, rfl, rfl⟩)⟩
