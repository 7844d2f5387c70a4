/-! WHAT THE METHODS DO: partial functions f_ over the view, loops L_, and the proofs c_, l_ that the bytecode does so; printed by wip/whole/gen_dec.py -/
def f_Tx_add (z0 : Nat) (x1 : Int32) (s : hv_S) : Option (Int32 × hv_S) :=
  (some (x1 - (97 : Int32))).bind fun y1 =>
  if y1 < 0 then
    some ((0, s))
  else
    if 8 ≤ y1 then
      some ((0, s))
    else
      (x_ob s 2 ((some z0))).bind fun a2 =>
      if (hv_I s a2 1) < 0 then
        some ((0, s))
      else
        (x_ar s 0 (hv_R s a2 0)).bind fun q3 =>
        if (hv_I s a2 1) < (nI q3.2) then
          (x_ix q3.2 (hv_I s a2 1)).bind fun k4 =>
          (some (hv_setI s q3.1 k4 y1)).bind fun s5 =>
          (some (hv_setI s5 a2 1 ((hv_I s5 a2 1) + (1 : Int32)))).bind fun s6 =>
          some ((1, s6))
        else
          some ((0, s))
set_option maxRecDepth 4000 in
set_option maxHeartbeats 2000000 in
theorem c_Tx_add {G : lt_G} {z0 : Nat} {x1 : Int32} {s : hv_S} {p : Int32 × hv_S} (h : f_Tx_add z0 x1 s = some p) : Ck G m_Tx_add 1 0 0 [vR (some z0), vI x1] s (some (vI p.1)) p.2 := by
  refine Ck.of (by decide) (Nat.le_of_ble_eq_true rfl) ?_
  unfold f_Tx_add at h
  refine lk_iload_n d_Tx_add_0 rfl ?_
  refine lk_bipush (v := 97) d_Tx_add_1 rfl ?_
  refine lk_isub d_Tx_add_3 ?_
  replace h := x_nm h
  refine lk_istore_n d_Tx_add_4 (by decide) rfl ?_
  refine lk_iload_n d_Tx_add_5 rfl ?_
  refine lk_if_lt (tgt := 34) d_Tx_add_6 (by decide) (fun hc => ?_) (fun hc => ?_)
  · replace h := x_ifp hc h
    refine lk_iconst (v := 0) d_Tx_add_34 rfl ?_
    cases h
    exact Lk.stop ⟨rfl, Or.inr (Or.inl ⟨_, _, d_Tx_add_35, rfl, rfl, rfl, rfl⟩)⟩
  · replace h := x_ifn hc h
    refine lk_iload_n d_Tx_add_9 rfl ?_
    refine lk_bipush (v := 8) d_Tx_add_10 rfl ?_
    refine lk_icmp_ge (tgt := 34) d_Tx_add_12 (by decide) (fun hc => ?_) (fun hc => ?_)
    · replace h := x_ifp hc h
      refine lk_iconst (v := 0) d_Tx_add_34 rfl ?_
      cases h
      exact Lk.stop ⟨rfl, Or.inr (Or.inl ⟨_, _, d_Tx_add_35, rfl, rfl, rfl, rfl⟩)⟩
    · replace h := x_ifn hc h
      refine lk_aload_n d_Tx_add_15 rfl ?_
      obtain ⟨a2, ha2, h⟩ := x_b h
      refine lk_getI (k := 1) d_Tx_add_16 ha2 (by decide) rfl (by decide) lf_Tx_15 rfl ?_
      refine lk_if_lt (tgt := 34) d_Tx_add_19 (by decide) (fun hc => ?_) (fun hc => ?_)
      · replace h := x_ifp hc h
        refine lk_iconst (v := 0) d_Tx_add_34 rfl ?_
        cases h
        exact Lk.stop ⟨rfl, Or.inr (Or.inl ⟨_, _, d_Tx_add_35, rfl, rfl, rfl, rfl⟩)⟩
      · replace h := x_ifn hc h
        refine lk_aload_n d_Tx_add_22 rfl ?_
        refine lk_getI (k := 1) d_Tx_add_23 ha2 (by decide) rfl (by decide) lf_Tx_15 rfl ?_
        refine lk_aload_n d_Tx_add_26 rfl ?_
        refine lk_getR (k := 0) d_Tx_add_27 ha2 (by decide) rfl (by decide) lf_Tx_9 rfl ?_
        obtain ⟨q3, hq3, h⟩ := x_b h
        refine lk_alen d_Tx_add_30 hq3 (by decide) ?_
        refine lk_icmp_lt (tgt := 36) d_Tx_add_31 (by decide) (fun hc => ?_) (fun hc => ?_)
        · replace h := x_ifp hc h
          refine lk_aload_n d_Tx_add_36 rfl ?_
          refine lk_getR (k := 0) d_Tx_add_37 ha2 (by decide) rfl (by decide) lf_Tx_9 rfl ?_
          refine lk_aload_n d_Tx_add_40 rfl ?_
          refine lk_getI (k := 1) d_Tx_add_41 ha2 (by decide) rfl (by decide) lf_Tx_15 rfl ?_
          refine lk_iload_n d_Tx_add_44 rfl ?_
          obtain ⟨k4, hk4, h⟩ := x_b h
          replace h := x_nm h
          refine lk_iast d_Tx_add_45 hq3 hk4 ?_
          refine lk_aload_n d_Tx_add_46 rfl ?_
          refine lk_dup d_Tx_add_47 rfl ?_
          refine lk_getI (k := 1) d_Tx_add_48 ha2 (by decide) rfl (by decide) lf_Tx_15 rfl ?_
          refine lk_iconst (v := 1) d_Tx_add_51 rfl ?_
          refine lk_iadd d_Tx_add_52 ?_
          replace h := x_nm h
          refine lk_putI (k := 1) d_Tx_add_53 ha2 (by decide) rfl (by decide) lf_Tx_15 rfl rfl ?_
          refine lk_iconst (v := 1) d_Tx_add_56 rfl ?_
          cases h
          exact Lk.stop ⟨rfl, Or.inr (Or.inl ⟨_, _, d_Tx_add_57, rfl, rfl, rfl, rfl⟩)⟩
        · replace h := x_ifn hc h
          refine lk_iconst (v := 0) d_Tx_add_34 rfl ?_
          cases h
          exact Lk.stop ⟨rfl, Or.inr (Or.inl ⟨_, _, d_Tx_add_35, rfl, rfl, rfl, rfl⟩)⟩
def f_Tx_empty (z0 : Nat) (s : hv_S) : Option (hv_S) :=
  (x_ob s 2 ((some z0))).bind fun a1 =>
  (some (hv_setI s a1 1 0)).bind fun s2 =>
  some s2
set_option maxRecDepth 4000 in
set_option maxHeartbeats 2000000 in
theorem c_Tx_empty {G : lt_G} {z0 : Nat} {s : hv_S} {p : hv_S} (h : f_Tx_empty z0 s = some p) : Ck G m_Tx_empty 1 0 0 [vR (some z0)] s none p := by
  refine Ck.of (by decide) (Nat.le_of_ble_eq_true rfl) ?_
  unfold f_Tx_empty at h
  refine lk_aload_n d_Tx_empty_0 rfl ?_
  refine lk_iconst (v := 0) d_Tx_empty_1 rfl ?_
  obtain ⟨a1, ha1, h⟩ := x_b h
  replace h := x_nm h
  refine lk_putI (k := 1) d_Tx_empty_2 ha1 (by decide) rfl (by decide) lf_Tx_15 rfl rfl ?_
  cases h
  exact Lk.stop ⟨rfl, Or.inl ⟨d_Tx_empty_5, rfl, rfl, rfl⟩⟩
def f_Tx_length (z0 : Nat) (s : hv_S) : Option (Int32 × hv_S) :=
  (x_ob s 2 ((some z0))).bind fun a1 =>
  some ((hv_I s a1 1, s))
set_option maxRecDepth 4000 in
set_option maxHeartbeats 2000000 in
theorem c_Tx_length {G : lt_G} {z0 : Nat} {s : hv_S} {p : Int32 × hv_S} (h : f_Tx_length z0 s = some p) : Ck G m_Tx_length 1 0 0 [vR (some z0)] s (some (vI p.1)) p.2 := by
  refine Ck.of (by decide) (Nat.le_of_ble_eq_true rfl) ?_
  unfold f_Tx_length at h
  refine lk_aload_n d_Tx_length_0 rfl ?_
  obtain ⟨a1, ha1, h⟩ := x_b h
  refine lk_getI (k := 1) d_Tx_length_1 ha1 (by decide) rfl (by decide) lf_Tx_15 rfl ?_
  cases h
  exact Lk.stop ⟨rfl, Or.inr (Or.inl ⟨_, _, d_Tx_length_4, rfl, rfl, rfl, rfl⟩)⟩
def f_Tx_letterAt (z0 : Nat) (x1 : Int32) (s : hv_S) : Option (Int32 × hv_S) :=
  ((
    if x1 < 0 then
      some ((-1))
    else
      (x_ob s 2 ((some z0))).bind fun a1 =>
      if (hv_I s a1 1) ≤ x1 then
        some ((-1))
      else
        (x_ar s 0 (hv_R s a1 0)).bind fun q2 =>
        if (nI q2.2) ≤ x1 then
          some ((-1))
        else
          (x_ix q2.2 x1).bind fun k3 =>
          some (hv_I s q2.1 k3)
  ) : Option (Int32)).bind fun t4 =>
  some ((t4, s))
set_option maxRecDepth 4000 in
set_option maxHeartbeats 2000000 in
theorem c_Tx_letterAt {G : lt_G} {z0 : Nat} {x1 : Int32} {s : hv_S} {p : Int32 × hv_S} (h : f_Tx_letterAt z0 x1 s = some p) : Ck G m_Tx_letterAt 1 0 0 [vR (some z0), vI x1] s (some (vI p.1)) p.2 := by
  refine Ck.of (by decide) (Nat.le_of_ble_eq_true rfl) ?_
  unfold f_Tx_letterAt at h
  refine lk_iload_n d_Tx_letterAt_0 rfl ?_
  obtain ⟨t4, hj, h⟩ := x_b h
  refine Lk.joinA 31 [] [] rfl 1 [vI t4] ?_ ?_
  · replace h := hj
    refine lk_if_lt (tgt := 30) d_Tx_letterAt_1 (by decide) (fun hc => ?_) (fun hc => ?_)
    · replace h := x_ifp hc h
      refine lk_iconst (v := (-1)) d_Tx_letterAt_30 rfl ?_
      cases h
      refine Lk.sel [] rfl ?_
      exact Lk.stop ⟨rfl, rfl, rfl, rfl, rfl, rfl⟩
    · replace h := x_ifn hc h
      refine lk_iload_n d_Tx_letterAt_4 rfl ?_
      refine lk_aload_n d_Tx_letterAt_5 rfl ?_
      obtain ⟨a1, ha1, h⟩ := x_b h
      refine lk_getI (k := 1) d_Tx_letterAt_6 ha1 (by decide) rfl (by decide) lf_Tx_15 rfl ?_
      refine lk_icmp_ge (tgt := 30) d_Tx_letterAt_9 (by decide) (fun hc => ?_) (fun hc => ?_)
      · replace h := x_ifp hc h
        refine lk_iconst (v := (-1)) d_Tx_letterAt_30 rfl ?_
        cases h
        refine Lk.sel [] rfl ?_
        exact Lk.stop ⟨rfl, rfl, rfl, rfl, rfl, rfl⟩
      · replace h := x_ifn hc h
        refine lk_iload_n d_Tx_letterAt_12 rfl ?_
        refine lk_aload_n d_Tx_letterAt_13 rfl ?_
        refine lk_getR (k := 0) d_Tx_letterAt_14 ha1 (by decide) rfl (by decide) lf_Tx_9 rfl ?_
        obtain ⟨q2, hq2, h⟩ := x_b h
        refine lk_alen d_Tx_letterAt_17 hq2 (by decide) ?_
        refine lk_icmp_ge (tgt := 30) d_Tx_letterAt_18 (by decide) (fun hc => ?_) (fun hc => ?_)
        · replace h := x_ifp hc h
          refine lk_iconst (v := (-1)) d_Tx_letterAt_30 rfl ?_
          cases h
          refine Lk.sel [] rfl ?_
          exact Lk.stop ⟨rfl, rfl, rfl, rfl, rfl, rfl⟩
        · replace h := x_ifn hc h
          refine lk_aload_n d_Tx_letterAt_21 rfl ?_
          refine lk_getR (k := 0) d_Tx_letterAt_22 ha1 (by decide) rfl (by decide) lf_Tx_9 rfl ?_
          refine lk_iload_n d_Tx_letterAt_25 rfl ?_
          obtain ⟨k3, hk3, h⟩ := x_b h
          refine lk_iald d_Tx_letterAt_26 hq2 hk3 ?_
          refine lk_goto (tgt := 31) d_Tx_letterAt_27 (by decide) ?_
          cases h
          refine Lk.sel [] rfl ?_
          exact Lk.stop ⟨rfl, rfl, rfl, rfl, rfl, rfl⟩
  · clear hj
    cases h
    exact Lk.stop ⟨rfl, Or.inr (Or.inl ⟨_, _, d_Tx_letterAt_31, rfl, rfl, rfl, rfl⟩)⟩
def f_TL_empty (z0 : Nat) (s : hv_S) : Option (hv_S) :=
  (x_ob s 5 ((some z0))).bind fun a1 =>
  (some (hv_setI s a1 2 0)).bind fun s2 =>
  some s2
set_option maxRecDepth 4000 in
set_option maxHeartbeats 2000000 in
theorem c_TL_empty {G : lt_G} {z0 : Nat} {s : hv_S} {p : hv_S} (h : f_TL_empty z0 s = some p) : Ck G m_TL_empty 1 0 0 [vR (some z0)] s none p := by
  refine Ck.of (by decide) (Nat.le_of_ble_eq_true rfl) ?_
  unfold f_TL_empty at h
  refine lk_aload_n d_TL_empty_0 rfl ?_
  refine lk_iconst (v := 0) d_TL_empty_1 rfl ?_
  obtain ⟨a1, ha1, h⟩ := x_b h
  replace h := x_nm h
  refine lk_putI (k := 2) d_TL_empty_2 ha1 (by decide) rfl (by decide) lf_TL_19 rfl rfl ?_
  cases h
  exact Lk.stop ⟨rfl, Or.inl ⟨d_TL_empty_5, rfl, rfl, rfl⟩⟩
def f_TL_size (z0 : Nat) (s : hv_S) : Option (Int32 × hv_S) :=
  (x_ob s 5 ((some z0))).bind fun a1 =>
  some ((hv_I s a1 2, s))
set_option maxRecDepth 4000 in
set_option maxHeartbeats 2000000 in
theorem c_TL_size {G : lt_G} {z0 : Nat} {s : hv_S} {p : Int32 × hv_S} (h : f_TL_size z0 s = some p) : Ck G m_TL_size 1 0 0 [vR (some z0)] s (some (vI p.1)) p.2 := by
  refine Ck.of (by decide) (Nat.le_of_ble_eq_true rfl) ?_
  unfold f_TL_size at h
  refine lk_aload_n d_TL_size_0 rfl ?_
  obtain ⟨a1, ha1, h⟩ := x_b h
  refine lk_getI (k := 2) d_TL_size_1 ha1 (by decide) rfl (by decide) lf_TL_19 rfl ?_
  cases h
  exact Lk.stop ⟨rfl, Or.inr (Or.inl ⟨_, _, d_TL_size_4, rfl, rfl, rfl, rfl⟩)⟩
def f_TL_add (z0 : Nat) (x1 : Int32) (w2 : Int64) (s : hv_S) : Option (hv_S) :=
  (x_ob s 5 ((some z0))).bind fun a1 =>
  ((
    if (hv_I s a1 2) < 0 then
      some s
    else
      if 25 ≤ (hv_I s a1 2) then
        some s
      else
        (x_ar s 0 (hv_R s a1 0)).bind fun q2 =>
        (x_ix q2.2 (hv_I s a1 2)).bind fun k3 =>
        (some (hv_setI s q2.1 k3 x1)).bind fun s4 =>
        (x_ar s4 1 (hv_R s4 a1 1)).bind fun q5 =>
        (x_ix q5.2 (hv_I s4 a1 2)).bind fun k6 =>
        (some (hv_setJ s4 q5.1 k6 w2)).bind fun s7 =>
        (some (hv_setI s7 a1 2 ((hv_I s7 a1 2) + (1 : Int32)))).bind fun s8 =>
        some s8
  ) : Option (hv_S)).bind fun t9 =>
  some t9
set_option maxRecDepth 4000 in
set_option maxHeartbeats 2000000 in
theorem c_TL_add {G : lt_G} {z0 : Nat} {x1 : Int32} {w2 : Int64} {s : hv_S} {p : hv_S} (h : f_TL_add z0 x1 w2 s = some p) : Ck G m_TL_add 1 0 0 [vR (some z0), vI x1, vJ w2] s none p := by
  refine Ck.of (by decide) (Nat.le_of_ble_eq_true rfl) ?_
  unfold f_TL_add at h
  refine lk_aload_n d_TL_add_0 rfl ?_
  obtain ⟨a1, ha1, h⟩ := x_b h
  refine lk_getI (k := 2) d_TL_add_1 ha1 (by decide) rfl (by decide) lf_TL_19 rfl ?_
  obtain ⟨t9, hj, h⟩ := x_b h
  refine Lk.joinS 46 [] [] rfl 1 [] t9 ?_ ?_
  · replace h := hj
    refine lk_if_lt (tgt := 46) d_TL_add_4 (by decide) (fun hc => ?_) (fun hc => ?_)
    · replace h := x_ifp hc h
      cases h
      refine Lk.sel [] rfl ?_
      exact Lk.stop ⟨rfl, rfl, rfl, rfl, rfl, rfl⟩
    · replace h := x_ifn hc h
      refine lk_aload_n d_TL_add_7 rfl ?_
      refine lk_getI (k := 2) d_TL_add_8 ha1 (by decide) rfl (by decide) lf_TL_19 rfl ?_
      refine lk_bipush (v := 25) d_TL_add_11 rfl ?_
      refine lk_icmp_ge (tgt := 46) d_TL_add_13 (by decide) (fun hc => ?_) (fun hc => ?_)
      · replace h := x_ifp hc h
        cases h
        refine Lk.sel [] rfl ?_
        exact Lk.stop ⟨rfl, rfl, rfl, rfl, rfl, rfl⟩
      · replace h := x_ifn hc h
        refine lk_aload_n d_TL_add_16 rfl ?_
        refine lk_getR (k := 0) d_TL_add_17 ha1 (by decide) rfl (by decide) lf_TL_9 rfl ?_
        refine lk_aload_n d_TL_add_20 rfl ?_
        refine lk_getI (k := 2) d_TL_add_21 ha1 (by decide) rfl (by decide) lf_TL_19 rfl ?_
        refine lk_iload_n d_TL_add_24 rfl ?_
        obtain ⟨q2, hq2, h⟩ := x_b h
        obtain ⟨k3, hk3, h⟩ := x_b h
        replace h := x_nm h
        refine lk_iast d_TL_add_25 hq2 hk3 ?_
        refine lk_aload_n d_TL_add_26 rfl ?_
        refine lk_getR (k := 1) d_TL_add_27 ha1 (by decide) rfl (by decide) lf_TL_15 rfl ?_
        refine lk_aload_n d_TL_add_30 rfl ?_
        refine lk_getI (k := 2) d_TL_add_31 ha1 (by decide) rfl (by decide) lf_TL_19 rfl ?_
        refine lk_lload_n d_TL_add_34 rfl ?_
        obtain ⟨q5, hq5, h⟩ := x_b h
        obtain ⟨k6, hk6, h⟩ := x_b h
        replace h := x_nm h
        refine lk_last d_TL_add_35 hq5 hk6 ?_
        refine lk_aload_n d_TL_add_36 rfl ?_
        refine lk_dup d_TL_add_37 rfl ?_
        refine lk_getI (k := 2) d_TL_add_38 ha1 (by decide) rfl (by decide) lf_TL_19 rfl ?_
        refine lk_iconst (v := 1) d_TL_add_41 rfl ?_
        refine lk_iadd d_TL_add_42 ?_
        replace h := x_nm h
        refine lk_putI (k := 2) d_TL_add_43 ha1 (by decide) rfl (by decide) lf_TL_19 rfl rfl ?_
        cases h
        refine Lk.sel [] rfl ?_
        exact Lk.stop ⟨rfl, rfl, rfl, rfl, rfl, rfl⟩
  · clear hj
    cases h
    exact Lk.stop ⟨rfl, Or.inl ⟨d_TL_add_46, rfl, rfl, rfl⟩⟩
def f_TL_instructionAt (z0 : Nat) (x1 : Int32) (s : hv_S) : Option (Int32 × hv_S) :=
  ((
    if x1 < 0 then
      some ((-1))
    else
      (x_ob s 5 ((some z0))).bind fun a1 =>
      if (hv_I s a1 2) ≤ x1 then
        some ((-1))
      else
        if 25 ≤ x1 then
          some ((-1))
        else
          (x_ar s 0 (hv_R s a1 0)).bind fun q2 =>
          (x_ix q2.2 x1).bind fun k3 =>
          some (hv_I s q2.1 k3)
  ) : Option (Int32)).bind fun t4 =>
  some ((t4, s))
set_option maxRecDepth 4000 in
set_option maxHeartbeats 2000000 in
theorem c_TL_instructionAt {G : lt_G} {z0 : Nat} {x1 : Int32} {s : hv_S} {p : Int32 × hv_S} (h : f_TL_instructionAt z0 x1 s = some p) : Ck G m_TL_instructionAt 1 0 0 [vR (some z0), vI x1] s (some (vI p.1)) p.2 := by
  refine Ck.of (by decide) (Nat.le_of_ble_eq_true rfl) ?_
  unfold f_TL_instructionAt at h
  refine lk_iload_n d_TL_instructionAt_0 rfl ?_
  obtain ⟨t4, hj, h⟩ := x_b h
  refine Lk.joinA 28 [] [] rfl 1 [vI t4] ?_ ?_
  · replace h := hj
    refine lk_if_lt (tgt := 27) d_TL_instructionAt_1 (by decide) (fun hc => ?_) (fun hc => ?_)
    · replace h := x_ifp hc h
      refine lk_iconst (v := (-1)) d_TL_instructionAt_27 rfl ?_
      cases h
      refine Lk.sel [] rfl ?_
      exact Lk.stop ⟨rfl, rfl, rfl, rfl, rfl, rfl⟩
    · replace h := x_ifn hc h
      refine lk_iload_n d_TL_instructionAt_4 rfl ?_
      refine lk_aload_n d_TL_instructionAt_5 rfl ?_
      obtain ⟨a1, ha1, h⟩ := x_b h
      refine lk_getI (k := 2) d_TL_instructionAt_6 ha1 (by decide) rfl (by decide) lf_TL_19 rfl ?_
      refine lk_icmp_ge (tgt := 27) d_TL_instructionAt_9 (by decide) (fun hc => ?_) (fun hc => ?_)
      · replace h := x_ifp hc h
        refine lk_iconst (v := (-1)) d_TL_instructionAt_27 rfl ?_
        cases h
        refine Lk.sel [] rfl ?_
        exact Lk.stop ⟨rfl, rfl, rfl, rfl, rfl, rfl⟩
      · replace h := x_ifn hc h
        refine lk_iload_n d_TL_instructionAt_12 rfl ?_
        refine lk_bipush (v := 25) d_TL_instructionAt_13 rfl ?_
        refine lk_icmp_ge (tgt := 27) d_TL_instructionAt_15 (by decide) (fun hc => ?_) (fun hc => ?_)
        · replace h := x_ifp hc h
          refine lk_iconst (v := (-1)) d_TL_instructionAt_27 rfl ?_
          cases h
          refine Lk.sel [] rfl ?_
          exact Lk.stop ⟨rfl, rfl, rfl, rfl, rfl, rfl⟩
        · replace h := x_ifn hc h
          refine lk_aload_n d_TL_instructionAt_18 rfl ?_
          refine lk_getR (k := 0) d_TL_instructionAt_19 ha1 (by decide) rfl (by decide) lf_TL_9 rfl ?_
          refine lk_iload_n d_TL_instructionAt_22 rfl ?_
          obtain ⟨q2, hq2, h⟩ := x_b h
          obtain ⟨k3, hk3, h⟩ := x_b h
          refine lk_iald d_TL_instructionAt_23 hq2 hk3 ?_
          refine lk_goto (tgt := 28) d_TL_instructionAt_24 (by decide) ?_
          cases h
          refine Lk.sel [] rfl ?_
          exact Lk.stop ⟨rfl, rfl, rfl, rfl, rfl, rfl⟩
  · clear hj
    cases h
    exact Lk.stop ⟨rfl, Or.inr (Or.inl ⟨_, _, d_TL_instructionAt_28, rfl, rfl, rfl, rfl⟩)⟩
def f_TL_slotsAt (z0 : Nat) (x1 : Int32) (s : hv_S) : Option (Int64 × hv_S) :=
  ((
    if x1 < 0 then
      some 0
    else
      (x_ob s 5 ((some z0))).bind fun a1 =>
      if (hv_I s a1 2) ≤ x1 then
        some 0
      else
        if 25 ≤ x1 then
          some 0
        else
          (x_ar s 1 (hv_R s a1 1)).bind fun q2 =>
          (x_ix q2.2 x1).bind fun k3 =>
          some (hv_J s q2.1 k3)
  ) : Option (Int64)).bind fun t4 =>
  some ((t4, s))
set_option maxRecDepth 4000 in
set_option maxHeartbeats 2000000 in
theorem c_TL_slotsAt {G : lt_G} {z0 : Nat} {x1 : Int32} {s : hv_S} {p : Int64 × hv_S} (h : f_TL_slotsAt z0 x1 s = some p) : Ck G m_TL_slotsAt 1 0 0 [vR (some z0), vI x1] s (some (vJ p.1)) p.2 := by
  refine Ck.of (by decide) (Nat.le_of_ble_eq_true rfl) ?_
  unfold f_TL_slotsAt at h
  refine lk_iload_n d_TL_slotsAt_0 rfl ?_
  obtain ⟨t4, hj, h⟩ := x_b h
  refine Lk.joinA 28 [] [] rfl 1 [vJ t4] ?_ ?_
  · replace h := hj
    refine lk_if_lt (tgt := 27) d_TL_slotsAt_1 (by decide) (fun hc => ?_) (fun hc => ?_)
    · replace h := x_ifp hc h
      refine lk_lconst (v := 0) d_TL_slotsAt_27 rfl ?_
      cases h
      refine Lk.sel [] rfl ?_
      exact Lk.stop ⟨rfl, rfl, rfl, rfl, rfl, rfl⟩
    · replace h := x_ifn hc h
      refine lk_iload_n d_TL_slotsAt_4 rfl ?_
      refine lk_aload_n d_TL_slotsAt_5 rfl ?_
      obtain ⟨a1, ha1, h⟩ := x_b h
      refine lk_getI (k := 2) d_TL_slotsAt_6 ha1 (by decide) rfl (by decide) lf_TL_19 rfl ?_
      refine lk_icmp_ge (tgt := 27) d_TL_slotsAt_9 (by decide) (fun hc => ?_) (fun hc => ?_)
      · replace h := x_ifp hc h
        refine lk_lconst (v := 0) d_TL_slotsAt_27 rfl ?_
        cases h
        refine Lk.sel [] rfl ?_
        exact Lk.stop ⟨rfl, rfl, rfl, rfl, rfl, rfl⟩
      · replace h := x_ifn hc h
        refine lk_iload_n d_TL_slotsAt_12 rfl ?_
        refine lk_bipush (v := 25) d_TL_slotsAt_13 rfl ?_
        refine lk_icmp_ge (tgt := 27) d_TL_slotsAt_15 (by decide) (fun hc => ?_) (fun hc => ?_)
        · replace h := x_ifp hc h
          refine lk_lconst (v := 0) d_TL_slotsAt_27 rfl ?_
          cases h
          refine Lk.sel [] rfl ?_
          exact Lk.stop ⟨rfl, rfl, rfl, rfl, rfl, rfl⟩
        · replace h := x_ifn hc h
          refine lk_aload_n d_TL_slotsAt_18 rfl ?_
          refine lk_getR (k := 1) d_TL_slotsAt_19 ha1 (by decide) rfl (by decide) lf_TL_15 rfl ?_
          refine lk_iload_n d_TL_slotsAt_22 rfl ?_
          obtain ⟨q2, hq2, h⟩ := x_b h
          obtain ⟨k3, hk3, h⟩ := x_b h
          refine lk_lald d_TL_slotsAt_23 hq2 hk3 ?_
          refine lk_goto (tgt := 28) d_TL_slotsAt_24 (by decide) ?_
          cases h
          refine Lk.sel [] rfl ?_
          exact Lk.stop ⟨rfl, rfl, rfl, rfl, rfl, rfl⟩
  · clear hj
    cases h
    exact Lk.stop ⟨rfl, Or.inr (Or.inr (Or.inl ⟨_, d_TL_slotsAt_28, rfl, rfl, rfl⟩))⟩
def f_Pr_empty (z0 : Nat) (s : hv_S) : Option (hv_S) :=
  (x_ob s 8 ((some z0))).bind fun a1 =>
  (some (hv_setI s a1 3 0)).bind fun s2 =>
  some s2
set_option maxRecDepth 4000 in
set_option maxHeartbeats 2000000 in
theorem c_Pr_empty {G : lt_G} {z0 : Nat} {s : hv_S} {p : hv_S} (h : f_Pr_empty z0 s = some p) : Ck G m_Pr_empty 1 0 0 [vR (some z0)] s none p := by
  refine Ck.of (by decide) (Nat.le_of_ble_eq_true rfl) ?_
  unfold f_Pr_empty at h
  refine lk_aload_n d_Pr_empty_0 rfl ?_
  refine lk_iconst (v := 0) d_Pr_empty_1 rfl ?_
  obtain ⟨a1, ha1, h⟩ := x_b h
  replace h := x_nm h
  refine lk_putI (k := 3) d_Pr_empty_2 ha1 (by decide) rfl (by decide) lf_Pr_21 rfl rfl ?_
  cases h
  exact Lk.stop ⟨rfl, Or.inl ⟨d_Pr_empty_5, rfl, rfl, rfl⟩⟩
def f_Pr_size (z0 : Nat) (s : hv_S) : Option (Int32 × hv_S) :=
  (x_ob s 8 ((some z0))).bind fun a1 =>
  some ((hv_I s a1 3, s))
set_option maxRecDepth 4000 in
set_option maxHeartbeats 2000000 in
theorem c_Pr_size {G : lt_G} {z0 : Nat} {s : hv_S} {p : Int32 × hv_S} (h : f_Pr_size z0 s = some p) : Ck G m_Pr_size 1 0 0 [vR (some z0)] s (some (vI p.1)) p.2 := by
  refine Ck.of (by decide) (Nat.le_of_ble_eq_true rfl) ?_
  unfold f_Pr_size at h
  refine lk_aload_n d_Pr_size_0 rfl ?_
  obtain ⟨a1, ha1, h⟩ := x_b h
  refine lk_getI (k := 3) d_Pr_size_1 ha1 (by decide) rfl (by decide) lf_Pr_21 rfl ?_
  cases h
  exact Lk.stop ⟨rfl, Or.inr (Or.inl ⟨_, _, d_Pr_size_4, rfl, rfl, rfl, rfl⟩)⟩
def f_Pr_kindAt (z0 : Nat) (x1 : Int32) (s : hv_S) : Option (Int32 × hv_S) :=
  ((
    if x1 < 0 then
      some ((-1))
    else
      (x_ob s 8 ((some z0))).bind fun a1 =>
      if (hv_I s a1 3) ≤ x1 then
        some ((-1))
      else
        if 49 ≤ x1 then
          some ((-1))
        else
          (x_ar s 0 (hv_R s a1 0)).bind fun q2 =>
          (x_ix q2.2 x1).bind fun k3 =>
          some (hv_I s q2.1 k3)
  ) : Option (Int32)).bind fun t4 =>
  some ((t4, s))
set_option maxRecDepth 4000 in
set_option maxHeartbeats 2000000 in
theorem c_Pr_kindAt {G : lt_G} {z0 : Nat} {x1 : Int32} {s : hv_S} {p : Int32 × hv_S} (h : f_Pr_kindAt z0 x1 s = some p) : Ck G m_Pr_kindAt 1 0 0 [vR (some z0), vI x1] s (some (vI p.1)) p.2 := by
  refine Ck.of (by decide) (Nat.le_of_ble_eq_true rfl) ?_
  unfold f_Pr_kindAt at h
  refine lk_iload_n d_Pr_kindAt_0 rfl ?_
  obtain ⟨t4, hj, h⟩ := x_b h
  refine Lk.joinA 28 [] [] rfl 1 [vI t4] ?_ ?_
  · replace h := hj
    refine lk_if_lt (tgt := 27) d_Pr_kindAt_1 (by decide) (fun hc => ?_) (fun hc => ?_)
    · replace h := x_ifp hc h
      refine lk_iconst (v := (-1)) d_Pr_kindAt_27 rfl ?_
      cases h
      refine Lk.sel [] rfl ?_
      exact Lk.stop ⟨rfl, rfl, rfl, rfl, rfl, rfl⟩
    · replace h := x_ifn hc h
      refine lk_iload_n d_Pr_kindAt_4 rfl ?_
      refine lk_aload_n d_Pr_kindAt_5 rfl ?_
      obtain ⟨a1, ha1, h⟩ := x_b h
      refine lk_getI (k := 3) d_Pr_kindAt_6 ha1 (by decide) rfl (by decide) lf_Pr_21 rfl ?_
      refine lk_icmp_ge (tgt := 27) d_Pr_kindAt_9 (by decide) (fun hc => ?_) (fun hc => ?_)
      · replace h := x_ifp hc h
        refine lk_iconst (v := (-1)) d_Pr_kindAt_27 rfl ?_
        cases h
        refine Lk.sel [] rfl ?_
        exact Lk.stop ⟨rfl, rfl, rfl, rfl, rfl, rfl⟩
      · replace h := x_ifn hc h
        refine lk_iload_n d_Pr_kindAt_12 rfl ?_
        refine lk_bipush (v := 49) d_Pr_kindAt_13 rfl ?_
        refine lk_icmp_ge (tgt := 27) d_Pr_kindAt_15 (by decide) (fun hc => ?_) (fun hc => ?_)
        · replace h := x_ifp hc h
          refine lk_iconst (v := (-1)) d_Pr_kindAt_27 rfl ?_
          cases h
          refine Lk.sel [] rfl ?_
          exact Lk.stop ⟨rfl, rfl, rfl, rfl, rfl, rfl⟩
        · replace h := x_ifn hc h
          refine lk_aload_n d_Pr_kindAt_18 rfl ?_
          refine lk_getR (k := 0) d_Pr_kindAt_19 ha1 (by decide) rfl (by decide) lf_Pr_9 rfl ?_
          refine lk_iload_n d_Pr_kindAt_22 rfl ?_
          obtain ⟨q2, hq2, h⟩ := x_b h
          obtain ⟨k3, hk3, h⟩ := x_b h
          refine lk_iald d_Pr_kindAt_23 hq2 hk3 ?_
          refine lk_goto (tgt := 28) d_Pr_kindAt_24 (by decide) ?_
          cases h
          refine Lk.sel [] rfl ?_
          exact Lk.stop ⟨rfl, rfl, rfl, rfl, rfl, rfl⟩
  · clear hj
    cases h
    exact Lk.stop ⟨rfl, Or.inr (Or.inl ⟨_, _, d_Pr_kindAt_28, rfl, rfl, rfl, rfl⟩)⟩
def f_Pr_xAt (z0 : Nat) (x1 : Int32) (s : hv_S) : Option (Int32 × hv_S) :=
  ((
    if x1 < 0 then
      some 0
    else
      (x_ob s 8 ((some z0))).bind fun a1 =>
      if (hv_I s a1 3) ≤ x1 then
        some 0
      else
        if 49 ≤ x1 then
          some 0
        else
          (x_ar s 0 (hv_R s a1 1)).bind fun q2 =>
          (x_ix q2.2 x1).bind fun k3 =>
          some (hv_I s q2.1 k3)
  ) : Option (Int32)).bind fun t4 =>
  some ((t4, s))
set_option maxRecDepth 4000 in
set_option maxHeartbeats 2000000 in
theorem c_Pr_xAt {G : lt_G} {z0 : Nat} {x1 : Int32} {s : hv_S} {p : Int32 × hv_S} (h : f_Pr_xAt z0 x1 s = some p) : Ck G m_Pr_xAt 1 0 0 [vR (some z0), vI x1] s (some (vI p.1)) p.2 := by
  refine Ck.of (by decide) (Nat.le_of_ble_eq_true rfl) ?_
  unfold f_Pr_xAt at h
  refine lk_iload_n d_Pr_xAt_0 rfl ?_
  obtain ⟨t4, hj, h⟩ := x_b h
  refine Lk.joinA 28 [] [] rfl 1 [vI t4] ?_ ?_
  · replace h := hj
    refine lk_if_lt (tgt := 27) d_Pr_xAt_1 (by decide) (fun hc => ?_) (fun hc => ?_)
    · replace h := x_ifp hc h
      refine lk_iconst (v := 0) d_Pr_xAt_27 rfl ?_
      cases h
      refine Lk.sel [] rfl ?_
      exact Lk.stop ⟨rfl, rfl, rfl, rfl, rfl, rfl⟩
    · replace h := x_ifn hc h
      refine lk_iload_n d_Pr_xAt_4 rfl ?_
      refine lk_aload_n d_Pr_xAt_5 rfl ?_
      obtain ⟨a1, ha1, h⟩ := x_b h
      refine lk_getI (k := 3) d_Pr_xAt_6 ha1 (by decide) rfl (by decide) lf_Pr_21 rfl ?_
      refine lk_icmp_ge (tgt := 27) d_Pr_xAt_9 (by decide) (fun hc => ?_) (fun hc => ?_)
      · replace h := x_ifp hc h
        refine lk_iconst (v := 0) d_Pr_xAt_27 rfl ?_
        cases h
        refine Lk.sel [] rfl ?_
        exact Lk.stop ⟨rfl, rfl, rfl, rfl, rfl, rfl⟩
      · replace h := x_ifn hc h
        refine lk_iload_n d_Pr_xAt_12 rfl ?_
        refine lk_bipush (v := 49) d_Pr_xAt_13 rfl ?_
        refine lk_icmp_ge (tgt := 27) d_Pr_xAt_15 (by decide) (fun hc => ?_) (fun hc => ?_)
        · replace h := x_ifp hc h
          refine lk_iconst (v := 0) d_Pr_xAt_27 rfl ?_
          cases h
          refine Lk.sel [] rfl ?_
          exact Lk.stop ⟨rfl, rfl, rfl, rfl, rfl, rfl⟩
        · replace h := x_ifn hc h
          refine lk_aload_n d_Pr_xAt_18 rfl ?_
          refine lk_getR (k := 1) d_Pr_xAt_19 ha1 (by decide) rfl (by decide) lf_Pr_15 rfl ?_
          refine lk_iload_n d_Pr_xAt_22 rfl ?_
          obtain ⟨q2, hq2, h⟩ := x_b h
          obtain ⟨k3, hk3, h⟩ := x_b h
          refine lk_iald d_Pr_xAt_23 hq2 hk3 ?_
          refine lk_goto (tgt := 28) d_Pr_xAt_24 (by decide) ?_
          cases h
          refine Lk.sel [] rfl ?_
          exact Lk.stop ⟨rfl, rfl, rfl, rfl, rfl, rfl⟩
  · clear hj
    cases h
    exact Lk.stop ⟨rfl, Or.inr (Or.inl ⟨_, _, d_Pr_xAt_28, rfl, rfl, rfl, rfl⟩)⟩
def f_Pr_yAt (z0 : Nat) (x1 : Int32) (s : hv_S) : Option (Int32 × hv_S) :=
  ((
    if x1 < 0 then
      some 0
    else
      (x_ob s 8 ((some z0))).bind fun a1 =>
      if (hv_I s a1 3) ≤ x1 then
        some 0
      else
        if 49 ≤ x1 then
          some 0
        else
          (x_ar s 0 (hv_R s a1 2)).bind fun q2 =>
          (x_ix q2.2 x1).bind fun k3 =>
          some (hv_I s q2.1 k3)
  ) : Option (Int32)).bind fun t4 =>
  some ((t4, s))
set_option maxRecDepth 4000 in
set_option maxHeartbeats 2000000 in
theorem c_Pr_yAt {G : lt_G} {z0 : Nat} {x1 : Int32} {s : hv_S} {p : Int32 × hv_S} (h : f_Pr_yAt z0 x1 s = some p) : Ck G m_Pr_yAt 1 0 0 [vR (some z0), vI x1] s (some (vI p.1)) p.2 := by
  refine Ck.of (by decide) (Nat.le_of_ble_eq_true rfl) ?_
  unfold f_Pr_yAt at h
  refine lk_iload_n d_Pr_yAt_0 rfl ?_
  obtain ⟨t4, hj, h⟩ := x_b h
  refine Lk.joinA 28 [] [] rfl 1 [vI t4] ?_ ?_
  · replace h := hj
    refine lk_if_lt (tgt := 27) d_Pr_yAt_1 (by decide) (fun hc => ?_) (fun hc => ?_)
    · replace h := x_ifp hc h
      refine lk_iconst (v := 0) d_Pr_yAt_27 rfl ?_
      cases h
      refine Lk.sel [] rfl ?_
      exact Lk.stop ⟨rfl, rfl, rfl, rfl, rfl, rfl⟩
    · replace h := x_ifn hc h
      refine lk_iload_n d_Pr_yAt_4 rfl ?_
      refine lk_aload_n d_Pr_yAt_5 rfl ?_
      obtain ⟨a1, ha1, h⟩ := x_b h
      refine lk_getI (k := 3) d_Pr_yAt_6 ha1 (by decide) rfl (by decide) lf_Pr_21 rfl ?_
      refine lk_icmp_ge (tgt := 27) d_Pr_yAt_9 (by decide) (fun hc => ?_) (fun hc => ?_)
      · replace h := x_ifp hc h
        refine lk_iconst (v := 0) d_Pr_yAt_27 rfl ?_
        cases h
        refine Lk.sel [] rfl ?_
        exact Lk.stop ⟨rfl, rfl, rfl, rfl, rfl, rfl⟩
      · replace h := x_ifn hc h
        refine lk_iload_n d_Pr_yAt_12 rfl ?_
        refine lk_bipush (v := 49) d_Pr_yAt_13 rfl ?_
        refine lk_icmp_ge (tgt := 27) d_Pr_yAt_15 (by decide) (fun hc => ?_) (fun hc => ?_)
        · replace h := x_ifp hc h
          refine lk_iconst (v := 0) d_Pr_yAt_27 rfl ?_
          cases h
          refine Lk.sel [] rfl ?_
          exact Lk.stop ⟨rfl, rfl, rfl, rfl, rfl, rfl⟩
        · replace h := x_ifn hc h
          refine lk_aload_n d_Pr_yAt_18 rfl ?_
          refine lk_getR (k := 2) d_Pr_yAt_19 ha1 (by decide) rfl (by decide) lf_Pr_18 rfl ?_
          refine lk_iload_n d_Pr_yAt_22 rfl ?_
          obtain ⟨q2, hq2, h⟩ := x_b h
          obtain ⟨k3, hk3, h⟩ := x_b h
          refine lk_iald d_Pr_yAt_23 hq2 hk3 ?_
          refine lk_goto (tgt := 28) d_Pr_yAt_24 (by decide) ?_
          cases h
          refine Lk.sel [] rfl ?_
          exact Lk.stop ⟨rfl, rfl, rfl, rfl, rfl, rfl⟩
  · clear hj
    cases h
    exact Lk.stop ⟨rfl, Or.inr (Or.inl ⟨_, _, d_Pr_yAt_28, rfl, rfl, rfl, rfl⟩)⟩
def f_Pr_takes (z0 : Nat) (x1 : Int32) (x2 : Int32) (s : hv_S) : Option (Int32 × hv_S) :=
  (x_ob s 8 ((some z0))).bind fun a1 =>
  (f_Pr_kindAt a1 x1 s).bind fun p2 =>
  ((
    if x2 = ((-1)) then
      some (0, p2.2)
    else
      if p2.1 = 1 then
        some (1, p2.2)
      else
        if p2.1 = 0 then
          (x_ob p2.2 8 ((some z0))).bind fun a3 =>
          (f_Pr_xAt a3 x1 p2.2).bind fun p4 =>
          if p4.1 = x2 then
            some (1, p4.2)
          else
            some (0, p4.2)
        else
          some (0, p2.2)
  ) : Option (Int32 × hv_S)).bind fun t5 =>
  (x_z t5.1).bind fun z6 =>
  some ((z6, t5.2))
set_option maxRecDepth 4000 in
set_option maxHeartbeats 2000000 in
theorem c_Pr_takes {G : lt_G} {z0 : Nat} {x1 : Int32} {x2 : Int32} {s : hv_S} {p : Int32 × hv_S} (h : f_Pr_takes z0 x1 x2 s = some p) : Ck G m_Pr_takes 2 0 0 [vR (some z0), vI x1, vI x2] s (some (vI p.1)) p.2 := by
  refine Ck.of (by decide) (Nat.le_of_ble_eq_true rfl) ?_
  unfold f_Pr_takes at h
  refine lk_aload_n d_Pr_takes_0 rfl ?_
  refine lk_iload_n d_Pr_takes_1 rfl ?_
  obtain ⟨a1, ha1, h⟩ := x_b h
  obtain ⟨p2, hp2, h⟩ := x_b h
  refine lk_callV0 d_Pr_takes_2 (x_obm ha1 rfl) (c_Pr_kindAt hp2) (Nat.le_of_ble_eq_true rfl) rfl M_Pr_kindAt lm_Pr_25 in_Pr_kindAt se_Pr_kindAt (by decide) rfl (Nat.le_of_ble_eq_true rfl) ?_
  refine lk_istore_n d_Pr_takes_5 (by decide) rfl ?_
  refine lk_iload_n d_Pr_takes_6 rfl ?_
  refine lk_iconst (v := (-1)) d_Pr_takes_7 rfl ?_
  obtain ⟨t5, hj, h⟩ := x_b h
  refine Lk.joinS 34 [] [] rfl 2 [vI t5.1] t5.2 ?_ ?_
  · replace h := hj
    refine lk_icmp_eq (tgt := 33) d_Pr_takes_8 (by decide) (fun hc => ?_) (fun hc => ?_)
    · replace h := x_ifp hc h
      refine lk_iconst (v := 0) d_Pr_takes_33 rfl ?_
      cases h
      refine Lk.sel [] rfl ?_
      exact Lk.stop ⟨rfl, rfl, rfl, rfl, rfl, rfl⟩
    · replace h := x_ifn hc h
      refine lk_iload_n d_Pr_takes_11 rfl ?_
      refine lk_iconst (v := 1) d_Pr_takes_12 rfl ?_
      refine lk_icmp_eq (tgt := 29) d_Pr_takes_13 (by decide) (fun hc => ?_) (fun hc => ?_)
      · replace h := x_ifp hc h
        refine lk_iconst (v := 1) d_Pr_takes_29 rfl ?_
        refine lk_goto (tgt := 34) d_Pr_takes_30 (by decide) ?_
        cases h
        refine Lk.sel [] rfl ?_
        exact Lk.stop ⟨rfl, rfl, rfl, rfl, rfl, rfl⟩
      · replace h := x_ifn hc h
        refine lk_iload_n d_Pr_takes_16 rfl ?_
        refine lk_if_ne (tgt := 33) d_Pr_takes_17 (by decide) (fun hc => ?_) (fun hc => ?_)
        · replace h := x_ifn hc h
          refine lk_iconst (v := 0) d_Pr_takes_33 rfl ?_
          cases h
          refine Lk.sel [] rfl ?_
          exact Lk.stop ⟨rfl, rfl, rfl, rfl, rfl, rfl⟩
        · replace h := x_ifp hc h
          refine lk_aload_n d_Pr_takes_20 rfl ?_
          refine lk_iload_n d_Pr_takes_21 rfl ?_
          obtain ⟨a3, ha3, h⟩ := x_b h
          obtain ⟨p4, hp4, h⟩ := x_b h
          refine lk_callV0 d_Pr_takes_22 (x_obm ha3 rfl) (c_Pr_xAt hp4) (Nat.le_of_ble_eq_true rfl) rfl M_Pr_xAt lm_Pr_29 in_Pr_xAt se_Pr_xAt (by decide) rfl (Nat.le_of_ble_eq_true rfl) ?_
          refine lk_iload_n d_Pr_takes_25 rfl ?_
          refine lk_icmp_ne (tgt := 33) d_Pr_takes_26 (by decide) (fun hc => ?_) (fun hc => ?_)
          · replace h := x_ifn hc h
            refine lk_iconst (v := 0) d_Pr_takes_33 rfl ?_
            cases h
            refine Lk.sel [] rfl ?_
            exact Lk.stop ⟨rfl, rfl, rfl, rfl, rfl, rfl⟩
          · replace h := x_ifp hc h
            refine lk_iconst (v := 1) d_Pr_takes_29 rfl ?_
            refine lk_goto (tgt := 34) d_Pr_takes_30 (by decide) ?_
            cases h
            refine Lk.sel [] rfl ?_
            exact Lk.stop ⟨rfl, rfl, rfl, rfl, rfl, rfl⟩
  · clear hj
    obtain ⟨z6, hz60, h⟩ := x_b h
    obtain ⟨rfl, hz6⟩ := x_z_some hz60
    cases h
    exact Lk.stop ⟨rfl, Or.inr (Or.inl ⟨_, _, d_Pr_takes_34, rfl, x_zn hz6, rfl, rfl⟩)⟩
def f_Pr_readsLetter (z0 : Nat) (x1 : Int32) (s : hv_S) : Option (Int32 × hv_S) :=
  (x_ob s 8 ((some z0))).bind fun a1 =>
  (f_Pr_kindAt a1 x1 s).bind fun p2 =>
  ((
    if p2.1 = 0 then
      some 1
    else
      if p2.1 = 1 then
        some 1
      else
        some 0
  ) : Option (Int32)).bind fun t3 =>
  (x_z t3).bind fun z4 =>
  some ((z4, p2.2))
set_option maxRecDepth 4000 in
set_option maxHeartbeats 2000000 in
theorem c_Pr_readsLetter {G : lt_G} {z0 : Nat} {x1 : Int32} {s : hv_S} {p : Int32 × hv_S} (h : f_Pr_readsLetter z0 x1 s = some p) : Ck G m_Pr_readsLetter 2 0 0 [vR (some z0), vI x1] s (some (vI p.1)) p.2 := by
  refine Ck.of (by decide) (Nat.le_of_ble_eq_true rfl) ?_
  unfold f_Pr_readsLetter at h
  refine lk_aload_n d_Pr_readsLetter_0 rfl ?_
  refine lk_iload_n d_Pr_readsLetter_1 rfl ?_
  obtain ⟨a1, ha1, h⟩ := x_b h
  obtain ⟨p2, hp2, h⟩ := x_b h
  refine lk_callV0 d_Pr_readsLetter_2 (x_obm ha1 rfl) (c_Pr_kindAt hp2) (Nat.le_of_ble_eq_true rfl) rfl M_Pr_kindAt lm_Pr_25 in_Pr_kindAt se_Pr_kindAt (by decide) rfl (Nat.le_of_ble_eq_true rfl) ?_
  refine lk_istore_n d_Pr_readsLetter_5 (by decide) rfl ?_
  refine lk_iload_n d_Pr_readsLetter_6 rfl ?_
  obtain ⟨t3, hj, h⟩ := x_b h
  refine Lk.joinA 20 [] [] rfl 1 [vI t3] ?_ ?_
  · replace h := hj
    refine lk_if_eq (tgt := 15) d_Pr_readsLetter_7 (by decide) (fun hc => ?_) (fun hc => ?_)
    · replace h := x_ifp hc h
      refine lk_iconst (v := 1) d_Pr_readsLetter_15 rfl ?_
      refine lk_goto (tgt := 20) d_Pr_readsLetter_16 (by decide) ?_
      cases h
      refine Lk.sel [] rfl ?_
      exact Lk.stop ⟨rfl, rfl, rfl, rfl, rfl, rfl⟩
    · replace h := x_ifn hc h
      refine lk_iload_n d_Pr_readsLetter_10 rfl ?_
      refine lk_iconst (v := 1) d_Pr_readsLetter_11 rfl ?_
      refine lk_icmp_ne (tgt := 19) d_Pr_readsLetter_12 (by decide) (fun hc => ?_) (fun hc => ?_)
      · replace h := x_ifn hc h
        refine lk_iconst (v := 0) d_Pr_readsLetter_19 rfl ?_
        cases h
        refine Lk.sel [] rfl ?_
        exact Lk.stop ⟨rfl, rfl, rfl, rfl, rfl, rfl⟩
      · replace h := x_ifp hc h
        refine lk_iconst (v := 1) d_Pr_readsLetter_15 rfl ?_
        refine lk_goto (tgt := 20) d_Pr_readsLetter_16 (by decide) ?_
        cases h
        refine Lk.sel [] rfl ?_
        exact Lk.stop ⟨rfl, rfl, rfl, rfl, rfl, rfl⟩
  · clear hj
    obtain ⟨z4, hz40, h⟩ := x_b h
    obtain ⟨rfl, hz4⟩ := x_z_some hz40
    cases h
    exact Lk.stop ⟨rfl, Or.inr (Or.inl ⟨_, _, d_Pr_readsLetter_20, rfl, x_zn hz4, rfl, rfl⟩)⟩
def f_Pr_add (z0 : Nat) (x1 : Int32) (x2 : Int32) (s : hv_S) : Option (hv_S) :=
  (x_ob s 8 ((some z0))).bind fun a1 =>
  ((
    if (hv_I s a1 3) < 0 then
      some s
    else
      if 49 ≤ (hv_I s a1 3) then
        some s
      else
        (x_ar s 0 (hv_R s a1 0)).bind fun q2 =>
        (x_ix q2.2 (hv_I s a1 3)).bind fun k3 =>
        (some (hv_setI s q2.1 k3 x1)).bind fun s4 =>
        (x_ar s4 0 (hv_R s4 a1 1)).bind fun q5 =>
        (x_ix q5.2 (hv_I s4 a1 3)).bind fun k6 =>
        (some (hv_setI s4 q5.1 k6 x2)).bind fun s7 =>
        (x_ar s7 0 (hv_R s7 a1 2)).bind fun q8 =>
        (x_ix q8.2 (hv_I s7 a1 3)).bind fun k9 =>
        (some (hv_setI s7 q8.1 k9 0)).bind fun s10 =>
        (some (hv_setI s10 a1 3 ((hv_I s10 a1 3) + (1 : Int32)))).bind fun s11 =>
        some s11
  ) : Option (hv_S)).bind fun t12 =>
  some t12
set_option maxRecDepth 4000 in
set_option maxHeartbeats 2000000 in
theorem c_Pr_add {G : lt_G} {z0 : Nat} {x1 : Int32} {x2 : Int32} {s : hv_S} {p : hv_S} (h : f_Pr_add z0 x1 x2 s = some p) : Ck G m_Pr_add 1 0 0 [vR (some z0), vI x1, vI x2] s none p := by
  refine Ck.of (by decide) (Nat.le_of_ble_eq_true rfl) ?_
  unfold f_Pr_add at h
  refine lk_aload_n d_Pr_add_0 rfl ?_
  obtain ⟨a1, ha1, h⟩ := x_b h
  refine lk_getI (k := 3) d_Pr_add_1 ha1 (by decide) rfl (by decide) lf_Pr_21 rfl ?_
  obtain ⟨t12, hj, h⟩ := x_b h
  refine Lk.joinS 56 [] [] rfl 1 [] t12 ?_ ?_
  · replace h := hj
    refine lk_if_lt (tgt := 56) d_Pr_add_4 (by decide) (fun hc => ?_) (fun hc => ?_)
    · replace h := x_ifp hc h
      cases h
      refine Lk.sel [] rfl ?_
      exact Lk.stop ⟨rfl, rfl, rfl, rfl, rfl, rfl⟩
    · replace h := x_ifn hc h
      refine lk_aload_n d_Pr_add_7 rfl ?_
      refine lk_getI (k := 3) d_Pr_add_8 ha1 (by decide) rfl (by decide) lf_Pr_21 rfl ?_
      refine lk_bipush (v := 49) d_Pr_add_11 rfl ?_
      refine lk_icmp_ge (tgt := 56) d_Pr_add_13 (by decide) (fun hc => ?_) (fun hc => ?_)
      · replace h := x_ifp hc h
        cases h
        refine Lk.sel [] rfl ?_
        exact Lk.stop ⟨rfl, rfl, rfl, rfl, rfl, rfl⟩
      · replace h := x_ifn hc h
        refine lk_aload_n d_Pr_add_16 rfl ?_
        refine lk_getR (k := 0) d_Pr_add_17 ha1 (by decide) rfl (by decide) lf_Pr_9 rfl ?_
        refine lk_aload_n d_Pr_add_20 rfl ?_
        refine lk_getI (k := 3) d_Pr_add_21 ha1 (by decide) rfl (by decide) lf_Pr_21 rfl ?_
        refine lk_iload_n d_Pr_add_24 rfl ?_
        obtain ⟨q2, hq2, h⟩ := x_b h
        obtain ⟨k3, hk3, h⟩ := x_b h
        replace h := x_nm h
        refine lk_iast d_Pr_add_25 hq2 hk3 ?_
        refine lk_aload_n d_Pr_add_26 rfl ?_
        refine lk_getR (k := 1) d_Pr_add_27 ha1 (by decide) rfl (by decide) lf_Pr_15 rfl ?_
        refine lk_aload_n d_Pr_add_30 rfl ?_
        refine lk_getI (k := 3) d_Pr_add_31 ha1 (by decide) rfl (by decide) lf_Pr_21 rfl ?_
        refine lk_iload_n d_Pr_add_34 rfl ?_
        obtain ⟨q5, hq5, h⟩ := x_b h
        obtain ⟨k6, hk6, h⟩ := x_b h
        replace h := x_nm h
        refine lk_iast d_Pr_add_35 hq5 hk6 ?_
        refine lk_aload_n d_Pr_add_36 rfl ?_
        refine lk_getR (k := 2) d_Pr_add_37 ha1 (by decide) rfl (by decide) lf_Pr_18 rfl ?_
        refine lk_aload_n d_Pr_add_40 rfl ?_
        refine lk_getI (k := 3) d_Pr_add_41 ha1 (by decide) rfl (by decide) lf_Pr_21 rfl ?_
        refine lk_iconst (v := 0) d_Pr_add_44 rfl ?_
        obtain ⟨q8, hq8, h⟩ := x_b h
        obtain ⟨k9, hk9, h⟩ := x_b h
        replace h := x_nm h
        refine lk_iast d_Pr_add_45 hq8 hk9 ?_
        refine lk_aload_n d_Pr_add_46 rfl ?_
        refine lk_dup d_Pr_add_47 rfl ?_
        refine lk_getI (k := 3) d_Pr_add_48 ha1 (by decide) rfl (by decide) lf_Pr_21 rfl ?_
        refine lk_iconst (v := 1) d_Pr_add_51 rfl ?_
        refine lk_iadd d_Pr_add_52 ?_
        replace h := x_nm h
        refine lk_putI (k := 3) d_Pr_add_53 ha1 (by decide) rfl (by decide) lf_Pr_21 rfl rfl ?_
        cases h
        refine Lk.sel [] rfl ?_
        exact Lk.stop ⟨rfl, rfl, rfl, rfl, rfl, rfl⟩
  · clear hj
    cases h
    exact Lk.stop ⟨rfl, Or.inl ⟨d_Pr_add_56, rfl, rfl, rfl⟩⟩
def f_Pr_addOpenGo (z0 : Nat) (s : hv_S) : Option (hv_S) :=
  (x_ob s 8 ((some z0))).bind fun a1 =>
  (f_Pr_add a1 3 ((-1)) s).bind fun p2 =>
  some p2
set_option maxRecDepth 4000 in
set_option maxHeartbeats 2000000 in
theorem c_Pr_addOpenGo {G : lt_G} {z0 : Nat} {s : hv_S} {p : hv_S} (h : f_Pr_addOpenGo z0 s = some p) : Ck G m_Pr_addOpenGo 2 0 0 [vR (some z0)] s none p := by
  refine Ck.of (by decide) (Nat.le_of_ble_eq_true rfl) ?_
  unfold f_Pr_addOpenGo at h
  refine lk_aload_n d_Pr_addOpenGo_0 rfl ?_
  refine lk_iconst (v := 3) d_Pr_addOpenGo_1 rfl ?_
  refine lk_iconst (v := (-1)) d_Pr_addOpenGo_2 rfl ?_
  obtain ⟨a1, ha1, h⟩ := x_b h
  obtain ⟨p2, hp2, h⟩ := x_b h
  refine lk_callV0 d_Pr_addOpenGo_3 (x_obm ha1 rfl) (c_Pr_add hp2) (Nat.le_of_ble_eq_true rfl) rfl M_Pr_add lm_Pr_32 in_Pr_add se_Pr_add (by decide) rfl (Nat.le_of_ble_eq_true rfl) ?_
  cases h
  exact Lk.stop ⟨rfl, Or.inl ⟨d_Pr_addOpenGo_6, rfl, rfl, rfl⟩⟩
def f_Pr_aimSplit (z0 : Nat) (x1 : Int32) (x2 : Int32) (x3 : Int32) (s : hv_S) : Option (hv_S) :=
  ((
    if x1 < 0 then
      some s
    else
      (x_ob s 8 ((some z0))).bind fun a1 =>
      if (hv_I s a1 3) ≤ x1 then
        some s
      else
        if 49 ≤ x1 then
          some s
        else
          (x_ar s 0 (hv_R s a1 1)).bind fun q2 =>
          (x_ix q2.2 x1).bind fun k3 =>
          (some (hv_setI s q2.1 k3 x2)).bind fun s4 =>
          (x_ar s4 0 (hv_R s4 a1 2)).bind fun q5 =>
          (x_ix q5.2 x1).bind fun k6 =>
          (some (hv_setI s4 q5.1 k6 x3)).bind fun s7 =>
          some s7
  ) : Option (hv_S)).bind fun t8 =>
  some t8
set_option maxRecDepth 4000 in
set_option maxHeartbeats 2000000 in
theorem c_Pr_aimSplit {G : lt_G} {z0 : Nat} {x1 : Int32} {x2 : Int32} {x3 : Int32} {s : hv_S} {p : hv_S} (h : f_Pr_aimSplit z0 x1 x2 x3 s = some p) : Ck G m_Pr_aimSplit 1 0 0 [vR (some z0), vI x1, vI x2, vI x3] s none p := by
  refine Ck.of (by decide) (Nat.le_of_ble_eq_true rfl) ?_
  unfold f_Pr_aimSplit at h
  refine lk_iload_n d_Pr_aimSplit_0 rfl ?_
  obtain ⟨t8, hj, h⟩ := x_b h
  refine Lk.joinS 32 [] [] rfl 1 [] t8 ?_ ?_
  · replace h := hj
    refine lk_if_lt (tgt := 32) d_Pr_aimSplit_1 (by decide) (fun hc => ?_) (fun hc => ?_)
    · replace h := x_ifp hc h
      cases h
      refine Lk.sel [] rfl ?_
      exact Lk.stop ⟨rfl, rfl, rfl, rfl, rfl, rfl⟩
    · replace h := x_ifn hc h
      refine lk_iload_n d_Pr_aimSplit_4 rfl ?_
      refine lk_aload_n d_Pr_aimSplit_5 rfl ?_
      obtain ⟨a1, ha1, h⟩ := x_b h
      refine lk_getI (k := 3) d_Pr_aimSplit_6 ha1 (by decide) rfl (by decide) lf_Pr_21 rfl ?_
      refine lk_icmp_ge (tgt := 32) d_Pr_aimSplit_9 (by decide) (fun hc => ?_) (fun hc => ?_)
      · replace h := x_ifp hc h
        cases h
        refine Lk.sel [] rfl ?_
        exact Lk.stop ⟨rfl, rfl, rfl, rfl, rfl, rfl⟩
      · replace h := x_ifn hc h
        refine lk_iload_n d_Pr_aimSplit_12 rfl ?_
        refine lk_bipush (v := 49) d_Pr_aimSplit_13 rfl ?_
        refine lk_icmp_ge (tgt := 32) d_Pr_aimSplit_15 (by decide) (fun hc => ?_) (fun hc => ?_)
        · replace h := x_ifp hc h
          cases h
          refine Lk.sel [] rfl ?_
          exact Lk.stop ⟨rfl, rfl, rfl, rfl, rfl, rfl⟩
        · replace h := x_ifn hc h
          refine lk_aload_n d_Pr_aimSplit_18 rfl ?_
          refine lk_getR (k := 1) d_Pr_aimSplit_19 ha1 (by decide) rfl (by decide) lf_Pr_15 rfl ?_
          refine lk_iload_n d_Pr_aimSplit_22 rfl ?_
          refine lk_iload_n d_Pr_aimSplit_23 rfl ?_
          obtain ⟨q2, hq2, h⟩ := x_b h
          obtain ⟨k3, hk3, h⟩ := x_b h
          replace h := x_nm h
          refine lk_iast d_Pr_aimSplit_24 hq2 hk3 ?_
          refine lk_aload_n d_Pr_aimSplit_25 rfl ?_
          refine lk_getR (k := 2) d_Pr_aimSplit_26 ha1 (by decide) rfl (by decide) lf_Pr_18 rfl ?_
          refine lk_iload_n d_Pr_aimSplit_29 rfl ?_
          refine lk_iload_n d_Pr_aimSplit_30 rfl ?_
          obtain ⟨q5, hq5, h⟩ := x_b h
          obtain ⟨k6, hk6, h⟩ := x_b h
          replace h := x_nm h
          refine lk_iast d_Pr_aimSplit_31 hq5 hk6 ?_
          cases h
          refine Lk.sel [] rfl ?_
          exact Lk.stop ⟨rfl, rfl, rfl, rfl, rfl, rfl⟩
  · clear hj
    cases h
    exact Lk.stop ⟨rfl, Or.inl ⟨d_Pr_aimSplit_32, rfl, rfl, rfl⟩⟩
