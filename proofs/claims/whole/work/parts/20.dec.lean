/-! WHAT THE METHODS DO: partial functions f_ over the view, loops L_, and the proofs c_, l_ that the bytecode does so; printed by wip/whole/gen_dec.py -/
def f_Wr_peek (z0 : Nat) (s : hv_S) : Option (Int32 × hv_S) :=
  (x_ob s 1 ((some z0))).bind fun a1 =>
  ((
    if (hv_I s a1 2) < 0 then
      some ((-1))
    else
      if (hv_I s a1 1) ≤ (hv_I s a1 2) then
        some ((-1))
      else
        (x_ar s 2 (hv_R s a1 0)).bind fun q2 =>
        if (nI q2.2) ≤ (hv_I s a1 2) then
          some ((-1))
        else
          (x_ix q2.2 (hv_I s a1 2)).bind fun k3 =>
          some (hv_I s q2.1 k3)
  ) : Option (Int32)).bind fun t4 =>
  some ((t4, s))
set_option maxRecDepth 4000 in
set_option maxHeartbeats 2000000 in
theorem c_Wr_peek {G : lt_G} {z0 : Nat} {s : hv_S} {p : Int32 × hv_S} (h : f_Wr_peek z0 s = some p) : Ck G m_Wr_peek 1 0 0 [vR (some z0)] s (some (vI p.1)) p.2 := by
  refine Ck.of (by decide) (Nat.le_of_ble_eq_true rfl) ?_
  unfold f_Wr_peek at h
  refine lk_aload_n d_Wr_peek_0 rfl ?_
  obtain ⟨a1, ha1, h⟩ := x_b h
  refine lk_getI (k := 2) d_Wr_peek_1 ha1 (by decide) rfl (by decide) lf_Wr_23 rfl ?_
  obtain ⟨t4, hj, h⟩ := x_b h
  refine Lk.joinA 43 [] [] rfl 1 [vI t4] ?_ ?_
  · replace h := hj
    refine lk_if_lt (tgt := 42) d_Wr_peek_4 (by decide) (fun hc => ?_) (fun hc => ?_)
    · replace h := x_ifp hc h
      refine lk_iconst (v := (-1)) d_Wr_peek_42 rfl ?_
      cases h
      refine Lk.sel [] rfl ?_
      exact Lk.stop ⟨rfl, rfl, rfl, rfl, rfl, rfl⟩
    · replace h := x_ifn hc h
      refine lk_aload_n d_Wr_peek_7 rfl ?_
      refine lk_getI (k := 2) d_Wr_peek_8 ha1 (by decide) rfl (by decide) lf_Wr_23 rfl ?_
      refine lk_aload_n d_Wr_peek_11 rfl ?_
      refine lk_getI (k := 1) d_Wr_peek_12 ha1 (by decide) rfl (by decide) lf_Wr_15 rfl ?_
      refine lk_icmp_ge (tgt := 42) d_Wr_peek_15 (by decide) (fun hc => ?_) (fun hc => ?_)
      · replace h := x_ifp hc h
        refine lk_iconst (v := (-1)) d_Wr_peek_42 rfl ?_
        cases h
        refine Lk.sel [] rfl ?_
        exact Lk.stop ⟨rfl, rfl, rfl, rfl, rfl, rfl⟩
      · replace h := x_ifn hc h
        refine lk_aload_n d_Wr_peek_18 rfl ?_
        refine lk_getI (k := 2) d_Wr_peek_19 ha1 (by decide) rfl (by decide) lf_Wr_23 rfl ?_
        refine lk_aload_n d_Wr_peek_22 rfl ?_
        refine lk_getR (k := 0) d_Wr_peek_23 ha1 (by decide) rfl (by decide) lf_Wr_9 rfl ?_
        obtain ⟨q2, hq2, h⟩ := x_b h
        refine lk_alen d_Wr_peek_26 hq2 (by decide) ?_
        refine lk_icmp_ge (tgt := 42) d_Wr_peek_27 (by decide) (fun hc => ?_) (fun hc => ?_)
        · replace h := x_ifp hc h
          refine lk_iconst (v := (-1)) d_Wr_peek_42 rfl ?_
          cases h
          refine Lk.sel [] rfl ?_
          exact Lk.stop ⟨rfl, rfl, rfl, rfl, rfl, rfl⟩
        · replace h := x_ifn hc h
          refine lk_aload_n d_Wr_peek_30 rfl ?_
          refine lk_getR (k := 0) d_Wr_peek_31 ha1 (by decide) rfl (by decide) lf_Wr_9 rfl ?_
          refine lk_aload_n d_Wr_peek_34 rfl ?_
          refine lk_getI (k := 2) d_Wr_peek_35 ha1 (by decide) rfl (by decide) lf_Wr_23 rfl ?_
          obtain ⟨k3, hk3, h⟩ := x_b h
          refine lk_cald d_Wr_peek_38 hq2 hk3 ?_
          refine lk_goto (tgt := 43) d_Wr_peek_39 (by decide) ?_
          cases h
          refine Lk.sel [] rfl ?_
          exact Lk.stop ⟨rfl, rfl, rfl, rfl, rfl, rfl⟩
  · clear hj
    cases h
    exact Lk.stop ⟨rfl, Or.inr (Or.inl ⟨_, _, d_Wr_peek_43, rfl, rfl, rfl, rfl⟩)⟩
def f_Wr_writeSign (z0 : Nat) (x1 : Int32) (x2 : Int32) (x3 : Int32) (s : hv_S) : Option (hv_S) :=
  (some (x2 + (1 : Int32))).bind fun y1 =>
  ((
    if x1 = 43 then
      (x_ob s 1 ((some z0))).bind fun a5 =>
      (x_ob s 8 (hv_R s a5 4)).bind fun a6 =>
      (f_Pr_size a6 s).bind fun p7 =>
      (x_ob p7.2 1 ((some z0))).bind fun a8 =>
      (x_ob p7.2 8 (hv_R p7.2 a8 4)).bind fun a9 =>
      (f_Pr_add a9 2 0 p7.2).bind fun p10 =>
      some (p7.1, x2, p10)
    else
      (x_ob s 1 ((some z0))).bind fun a2 =>
      (x_ob s 8 (hv_R s a2 4)).bind fun a3 =>
      (f_Pr_insertSplit a3 x2 s).bind fun p4 =>
      some (x2, y1, p4)
  ) : Option (Int32 × Int32 × hv_S)).bind fun t11 =>
  ((
    if x1 = 42 then
      (x_ob t11.2.2 1 ((some z0))).bind fun a12 =>
      (x_ob t11.2.2 8 (hv_R t11.2.2 a12 4)).bind fun a13 =>
      (f_Pr_add a13 3 x2 t11.2.2).bind fun p14 =>
      some p14
    else
      some t11.2.2
  ) : Option (hv_S)).bind fun t15 =>
  (x_ob t15 1 ((some z0))).bind fun a16 =>
  (x_ob t15 8 (hv_R t15 a16 4)).bind fun a17 =>
  (f_Pr_size a17 t15).bind fun p18 =>
  (x_ob p18.2 1 ((some z0))).bind fun a19 =>
  ((
    if x3 = 0 then
      some t11.2.1
    else
      some p18.1
  ) : Option (Int32)).bind fun t20 =>
  ((
    if x3 = 0 then
      some p18.1
    else
      some t11.2.1
  ) : Option (Int32)).bind fun t21 =>
  (x_ob p18.2 8 (hv_R p18.2 a19 4)).bind fun a22 =>
  (f_Pr_aimSplit a22 t11.1 t20 t21 p18.2).bind fun p23 =>
  some p23
set_option maxRecDepth 4000 in
set_option maxHeartbeats 2000000 in
theorem c_Wr_writeSign {G : lt_G} {z0 : Nat} {x1 : Int32} {x2 : Int32} {x3 : Int32} {s : hv_S} {p : hv_S} (h : f_Wr_writeSign z0 x1 x2 x3 s = some p) : Ck G m_Wr_writeSign 2 0 0 [vR (some z0), vI x1, vI x2, vI x3] s none p := by
  refine Ck.of (by decide) (Nat.le_of_ble_eq_true rfl) ?_
  unfold f_Wr_writeSign at h
  refine lk_iload_n d_Wr_writeSign_0 rfl ?_
  refine lk_istore d_Wr_writeSign_1 (by decide) rfl ?_
  refine lk_iload_n d_Wr_writeSign_3 rfl ?_
  refine lk_iconst (v := 1) d_Wr_writeSign_4 rfl ?_
  refine lk_iadd d_Wr_writeSign_5 ?_
  replace h := x_nm h
  refine lk_istore d_Wr_writeSign_6 (by decide) rfl ?_
  refine lk_iload_n d_Wr_writeSign_8 rfl ?_
  refine lk_bipush (v := 43) d_Wr_writeSign_9 rfl ?_
  obtain ⟨t11, hj, h⟩ := x_b h
  refine Lk.joinS 46 [0, 1, 2, 3, 4, 5] [(4, vI t11.1), (5, vI t11.2.1)] rfl 2 [] t11.2.2 ?_ ?_
  · replace h := hj
    refine lk_icmp_ne (tgt := 38) d_Wr_writeSign_11 (by decide) (fun hc => ?_) (fun hc => ?_)
    · replace h := x_ifn hc h
      refine lk_aload_n d_Wr_writeSign_38 rfl ?_
      obtain ⟨a2, ha2, h⟩ := x_b h
      refine lk_getR (k := 4) d_Wr_writeSign_39 ha2 (by decide) rfl (by decide) lf_Wr_19 rfl ?_
      refine lk_iload_n d_Wr_writeSign_42 rfl ?_
      obtain ⟨a3, ha3, h⟩ := x_b h
      obtain ⟨p4, hp4, h⟩ := x_b h
      refine lk_callV0 d_Wr_writeSign_43 (x_obm ha3 rfl) (c_Pr_insertSplit hp4) (Nat.le_of_ble_eq_true rfl) rfl M_Pr_insertSplit lm_Wr_52 in_Pr_insertSplit se_Pr_insertSplit (by decide) rfl (Nat.le_of_ble_eq_true rfl) ?_
      cases h
      refine Lk.sel [0, 1, 2, 3, 4, 5] rfl ?_
      exact Lk.stop ⟨rfl, rfl, rfl, rfl, rfl, rfl⟩
    · replace h := x_ifp hc h
      refine lk_aload_n d_Wr_writeSign_14 rfl ?_
      obtain ⟨a5, ha5, h⟩ := x_b h
      refine lk_getR (k := 4) d_Wr_writeSign_15 ha5 (by decide) rfl (by decide) lf_Wr_19 rfl ?_
      obtain ⟨a6, ha6, h⟩ := x_b h
      obtain ⟨p7, hp7, h⟩ := x_b h
      refine lk_callV0 d_Wr_writeSign_18 (x_obm ha6 rfl) (c_Pr_size hp7) (Nat.le_of_ble_eq_true rfl) rfl M_Pr_size lm_Wr_46 in_Pr_size se_Pr_size (by decide) rfl (Nat.le_of_ble_eq_true rfl) ?_
      refine lk_istore d_Wr_writeSign_21 (by decide) rfl ?_
      refine lk_iload_n d_Wr_writeSign_23 rfl ?_
      refine lk_istore d_Wr_writeSign_24 (by decide) rfl ?_
      refine lk_aload_n d_Wr_writeSign_26 rfl ?_
      obtain ⟨a8, ha8, h⟩ := x_b h
      refine lk_getR (k := 4) d_Wr_writeSign_27 ha8 (by decide) rfl (by decide) lf_Wr_19 rfl ?_
      refine lk_iconst (v := 2) d_Wr_writeSign_30 rfl ?_
      refine lk_iconst (v := 0) d_Wr_writeSign_31 rfl ?_
      obtain ⟨a9, ha9, h⟩ := x_b h
      obtain ⟨p10, hp10, h⟩ := x_b h
      refine lk_callV0 d_Wr_writeSign_32 (x_obm ha9 rfl) (c_Pr_add hp10) (Nat.le_of_ble_eq_true rfl) rfl M_Pr_add lm_Wr_42 in_Pr_add se_Pr_add (by decide) rfl (Nat.le_of_ble_eq_true rfl) ?_
      refine lk_goto (tgt := 46) d_Wr_writeSign_35 (by decide) ?_
      cases h
      refine Lk.sel [0, 1, 2, 3, 4, 5] rfl ?_
      exact Lk.stop ⟨rfl, rfl, rfl, rfl, rfl, rfl⟩
  · clear hj
    refine lk_iload_n d_Wr_writeSign_46 rfl ?_
    refine lk_bipush (v := 42) d_Wr_writeSign_47 rfl ?_
    obtain ⟨t15, hj, h⟩ := x_b h
    refine Lk.joinS 61 [0, 3, 4, 5] [] rfl 2 [] t15 ?_ ?_
    · replace h := hj
      refine lk_icmp_ne (tgt := 61) d_Wr_writeSign_49 (by decide) (fun hc => ?_) (fun hc => ?_)
      · replace h := x_ifn hc h
        cases h
        refine Lk.sel [0, 3, 4, 5] rfl ?_
        exact Lk.stop ⟨rfl, rfl, rfl, rfl, rfl, rfl⟩
      · replace h := x_ifp hc h
        refine lk_aload_n d_Wr_writeSign_52 rfl ?_
        obtain ⟨a12, ha12, h⟩ := x_b h
        refine lk_getR (k := 4) d_Wr_writeSign_53 ha12 (by decide) rfl (by decide) lf_Wr_19 rfl ?_
        refine lk_iconst (v := 3) d_Wr_writeSign_56 rfl ?_
        refine lk_iload_n d_Wr_writeSign_57 rfl ?_
        obtain ⟨a13, ha13, h⟩ := x_b h
        obtain ⟨p14, hp14, h⟩ := x_b h
        refine lk_callV0 d_Wr_writeSign_58 (x_obm ha13 rfl) (c_Pr_add hp14) (Nat.le_of_ble_eq_true rfl) rfl M_Pr_add lm_Wr_42 in_Pr_add se_Pr_add (by decide) rfl (Nat.le_of_ble_eq_true rfl) ?_
        cases h
        refine Lk.sel [0, 3, 4, 5] rfl ?_
        exact Lk.stop ⟨rfl, rfl, rfl, rfl, rfl, rfl⟩
    · clear hj
      refine lk_aload_n d_Wr_writeSign_61 rfl ?_
      obtain ⟨a16, ha16, h⟩ := x_b h
      refine lk_getR (k := 4) d_Wr_writeSign_62 ha16 (by decide) rfl (by decide) lf_Wr_19 rfl ?_
      obtain ⟨a17, ha17, h⟩ := x_b h
      obtain ⟨p18, hp18, h⟩ := x_b h
      refine lk_callV0 d_Wr_writeSign_65 (x_obm ha17 rfl) (c_Pr_size hp18) (Nat.le_of_ble_eq_true rfl) rfl M_Pr_size lm_Wr_46 in_Pr_size se_Pr_size (by decide) rfl (Nat.le_of_ble_eq_true rfl) ?_
      refine lk_istore d_Wr_writeSign_68 (by decide) rfl ?_
      refine lk_aload_n d_Wr_writeSign_70 rfl ?_
      obtain ⟨a19, ha19, h⟩ := x_b h
      refine lk_getR (k := 4) d_Wr_writeSign_71 ha19 (by decide) rfl (by decide) lf_Wr_19 rfl ?_
      refine lk_iload d_Wr_writeSign_74 rfl ?_
      refine lk_iload_n d_Wr_writeSign_76 rfl ?_
      obtain ⟨t20, hj, h⟩ := x_b h
      refine Lk.joinA 87 [3, 5, 6] [] rfl 1 [vI t20] ?_ ?_
      · replace h := hj
        refine lk_if_eq (tgt := 85) d_Wr_writeSign_77 (by decide) (fun hc => ?_) (fun hc => ?_)
        · replace h := x_ifp hc h
          refine lk_iload d_Wr_writeSign_85 rfl ?_
          cases h
          refine Lk.sel [3, 5, 6] rfl ?_
          exact Lk.stop ⟨rfl, rfl, rfl, rfl, rfl, rfl⟩
        · replace h := x_ifn hc h
          refine lk_iload d_Wr_writeSign_80 rfl ?_
          refine lk_goto (tgt := 87) d_Wr_writeSign_82 (by decide) ?_
          cases h
          refine Lk.sel [3, 5, 6] rfl ?_
          exact Lk.stop ⟨rfl, rfl, rfl, rfl, rfl, rfl⟩
      · clear hj
        refine lk_iload_n d_Wr_writeSign_87 rfl ?_
        obtain ⟨t21, hj, h⟩ := x_b h
        refine Lk.joinA 98 [] [] rfl 1 [vI t21] ?_ ?_
        · replace h := hj
          refine lk_if_eq (tgt := 96) d_Wr_writeSign_88 (by decide) (fun hc => ?_) (fun hc => ?_)
          · replace h := x_ifp hc h
            refine lk_iload d_Wr_writeSign_96 rfl ?_
            cases h
            refine Lk.sel [] rfl ?_
            exact Lk.stop ⟨rfl, rfl, rfl, rfl, rfl, rfl⟩
          · replace h := x_ifn hc h
            refine lk_iload d_Wr_writeSign_91 rfl ?_
            refine lk_goto (tgt := 98) d_Wr_writeSign_93 (by decide) ?_
            cases h
            refine Lk.sel [] rfl ?_
            exact Lk.stop ⟨rfl, rfl, rfl, rfl, rfl, rfl⟩
        · clear hj
          obtain ⟨a22, ha22, h⟩ := x_b h
          obtain ⟨p23, hp23, h⟩ := x_b h
          refine lk_callV0 d_Wr_writeSign_98 (x_obm ha22 rfl) (c_Pr_aimSplit hp23) (Nat.le_of_ble_eq_true rfl) rfl M_Pr_aimSplit lm_Wr_59 in_Pr_aimSplit se_Pr_aimSplit (by decide) rfl (Nat.le_of_ble_eq_true rfl) ?_
          cases h
          exact Lk.stop ⟨rfl, Or.inl ⟨d_Wr_writeSign_101, rfl, rfl, rfl⟩⟩
def f_Wr_writeGroup (rc : Nat → hv_S → Option (Int32 × hv_S)) (z0 : Nat) (s : hv_S) : Option (Int32 × hv_S) :=
  (x_ob s 1 ((some z0))).bind fun a1 =>
  if (hv_I s a1 3) < 3 then
    (some (hv_setI s a1 3 ((hv_I s a1 3) + (1 : Int32)))).bind fun s2 =>
    (x_ob s2 8 (hv_R s2 a1 4)).bind fun a3 =>
    (f_Pr_add a3 4 ((2 : Int32) * (hv_I s2 a1 3)) s2).bind fun p4 =>
    (x_ob p4 1 ((some z0))).bind fun a5 =>
    (rc a5 p4).bind fun p6 =>
    if p6.1 = 0 then
      some ((0, p6.2))
    else
      (x_ob p6.2 1 ((some z0))).bind fun a7 =>
      (f_Wr_peek a7 p6.2).bind fun p8 =>
      if p8.1 = 41 then
        (x_ob p8.2 1 ((some z0))).bind fun a9 =>
        (some (hv_setI p8.2 a9 2 ((hv_I p8.2 a9 2) + (1 : Int32)))).bind fun s10 =>
        (x_ob s10 8 (hv_R s10 a9 4)).bind fun a11 =>
        (f_Pr_add a11 4 (((2 : Int32) * (hv_I s2 a1 3)) + (1 : Int32)) s10).bind fun p12 =>
        some ((1, p12))
      else
        some ((0, p8.2))
  else
    some ((0, s))
set_option maxRecDepth 4000 in
set_option maxHeartbeats 2000000 in
theorem c_Wr_writeGroup {G : lt_G} {D : Nat} (hD : 9 ≤ D) {rc : Nat → hv_S → Option (Int32 × hv_S)} (hrc : ∀ (z : Nat) (s : hv_S) (p : Int32 × hv_S), rc z s = some p → Ck G m_Wr_writeChoice D 0 0 [vR (some z)] s (some (vI p.1)) p.2) {z0 : Nat} {s : hv_S} {p : Int32 × hv_S} (h : f_Wr_writeGroup rc z0 s = some p) : Ck G m_Wr_writeGroup (D + 1) 0 0 [vR (some z0)] s (some (vI p.1)) p.2 := by
  refine Ck.of (by decide) (Nat.le_of_ble_eq_true rfl) ?_
  unfold f_Wr_writeGroup at h
  refine lk_aload_n d_Wr_writeGroup_0 rfl ?_
  obtain ⟨a1, ha1, h⟩ := x_b h
  refine lk_getI (k := 3) d_Wr_writeGroup_1 ha1 (by decide) rfl (by decide) lf_Wr_26 rfl ?_
  refine lk_iconst (v := 3) d_Wr_writeGroup_4 rfl ?_
  refine lk_icmp_lt (tgt := 10) d_Wr_writeGroup_5 (by decide) (fun hc => ?_) (fun hc => ?_)
  · replace h := x_ifp hc h
    refine lk_aload_n d_Wr_writeGroup_10 rfl ?_
    refine lk_dup d_Wr_writeGroup_11 rfl ?_
    refine lk_getI (k := 3) d_Wr_writeGroup_12 ha1 (by decide) rfl (by decide) lf_Wr_26 rfl ?_
    refine lk_iconst (v := 1) d_Wr_writeGroup_15 rfl ?_
    refine lk_iadd d_Wr_writeGroup_16 ?_
    replace h := x_nm h
    refine lk_putI (k := 3) d_Wr_writeGroup_17 ha1 (by decide) rfl (by decide) lf_Wr_26 rfl rfl ?_
    refine lk_aload_n d_Wr_writeGroup_20 rfl ?_
    refine lk_getI (k := 3) d_Wr_writeGroup_21 ha1 (by decide) rfl (by decide) lf_Wr_26 rfl ?_
    refine lk_istore_n d_Wr_writeGroup_24 (by decide) rfl ?_
    refine lk_aload_n d_Wr_writeGroup_25 rfl ?_
    refine lk_getR (k := 4) d_Wr_writeGroup_26 ha1 (by decide) rfl (by decide) lf_Wr_19 rfl ?_
    refine lk_iconst (v := 4) d_Wr_writeGroup_29 rfl ?_
    refine lk_iconst (v := 2) d_Wr_writeGroup_30 rfl ?_
    refine lk_iload_n d_Wr_writeGroup_31 rfl ?_
    refine lk_imul d_Wr_writeGroup_32 ?_
    obtain ⟨a3, ha3, h⟩ := x_b h
    obtain ⟨p4, hp4, h⟩ := x_b h
    refine lk_callV0 d_Wr_writeGroup_33 (x_obm ha3 rfl) (c_Pr_add hp4) (by omega) rfl M_Pr_add lm_Wr_42 in_Pr_add se_Pr_add (by decide) rfl (Nat.le_of_ble_eq_true rfl) ?_
    refine lk_aload_n d_Wr_writeGroup_36 rfl ?_
    obtain ⟨a5, ha5, h⟩ := x_b h
    obtain ⟨p6, hp6, h⟩ := x_b h
    refine lk_callV0 d_Wr_writeGroup_37 (x_obm ha5 rfl) (hrc _ _ _ hp6) (by omega) rfl M_Wr_writeChoice lm_Wr_34 in_Wr_writeChoice se_Wr_writeChoice (by decide) rfl (Nat.le_of_ble_eq_true rfl) ?_
    refine lk_if_eq (tgt := 52) d_Wr_writeGroup_40 (by decide) (fun hc => ?_) (fun hc => ?_)
    · replace h := x_ifp hc h
      refine lk_iconst (v := 0) d_Wr_writeGroup_52 rfl ?_
      cases h
      exact Lk.stop ⟨rfl, Or.inr (Or.inl ⟨_, _, d_Wr_writeGroup_53, rfl, rfl, rfl, rfl⟩)⟩
    · replace h := x_ifn hc h
      refine lk_aload_n d_Wr_writeGroup_43 rfl ?_
      obtain ⟨a7, ha7, h⟩ := x_b h
      obtain ⟨p8, hp8, h⟩ := x_b h
      refine lk_callV0 d_Wr_writeGroup_44 (x_obm ha7 rfl) (c_Wr_peek hp8) (by omega) rfl M_Wr_peek lm_Wr_38 in_Wr_peek se_Wr_peek (by decide) rfl (Nat.le_of_ble_eq_true rfl) ?_
      refine lk_bipush (v := 41) d_Wr_writeGroup_47 rfl ?_
      refine lk_icmp_eq (tgt := 54) d_Wr_writeGroup_49 (by decide) (fun hc => ?_) (fun hc => ?_)
      · replace h := x_ifp hc h
        refine lk_aload_n d_Wr_writeGroup_54 rfl ?_
        refine lk_dup d_Wr_writeGroup_55 rfl ?_
        obtain ⟨a9, ha9, h⟩ := x_b h
        refine lk_getI (k := 2) d_Wr_writeGroup_56 ha9 (by decide) rfl (by decide) lf_Wr_23 rfl ?_
        refine lk_iconst (v := 1) d_Wr_writeGroup_59 rfl ?_
        refine lk_iadd d_Wr_writeGroup_60 ?_
        replace h := x_nm h
        refine lk_putI (k := 2) d_Wr_writeGroup_61 ha9 (by decide) rfl (by decide) lf_Wr_23 rfl rfl ?_
        refine lk_aload_n d_Wr_writeGroup_64 rfl ?_
        refine lk_getR (k := 4) d_Wr_writeGroup_65 ha9 (by decide) rfl (by decide) lf_Wr_19 rfl ?_
        refine lk_iconst (v := 4) d_Wr_writeGroup_68 rfl ?_
        refine lk_iconst (v := 2) d_Wr_writeGroup_69 rfl ?_
        refine lk_iload_n d_Wr_writeGroup_70 rfl ?_
        refine lk_imul d_Wr_writeGroup_71 ?_
        refine lk_iconst (v := 1) d_Wr_writeGroup_72 rfl ?_
        refine lk_iadd d_Wr_writeGroup_73 ?_
        obtain ⟨a11, ha11, h⟩ := x_b h
        obtain ⟨p12, hp12, h⟩ := x_b h
        refine lk_callV0 d_Wr_writeGroup_74 (x_obm ha11 rfl) (c_Pr_add hp12) (by omega) rfl M_Pr_add lm_Wr_42 in_Pr_add se_Pr_add (by decide) rfl (Nat.le_of_ble_eq_true rfl) ?_
        refine lk_iconst (v := 1) d_Wr_writeGroup_77 rfl ?_
        cases h
        exact Lk.stop ⟨rfl, Or.inr (Or.inl ⟨_, _, d_Wr_writeGroup_78, rfl, rfl, rfl, rfl⟩)⟩
      · replace h := x_ifn hc h
        refine lk_iconst (v := 0) d_Wr_writeGroup_52 rfl ?_
        cases h
        exact Lk.stop ⟨rfl, Or.inr (Or.inl ⟨_, _, d_Wr_writeGroup_53, rfl, rfl, rfl, rfl⟩)⟩
  · replace h := x_ifn hc h
    refine lk_iconst (v := 0) d_Wr_writeGroup_8 rfl ?_
    cases h
    exact Lk.stop ⟨rfl, Or.inr (Or.inl ⟨_, _, d_Wr_writeGroup_9, rfl, rfl, rfl, rfl⟩)⟩
def f_Wr_writeAtom (rc : Nat → hv_S → Option (Int32 × hv_S)) (z0 : Nat) (s : hv_S) : Option (Int32 × hv_S) :=
  (x_ob s 1 ((some z0))).bind fun a1 =>
  (f_Wr_peek a1 s).bind fun p2 =>
  (x_ob p2.2 1 ((some z0))).bind fun a3 =>
  (some (hv_setI p2.2 a3 2 ((hv_I p2.2 a3 2) + (1 : Int32)))).bind fun s4 =>
  if p2.1 < 97 then
    if p2.1 = 36 then
      (x_ob s4 8 (hv_R s4 a3 4)).bind fun a5 =>
      (f_Pr_add a5 6 0 s4).bind fun p6 =>
      some ((1, p6))
    else if p2.1 = 40 then
      (f_Wr_writeGroup rc a3 s4).bind fun p7 =>
      (x_z p7.1).bind fun z8 =>
      some ((z8, p7.2))
    else if p2.1 = 46 then
      (x_ob s4 8 (hv_R s4 a3 4)).bind fun a9 =>
      (f_Pr_add a9 1 0 s4).bind fun p10 =>
      some ((1, p10))
    else if p2.1 = 94 then
      (x_ob s4 8 (hv_R s4 a3 4)).bind fun a11 =>
      (f_Pr_add a11 5 0 s4).bind fun p12 =>
      some ((1, p12))
    else
      some ((0, s4))
  else
    if 105 ≤ p2.1 then
      if p2.1 = 36 then
        (x_ob s4 8 (hv_R s4 a3 4)).bind fun a13 =>
        (f_Pr_add a13 6 0 s4).bind fun p14 =>
        some ((1, p14))
      else if p2.1 = 40 then
        (f_Wr_writeGroup rc a3 s4).bind fun p15 =>
        (x_z p15.1).bind fun z16 =>
        some ((z16, p15.2))
      else if p2.1 = 46 then
        (x_ob s4 8 (hv_R s4 a3 4)).bind fun a17 =>
        (f_Pr_add a17 1 0 s4).bind fun p18 =>
        some ((1, p18))
      else if p2.1 = 94 then
        (x_ob s4 8 (hv_R s4 a3 4)).bind fun a19 =>
        (f_Pr_add a19 5 0 s4).bind fun p20 =>
        some ((1, p20))
      else
        some ((0, s4))
    else
      (x_ob s4 8 (hv_R s4 a3 4)).bind fun a21 =>
      (f_Pr_add a21 0 (p2.1 - (97 : Int32)) s4).bind fun p22 =>
      some ((1, p22))
set_option maxRecDepth 4000 in
set_option maxHeartbeats 2000000 in
theorem c_Wr_writeAtom {G : lt_G} {D : Nat} (hD : 9 ≤ D) {rc : Nat → hv_S → Option (Int32 × hv_S)} (hrc : ∀ (z : Nat) (s : hv_S) (p : Int32 × hv_S), rc z s = some p → Ck G m_Wr_writeChoice D 0 0 [vR (some z)] s (some (vI p.1)) p.2) {z0 : Nat} {s : hv_S} {p : Int32 × hv_S} (h : f_Wr_writeAtom rc z0 s = some p) : Ck G m_Wr_writeAtom (D + 2) 0 0 [vR (some z0)] s (some (vI p.1)) p.2 := by
  refine Ck.of (by decide) (Nat.le_of_ble_eq_true rfl) ?_
  unfold f_Wr_writeAtom at h
  refine lk_aload_n d_Wr_writeAtom_0 rfl ?_
  obtain ⟨a1, ha1, h⟩ := x_b h
  obtain ⟨p2, hp2, h⟩ := x_b h
  refine lk_callV0 d_Wr_writeAtom_1 (x_obm ha1 rfl) (c_Wr_peek hp2) (by omega) rfl M_Wr_peek lm_Wr_38 in_Wr_peek se_Wr_peek (by decide) rfl (Nat.le_of_ble_eq_true rfl) ?_
  refine lk_istore_n d_Wr_writeAtom_4 (by decide) rfl ?_
  refine lk_aload_n d_Wr_writeAtom_5 rfl ?_
  refine lk_dup d_Wr_writeAtom_6 rfl ?_
  obtain ⟨a3, ha3, h⟩ := x_b h
  refine lk_getI (k := 2) d_Wr_writeAtom_7 ha3 (by decide) rfl (by decide) lf_Wr_23 rfl ?_
  refine lk_iconst (v := 1) d_Wr_writeAtom_10 rfl ?_
  refine lk_iadd d_Wr_writeAtom_11 ?_
  replace h := x_nm h
  refine lk_putI (k := 2) d_Wr_writeAtom_12 ha3 (by decide) rfl (by decide) lf_Wr_23 rfl rfl ?_
  refine lk_iload_n d_Wr_writeAtom_15 rfl ?_
  refine lk_bipush (v := 97) d_Wr_writeAtom_16 rfl ?_
  refine lk_icmp_lt (tgt := 41) d_Wr_writeAtom_18 (by decide) (fun hc => ?_) (fun hc => ?_)
  · replace h := x_ifp hc h
    refine lk_iload_n d_Wr_writeAtom_41 rfl ?_
    rcases x_ifc h with ⟨g0, h⟩ | ⟨g0, h⟩
    · refine lk_lookup (off := 64) (tgt := 106) d_Wr_writeAtom_42 (by decide) (by show Op.lookupswitch.offset [(36, 64), (40, 76), (46, 42), (94, 53)] _ _ = _; rw [g0] <;> rfl) (by decide) ?_
      refine lk_aload_n d_Wr_writeAtom_106 rfl ?_
      refine lk_getR (k := 4) d_Wr_writeAtom_107 ha3 (by decide) rfl (by decide) lf_Wr_19 rfl ?_
      refine lk_bipush (v := 6) d_Wr_writeAtom_110 rfl ?_
      refine lk_iconst (v := 0) d_Wr_writeAtom_112 rfl ?_
      obtain ⟨a5, ha5, h⟩ := x_b h
      obtain ⟨p6, hp6, h⟩ := x_b h
      refine lk_callV0 d_Wr_writeAtom_113 (x_obm ha5 rfl) (c_Pr_add hp6) (by omega) rfl M_Pr_add lm_Wr_42 in_Pr_add se_Pr_add (by decide) rfl (Nat.le_of_ble_eq_true rfl) ?_
      refine lk_iconst (v := 1) d_Wr_writeAtom_116 rfl ?_
      cases h
      exact Lk.stop ⟨rfl, Or.inr (Or.inl ⟨_, _, d_Wr_writeAtom_117, rfl, rfl, rfl, rfl⟩)⟩
    · rcases x_ifc h with ⟨g1, h⟩ | ⟨g1, h⟩
      · refine lk_lookup (off := 76) (tgt := 118) d_Wr_writeAtom_42 (by decide) (by show Op.lookupswitch.offset [(36, 64), (40, 76), (46, 42), (94, 53)] _ _ = _; rw [lv_osw g0 (a := 36) rfl, g1] <;> rfl) (by decide) ?_
        refine lk_aload_n d_Wr_writeAtom_118 rfl ?_
        obtain ⟨p7, hp7, h⟩ := x_b h
        refine lk_callV0 d_Wr_writeAtom_119 (x_obm ha3 rfl) (c_Wr_writeGroup hD hrc hp7) (by omega) rfl M_Wr_writeGroup lm_Wr_76 in_Wr_writeGroup se_Wr_writeGroup (by decide) rfl (Nat.le_of_ble_eq_true rfl) ?_
        obtain ⟨z8, hz80, h⟩ := x_b h
        obtain ⟨rfl, hz8⟩ := x_z_some hz80
        cases h
        exact Lk.stop ⟨rfl, Or.inr (Or.inl ⟨_, _, d_Wr_writeAtom_122, rfl, x_zn hz8, rfl, rfl⟩)⟩
      · rcases x_ifc h with ⟨g2, h⟩ | ⟨g2, h⟩
        · refine lk_lookup (off := 42) (tgt := 84) d_Wr_writeAtom_42 (by decide) (by show Op.lookupswitch.offset [(36, 64), (40, 76), (46, 42), (94, 53)] _ _ = _; rw [lv_osw g0 (a := 36) rfl, lv_osw g1 (a := 40) rfl, g2] <;> rfl) (by decide) ?_
          refine lk_aload_n d_Wr_writeAtom_84 rfl ?_
          refine lk_getR (k := 4) d_Wr_writeAtom_85 ha3 (by decide) rfl (by decide) lf_Wr_19 rfl ?_
          refine lk_iconst (v := 1) d_Wr_writeAtom_88 rfl ?_
          refine lk_iconst (v := 0) d_Wr_writeAtom_89 rfl ?_
          obtain ⟨a9, ha9, h⟩ := x_b h
          obtain ⟨p10, hp10, h⟩ := x_b h
          refine lk_callV0 d_Wr_writeAtom_90 (x_obm ha9 rfl) (c_Pr_add hp10) (by omega) rfl M_Pr_add lm_Wr_42 in_Pr_add se_Pr_add (by decide) rfl (Nat.le_of_ble_eq_true rfl) ?_
          refine lk_iconst (v := 1) d_Wr_writeAtom_93 rfl ?_
          cases h
          exact Lk.stop ⟨rfl, Or.inr (Or.inl ⟨_, _, d_Wr_writeAtom_94, rfl, rfl, rfl, rfl⟩)⟩
        · rcases x_ifc h with ⟨g3, h⟩ | ⟨g3, h⟩
          · refine lk_lookup (off := 53) (tgt := 95) d_Wr_writeAtom_42 (by decide) (by show Op.lookupswitch.offset [(36, 64), (40, 76), (46, 42), (94, 53)] _ _ = _; rw [lv_osw g0 (a := 36) rfl, lv_osw g1 (a := 40) rfl, lv_osw g2 (a := 46) rfl, g3] <;> rfl) (by decide) ?_
            refine lk_aload_n d_Wr_writeAtom_95 rfl ?_
            refine lk_getR (k := 4) d_Wr_writeAtom_96 ha3 (by decide) rfl (by decide) lf_Wr_19 rfl ?_
            refine lk_iconst (v := 5) d_Wr_writeAtom_99 rfl ?_
            refine lk_iconst (v := 0) d_Wr_writeAtom_100 rfl ?_
            obtain ⟨a11, ha11, h⟩ := x_b h
            obtain ⟨p12, hp12, h⟩ := x_b h
            refine lk_callV0 d_Wr_writeAtom_101 (x_obm ha11 rfl) (c_Pr_add hp12) (by omega) rfl M_Pr_add lm_Wr_42 in_Pr_add se_Pr_add (by decide) rfl (Nat.le_of_ble_eq_true rfl) ?_
            refine lk_iconst (v := 1) d_Wr_writeAtom_104 rfl ?_
            cases h
            exact Lk.stop ⟨rfl, Or.inr (Or.inl ⟨_, _, d_Wr_writeAtom_105, rfl, rfl, rfl, rfl⟩)⟩
          · refine lk_lookup (off := 81) (tgt := 123) d_Wr_writeAtom_42 (by decide) (by show Op.lookupswitch.offset [(36, 64), (40, 76), (46, 42), (94, 53)] _ _ = _; rw [lv_osw g0 (a := 36) rfl, lv_osw g1 (a := 40) rfl, lv_osw g2 (a := 46) rfl, lv_osw g3 (a := 94) rfl] <;> rfl) (by decide) ?_
            refine lk_iconst (v := 0) d_Wr_writeAtom_123 rfl ?_
            cases h
            exact Lk.stop ⟨rfl, Or.inr (Or.inl ⟨_, _, d_Wr_writeAtom_124, rfl, rfl, rfl, rfl⟩)⟩
  · replace h := x_ifn hc h
    refine lk_iload_n d_Wr_writeAtom_21 rfl ?_
    refine lk_bipush (v := 105) d_Wr_writeAtom_22 rfl ?_
    refine lk_icmp_ge (tgt := 41) d_Wr_writeAtom_24 (by decide) (fun hc => ?_) (fun hc => ?_)
    · replace h := x_ifp hc h
      refine lk_iload_n d_Wr_writeAtom_41 rfl ?_
      rcases x_ifc h with ⟨g0, h⟩ | ⟨g0, h⟩
      · refine lk_lookup (off := 64) (tgt := 106) d_Wr_writeAtom_42 (by decide) (by show Op.lookupswitch.offset [(36, 64), (40, 76), (46, 42), (94, 53)] _ _ = _; rw [g0] <;> rfl) (by decide) ?_
        refine lk_aload_n d_Wr_writeAtom_106 rfl ?_
        refine lk_getR (k := 4) d_Wr_writeAtom_107 ha3 (by decide) rfl (by decide) lf_Wr_19 rfl ?_
        refine lk_bipush (v := 6) d_Wr_writeAtom_110 rfl ?_
        refine lk_iconst (v := 0) d_Wr_writeAtom_112 rfl ?_
        obtain ⟨a13, ha13, h⟩ := x_b h
        obtain ⟨p14, hp14, h⟩ := x_b h
        refine lk_callV0 d_Wr_writeAtom_113 (x_obm ha13 rfl) (c_Pr_add hp14) (by omega) rfl M_Pr_add lm_Wr_42 in_Pr_add se_Pr_add (by decide) rfl (Nat.le_of_ble_eq_true rfl) ?_
        refine lk_iconst (v := 1) d_Wr_writeAtom_116 rfl ?_
        cases h
        exact Lk.stop ⟨rfl, Or.inr (Or.inl ⟨_, _, d_Wr_writeAtom_117, rfl, rfl, rfl, rfl⟩)⟩
      · rcases x_ifc h with ⟨g1, h⟩ | ⟨g1, h⟩
        · refine lk_lookup (off := 76) (tgt := 118) d_Wr_writeAtom_42 (by decide) (by show Op.lookupswitch.offset [(36, 64), (40, 76), (46, 42), (94, 53)] _ _ = _; rw [lv_osw g0 (a := 36) rfl, g1] <;> rfl) (by decide) ?_
          refine lk_aload_n d_Wr_writeAtom_118 rfl ?_
          obtain ⟨p15, hp15, h⟩ := x_b h
          refine lk_callV0 d_Wr_writeAtom_119 (x_obm ha3 rfl) (c_Wr_writeGroup hD hrc hp15) (by omega) rfl M_Wr_writeGroup lm_Wr_76 in_Wr_writeGroup se_Wr_writeGroup (by decide) rfl (Nat.le_of_ble_eq_true rfl) ?_
          obtain ⟨z16, hz160, h⟩ := x_b h
          obtain ⟨rfl, hz16⟩ := x_z_some hz160
          cases h
          exact Lk.stop ⟨rfl, Or.inr (Or.inl ⟨_, _, d_Wr_writeAtom_122, rfl, x_zn hz16, rfl, rfl⟩)⟩
        · rcases x_ifc h with ⟨g2, h⟩ | ⟨g2, h⟩
          · refine lk_lookup (off := 42) (tgt := 84) d_Wr_writeAtom_42 (by decide) (by show Op.lookupswitch.offset [(36, 64), (40, 76), (46, 42), (94, 53)] _ _ = _; rw [lv_osw g0 (a := 36) rfl, lv_osw g1 (a := 40) rfl, g2] <;> rfl) (by decide) ?_
            refine lk_aload_n d_Wr_writeAtom_84 rfl ?_
            refine lk_getR (k := 4) d_Wr_writeAtom_85 ha3 (by decide) rfl (by decide) lf_Wr_19 rfl ?_
            refine lk_iconst (v := 1) d_Wr_writeAtom_88 rfl ?_
            refine lk_iconst (v := 0) d_Wr_writeAtom_89 rfl ?_
            obtain ⟨a17, ha17, h⟩ := x_b h
            obtain ⟨p18, hp18, h⟩ := x_b h
            refine lk_callV0 d_Wr_writeAtom_90 (x_obm ha17 rfl) (c_Pr_add hp18) (by omega) rfl M_Pr_add lm_Wr_42 in_Pr_add se_Pr_add (by decide) rfl (Nat.le_of_ble_eq_true rfl) ?_
            refine lk_iconst (v := 1) d_Wr_writeAtom_93 rfl ?_
            cases h
            exact Lk.stop ⟨rfl, Or.inr (Or.inl ⟨_, _, d_Wr_writeAtom_94, rfl, rfl, rfl, rfl⟩)⟩
          · rcases x_ifc h with ⟨g3, h⟩ | ⟨g3, h⟩
            · refine lk_lookup (off := 53) (tgt := 95) d_Wr_writeAtom_42 (by decide) (by show Op.lookupswitch.offset [(36, 64), (40, 76), (46, 42), (94, 53)] _ _ = _; rw [lv_osw g0 (a := 36) rfl, lv_osw g1 (a := 40) rfl, lv_osw g2 (a := 46) rfl, g3] <;> rfl) (by decide) ?_
              refine lk_aload_n d_Wr_writeAtom_95 rfl ?_
              refine lk_getR (k := 4) d_Wr_writeAtom_96 ha3 (by decide) rfl (by decide) lf_Wr_19 rfl ?_
              refine lk_iconst (v := 5) d_Wr_writeAtom_99 rfl ?_
              refine lk_iconst (v := 0) d_Wr_writeAtom_100 rfl ?_
              obtain ⟨a19, ha19, h⟩ := x_b h
              obtain ⟨p20, hp20, h⟩ := x_b h
              refine lk_callV0 d_Wr_writeAtom_101 (x_obm ha19 rfl) (c_Pr_add hp20) (by omega) rfl M_Pr_add lm_Wr_42 in_Pr_add se_Pr_add (by decide) rfl (Nat.le_of_ble_eq_true rfl) ?_
              refine lk_iconst (v := 1) d_Wr_writeAtom_104 rfl ?_
              cases h
              exact Lk.stop ⟨rfl, Or.inr (Or.inl ⟨_, _, d_Wr_writeAtom_105, rfl, rfl, rfl, rfl⟩)⟩
            · refine lk_lookup (off := 81) (tgt := 123) d_Wr_writeAtom_42 (by decide) (by show Op.lookupswitch.offset [(36, 64), (40, 76), (46, 42), (94, 53)] _ _ = _; rw [lv_osw g0 (a := 36) rfl, lv_osw g1 (a := 40) rfl, lv_osw g2 (a := 46) rfl, lv_osw g3 (a := 94) rfl] <;> rfl) (by decide) ?_
              refine lk_iconst (v := 0) d_Wr_writeAtom_123 rfl ?_
              cases h
              exact Lk.stop ⟨rfl, Or.inr (Or.inl ⟨_, _, d_Wr_writeAtom_124, rfl, rfl, rfl, rfl⟩)⟩
    · replace h := x_ifn hc h
      refine lk_aload_n d_Wr_writeAtom_27 rfl ?_
      refine lk_getR (k := 4) d_Wr_writeAtom_28 ha3 (by decide) rfl (by decide) lf_Wr_19 rfl ?_
      refine lk_iconst (v := 0) d_Wr_writeAtom_31 rfl ?_
      refine lk_iload_n d_Wr_writeAtom_32 rfl ?_
      refine lk_bipush (v := 97) d_Wr_writeAtom_33 rfl ?_
      refine lk_isub d_Wr_writeAtom_35 ?_
      obtain ⟨a21, ha21, h⟩ := x_b h
      obtain ⟨p22, hp22, h⟩ := x_b h
      refine lk_callV0 d_Wr_writeAtom_36 (x_obm ha21 rfl) (c_Pr_add hp22) (by omega) rfl M_Pr_add lm_Wr_42 in_Pr_add se_Pr_add (by decide) rfl (Nat.le_of_ble_eq_true rfl) ?_
      refine lk_iconst (v := 1) d_Wr_writeAtom_39 rfl ?_
      cases h
      exact Lk.stop ⟨rfl, Or.inr (Or.inl ⟨_, _, d_Wr_writeAtom_40, rfl, rfl, rfl, rfl⟩)⟩
def f_Wr_writePiece (rc : Nat → hv_S → Option (Int32 × hv_S)) (z0 : Nat) (s : hv_S) : Option (Int32 × hv_S) :=
  (x_ob s 1 ((some z0))).bind fun a1 =>
  (x_ob s 8 (hv_R s a1 4)).bind fun a2 =>
  (f_Pr_size a2 s).bind fun p3 =>
  (x_ob p3.2 1 ((some z0))).bind fun a4 =>
  (f_Wr_writeAtom rc a4 p3.2).bind fun p5 =>
  if p5.1 = 0 then
    some ((0, p5.2))
  else
    (x_ob p5.2 1 ((some z0))).bind fun a6 =>
    (f_Wr_peek a6 p5.2).bind fun p7 =>
    ((
      if p7.1 = 63 then
        (x_ob p7.2 1 ((some z0))).bind fun a8 =>
        (some (hv_setI p7.2 a8 2 ((hv_I p7.2 a8 2) + (1 : Int32)))).bind fun s9 =>
        (f_Wr_peek a8 s9).bind fun p10 =>
        ((
          if p10.1 = 63 then
            some 1
          else
            some 0
        ) : Option (Int32)).bind fun t11 =>
        ((
          if t11 = 0 then
            some p10.2
          else
            (x_ob p10.2 1 ((some z0))).bind fun a12 =>
            (some (hv_setI p10.2 a12 2 ((hv_I p10.2 a12 2) + (1 : Int32)))).bind fun s13 =>
            some s13
        ) : Option (hv_S)).bind fun t14 =>
        (x_ob t14 1 ((some z0))).bind fun a15 =>
        (f_Wr_writeSign a15 p7.1 p3.1 t11 t14).bind fun p16 =>
        some p16
      else
        if p7.1 = 42 then
          (x_ob p7.2 1 ((some z0))).bind fun a17 =>
          (some (hv_setI p7.2 a17 2 ((hv_I p7.2 a17 2) + (1 : Int32)))).bind fun s18 =>
          (f_Wr_peek a17 s18).bind fun p19 =>
          ((
            if p19.1 = 63 then
              some 1
            else
              some 0
          ) : Option (Int32)).bind fun t20 =>
          ((
            if t20 = 0 then
              some p19.2
            else
              (x_ob p19.2 1 ((some z0))).bind fun a21 =>
              (some (hv_setI p19.2 a21 2 ((hv_I p19.2 a21 2) + (1 : Int32)))).bind fun s22 =>
              some s22
          ) : Option (hv_S)).bind fun t23 =>
          (x_ob t23 1 ((some z0))).bind fun a24 =>
          (f_Wr_writeSign a24 p7.1 p3.1 t20 t23).bind fun p25 =>
          some p25
        else
          if p7.1 = 43 then
            (x_ob p7.2 1 ((some z0))).bind fun a26 =>
            (some (hv_setI p7.2 a26 2 ((hv_I p7.2 a26 2) + (1 : Int32)))).bind fun s27 =>
            (f_Wr_peek a26 s27).bind fun p28 =>
            ((
              if p28.1 = 63 then
                some 1
              else
                some 0
            ) : Option (Int32)).bind fun t29 =>
            ((
              if t29 = 0 then
                some p28.2
              else
                (x_ob p28.2 1 ((some z0))).bind fun a30 =>
                (some (hv_setI p28.2 a30 2 ((hv_I p28.2 a30 2) + (1 : Int32)))).bind fun s31 =>
                some s31
            ) : Option (hv_S)).bind fun t32 =>
            (x_ob t32 1 ((some z0))).bind fun a33 =>
            (f_Wr_writeSign a33 p7.1 p3.1 t29 t32).bind fun p34 =>
            some p34
          else
            some p7.2
    ) : Option (hv_S)).bind fun t35 =>
    some ((1, t35))
set_option maxRecDepth 4000 in
set_option maxHeartbeats 2000000 in
theorem c_Wr_writePiece {G : lt_G} {D : Nat} (hD : 9 ≤ D) {rc : Nat → hv_S → Option (Int32 × hv_S)} (hrc : ∀ (z : Nat) (s : hv_S) (p : Int32 × hv_S), rc z s = some p → Ck G m_Wr_writeChoice D 0 0 [vR (some z)] s (some (vI p.1)) p.2) {z0 : Nat} {s : hv_S} {p : Int32 × hv_S} (h : f_Wr_writePiece rc z0 s = some p) : Ck G m_Wr_writePiece (D + 3) 0 0 [vR (some z0)] s (some (vI p.1)) p.2 := by
  refine Ck.of (by decide) (Nat.le_of_ble_eq_true rfl) ?_
  unfold f_Wr_writePiece at h
  refine lk_aload_n d_Wr_writePiece_0 rfl ?_
  obtain ⟨a1, ha1, h⟩ := x_b h
  refine lk_getR (k := 4) d_Wr_writePiece_1 ha1 (by decide) rfl (by decide) lf_Wr_19 rfl ?_
  obtain ⟨a2, ha2, h⟩ := x_b h
  obtain ⟨p3, hp3, h⟩ := x_b h
  refine lk_callV0 d_Wr_writePiece_4 (x_obm ha2 rfl) (c_Pr_size hp3) (by omega) rfl M_Pr_size lm_Wr_46 in_Pr_size se_Pr_size (by decide) rfl (Nat.le_of_ble_eq_true rfl) ?_
  refine lk_istore_n d_Wr_writePiece_7 (by decide) rfl ?_
  refine lk_aload_n d_Wr_writePiece_8 rfl ?_
  obtain ⟨a4, ha4, h⟩ := x_b h
  obtain ⟨p5, hp5, h⟩ := x_b h
  refine lk_callV0 d_Wr_writePiece_9 (x_obm ha4 rfl) (c_Wr_writeAtom hD hrc hp5) (by omega) rfl M_Wr_writeAtom lm_Wr_69 in_Wr_writeAtom se_Wr_writeAtom (by decide) rfl (Nat.le_of_ble_eq_true rfl) ?_
  refine lk_if_ne (tgt := 17) d_Wr_writePiece_12 (by decide) (fun hc => ?_) (fun hc => ?_)
  · replace h := x_ifn hc h
    refine lk_aload_n d_Wr_writePiece_17 rfl ?_
    obtain ⟨a6, ha6, h⟩ := x_b h
    obtain ⟨p7, hp7, h⟩ := x_b h
    refine lk_callV0 d_Wr_writePiece_18 (x_obm ha6 rfl) (c_Wr_peek hp7) (by omega) rfl M_Wr_peek lm_Wr_38 in_Wr_peek se_Wr_peek (by decide) rfl (Nat.le_of_ble_eq_true rfl) ?_
    refine lk_istore_n d_Wr_writePiece_21 (by decide) rfl ?_
    refine lk_iload_n d_Wr_writePiece_22 rfl ?_
    refine lk_bipush (v := 63) d_Wr_writePiece_23 rfl ?_
    obtain ⟨t35, hj, h⟩ := x_b h
    refine Lk.joinS 86 [] [] rfl 2 [] t35 ?_ ?_
    · replace h := hj
      refine lk_icmp_eq (tgt := 40) d_Wr_writePiece_25 (by decide) (fun hc => ?_) (fun hc => ?_)
      · replace h := x_ifp hc h
        refine lk_aload_n d_Wr_writePiece_40 rfl ?_
        refine lk_dup d_Wr_writePiece_41 rfl ?_
        obtain ⟨a8, ha8, h⟩ := x_b h
        refine lk_getI (k := 2) d_Wr_writePiece_42 ha8 (by decide) rfl (by decide) lf_Wr_23 rfl ?_
        refine lk_iconst (v := 1) d_Wr_writePiece_45 rfl ?_
        refine lk_iadd d_Wr_writePiece_46 ?_
        replace h := x_nm h
        refine lk_putI (k := 2) d_Wr_writePiece_47 ha8 (by decide) rfl (by decide) lf_Wr_23 rfl rfl ?_
        refine lk_aload_n d_Wr_writePiece_50 rfl ?_
        obtain ⟨p10, hp10, h⟩ := x_b h
        refine lk_callV0 d_Wr_writePiece_51 (x_obm ha8 rfl) (c_Wr_peek hp10) (by omega) rfl M_Wr_peek lm_Wr_38 in_Wr_peek se_Wr_peek (by decide) rfl (Nat.le_of_ble_eq_true rfl) ?_
        refine lk_bipush (v := 63) d_Wr_writePiece_54 rfl ?_
        obtain ⟨t11, hj, h⟩ := x_b h
        refine Lk.joinA 64 [0, 1, 2] [] rfl 2 [vI t11] ?_ ?_
        · replace h := hj
          refine lk_icmp_ne (tgt := 63) d_Wr_writePiece_56 (by decide) (fun hc => ?_) (fun hc => ?_)
          · replace h := x_ifn hc h
            refine lk_iconst (v := 0) d_Wr_writePiece_63 rfl ?_
            cases h
            refine Lk.sel [0, 1, 2] rfl ?_
            exact Lk.stop ⟨rfl, rfl, rfl, rfl, rfl, rfl⟩
          · replace h := x_ifp hc h
            refine lk_iconst (v := 1) d_Wr_writePiece_59 rfl ?_
            refine lk_goto (tgt := 64) d_Wr_writePiece_60 (by decide) ?_
            cases h
            refine Lk.sel [0, 1, 2] rfl ?_
            exact Lk.stop ⟨rfl, rfl, rfl, rfl, rfl, rfl⟩
        · clear hj
          refine lk_istore_n d_Wr_writePiece_64 (by decide) rfl ?_
          refine lk_iload_n d_Wr_writePiece_65 rfl ?_
          obtain ⟨t14, hj, h⟩ := x_b h
          refine Lk.joinS 79 [0, 1, 2, 3] [] rfl 1 [] t14 ?_ ?_
          · replace h := hj
            refine lk_if_eq (tgt := 79) d_Wr_writePiece_66 (by decide) (fun hc => ?_) (fun hc => ?_)
            · replace h := x_ifp hc h
              cases h
              refine Lk.sel [0, 1, 2, 3] rfl ?_
              exact Lk.stop ⟨rfl, rfl, rfl, rfl, rfl, rfl⟩
            · replace h := x_ifn hc h
              refine lk_aload_n d_Wr_writePiece_69 rfl ?_
              refine lk_dup d_Wr_writePiece_70 rfl ?_
              obtain ⟨a12, ha12, h⟩ := x_b h
              refine lk_getI (k := 2) d_Wr_writePiece_71 ha12 (by decide) rfl (by decide) lf_Wr_23 rfl ?_
              refine lk_iconst (v := 1) d_Wr_writePiece_74 rfl ?_
              refine lk_iadd d_Wr_writePiece_75 ?_
              replace h := x_nm h
              refine lk_putI (k := 2) d_Wr_writePiece_76 ha12 (by decide) rfl (by decide) lf_Wr_23 rfl rfl ?_
              cases h
              refine Lk.sel [0, 1, 2, 3] rfl ?_
              exact Lk.stop ⟨rfl, rfl, rfl, rfl, rfl, rfl⟩
          · clear hj
            refine lk_aload_n d_Wr_writePiece_79 rfl ?_
            refine lk_iload_n d_Wr_writePiece_80 rfl ?_
            refine lk_iload_n d_Wr_writePiece_81 rfl ?_
            refine lk_iload_n d_Wr_writePiece_82 rfl ?_
            obtain ⟨a15, ha15, h⟩ := x_b h
            obtain ⟨p16, hp16, h⟩ := x_b h
            refine lk_callV0 d_Wr_writePiece_83 (x_obm ha15 rfl) (c_Wr_writeSign hp16) (by omega) rfl M_Wr_writeSign lm_Wr_72 in_Wr_writeSign se_Wr_writeSign (by decide) rfl (Nat.le_of_ble_eq_true rfl) ?_
            cases h
            refine Lk.sel [] rfl ?_
            exact Lk.stop ⟨rfl, rfl, rfl, rfl, rfl, rfl⟩
      · replace h := x_ifn hc h
        refine lk_iload_n d_Wr_writePiece_28 rfl ?_
        refine lk_bipush (v := 42) d_Wr_writePiece_29 rfl ?_
        refine lk_icmp_eq (tgt := 40) d_Wr_writePiece_31 (by decide) (fun hc => ?_) (fun hc => ?_)
        · replace h := x_ifp hc h
          refine lk_aload_n d_Wr_writePiece_40 rfl ?_
          refine lk_dup d_Wr_writePiece_41 rfl ?_
          obtain ⟨a17, ha17, h⟩ := x_b h
          refine lk_getI (k := 2) d_Wr_writePiece_42 ha17 (by decide) rfl (by decide) lf_Wr_23 rfl ?_
          refine lk_iconst (v := 1) d_Wr_writePiece_45 rfl ?_
          refine lk_iadd d_Wr_writePiece_46 ?_
          replace h := x_nm h
          refine lk_putI (k := 2) d_Wr_writePiece_47 ha17 (by decide) rfl (by decide) lf_Wr_23 rfl rfl ?_
          refine lk_aload_n d_Wr_writePiece_50 rfl ?_
          obtain ⟨p19, hp19, h⟩ := x_b h
          refine lk_callV0 d_Wr_writePiece_51 (x_obm ha17 rfl) (c_Wr_peek hp19) (by omega) rfl M_Wr_peek lm_Wr_38 in_Wr_peek se_Wr_peek (by decide) rfl (Nat.le_of_ble_eq_true rfl) ?_
          refine lk_bipush (v := 63) d_Wr_writePiece_54 rfl ?_
          obtain ⟨t20, hj, h⟩ := x_b h
          refine Lk.joinA 64 [0, 1, 2] [] rfl 2 [vI t20] ?_ ?_
          · replace h := hj
            refine lk_icmp_ne (tgt := 63) d_Wr_writePiece_56 (by decide) (fun hc => ?_) (fun hc => ?_)
            · replace h := x_ifn hc h
              refine lk_iconst (v := 0) d_Wr_writePiece_63 rfl ?_
              cases h
              refine Lk.sel [0, 1, 2] rfl ?_
              exact Lk.stop ⟨rfl, rfl, rfl, rfl, rfl, rfl⟩
            · replace h := x_ifp hc h
              refine lk_iconst (v := 1) d_Wr_writePiece_59 rfl ?_
              refine lk_goto (tgt := 64) d_Wr_writePiece_60 (by decide) ?_
              cases h
              refine Lk.sel [0, 1, 2] rfl ?_
              exact Lk.stop ⟨rfl, rfl, rfl, rfl, rfl, rfl⟩
          · clear hj
            refine lk_istore_n d_Wr_writePiece_64 (by decide) rfl ?_
            refine lk_iload_n d_Wr_writePiece_65 rfl ?_
            obtain ⟨t23, hj, h⟩ := x_b h
            refine Lk.joinS 79 [0, 1, 2, 3] [] rfl 1 [] t23 ?_ ?_
            · replace h := hj
              refine lk_if_eq (tgt := 79) d_Wr_writePiece_66 (by decide) (fun hc => ?_) (fun hc => ?_)
              · replace h := x_ifp hc h
                cases h
                refine Lk.sel [0, 1, 2, 3] rfl ?_
                exact Lk.stop ⟨rfl, rfl, rfl, rfl, rfl, rfl⟩
              · replace h := x_ifn hc h
                refine lk_aload_n d_Wr_writePiece_69 rfl ?_
                refine lk_dup d_Wr_writePiece_70 rfl ?_
                obtain ⟨a21, ha21, h⟩ := x_b h
                refine lk_getI (k := 2) d_Wr_writePiece_71 ha21 (by decide) rfl (by decide) lf_Wr_23 rfl ?_
                refine lk_iconst (v := 1) d_Wr_writePiece_74 rfl ?_
                refine lk_iadd d_Wr_writePiece_75 ?_
                replace h := x_nm h
                refine lk_putI (k := 2) d_Wr_writePiece_76 ha21 (by decide) rfl (by decide) lf_Wr_23 rfl rfl ?_
                cases h
                refine Lk.sel [0, 1, 2, 3] rfl ?_
                exact Lk.stop ⟨rfl, rfl, rfl, rfl, rfl, rfl⟩
            · clear hj
              refine lk_aload_n d_Wr_writePiece_79 rfl ?_
              refine lk_iload_n d_Wr_writePiece_80 rfl ?_
              refine lk_iload_n d_Wr_writePiece_81 rfl ?_
              refine lk_iload_n d_Wr_writePiece_82 rfl ?_
              obtain ⟨a24, ha24, h⟩ := x_b h
              obtain ⟨p25, hp25, h⟩ := x_b h
              refine lk_callV0 d_Wr_writePiece_83 (x_obm ha24 rfl) (c_Wr_writeSign hp25) (by omega) rfl M_Wr_writeSign lm_Wr_72 in_Wr_writeSign se_Wr_writeSign (by decide) rfl (Nat.le_of_ble_eq_true rfl) ?_
              cases h
              refine Lk.sel [] rfl ?_
              exact Lk.stop ⟨rfl, rfl, rfl, rfl, rfl, rfl⟩
        · replace h := x_ifn hc h
          refine lk_iload_n d_Wr_writePiece_34 rfl ?_
          refine lk_bipush (v := 43) d_Wr_writePiece_35 rfl ?_
          refine lk_icmp_ne (tgt := 86) d_Wr_writePiece_37 (by decide) (fun hc => ?_) (fun hc => ?_)
          · replace h := x_ifn hc h
            cases h
            refine Lk.sel [] rfl ?_
            exact Lk.stop ⟨rfl, rfl, rfl, rfl, rfl, rfl⟩
          · replace h := x_ifp hc h
            refine lk_aload_n d_Wr_writePiece_40 rfl ?_
            refine lk_dup d_Wr_writePiece_41 rfl ?_
            obtain ⟨a26, ha26, h⟩ := x_b h
            refine lk_getI (k := 2) d_Wr_writePiece_42 ha26 (by decide) rfl (by decide) lf_Wr_23 rfl ?_
            refine lk_iconst (v := 1) d_Wr_writePiece_45 rfl ?_
            refine lk_iadd d_Wr_writePiece_46 ?_
            replace h := x_nm h
            refine lk_putI (k := 2) d_Wr_writePiece_47 ha26 (by decide) rfl (by decide) lf_Wr_23 rfl rfl ?_
            refine lk_aload_n d_Wr_writePiece_50 rfl ?_
            obtain ⟨p28, hp28, h⟩ := x_b h
            refine lk_callV0 d_Wr_writePiece_51 (x_obm ha26 rfl) (c_Wr_peek hp28) (by omega) rfl M_Wr_peek lm_Wr_38 in_Wr_peek se_Wr_peek (by decide) rfl (Nat.le_of_ble_eq_true rfl) ?_
            refine lk_bipush (v := 63) d_Wr_writePiece_54 rfl ?_
            obtain ⟨t29, hj, h⟩ := x_b h
            refine Lk.joinA 64 [0, 1, 2] [] rfl 2 [vI t29] ?_ ?_
            · replace h := hj
              refine lk_icmp_ne (tgt := 63) d_Wr_writePiece_56 (by decide) (fun hc => ?_) (fun hc => ?_)
              · replace h := x_ifn hc h
                refine lk_iconst (v := 0) d_Wr_writePiece_63 rfl ?_
                cases h
                refine Lk.sel [0, 1, 2] rfl ?_
                exact Lk.stop ⟨rfl, rfl, rfl, rfl, rfl, rfl⟩
              · replace h := x_ifp hc h
                refine lk_iconst (v := 1) d_Wr_writePiece_59 rfl ?_
                refine lk_goto (tgt := 64) d_Wr_writePiece_60 (by decide) ?_
                cases h
                refine Lk.sel [0, 1, 2] rfl ?_
                exact Lk.stop ⟨rfl, rfl, rfl, rfl, rfl, rfl⟩
            · clear hj
              refine lk_istore_n d_Wr_writePiece_64 (by decide) rfl ?_
              refine lk_iload_n d_Wr_writePiece_65 rfl ?_
              obtain ⟨t32, hj, h⟩ := x_b h
              refine Lk.joinS 79 [0, 1, 2, 3] [] rfl 1 [] t32 ?_ ?_
              · replace h := hj
                refine lk_if_eq (tgt := 79) d_Wr_writePiece_66 (by decide) (fun hc => ?_) (fun hc => ?_)
                · replace h := x_ifp hc h
                  cases h
                  refine Lk.sel [0, 1, 2, 3] rfl ?_
                  exact Lk.stop ⟨rfl, rfl, rfl, rfl, rfl, rfl⟩
                · replace h := x_ifn hc h
                  refine lk_aload_n d_Wr_writePiece_69 rfl ?_
                  refine lk_dup d_Wr_writePiece_70 rfl ?_
                  obtain ⟨a30, ha30, h⟩ := x_b h
                  refine lk_getI (k := 2) d_Wr_writePiece_71 ha30 (by decide) rfl (by decide) lf_Wr_23 rfl ?_
                  refine lk_iconst (v := 1) d_Wr_writePiece_74 rfl ?_
                  refine lk_iadd d_Wr_writePiece_75 ?_
                  replace h := x_nm h
                  refine lk_putI (k := 2) d_Wr_writePiece_76 ha30 (by decide) rfl (by decide) lf_Wr_23 rfl rfl ?_
                  cases h
                  refine Lk.sel [0, 1, 2, 3] rfl ?_
                  exact Lk.stop ⟨rfl, rfl, rfl, rfl, rfl, rfl⟩
              · clear hj
                refine lk_aload_n d_Wr_writePiece_79 rfl ?_
                refine lk_iload_n d_Wr_writePiece_80 rfl ?_
                refine lk_iload_n d_Wr_writePiece_81 rfl ?_
                refine lk_iload_n d_Wr_writePiece_82 rfl ?_
                obtain ⟨a33, ha33, h⟩ := x_b h
                obtain ⟨p34, hp34, h⟩ := x_b h
                refine lk_callV0 d_Wr_writePiece_83 (x_obm ha33 rfl) (c_Wr_writeSign hp34) (by omega) rfl M_Wr_writeSign lm_Wr_72 in_Wr_writeSign se_Wr_writeSign (by decide) rfl (Nat.le_of_ble_eq_true rfl) ?_
                cases h
                refine Lk.sel [] rfl ?_
                exact Lk.stop ⟨rfl, rfl, rfl, rfl, rfl, rfl⟩
    · clear hj
      refine lk_iconst (v := 1) d_Wr_writePiece_86 rfl ?_
      cases h
      exact Lk.stop ⟨rfl, Or.inr (Or.inl ⟨_, _, d_Wr_writePiece_87, rfl, rfl, rfl, rfl⟩)⟩
  · replace h := x_ifp hc h
    refine lk_iconst (v := 0) d_Wr_writePiece_15 rfl ?_
    cases h
    exact Lk.stop ⟨rfl, Or.inr (Or.inl ⟨_, _, d_Wr_writePiece_16, rfl, rfl, rfl, rfl⟩)⟩
def L_Wr_writeSequence_2 (rc : Nat → hv_S → Option (Int32 × hv_S)) : Nat → Option Nat → Int32 → hv_S → Option ((hv_S) ⊕ (Int32 × hv_S))
  | 0, _, _, _ => none
  | n + 1, x0, x1, s =>
    if 24 ≤ x1 then
      some (.inl s)
    else
      (x_ob s 1 x0).bind fun a1 =>
      (f_Wr_peek a1 s).bind fun p2 =>
      if p2.1 = ((-1)) then
        some (.inl p2.2)
      else
        if p2.1 = 124 then
          some (.inl p2.2)
        else
          if p2.1 = 41 then
            some (.inl p2.2)
          else
            (x_ob p2.2 1 x0).bind fun a3 =>
            (f_Wr_writePiece rc a3 p2.2).bind fun p4 =>
            if p4.1 = 0 then
              some (.inr ((0, p4.2)))
            else
              L_Wr_writeSequence_2 rc n x0 (x1 + 1) p4.2
set_option maxRecDepth 4000 in
set_option maxHeartbeats 2000000 in
theorem l_Wr_writeSequence_2 {G : lt_G} {D : Nat} (hD : 9 ≤ D) {rc : Nat → hv_S → Option (Int32 × hv_S)} (hrc : ∀ (z : Nat) (s : hv_S) (p : Int32 × hv_S), rc z s = some p → Ck G m_Wr_writeChoice D 0 0 [vR (some z)] s (some (vI p.1)) p.2) : ∀ (n : Nat) (x0 : Option Nat) (x1 : Int32) (s : hv_S) (e0 : (hv_S) ⊕ (Int32 × hv_S)), L_Wr_writeSequence_2 rc n x0 x1 s = some e0 → Lk G m_Wr_writeSequence (D + 4) 2 [(0, vR x0), (1, vI x1)] [] s 0 0 (fun a b c d e f => match e0 with | .inl t => lk_at 48 [] [] t 0 0 a b c d e f | .inr w => lk_end m_Wr_writeSequence (some (vI w.1)) w.2 a b c d e f) := by
  intro n
  induction n with
  | zero => intro x0 x1 s e0 h; cases h
  | succ n ih =>
    intro x0 x1 s e0 h
    unfold L_Wr_writeSequence_2 at h
    refine lk_iload_n d_Wr_writeSequence_2 rfl ?_
    refine lk_bipush (v := 24) d_Wr_writeSequence_3 rfl ?_
    refine lk_icmp_ge (tgt := 48) d_Wr_writeSequence_5 (by decide) (fun hc => ?_) (fun hc => ?_)
    · replace h := x_ifp hc h
      cases h
      refine Lk.sel [] rfl ?_
      exact Lk.stop ⟨rfl, rfl, rfl, rfl, rfl, rfl⟩
    · replace h := x_ifn hc h
      refine lk_aload_n d_Wr_writeSequence_8 rfl ?_
      obtain ⟨a1, ha1, h⟩ := x_b h
      obtain ⟨p2, hp2, h⟩ := x_b h
      refine lk_callV0 d_Wr_writeSequence_9 (x_obm ha1 rfl) (c_Wr_peek hp2) (by omega) rfl M_Wr_peek lm_Wr_38 in_Wr_peek se_Wr_peek (by decide) rfl (Nat.le_of_ble_eq_true rfl) ?_
      refine lk_istore_n d_Wr_writeSequence_12 (by decide) rfl ?_
      refine lk_iload_n d_Wr_writeSequence_13 rfl ?_
      refine lk_iconst (v := (-1)) d_Wr_writeSequence_14 rfl ?_
      refine lk_icmp_eq (tgt := 48) d_Wr_writeSequence_15 (by decide) (fun hc => ?_) (fun hc => ?_)
      · replace h := x_ifp hc h
        cases h
        refine Lk.sel [] rfl ?_
        exact Lk.stop ⟨rfl, rfl, rfl, rfl, rfl, rfl⟩
      · replace h := x_ifn hc h
        refine lk_iload_n d_Wr_writeSequence_18 rfl ?_
        refine lk_bipush (v := 124) d_Wr_writeSequence_19 rfl ?_
        refine lk_icmp_eq (tgt := 48) d_Wr_writeSequence_21 (by decide) (fun hc => ?_) (fun hc => ?_)
        · replace h := x_ifp hc h
          cases h
          refine Lk.sel [] rfl ?_
          exact Lk.stop ⟨rfl, rfl, rfl, rfl, rfl, rfl⟩
        · replace h := x_ifn hc h
          refine lk_iload_n d_Wr_writeSequence_24 rfl ?_
          refine lk_bipush (v := 41) d_Wr_writeSequence_25 rfl ?_
          refine lk_icmp_ne (tgt := 33) d_Wr_writeSequence_27 (by decide) (fun hc => ?_) (fun hc => ?_)
          · replace h := x_ifn hc h
            refine lk_aload_n d_Wr_writeSequence_33 rfl ?_
            obtain ⟨a3, ha3, h⟩ := x_b h
            obtain ⟨p4, hp4, h⟩ := x_b h
            refine lk_callV0 d_Wr_writeSequence_34 (x_obm ha3 rfl) (c_Wr_writePiece hD hrc hp4) (by omega) rfl M_Wr_writePiece lm_Wr_66 in_Wr_writePiece se_Wr_writePiece (by decide) rfl (Nat.le_of_ble_eq_true rfl) ?_
            refine lk_if_ne (tgt := 42) d_Wr_writeSequence_37 (by decide) (fun hc => ?_) (fun hc => ?_)
            · replace h := x_ifn hc h
              refine lk_iinc (v := _ + 1) d_Wr_writeSequence_42 rfl rfl (by decide) rfl ?_
              refine lk_goto (tgt := 2) d_Wr_writeSequence_45 (by decide) ?_
              refine Lk.sel [0, 1] rfl ?_
              exact ih _ _ _ _ h
            · replace h := x_ifp hc h
              refine lk_iconst (v := 0) d_Wr_writeSequence_40 rfl ?_
              cases h
              exact Lk.stop ⟨rfl, Or.inr (Or.inl ⟨_, _, d_Wr_writeSequence_41, rfl, rfl, rfl, rfl⟩)⟩
          · replace h := x_ifp hc h
            refine lk_goto (tgt := 48) d_Wr_writeSequence_30 (by decide) ?_
            cases h
            refine Lk.sel [] rfl ?_
            exact Lk.stop ⟨rfl, rfl, rfl, rfl, rfl, rfl⟩
def f_Wr_writeSequence (rc : Nat → hv_S → Option (Int32 × hv_S)) (z0 : Nat) (s : hv_S) : Option (Int32 × hv_S) :=
  (L_Wr_writeSequence_2 rc 100000 ((some z0)) 0 s).bind fun e5r => e5r.elim (fun e5 =>
    some ((1, e5))
  ) (fun w => some w)
set_option maxRecDepth 4000 in
set_option maxHeartbeats 2000000 in
theorem c_Wr_writeSequence {G : lt_G} {D : Nat} (hD : 9 ≤ D) {rc : Nat → hv_S → Option (Int32 × hv_S)} (hrc : ∀ (z : Nat) (s : hv_S) (p : Int32 × hv_S), rc z s = some p → Ck G m_Wr_writeChoice D 0 0 [vR (some z)] s (some (vI p.1)) p.2) {z0 : Nat} {s : hv_S} {p : Int32 × hv_S} (h : f_Wr_writeSequence rc z0 s = some p) : Ck G m_Wr_writeSequence (D + 4) 0 0 [vR (some z0)] s (some (vI p.1)) p.2 := by
  refine Ck.of (by decide) (Nat.le_of_ble_eq_true rfl) ?_
  unfold f_Wr_writeSequence at h
  refine lk_iconst (v := 0) d_Wr_writeSequence_0 rfl ?_
  refine lk_istore_n d_Wr_writeSequence_1 (by decide) rfl ?_
  obtain ⟨e5r, hl, h⟩ := x_b h
  refine Lk.sel [0, 1] rfl ?_
  refine Lk.trans (l_Wr_writeSequence_2 hD hrc _ _ _ _ _ hl) ?_
  intro pc' lo' st' s' mc' ms' hx
  cases e5r with
  | inl e5 =>
    obtain ⟨rfl, rfl, rfl, rfl, rfl, rfl⟩ := hx
    refine lk_iconst (v := 1) d_Wr_writeSequence_48 rfl ?_
    cases h
    exact Lk.stop ⟨rfl, Or.inr (Or.inl ⟨_, _, d_Wr_writeSequence_49, rfl, rfl, rfl, rfl⟩)⟩
  | inr w =>
    cases h
    exact Lk.stop hx
def L_Wr_writeChoice_18 (rc : Nat → hv_S → Option (Int32 × hv_S)) : Nat → Option Nat → Int32 → Int32 → Int32 → Int32 → hv_S → Option (Int32 × hv_S)
  | 0, _, _, _, _, _, _ => none
  | n + 1, x0, x1, x2, x3, x4, s =>
    if 24 ≤ x4 then
      some (x3, s)
    else
      if x3 = 0 then
        some (x3, s)
      else
        (x_ob s 1 x0).bind fun a6 =>
        (f_Wr_peek a6 s).bind fun p7 =>
        if p7.1 = 124 then
          (x_ob p7.2 1 x0).bind fun a8 =>
          (some (hv_setI p7.2 a8 2 ((hv_I p7.2 a8 2) + (1 : Int32)))).bind fun s9 =>
          (x_ob s9 8 (hv_R s9 a8 4)).bind fun a10 =>
          (f_Pr_insertSplit a10 x2 s9).bind fun p11 =>
          (x_ob p11 1 x0).bind fun a12 =>
          (x_ob p11 8 (hv_R p11 a12 4)).bind fun a13 =>
          (f_Pr_addOpenGo a13 p11).bind fun p14 =>
          (x_ob p14 1 x0).bind fun a15 =>
          (x_ob p14 8 (hv_R p14 a15 4)).bind fun a16 =>
          (f_Pr_size a16 p14).bind fun p17 =>
          (x_ob p17.2 8 (hv_R p14 a15 4)).bind fun a18 =>
          (f_Pr_aimSplit a18 x2 (x2 + (1 : Int32)) p17.1 p17.2).bind fun p19 =>
          (x_ob p19 1 x0).bind fun a20 =>
          (x_ob p19 8 (hv_R p19 a20 4)).bind fun a21 =>
          (f_Pr_size a21 p19).bind fun p22 =>
          (x_ob p22.2 1 x0).bind fun a23 =>
          (f_Wr_writeSequence rc a23 p22.2).bind fun p24 =>
          L_Wr_writeChoice_18 rc n x0 x1 p22.1 p24.1 (x4 + 1) p24.2
        else
          some (x3, p7.2)
set_option maxRecDepth 4000 in
set_option maxHeartbeats 2000000 in
theorem l_Wr_writeChoice_18 {G : lt_G} {D : Nat} (hD : 9 ≤ D) {rc : Nat → hv_S → Option (Int32 × hv_S)} (hrc : ∀ (z : Nat) (s : hv_S) (p : Int32 × hv_S), rc z s = some p → Ck G m_Wr_writeChoice D 0 0 [vR (some z)] s (some (vI p.1)) p.2) : ∀ (n : Nat) (x0 : Option Nat) (x1 : Int32) (x2 : Int32) (x3 : Int32) (x4 : Int32) (s : hv_S) (e0 : Int32 × hv_S), L_Wr_writeChoice_18 rc n x0 x1 x2 x3 x4 s = some e0 → Lk G m_Wr_writeChoice (D + 5) 18 [(0, vR x0), (1, vI x1), (2, vI x2), (3, vI x3), (4, vI x4)] [] s 0 0 (lk_at 100 [(0, vR x0), (1, vI x1), (3, vI e0.1)] [] e0.2 0 0) := by
  intro n
  induction n with
  | zero => intro x0 x1 x2 x3 x4 s e0 h; cases h
  | succ n ih =>
    intro x0 x1 x2 x3 x4 s e0 h
    unfold L_Wr_writeChoice_18 at h
    refine lk_iload d_Wr_writeChoice_18 rfl ?_
    refine lk_bipush (v := 24) d_Wr_writeChoice_20 rfl ?_
    refine lk_icmp_ge (tgt := 100) d_Wr_writeChoice_22 (by decide) (fun hc => ?_) (fun hc => ?_)
    · replace h := x_ifp hc h
      cases h
      refine Lk.sel [0, 1, 3] rfl ?_
      exact Lk.stop ⟨rfl, rfl, rfl, rfl, rfl, rfl⟩
    · replace h := x_ifn hc h
      refine lk_iload_n d_Wr_writeChoice_25 rfl ?_
      refine lk_if_eq (tgt := 100) d_Wr_writeChoice_26 (by decide) (fun hc => ?_) (fun hc => ?_)
      · replace h := x_ifp hc h
        cases h
        refine Lk.sel [0, 1, 3] rfl ?_
        exact Lk.stop ⟨rfl, rfl, rfl, rfl, rfl, rfl⟩
      · replace h := x_ifn hc h
        refine lk_aload_n d_Wr_writeChoice_29 rfl ?_
        obtain ⟨a6, ha6, h⟩ := x_b h
        obtain ⟨p7, hp7, h⟩ := x_b h
        refine lk_callV0 d_Wr_writeChoice_30 (x_obm ha6 rfl) (c_Wr_peek hp7) (by omega) rfl M_Wr_peek lm_Wr_38 in_Wr_peek se_Wr_peek (by decide) rfl (Nat.le_of_ble_eq_true rfl) ?_
        refine lk_bipush (v := 124) d_Wr_writeChoice_33 rfl ?_
        refine lk_icmp_ne (tgt := 100) d_Wr_writeChoice_35 (by decide) (fun hc => ?_) (fun hc => ?_)
        · replace h := x_ifn hc h
          cases h
          refine Lk.sel [0, 1, 3] rfl ?_
          exact Lk.stop ⟨rfl, rfl, rfl, rfl, rfl, rfl⟩
        · replace h := x_ifp hc h
          refine lk_aload_n d_Wr_writeChoice_38 rfl ?_
          refine lk_dup d_Wr_writeChoice_39 rfl ?_
          obtain ⟨a8, ha8, h⟩ := x_b h
          refine lk_getI (k := 2) d_Wr_writeChoice_40 ha8 (by decide) rfl (by decide) lf_Wr_23 rfl ?_
          refine lk_iconst (v := 1) d_Wr_writeChoice_43 rfl ?_
          refine lk_iadd d_Wr_writeChoice_44 ?_
          replace h := x_nm h
          refine lk_putI (k := 2) d_Wr_writeChoice_45 ha8 (by decide) rfl (by decide) lf_Wr_23 rfl rfl ?_
          refine lk_aload_n d_Wr_writeChoice_48 rfl ?_
          refine lk_getR (k := 4) d_Wr_writeChoice_49 ha8 (by decide) rfl (by decide) lf_Wr_19 rfl ?_
          refine lk_iload_n d_Wr_writeChoice_52 rfl ?_
          obtain ⟨a10, ha10, h⟩ := x_b h
          obtain ⟨p11, hp11, h⟩ := x_b h
          refine lk_callV0 d_Wr_writeChoice_53 (x_obm ha10 rfl) (c_Pr_insertSplit hp11) (by omega) rfl M_Pr_insertSplit lm_Wr_52 in_Pr_insertSplit se_Pr_insertSplit (by decide) rfl (Nat.le_of_ble_eq_true rfl) ?_
          refine lk_aload_n d_Wr_writeChoice_56 rfl ?_
          obtain ⟨a12, ha12, h⟩ := x_b h
          refine lk_getR (k := 4) d_Wr_writeChoice_57 ha12 (by decide) rfl (by decide) lf_Wr_19 rfl ?_
          obtain ⟨a13, ha13, h⟩ := x_b h
          obtain ⟨p14, hp14, h⟩ := x_b h
          refine lk_callV0 d_Wr_writeChoice_60 (x_obm ha13 rfl) (c_Pr_addOpenGo hp14) (by omega) rfl M_Pr_addOpenGo lm_Wr_56 in_Pr_addOpenGo se_Pr_addOpenGo (by decide) rfl (Nat.le_of_ble_eq_true rfl) ?_
          refine lk_aload_n d_Wr_writeChoice_63 rfl ?_
          obtain ⟨a15, ha15, h⟩ := x_b h
          refine lk_getR (k := 4) d_Wr_writeChoice_64 ha15 (by decide) rfl (by decide) lf_Wr_19 rfl ?_
          refine lk_iload_n d_Wr_writeChoice_67 rfl ?_
          refine lk_iload_n d_Wr_writeChoice_68 rfl ?_
          refine lk_iconst (v := 1) d_Wr_writeChoice_69 rfl ?_
          refine lk_iadd d_Wr_writeChoice_70 ?_
          refine lk_aload_n d_Wr_writeChoice_71 rfl ?_
          refine lk_getR (k := 4) d_Wr_writeChoice_72 ha15 (by decide) rfl (by decide) lf_Wr_19 rfl ?_
          obtain ⟨a16, ha16, h⟩ := x_b h
          obtain ⟨p17, hp17, h⟩ := x_b h
          refine lk_callV0 d_Wr_writeChoice_75 (x_obm ha16 rfl) (c_Pr_size hp17) (by omega) rfl M_Pr_size lm_Wr_46 in_Pr_size se_Pr_size (by decide) rfl (Nat.le_of_ble_eq_true rfl) ?_
          obtain ⟨a18, ha18, h⟩ := x_b h
          obtain ⟨p19, hp19, h⟩ := x_b h
          refine lk_callV0 d_Wr_writeChoice_78 (x_obm ha18 rfl) (c_Pr_aimSplit hp19) (by omega) rfl M_Pr_aimSplit lm_Wr_59 in_Pr_aimSplit se_Pr_aimSplit (by decide) rfl (Nat.le_of_ble_eq_true rfl) ?_
          refine lk_aload_n d_Wr_writeChoice_81 rfl ?_
          obtain ⟨a20, ha20, h⟩ := x_b h
          refine lk_getR (k := 4) d_Wr_writeChoice_82 ha20 (by decide) rfl (by decide) lf_Wr_19 rfl ?_
          obtain ⟨a21, ha21, h⟩ := x_b h
          obtain ⟨p22, hp22, h⟩ := x_b h
          refine lk_callV0 d_Wr_writeChoice_85 (x_obm ha21 rfl) (c_Pr_size hp22) (by omega) rfl M_Pr_size lm_Wr_46 in_Pr_size se_Pr_size (by decide) rfl (Nat.le_of_ble_eq_true rfl) ?_
          refine lk_istore_n d_Wr_writeChoice_88 (by decide) rfl ?_
          refine lk_aload_n d_Wr_writeChoice_89 rfl ?_
          obtain ⟨a23, ha23, h⟩ := x_b h
          obtain ⟨p24, hp24, h⟩ := x_b h
          refine lk_callV0 d_Wr_writeChoice_90 (x_obm ha23 rfl) (c_Wr_writeSequence hD hrc hp24) (by omega) rfl M_Wr_writeSequence lm_Wr_49 in_Wr_writeSequence se_Wr_writeSequence (by decide) rfl (Nat.le_of_ble_eq_true rfl) ?_
          refine lk_istore_n d_Wr_writeChoice_93 (by decide) rfl ?_
          refine lk_iinc (v := _ + 1) d_Wr_writeChoice_94 rfl rfl (by decide) rfl ?_
          refine lk_goto (tgt := 18) d_Wr_writeChoice_97 (by decide) ?_
          refine Lk.sel [0, 1, 2, 3, 4] rfl ?_
          exact ih _ _ _ _ _ _ _ h
def f_Wr_writeChoiceB (rc : Nat → hv_S → Option (Int32 × hv_S)) (z0 : Nat) (s : hv_S) : Option (Int32 × hv_S) :=
  (x_ob s 1 ((some z0))).bind fun a1 =>
  (x_ob s 8 (hv_R s a1 4)).bind fun a2 =>
  (f_Pr_size a2 s).bind fun p3 =>
  (x_ob p3.2 1 ((some z0))).bind fun a4 =>
  (f_Wr_writeSequence rc a4 p3.2).bind fun p5 =>
  (L_Wr_writeChoice_18 rc 100000 ((some z0)) p3.1 p3.1 p5.1 0 p5.2).bind fun e25 =>
  (x_ob e25.2 1 ((some z0))).bind fun a26 =>
  (x_ob e25.2 8 (hv_R e25.2 a26 4)).bind fun a27 =>
  (f_Pr_closeChoice a27 p3.1 e25.2).bind fun p28 =>
  (x_z e25.1).bind fun z29 =>
  some ((z29, p28))
set_option maxRecDepth 4000 in
set_option maxHeartbeats 2000000 in
theorem c_Wr_writeChoiceB {G : lt_G} {D : Nat} (hD : 9 ≤ D) {rc : Nat → hv_S → Option (Int32 × hv_S)} (hrc : ∀ (z : Nat) (s : hv_S) (p : Int32 × hv_S), rc z s = some p → Ck G m_Wr_writeChoice D 0 0 [vR (some z)] s (some (vI p.1)) p.2) {z0 : Nat} {s : hv_S} {p : Int32 × hv_S} (h : f_Wr_writeChoiceB rc z0 s = some p) : Ck G m_Wr_writeChoice (D + 5) 0 0 [vR (some z0)] s (some (vI p.1)) p.2 := by
  refine Ck.of (by decide) (Nat.le_of_ble_eq_true rfl) ?_
  unfold f_Wr_writeChoiceB at h
  refine lk_aload_n d_Wr_writeChoice_0 rfl ?_
  obtain ⟨a1, ha1, h⟩ := x_b h
  refine lk_getR (k := 4) d_Wr_writeChoice_1 ha1 (by decide) rfl (by decide) lf_Wr_19 rfl ?_
  obtain ⟨a2, ha2, h⟩ := x_b h
  obtain ⟨p3, hp3, h⟩ := x_b h
  refine lk_callV0 d_Wr_writeChoice_4 (x_obm ha2 rfl) (c_Pr_size hp3) (by omega) rfl M_Pr_size lm_Wr_46 in_Pr_size se_Pr_size (by decide) rfl (Nat.le_of_ble_eq_true rfl) ?_
  refine lk_istore_n d_Wr_writeChoice_7 (by decide) rfl ?_
  refine lk_iload_n d_Wr_writeChoice_8 rfl ?_
  refine lk_istore_n d_Wr_writeChoice_9 (by decide) rfl ?_
  refine lk_aload_n d_Wr_writeChoice_10 rfl ?_
  obtain ⟨a4, ha4, h⟩ := x_b h
  obtain ⟨p5, hp5, h⟩ := x_b h
  refine lk_callV0 d_Wr_writeChoice_11 (x_obm ha4 rfl) (c_Wr_writeSequence hD hrc hp5) (by omega) rfl M_Wr_writeSequence lm_Wr_49 in_Wr_writeSequence se_Wr_writeSequence (by decide) rfl (Nat.le_of_ble_eq_true rfl) ?_
  refine lk_istore_n d_Wr_writeChoice_14 (by decide) rfl ?_
  refine lk_iconst (v := 0) d_Wr_writeChoice_15 rfl ?_
  refine lk_istore d_Wr_writeChoice_16 (by decide) rfl ?_
  obtain ⟨e25, hl, h⟩ := x_b h
  refine Lk.sel [0, 1, 2, 3, 4] rfl ?_
  refine Lk.trans (l_Wr_writeChoice_18 hD hrc _ _ _ _ _ _ _ _ hl) ?_
  intro pc' lo' st' s' mc' ms' hx
  obtain ⟨rfl, rfl, rfl, rfl, rfl, rfl⟩ := hx
  refine lk_aload_n d_Wr_writeChoice_100 rfl ?_
  obtain ⟨a26, ha26, h⟩ := x_b h
  refine lk_getR (k := 4) d_Wr_writeChoice_101 ha26 (by decide) rfl (by decide) lf_Wr_19 rfl ?_
  refine lk_iload_n d_Wr_writeChoice_104 rfl ?_
  obtain ⟨a27, ha27, h⟩ := x_b h
  obtain ⟨p28, hp28, h⟩ := x_b h
  refine lk_callV0 d_Wr_writeChoice_105 (x_obm ha27 rfl) (c_Pr_closeChoice hp28) (by omega) rfl M_Pr_closeChoice lm_Wr_63 in_Pr_closeChoice se_Pr_closeChoice (by decide) rfl (Nat.le_of_ble_eq_true rfl) ?_
  refine lk_iload_n d_Wr_writeChoice_108 rfl ?_
  obtain ⟨z29, hz290, h⟩ := x_b h
  obtain ⟨rfl, hz29⟩ := x_z_some hz290
  cases h
  exact Lk.stop ⟨rfl, Or.inr (Or.inl ⟨_, _, d_Wr_writeChoice_109, rfl, x_zn hz29, rfl, rfl⟩)⟩
def f_Wr_writeChoice : Nat → Nat → hv_S → Option (Int32 × hv_S)
  | 0, _, _ => none
  | n + 1, z, s => f_Wr_writeChoiceB (f_Wr_writeChoice n) z s
theorem c_Wr_writeChoice {G : lt_G} : ∀ (n z : Nat) (s : hv_S) (p : Int32 × hv_S), f_Wr_writeChoice n z s = some p → Ck G m_Wr_writeChoice (5 * n + 9) 0 0 [vR (some z)] s (some (vI p.1)) p.2 := by
  intro n
  induction n with
  | zero => intro z s p h; cases h
  | succ n ih =>
    intro z s p h
    have h' := c_Wr_writeChoiceB (G := G) (D := 5 * n + 9) (by omega) ih h
    rw [show 5 * (n + 1) + 9 = 5 * n + 9 + 5 by omega]
    exact h'
def f_Wr_write (z0 : Nat) (r1 : Option Nat) (x2 : Int32) (r3 : Option Nat) (s : hv_S) : Option (Int32 × hv_S) :=
  if r1 = none then
    some ((0, s))
  else
    if r3 = none then
      some ((0, s))
    else
      (x_ob s 1 ((some z0))).bind fun a1 =>
      (some (hv_setR s a1 0 r1)).bind fun s2 =>
      (some (hv_setI s2 a1 1 x2)).bind fun s3 =>
      (some (hv_setR s3 a1 4 r3)).bind fun s4 =>
      (some (hv_setI s4 a1 2 0)).bind fun s5 =>
      (some (hv_setI s5 a1 3 0)).bind fun s6 =>
      (x_ob s6 8 (hv_R s6 a1 4)).bind fun a7 =>
      (f_Pr_empty a7 s6).bind fun p8 =>
      (x_ob p8 1 ((some z0))).bind fun a9 =>
      (f_Wr_writeChoice 5 a9 p8).bind fun p10 =>
      ((
        if p10.1 = 0 then
          some (0, p10.2)
        else
          (x_ob p10.2 1 ((some z0))).bind fun a11 =>
          (f_Wr_peek a11 p10.2).bind fun p12 =>
          if p12.1 = ((-1)) then
            some (1, p12.2)
          else
            some (0, p12.2)
      ) : Option (Int32 × hv_S)).bind fun t13 =>
      ((
        if t13.1 = 0 then
          some t13.2
        else
          (x_ob t13.2 1 ((some z0))).bind fun a14 =>
          (x_ob t13.2 8 (hv_R t13.2 a14 4)).bind fun a15 =>
          (f_Pr_add a15 7 0 t13.2).bind fun p16 =>
          some p16
      ) : Option (hv_S)).bind fun t17 =>
      (x_z t13.1).bind fun z18 =>
      some ((z18, t17))
set_option maxRecDepth 4000 in
set_option maxHeartbeats 2000000 in
theorem c_Wr_write {G : lt_G} {z0 : Nat} {r1 : Option Nat} {x2 : Int32} {r3 : Option Nat} {s : hv_S} {p : Int32 × hv_S} (h : f_Wr_write z0 r1 x2 r3 s = some p) : Ck G m_Wr_write 36 0 0 [vR (some z0), vR r1, vI x2, vR r3] s (some (vI p.1)) p.2 := by
  refine Ck.of (by decide) (Nat.le_of_ble_eq_true rfl) ?_
  unfold f_Wr_write at h
  refine lk_aload_n d_Wr_write_0 rfl ?_
  refine lk_ifnull (tgt := 8) d_Wr_write_1 (by decide) (fun hc => ?_) (fun hc => ?_)
  · replace h := x_ifp hc h
    refine lk_iconst (v := 0) d_Wr_write_8 rfl ?_
    cases h
    exact Lk.stop ⟨rfl, Or.inr (Or.inl ⟨_, _, d_Wr_write_9, rfl, rfl, rfl, rfl⟩)⟩
  · replace h := x_ifn hc h
    refine lk_aload_n d_Wr_write_4 rfl ?_
    refine lk_ifnonnull (tgt := 10) d_Wr_write_5 (by decide) (fun hc => ?_) (fun hc => ?_)
    · replace h := x_ifn hc h
      refine lk_aload_n d_Wr_write_10 rfl ?_
      refine lk_aload_n d_Wr_write_11 rfl ?_
      obtain ⟨a1, ha1, h⟩ := x_b h
      replace h := x_nm h
      refine lk_putR (k := 0) d_Wr_write_12 ha1 (by decide) rfl (by decide) lf_Wr_9 rfl rfl ?_
      refine lk_aload_n d_Wr_write_15 rfl ?_
      refine lk_iload_n d_Wr_write_16 rfl ?_
      replace h := x_nm h
      refine lk_putI (k := 1) d_Wr_write_17 ha1 (by decide) rfl (by decide) lf_Wr_15 rfl rfl ?_
      refine lk_aload_n d_Wr_write_20 rfl ?_
      refine lk_aload_n d_Wr_write_21 rfl ?_
      replace h := x_nm h
      refine lk_putR (k := 4) d_Wr_write_22 ha1 (by decide) rfl (by decide) lf_Wr_19 rfl rfl ?_
      refine lk_aload_n d_Wr_write_25 rfl ?_
      refine lk_iconst (v := 0) d_Wr_write_26 rfl ?_
      replace h := x_nm h
      refine lk_putI (k := 2) d_Wr_write_27 ha1 (by decide) rfl (by decide) lf_Wr_23 rfl rfl ?_
      refine lk_aload_n d_Wr_write_30 rfl ?_
      refine lk_iconst (v := 0) d_Wr_write_31 rfl ?_
      replace h := x_nm h
      refine lk_putI (k := 3) d_Wr_write_32 ha1 (by decide) rfl (by decide) lf_Wr_26 rfl rfl ?_
      refine lk_aload_n d_Wr_write_35 rfl ?_
      refine lk_getR (k := 4) d_Wr_write_36 ha1 (by decide) rfl (by decide) lf_Wr_19 rfl ?_
      obtain ⟨a7, ha7, h⟩ := x_b h
      obtain ⟨p8, hp8, h⟩ := x_b h
      refine lk_callV0 d_Wr_write_39 (x_obm ha7 rfl) (c_Pr_empty hp8) (Nat.le_of_ble_eq_true rfl) rfl M_Pr_empty lm_Wr_29 in_Pr_empty se_Pr_empty (by decide) rfl (Nat.le_of_ble_eq_true rfl) ?_
      refine lk_aload_n d_Wr_write_42 rfl ?_
      obtain ⟨a9, ha9, h⟩ := x_b h
      obtain ⟨p10, hp10, h⟩ := x_b h
      refine lk_callV0 d_Wr_write_43 (x_obm ha9 rfl) (c_Wr_writeChoice 5 _ _ _ hp10) (Nat.le_of_ble_eq_true rfl) rfl M_Wr_writeChoice lm_Wr_34 in_Wr_writeChoice se_Wr_writeChoice (by decide) rfl (Nat.le_of_ble_eq_true rfl) ?_
      obtain ⟨t13, hj, h⟩ := x_b h
      refine Lk.joinS 62 [0] [] rfl 1 [vI t13.1] t13.2 ?_ ?_
      · replace h := hj
        refine lk_if_eq (tgt := 61) d_Wr_write_46 (by decide) (fun hc => ?_) (fun hc => ?_)
        · replace h := x_ifp hc h
          refine lk_iconst (v := 0) d_Wr_write_61 rfl ?_
          cases h
          refine Lk.sel [0] rfl ?_
          exact Lk.stop ⟨rfl, rfl, rfl, rfl, rfl, rfl⟩
        · replace h := x_ifn hc h
          refine lk_aload_n d_Wr_write_49 rfl ?_
          obtain ⟨a11, ha11, h⟩ := x_b h
          obtain ⟨p12, hp12, h⟩ := x_b h
          refine lk_callV0 d_Wr_write_50 (x_obm ha11 rfl) (c_Wr_peek hp12) (Nat.le_of_ble_eq_true rfl) rfl M_Wr_peek lm_Wr_38 in_Wr_peek se_Wr_peek (by decide) rfl (Nat.le_of_ble_eq_true rfl) ?_
          refine lk_iconst (v := (-1)) d_Wr_write_53 rfl ?_
          refine lk_icmp_ne (tgt := 61) d_Wr_write_54 (by decide) (fun hc => ?_) (fun hc => ?_)
          · replace h := x_ifn hc h
            refine lk_iconst (v := 0) d_Wr_write_61 rfl ?_
            cases h
            refine Lk.sel [0] rfl ?_
            exact Lk.stop ⟨rfl, rfl, rfl, rfl, rfl, rfl⟩
          · replace h := x_ifp hc h
            refine lk_iconst (v := 1) d_Wr_write_57 rfl ?_
            refine lk_goto (tgt := 62) d_Wr_write_58 (by decide) ?_
            cases h
            refine Lk.sel [0] rfl ?_
            exact Lk.stop ⟨rfl, rfl, rfl, rfl, rfl, rfl⟩
      · clear hj
        refine lk_istore d_Wr_write_62 (by decide) rfl ?_
        refine lk_iload d_Wr_write_64 rfl ?_
        obtain ⟨t17, hj, h⟩ := x_b h
        refine Lk.joinS 79 [4] [] rfl 1 [] t17 ?_ ?_
        · replace h := hj
          refine lk_if_eq (tgt := 79) d_Wr_write_66 (by decide) (fun hc => ?_) (fun hc => ?_)
          · replace h := x_ifp hc h
            cases h
            refine Lk.sel [4] rfl ?_
            exact Lk.stop ⟨rfl, rfl, rfl, rfl, rfl, rfl⟩
          · replace h := x_ifn hc h
            refine lk_aload_n d_Wr_write_69 rfl ?_
            obtain ⟨a14, ha14, h⟩ := x_b h
            refine lk_getR (k := 4) d_Wr_write_70 ha14 (by decide) rfl (by decide) lf_Wr_19 rfl ?_
            refine lk_bipush (v := 7) d_Wr_write_73 rfl ?_
            refine lk_iconst (v := 0) d_Wr_write_75 rfl ?_
            obtain ⟨a15, ha15, h⟩ := x_b h
            obtain ⟨p16, hp16, h⟩ := x_b h
            refine lk_callV0 d_Wr_write_76 (x_obm ha15 rfl) (c_Pr_add hp16) (Nat.le_of_ble_eq_true rfl) rfl M_Pr_add lm_Wr_42 in_Pr_add se_Pr_add (by decide) rfl (Nat.le_of_ble_eq_true rfl) ?_
            cases h
            refine Lk.sel [4] rfl ?_
            exact Lk.stop ⟨rfl, rfl, rfl, rfl, rfl, rfl⟩
        · clear hj
          refine lk_iload d_Wr_write_79 rfl ?_
          obtain ⟨z18, hz180, h⟩ := x_b h
          obtain ⟨rfl, hz18⟩ := x_z_some hz180
          cases h
          exact Lk.stop ⟨rfl, Or.inr (Or.inl ⟨_, _, d_Wr_write_81, rfl, x_zn hz18, rfl, rfl⟩)⟩
    · replace h := x_ifp hc h
      refine lk_iconst (v := 0) d_Wr_write_8 rfl ?_
      cases h
      exact Lk.stop ⟨rfl, Or.inr (Or.inl ⟨_, _, d_Wr_write_9, rfl, rfl, rfl, rfl⟩)⟩
