/-! WHAT THE METHODS DO: partial functions f_ over the view, loops L_, and the proofs c_, l_ that the bytecode does so; printed by wip/whole/gen_dec.py -/
def f_Tx_init (z0 : Nat) (s : hv_S) : Option (hv_S) :=
  (some (hv_n s)).bind fun n1 =>
  (some (hv_new s (1000, 20))).bind fun s2 =>
  (x_ob s2 2 ((some z0))).bind fun a3 =>
  (some (hv_setR s2 a3 0 ((some n1)))).bind fun s4 =>
  some s4
set_option maxRecDepth 4000 in
set_option maxHeartbeats 2000000 in
theorem c_Tx_init {G : lt_G} {z0 : Nat} {s : hv_S} {p : hv_S} (h : f_Tx_init z0 s = some p) : Ck G m_Tx_init 1 1 20 [vR (some z0)] s none p := by
  refine Ck.of (by decide) (Nat.le_of_ble_eq_true rfl) ?_
  unfold f_Tx_init at h
  refine lk_aload_n d_Tx_init_0 rfl ?_
  refine lk_objInit d_Tx_init_1 lo_Tx_3 in_obj co_obj (Nat.le_of_ble_eq_true rfl) (Nat.le_of_ble_eq_true rfl) ?_
  refine lk_aload_n d_Tx_init_4 rfl ?_
  refine lk_bipush (v := 20) d_Tx_init_5 rfl ?_
  replace h := x_nm h
  replace h := x_nm h
  refine lkn_newarray 0 0 0 20 d_Tx_init_7 ac_int (by decide) rfl (by decide) rfl (by decide) rfl rfl rfl ?_
  obtain ⟨a3, ha3, h⟩ := x_b h
  replace h := x_nm h
  refine lk_putFR (k := 0) d_Tx_init_9 ha3 (by decide) rfl (by decide) fl_Tx_9 rfl rfl rfl rfl ?_
  cases h
  exact Lk.stop ⟨rfl, Or.inl ⟨d_Tx_init_12, rfl, rfl, rfl⟩⟩
def f_TL_init (z0 : Nat) (s : hv_S) : Option (hv_S) :=
  (some (hv_n s)).bind fun n1 =>
  (some (hv_new s (1000, 25))).bind fun s2 =>
  (x_ob s2 5 ((some z0))).bind fun a3 =>
  (some (hv_setR s2 a3 0 ((some n1)))).bind fun s4 =>
  (some (hv_n s4)).bind fun n5 =>
  (some (hv_new s4 (1001, 25))).bind fun s6 =>
  (x_ob s6 5 ((some z0))).bind fun a7 =>
  (some (hv_setR s6 a7 1 ((some n5)))).bind fun s8 =>
  some s8
set_option maxRecDepth 4000 in
set_option maxHeartbeats 2000000 in
theorem c_TL_init {G : lt_G} {z0 : Nat} {s : hv_S} {p : hv_S} (h : f_TL_init z0 s = some p) : Ck G m_TL_init 1 2 50 [vR (some z0)] s none p := by
  refine Ck.of (by decide) (Nat.le_of_ble_eq_true rfl) ?_
  unfold f_TL_init at h
  refine lk_aload_n d_TL_init_0 rfl ?_
  refine lk_objInit d_TL_init_1 lo_TL_3 in_obj co_obj (Nat.le_of_ble_eq_true rfl) (Nat.le_of_ble_eq_true rfl) ?_
  refine lk_aload_n d_TL_init_4 rfl ?_
  refine lk_bipush (v := 25) d_TL_init_5 rfl ?_
  replace h := x_nm h
  replace h := x_nm h
  refine lkn_newarray 1 25 0 25 d_TL_init_7 ac_int (by decide) rfl (by decide) rfl (by decide) rfl rfl rfl ?_
  obtain ⟨a3, ha3, h⟩ := x_b h
  replace h := x_nm h
  refine lk_putFR (k := 0) d_TL_init_9 ha3 (by decide) rfl (by decide) fl_TL_9 rfl rfl rfl rfl ?_
  refine lk_aload_n d_TL_init_12 rfl ?_
  refine lk_bipush (v := 25) d_TL_init_13 rfl ?_
  replace h := x_nm h
  replace h := x_nm h
  refine lkn_newarray 0 0 1 25 d_TL_init_15 ac_long (by decide) rfl (by decide) rfl (by decide) rfl rfl rfl ?_
  obtain ⟨a7, ha7, h⟩ := x_b h
  replace h := x_nm h
  refine lk_putFR (k := 1) d_TL_init_17 ha7 (by decide) rfl (by decide) fl_TL_15 rfl rfl rfl rfl ?_
  cases h
  exact Lk.stop ⟨rfl, Or.inl ⟨d_TL_init_20, rfl, rfl, rfl⟩⟩
def f_Pr_init (z0 : Nat) (s : hv_S) : Option (hv_S) :=
  (some (hv_n s)).bind fun n1 =>
  (some (hv_new s (1000, 49))).bind fun s2 =>
  (x_ob s2 8 ((some z0))).bind fun a3 =>
  (some (hv_setR s2 a3 0 ((some n1)))).bind fun s4 =>
  (some (hv_n s4)).bind fun n5 =>
  (some (hv_new s4 (1000, 49))).bind fun s6 =>
  (x_ob s6 8 ((some z0))).bind fun a7 =>
  (some (hv_setR s6 a7 1 ((some n5)))).bind fun s8 =>
  (some (hv_n s8)).bind fun n9 =>
  (some (hv_new s8 (1000, 49))).bind fun s10 =>
  (x_ob s10 8 ((some z0))).bind fun a11 =>
  (some (hv_setR s10 a11 2 ((some n9)))).bind fun s12 =>
  some s12
set_option maxRecDepth 4000 in
set_option maxHeartbeats 2000000 in
theorem c_Pr_init {G : lt_G} {z0 : Nat} {s : hv_S} {p : hv_S} (h : f_Pr_init z0 s = some p) : Ck G m_Pr_init 1 3 147 [vR (some z0)] s none p := by
  refine Ck.of (by decide) (Nat.le_of_ble_eq_true rfl) ?_
  unfold f_Pr_init at h
  refine lk_aload_n d_Pr_init_0 rfl ?_
  refine lk_objInit d_Pr_init_1 lo_Pr_3 in_obj co_obj (Nat.le_of_ble_eq_true rfl) (Nat.le_of_ble_eq_true rfl) ?_
  refine lk_aload_n d_Pr_init_4 rfl ?_
  refine lk_bipush (v := 49) d_Pr_init_5 rfl ?_
  replace h := x_nm h
  replace h := x_nm h
  refine lkn_newarray 2 98 0 49 d_Pr_init_7 ac_int (by decide) rfl (by decide) rfl (by decide) rfl rfl rfl ?_
  obtain ⟨a3, ha3, h⟩ := x_b h
  replace h := x_nm h
  refine lk_putFR (k := 0) d_Pr_init_9 ha3 (by decide) rfl (by decide) fl_Pr_9 rfl rfl rfl rfl ?_
  refine lk_aload_n d_Pr_init_12 rfl ?_
  refine lk_bipush (v := 49) d_Pr_init_13 rfl ?_
  replace h := x_nm h
  replace h := x_nm h
  refine lkn_newarray 1 49 0 49 d_Pr_init_15 ac_int (by decide) rfl (by decide) rfl (by decide) rfl rfl rfl ?_
  obtain ⟨a7, ha7, h⟩ := x_b h
  replace h := x_nm h
  refine lk_putFR (k := 1) d_Pr_init_17 ha7 (by decide) rfl (by decide) fl_Pr_15 rfl rfl rfl rfl ?_
  refine lk_aload_n d_Pr_init_20 rfl ?_
  refine lk_bipush (v := 49) d_Pr_init_21 rfl ?_
  replace h := x_nm h
  replace h := x_nm h
  refine lkn_newarray 0 0 0 49 d_Pr_init_23 ac_int (by decide) rfl (by decide) rfl (by decide) rfl rfl rfl ?_
  obtain ⟨a11, ha11, h⟩ := x_b h
  replace h := x_nm h
  refine lk_putFR (k := 2) d_Pr_init_25 ha11 (by decide) rfl (by decide) fl_Pr_18 rfl rfl rfl rfl ?_
  cases h
  exact Lk.stop ⟨rfl, Or.inl ⟨d_Pr_init_28, rfl, rfl, rfl⟩⟩
def f_St_init (z0 : Nat) (s : hv_S) : Option (hv_S) :=
  (some (hv_n s)).bind fun n1 =>
  (some (hv_new s (1000, 25))).bind fun s2 =>
  (x_ob s2 10 ((some z0))).bind fun a3 =>
  (some (hv_setR s2 a3 0 ((some n1)))).bind fun s4 =>
  (some (hv_n s4)).bind fun n5 =>
  (some (hv_new s4 (1000, 8))).bind fun s6 =>
  (x_ob s6 10 ((some z0))).bind fun a7 =>
  (some (hv_setR s6 a7 1 ((some n5)))).bind fun s8 =>
  some s8
set_option maxRecDepth 4000 in
set_option maxHeartbeats 2000000 in
theorem c_St_init {G : lt_G} {z0 : Nat} {s : hv_S} {p : hv_S} (h : f_St_init z0 s = some p) : Ck G m_St_init 1 2 33 [vR (some z0)] s none p := by
  refine Ck.of (by decide) (Nat.le_of_ble_eq_true rfl) ?_
  unfold f_St_init at h
  refine lk_aload_n d_St_init_0 rfl ?_
  refine lk_objInit d_St_init_1 lo_St_3 in_obj co_obj (Nat.le_of_ble_eq_true rfl) (Nat.le_of_ble_eq_true rfl) ?_
  refine lk_aload_n d_St_init_4 rfl ?_
  refine lk_bipush (v := 25) d_St_init_5 rfl ?_
  replace h := x_nm h
  replace h := x_nm h
  refine lkn_newarray 1 8 0 25 d_St_init_7 ac_int (by decide) rfl (by decide) rfl (by decide) rfl rfl rfl ?_
  obtain ⟨a3, ha3, h⟩ := x_b h
  replace h := x_nm h
  refine lk_putFR (k := 0) d_St_init_9 ha3 (by decide) rfl (by decide) fl_St_9 rfl rfl rfl rfl ?_
  refine lk_aload_n d_St_init_12 rfl ?_
  refine lk_bipush (v := 8) d_St_init_13 rfl ?_
  replace h := x_nm h
  replace h := x_nm h
  refine lkn_newarray 0 0 0 8 d_St_init_15 ac_int (by decide) rfl (by decide) rfl (by decide) rfl rfl rfl ?_
  obtain ⟨a7, ha7, h⟩ := x_b h
  replace h := x_nm h
  refine lk_putFR (k := 1) d_St_init_17 ha7 (by decide) rfl (by decide) fl_St_15 rfl rfl rfl rfl ?_
  cases h
  exact Lk.stop ⟨rfl, Or.inl ⟨d_St_init_20, rfl, rfl, rfl⟩⟩
def f_Fo_init (z0 : Nat) (s : hv_S) : Option (hv_S) :=
  (some (hv_n s)).bind fun n1 =>
  (some (hv_new s (1000, 25))).bind fun s2 =>
  (x_ob s2 4 ((some z0))).bind fun a3 =>
  (some (hv_setR s2 a3 0 ((some n1)))).bind fun s4 =>
  (some (hv_n s4)).bind fun n5 =>
  (some (hv_new s4 (1001, 25))).bind fun s6 =>
  (x_ob s6 4 ((some z0))).bind fun a7 =>
  (some (hv_setR s6 a7 1 ((some n5)))).bind fun s8 =>
  some s8
set_option maxRecDepth 4000 in
set_option maxHeartbeats 2000000 in
theorem c_Fo_init {G : lt_G} {z0 : Nat} {s : hv_S} {p : hv_S} (h : f_Fo_init z0 s = some p) : Ck G m_Fo_init 1 2 50 [vR (some z0)] s none p := by
  refine Ck.of (by decide) (Nat.le_of_ble_eq_true rfl) ?_
  unfold f_Fo_init at h
  refine lk_aload_n d_Fo_init_0 rfl ?_
  refine lk_objInit d_Fo_init_1 lo_Fo_3 in_obj co_obj (Nat.le_of_ble_eq_true rfl) (Nat.le_of_ble_eq_true rfl) ?_
  refine lk_aload_n d_Fo_init_4 rfl ?_
  refine lk_bipush (v := 25) d_Fo_init_5 rfl ?_
  replace h := x_nm h
  replace h := x_nm h
  refine lkn_newarray 1 25 0 25 d_Fo_init_7 ac_int (by decide) rfl (by decide) rfl (by decide) rfl rfl rfl ?_
  obtain ⟨a3, ha3, h⟩ := x_b h
  replace h := x_nm h
  refine lk_putFR (k := 0) d_Fo_init_9 ha3 (by decide) rfl (by decide) fl_Fo_11 rfl rfl rfl rfl ?_
  refine lk_aload_n d_Fo_init_12 rfl ?_
  refine lk_bipush (v := 25) d_Fo_init_13 rfl ?_
  replace h := x_nm h
  replace h := x_nm h
  refine lkn_newarray 0 0 1 25 d_Fo_init_15 ac_long (by decide) rfl (by decide) rfl (by decide) rfl rfl rfl ?_
  obtain ⟨a7, ha7, h⟩ := x_b h
  replace h := x_nm h
  refine lk_putFR (k := 1) d_Fo_init_17 ha7 (by decide) rfl (by decide) fl_Fo_15 rfl rfl rfl rfl ?_
  cases h
  exact Lk.stop ⟨rfl, Or.inl ⟨d_Fo_init_20, rfl, rfl, rfl⟩⟩
def f_Ls_init (z0 : Nat) (s : hv_S) : Option (hv_S) :=
  (some (hv_n s)).bind fun n1 =>
  (some (hv_new s (4, 0))).bind fun s2 =>
  (f_Fo_init n1 s2).bind fun p3 =>
  (x_ob p3 3 ((some z0))).bind fun a4 =>
  (some (hv_setR p3 a4 0 ((some n1)))).bind fun s5 =>
  (some (hv_n s5)).bind fun n6 =>
  (some (hv_new s5 (5, 0))).bind fun s7 =>
  (f_TL_init n6 s7).bind fun p8 =>
  (x_ob p8 3 ((some z0))).bind fun a9 =>
  (some (hv_setR p8 a9 1 ((some n6)))).bind fun s10 =>
  (some (hv_n s10)).bind fun n11 =>
  (some (hv_new s10 (5, 0))).bind fun s12 =>
  (f_TL_init n11 s12).bind fun p13 =>
  (x_ob p13 3 ((some z0))).bind fun a14 =>
  (some (hv_setR p13 a14 2 ((some n11)))).bind fun s15 =>
  some s15
set_option maxRecDepth 4000 in
set_option maxHeartbeats 2000000 in
theorem c_Ls_init {G : lt_G} {z0 : Nat} {s : hv_S} {p : hv_S} (h : f_Ls_init z0 s = some p) : Ck G m_Ls_init 2 9 165 [vR (some z0)] s none p := by
  refine Ck.of (by decide) (Nat.le_of_ble_eq_true rfl) ?_
  unfold f_Ls_init at h
  refine lk_aload_n d_Ls_init_0 rfl ?_
  refine lk_objInit d_Ls_init_1 lo_Ls_3 in_obj co_obj (Nat.le_of_ble_eq_true rfl) (Nat.le_of_ble_eq_true rfl) ?_
  refine lk_aload_n d_Ls_init_4 rfl ?_
  replace h := x_nm h
  replace h := x_nm h
  refine lkn_new 8 156 d_Ls_init_5 (by decide) rfl lc_Ls_9 ic_Fo nc_Fo df_Fo rfl rfl ?_
  refine lk_dup d_Ls_init_8 rfl ?_
  obtain ⟨p3, hp3, h⟩ := x_b h
  refine lkn_callI 6 106 d_Ls_init_9 (c_Fo_init hp3) (Nat.le_of_ble_eq_true rfl) rfl M_Fo_init lm_Ls_11 in_Fo_init rfl (Nat.le_of_ble_eq_true rfl) rfl rfl ?_
  obtain ⟨a4, ha4, h⟩ := x_b h
  replace h := x_nm h
  refine lk_putFR (k := 0) d_Ls_init_12 ha4 (by decide) rfl (by decide) fl_Ls_12 rfl rfl rfl rfl ?_
  refine lk_aload_n d_Ls_init_15 rfl ?_
  replace h := x_nm h
  replace h := x_nm h
  refine lkn_new 5 103 d_Ls_init_16 (by decide) rfl lc_Ls_18 ic_TL nc_TL df_TL rfl rfl ?_
  refine lk_dup d_Ls_init_19 rfl ?_
  obtain ⟨p8, hp8, h⟩ := x_b h
  refine lkn_callI 3 53 d_Ls_init_20 (c_TL_init hp8) (Nat.le_of_ble_eq_true rfl) rfl M_TL_init lm_Ls_20 in_TL_init rfl (Nat.le_of_ble_eq_true rfl) rfl rfl ?_
  obtain ⟨a9, ha9, h⟩ := x_b h
  replace h := x_nm h
  refine lk_putR (k := 1) d_Ls_init_23 ha9 (by decide) rfl (by decide) lf_Ls_21 rfl rfl ?_
  refine lk_aload_n d_Ls_init_26 rfl ?_
  replace h := x_nm h
  replace h := x_nm h
  refine lkn_new 2 50 d_Ls_init_27 (by decide) rfl lc_Ls_18 ic_TL nc_TL df_TL rfl rfl ?_
  refine lk_dup d_Ls_init_30 rfl ?_
  obtain ⟨p13, hp13, h⟩ := x_b h
  refine lkn_callI 0 0 d_Ls_init_31 (c_TL_init hp13) (Nat.le_of_ble_eq_true rfl) rfl M_TL_init lm_Ls_20 in_TL_init rfl (Nat.le_of_ble_eq_true rfl) rfl rfl ?_
  obtain ⟨a14, ha14, h⟩ := x_b h
  replace h := x_nm h
  refine lk_putR (k := 2) d_Ls_init_34 ha14 (by decide) rfl (by decide) lf_Ls_25 rfl rfl ?_
  cases h
  exact Lk.stop ⟨rfl, Or.inl ⟨d_Ls_init_37, rfl, rfl, rfl⟩⟩
def f_Ma_init (z0 : Nat) (s : hv_S) : Option (hv_S) :=
  (some (hv_n s)).bind fun n1 =>
  (some (hv_new s (1001, 21))).bind fun s2 =>
  (x_ob s2 6 ((some z0))).bind fun a3 =>
  (some (hv_setR s2 a3 0 ((some n1)))).bind fun s4 =>
  (some (hv_n s4)).bind fun n5 =>
  (some (hv_new s4 (1000, 505))).bind fun s6 =>
  (x_ob s6 6 ((some z0))).bind fun a7 =>
  (some (hv_setR s6 a7 1 ((some n5)))).bind fun s8 =>
  (some (hv_n s8)).bind fun n9 =>
  (some (hv_new s8 (1000, 505))).bind fun s10 =>
  (x_ob s10 6 ((some z0))).bind fun a11 =>
  (some (hv_setR s10 a11 2 ((some n9)))).bind fun s12 =>
  (some (hv_n s12)).bind fun n13 =>
  (some (hv_new s12 (1001, 505))).bind fun s14 =>
  (x_ob s14 6 ((some z0))).bind fun a15 =>
  (some (hv_setR s14 a15 3 ((some n13)))).bind fun s16 =>
  some s16
set_option maxRecDepth 4000 in
set_option maxHeartbeats 2000000 in
theorem c_Ma_init {G : lt_G} {z0 : Nat} {s : hv_S} {p : hv_S} (h : f_Ma_init z0 s = some p) : Ck G m_Ma_init 1 4 1536 [vR (some z0)] s none p := by
  refine Ck.of (by decide) (Nat.le_of_ble_eq_true rfl) ?_
  unfold f_Ma_init at h
  refine lk_aload_n d_Ma_init_0 rfl ?_
  refine lk_objInit d_Ma_init_1 lo_Ma_3 in_obj co_obj (Nat.le_of_ble_eq_true rfl) (Nat.le_of_ble_eq_true rfl) ?_
  refine lk_aload_n d_Ma_init_4 rfl ?_
  refine lk_bipush (v := 21) d_Ma_init_5 rfl ?_
  replace h := x_nm h
  replace h := x_nm h
  refine lkn_newarray 3 1515 1 21 d_Ma_init_7 ac_long (by decide) rfl (by decide) rfl (by decide) rfl rfl rfl ?_
  obtain ⟨a3, ha3, h⟩ := x_b h
  replace h := x_nm h
  refine lk_putFR (k := 0) d_Ma_init_9 ha3 (by decide) rfl (by decide) fl_Ma_9 rfl rfl rfl rfl ?_
  refine lk_aload_n d_Ma_init_12 rfl ?_
  refine lk_sipush (v := 505) d_Ma_init_13 rfl ?_
  replace h := x_nm h
  replace h := x_nm h
  refine lkn_newarray 2 1010 0 505 d_Ma_init_16 ac_int (by decide) rfl (by decide) rfl (by decide) rfl rfl rfl ?_
  obtain ⟨a7, ha7, h⟩ := x_b h
  replace h := x_nm h
  refine lk_putFR (k := 1) d_Ma_init_18 ha7 (by decide) rfl (by decide) fl_Ma_15 rfl rfl rfl rfl ?_
  refine lk_aload_n d_Ma_init_21 rfl ?_
  refine lk_sipush (v := 505) d_Ma_init_22 rfl ?_
  replace h := x_nm h
  replace h := x_nm h
  refine lkn_newarray 1 505 0 505 d_Ma_init_25 ac_int (by decide) rfl (by decide) rfl (by decide) rfl rfl rfl ?_
  obtain ⟨a11, ha11, h⟩ := x_b h
  replace h := x_nm h
  refine lk_putFR (k := 2) d_Ma_init_27 ha11 (by decide) rfl (by decide) fl_Ma_19 rfl rfl rfl rfl ?_
  refine lk_aload_n d_Ma_init_30 rfl ?_
  refine lk_sipush (v := 505) d_Ma_init_31 rfl ?_
  replace h := x_nm h
  replace h := x_nm h
  refine lkn_newarray 0 0 1 505 d_Ma_init_34 ac_long (by decide) rfl (by decide) rfl (by decide) rfl rfl rfl ?_
  obtain ⟨a15, ha15, h⟩ := x_b h
  replace h := x_nm h
  refine lk_putFR (k := 3) d_Ma_init_36 ha15 (by decide) rfl (by decide) fl_Ma_22 rfl rfl rfl rfl ?_
  cases h
  exact Lk.stop ⟨rfl, Or.inl ⟨d_Ma_init_39, rfl, rfl, rfl⟩⟩
def f_Si_init (z0 : Nat) (s : hv_S) : Option (hv_S) :=
  (some (hv_n s)).bind fun n1 =>
  (some (hv_new s (4, 0))).bind fun s2 =>
  (f_Fo_init n1 s2).bind fun p3 =>
  (x_ob p3 7 ((some z0))).bind fun a4 =>
  (some (hv_setR p3 a4 0 ((some n1)))).bind fun s5 =>
  (some (hv_n s5)).bind fun n6 =>
  (some (hv_new s5 (5, 0))).bind fun s7 =>
  (f_TL_init n6 s7).bind fun p8 =>
  (x_ob p8 7 ((some z0))).bind fun a9 =>
  (some (hv_setR p8 a9 1 ((some n6)))).bind fun s10 =>
  some s10
set_option maxRecDepth 4000 in
set_option maxHeartbeats 2000000 in
theorem c_Si_init {G : lt_G} {z0 : Nat} {s : hv_S} {p : hv_S} (h : f_Si_init z0 s = some p) : Ck G m_Si_init 2 6 112 [vR (some z0)] s none p := by
  refine Ck.of (by decide) (Nat.le_of_ble_eq_true rfl) ?_
  unfold f_Si_init at h
  refine lk_aload_n d_Si_init_0 rfl ?_
  refine lk_objInit d_Si_init_1 lo_Si_3 in_obj co_obj (Nat.le_of_ble_eq_true rfl) (Nat.le_of_ble_eq_true rfl) ?_
  refine lk_aload_n d_Si_init_4 rfl ?_
  replace h := x_nm h
  replace h := x_nm h
  refine lkn_new 5 103 d_Si_init_5 (by decide) rfl lc_Si_9 ic_Fo nc_Fo df_Fo rfl rfl ?_
  refine lk_dup d_Si_init_8 rfl ?_
  obtain ⟨p3, hp3, h⟩ := x_b h
  refine lkn_callI 3 53 d_Si_init_9 (c_Fo_init hp3) (Nat.le_of_ble_eq_true rfl) rfl M_Fo_init lm_Si_11 in_Fo_init rfl (Nat.le_of_ble_eq_true rfl) rfl rfl ?_
  obtain ⟨a4, ha4, h⟩ := x_b h
  replace h := x_nm h
  refine lk_putFR (k := 0) d_Si_init_12 ha4 (by decide) rfl (by decide) fl_Si_12 rfl rfl rfl rfl ?_
  refine lk_aload_n d_Si_init_15 rfl ?_
  replace h := x_nm h
  replace h := x_nm h
  refine lkn_new 2 50 d_Si_init_16 (by decide) rfl lc_Si_18 ic_TL nc_TL df_TL rfl rfl ?_
  refine lk_dup d_Si_init_19 rfl ?_
  obtain ⟨p8, hp8, h⟩ := x_b h
  refine lkn_callI 0 0 d_Si_init_20 (c_TL_init hp8) (Nat.le_of_ble_eq_true rfl) rfl M_TL_init lm_Si_20 in_TL_init rfl (Nat.le_of_ble_eq_true rfl) rfl rfl ?_
  obtain ⟨a9, ha9, h⟩ := x_b h
  replace h := x_nm h
  refine lk_putFR (k := 1) d_Si_init_23 ha9 (by decide) rfl (by decide) fl_Si_21 rfl rfl rfl rfl ?_
  cases h
  exact Lk.stop ⟨rfl, Or.inl ⟨d_Si_init_26, rfl, rfl, rfl⟩⟩
def f_Wr_init (z0 : Nat) (s : hv_S) : Option (hv_S) :=
  some s
set_option maxRecDepth 4000 in
set_option maxHeartbeats 2000000 in
theorem c_Wr_init {G : lt_G} {z0 : Nat} {s : hv_S} {p : hv_S} (h : f_Wr_init z0 s = some p) : Ck G m_Wr_init 1 0 0 [vR (some z0)] s none p := by
  refine Ck.of (by decide) (Nat.le_of_ble_eq_true rfl) ?_
  unfold f_Wr_init at h
  refine lk_aload_n d_Wr_init_0 rfl ?_
  refine lk_objInit d_Wr_init_1 lo_Wr_3 in_obj co_obj (Nat.le_of_ble_eq_true rfl) (Nat.le_of_ble_eq_true rfl) ?_
  cases h
  exact Lk.stop ⟨rfl, Or.inl ⟨d_Wr_init_4, rfl, rfl, rfl⟩⟩
def L_Au_init_51 : Nat → Option Nat → Int32 → hv_S → Option (hv_S)
  | 0, _, _, _ => none
  | n + 1, x0, x2, s =>
    (x_ob s 9 x0).bind fun a21 =>
    (x_ar s 20 (hv_R s a21 2)).bind fun q22 =>
    if (nI q22.2) ≤ x2 then
      some s
    else
      (some (hv_n s)).bind fun n23 =>
      (some (hv_new s (10, 0))).bind fun s24 =>
      (f_St_init n23 s24).bind fun p25 =>
      (x_ar p25 20 (hv_R s a21 2)).bind fun q26 =>
      (x_ix q26.2 x2).bind fun k27 =>
      (x_ob p25 10 ((some n23))).bind fun a28 =>
      (some (hv_setR p25 q26.1 k27 (some a28))).bind fun s29 =>
      L_Au_init_51 n x0 (x2 + 1) s29
set_option maxRecDepth 4000 in
set_option maxHeartbeats 2000000 in
theorem l_Au_init_51 {G : lt_G} : ∀ (n : Nat) (x0 : Option Nat) (x2 : Int32) (s : hv_S) (e0 : hv_S), L_Au_init_51 n x0 x2 s = some e0 → ∀ (mc ms : Nat), Lk G m_Au_init 2 51 [(0, vR x0), (2, vI x2)] [] s (mc + 3 * n) (ms + 38 * n) (lk_at 79 [] [] e0 mc ms) := by
  intro n
  induction n with
  | zero => intro x0 x2 s e0 h; cases h
  | succ n ih =>
    intro x0 x2 s e0 h mc ms
    unfold L_Au_init_51 at h
    rw [show mc + 3 * (n + 1) = mc + 3 * n + 3 by omega, show ms + 38 * (n + 1) = ms + 38 * n + 38 by omega]
    refine lk_iload_n d_Au_init_51 rfl ?_
    refine lk_aload_n d_Au_init_52 rfl ?_
    obtain ⟨a21, ha21, h⟩ := x_b h
    refine lk_getR (k := 2) d_Au_init_53 ha21 (by decide) rfl (by decide) lf_Au_38 rfl ?_
    obtain ⟨q22, hq22, h⟩ := x_b h
    refine lk_alen d_Au_init_56 hq22 (by decide) ?_
    refine lk_icmp_ge (tgt := 79) d_Au_init_57 (by decide) (fun hc => ?_) (fun hc => ?_)
    · replace h := x_ifp hc h
      cases h
      refine Lk.less (mc' := mc) (ms' := ms) (by omega) (by omega) ?_
      refine Lk.sel [] rfl ?_
      exact Lk.stop ⟨rfl, rfl, rfl, rfl, rfl, rfl⟩
    · replace h := x_ifn hc h
      refine lk_aload_n d_Au_init_60 rfl ?_
      refine lk_getR (k := 2) d_Au_init_61 ha21 (by decide) rfl (by decide) lf_Au_38 rfl ?_
      refine lk_iload_n d_Au_init_64 rfl ?_
      replace h := x_nm h
      replace h := x_nm h
      refine lkn_new (mc + 3 * n + 2) (ms + 38 * n + 33) d_Au_init_65 (by decide) rfl lc_Au_25 ic_St nc_St df_St (by omega) (by omega) ?_
      refine lk_dup d_Au_init_68 rfl ?_
      obtain ⟨p25, hp25, h⟩ := x_b h
      refine lkn_callI (mc + 3 * n + 0) (ms + 38 * n + 0) d_Au_init_69 (c_St_init hp25) (Nat.le_of_ble_eq_true rfl) rfl M_St_init lm_Au_27 in_St_init rfl (Nat.le_of_ble_eq_true rfl) (by omega) (by omega) ?_
      obtain ⟨q26, hq26, h⟩ := x_b h
      obtain ⟨k27, hk27, h⟩ := x_b h
      obtain ⟨a28, ha28, h⟩ := x_b h
      replace h := x_nm h
      refine lk_aast d_Au_init_72 hq26 hk27 ha28 rfl (by decide) (by decide) rfl ?_
      refine lk_iinc (v := _ + 1) d_Au_init_73 rfl rfl (by decide) rfl ?_
      refine lk_goto (tgt := 51) d_Au_init_76 (by decide) ?_
      refine Lk.sel [0, 2] rfl ?_
      exact ih _ _ _ _ h mc ms
def f_Au_init (z0 : Nat) (x1 : Int32) (s : hv_S) : Option (hv_S) :=
  (some (hv_n s)).bind fun n1 =>
  (some (hv_new s (4, 0))).bind fun s2 =>
  (f_Fo_init n1 s2).bind fun p3 =>
  (x_ob p3 9 ((some z0))).bind fun a4 =>
  (some (hv_setR p3 a4 0 ((some n1)))).bind fun s5 =>
  (some (hv_n s5)).bind fun n6 =>
  (some (hv_new s5 (5, 0))).bind fun s7 =>
  (f_TL_init n6 s7).bind fun p8 =>
  (x_ob p8 9 ((some z0))).bind fun a9 =>
  (some (hv_setR p8 a9 1 ((some n6)))).bind fun s10 =>
  (some (hv_n s10)).bind fun n11 =>
  (some (hv_new s10 (10, 0))).bind fun s12 =>
  (f_St_init n11 s12).bind fun p13 =>
  (x_ob p13 9 ((some z0))).bind fun a14 =>
  (some (hv_setR p13 a14 3 ((some n11)))).bind fun s15 =>
  (x_len (if x1 < 1 then 1 else x1)).bind fun N18 =>
  (some (hv_n s15)).bind fun n16 =>
  (some (hv_new s15 (1020, N18))).bind fun s17 =>
  (x_ob s17 9 ((some z0))).bind fun a19 =>
  (some (hv_setR s17 a19 2 ((some n16)))).bind fun s20 =>
  (L_Au_init_51 19 ((some z0)) 0 s20).bind fun e30 =>
  some e30
set_option maxRecDepth 4000 in
set_option maxHeartbeats 2000000 in
theorem c_Au_init {G : lt_G} {z0 : Nat} {x1 : Int32} {s : hv_S} {p : hv_S} (h : f_Au_init z0 x1 s = some p) : Ck G m_Au_init 2 67 891 [vR (some z0), vI x1] s none p := by
  refine Ck.of (by decide) (Nat.le_of_ble_eq_true rfl) ?_
  unfold f_Au_init at h
  refine lk_aload_n d_Au_init_0 rfl ?_
  refine lk_objInit d_Au_init_1 lo_Au_3 in_obj co_obj (Nat.le_of_ble_eq_true rfl) (Nat.le_of_ble_eq_true rfl) ?_
  refine lk_aload_n d_Au_init_4 rfl ?_
  replace h := x_nm h
  replace h := x_nm h
  refine lkn_new 66 882 d_Au_init_5 (by decide) rfl lc_Au_9 ic_Fo nc_Fo df_Fo (by omega) (by omega) ?_
  refine lk_dup d_Au_init_8 rfl ?_
  obtain ⟨p3, hp3, h⟩ := x_b h
  refine lkn_callI 64 832 d_Au_init_9 (c_Fo_init hp3) (Nat.le_of_ble_eq_true rfl) rfl M_Fo_init lm_Au_11 in_Fo_init rfl (Nat.le_of_ble_eq_true rfl) (by omega) (by omega) ?_
  obtain ⟨a4, ha4, h⟩ := x_b h
  replace h := x_nm h
  refine lk_putFR (k := 0) d_Au_init_12 ha4 (by decide) rfl (by decide) fl_Au_12 rfl rfl rfl rfl ?_
  refine lk_aload_n d_Au_init_15 rfl ?_
  replace h := x_nm h
  replace h := x_nm h
  refine lkn_new 63 829 d_Au_init_16 (by decide) rfl lc_Au_18 ic_TL nc_TL df_TL (by omega) (by omega) ?_
  refine lk_dup d_Au_init_19 rfl ?_
  obtain ⟨p8, hp8, h⟩ := x_b h
  refine lkn_callI 61 779 d_Au_init_20 (c_TL_init hp8) (Nat.le_of_ble_eq_true rfl) rfl M_TL_init lm_Au_20 in_TL_init rfl (Nat.le_of_ble_eq_true rfl) (by omega) (by omega) ?_
  obtain ⟨a9, ha9, h⟩ := x_b h
  replace h := x_nm h
  refine lk_putFR (k := 1) d_Au_init_23 ha9 (by decide) rfl (by decide) fl_Au_21 rfl rfl rfl rfl ?_
  refine lk_aload_n d_Au_init_26 rfl ?_
  replace h := x_nm h
  replace h := x_nm h
  refine lkn_new 60 774 d_Au_init_27 (by decide) rfl lc_Au_25 ic_St nc_St df_St (by omega) (by omega) ?_
  refine lk_dup d_Au_init_30 rfl ?_
  obtain ⟨p13, hp13, h⟩ := x_b h
  refine lkn_callI 58 741 d_Au_init_31 (c_St_init hp13) (Nat.le_of_ble_eq_true rfl) rfl M_St_init lm_Au_27 in_St_init rfl (Nat.le_of_ble_eq_true rfl) (by omega) (by omega) ?_
  obtain ⟨a14, ha14, h⟩ := x_b h
  replace h := x_nm h
  refine lk_putR (k := 3) d_Au_init_34 ha14 (by decide) rfl (by decide) lf_Au_28 rfl rfl ?_
  refine lk_aload_n d_Au_init_37 rfl ?_
  refine lk_iload_n d_Au_init_38 rfl ?_
  refine lk_iconst (v := 1) d_Au_init_39 rfl ?_
  refine lk_mmax d_Au_init_40 lmm_Au_32 mm_st mm_in mm_co (Nat.le_of_ble_eq_true rfl) (Nat.le_of_ble_eq_true rfl) ?_
  obtain ⟨N18, hN18, h⟩ := x_b h
  replace h := x_nm h
  replace h := x_nm h
  refine lkn_anew 57 722 20 N18 d_Au_init_43 lc_Au_25 (by decide) rfl ao_St hN18 (by omega) (by omega) ?_
  obtain ⟨a19, ha19, h⟩ := x_b h
  replace h := x_nm h
  refine lk_putFR (k := 2) d_Au_init_46 ha19 (by decide) rfl (by decide) fl_Au_38 rfl rfl rfl rfl ?_
  refine lk_iconst (v := 0) d_Au_init_49 rfl ?_
  refine lk_istore_n d_Au_init_50 (by decide) rfl ?_
  obtain ⟨e30, hl, h⟩ := x_b h
  refine Lk.sel [0, 2] rfl ?_
  refine Lk.trans (l_Au_init_51 _ _ _ _ _ hl 0 0) ?_
  intro pc' lo' st' s' mc' ms' hx
  obtain ⟨rfl, rfl, rfl, rfl, rfl, rfl⟩ := hx
  cases h
  exact Lk.stop ⟨rfl, Or.inl ⟨d_Au_init_79, rfl, rfl, rfl⟩⟩
def f_C_init (z0 : Nat) (x1 : Int32) (s : hv_S) : Option (hv_S) :=
  (some (hv_n s)).bind fun n1 =>
  (some (hv_new s (1002, 24))).bind fun s2 =>
  (x_ob s2 0 ((some z0))).bind fun a3 =>
  (some (hv_setR s2 a3 0 ((some n1)))).bind fun s4 =>
  (some (hv_n s4)).bind fun n5 =>
  (some (hv_new s4 (1, 0))).bind fun s6 =>
  (f_Wr_init n5 s6).bind fun p7 =>
  (x_ob p7 0 ((some z0))).bind fun a8 =>
  (some (hv_setR p7 a8 2 ((some n5)))).bind fun s9 =>
  (some (hv_n s9)).bind fun n10 =>
  (some (hv_new s9 (2, 0))).bind fun s11 =>
  (f_Tx_init n10 s11).bind fun p12 =>
  (x_ob p12 0 ((some z0))).bind fun a13 =>
  (some (hv_setR p12 a13 3 ((some n10)))).bind fun s14 =>
  (some (hv_n s14)).bind fun n15 =>
  (some (hv_new s14 (3, 0))).bind fun s16 =>
  (f_Ls_init n15 s16).bind fun p17 =>
  (x_ob p17 0 ((some z0))).bind fun a18 =>
  (some (hv_setR p17 a18 4 ((some n15)))).bind fun s19 =>
  (some (hv_n s19)).bind fun n20 =>
  (some (hv_new s19 (6, 0))).bind fun s21 =>
  (f_Ma_init n20 s21).bind fun p22 =>
  (x_ob p22 0 ((some z0))).bind fun a23 =>
  (some (hv_setR p22 a23 5 ((some n20)))).bind fun s24 =>
  (some (hv_n s24)).bind fun n25 =>
  (some (hv_new s24 (7, 0))).bind fun s26 =>
  (f_Si_init n25 s26).bind fun p27 =>
  (x_ob p27 0 ((some z0))).bind fun a28 =>
  (some (hv_setR p27 a28 6 ((some n25)))).bind fun s29 =>
  (some (hv_n s29)).bind fun n30 =>
  (some (hv_new s29 (8, 0))).bind fun s31 =>
  (f_Pr_init n30 s31).bind fun p32 =>
  (x_ob p32 0 ((some z0))).bind fun a33 =>
  (some (hv_setR p32 a33 8 ((some n30)))).bind fun s34 =>
  (some (hv_n s34)).bind fun n35 =>
  (some (hv_new s34 (8, 0))).bind fun s36 =>
  (f_Pr_init n35 s36).bind fun p37 =>
  (x_ob p37 0 ((some z0))).bind fun a38 =>
  (some (hv_setR p37 a38 9 ((some n35)))).bind fun s39 =>
  (some (hv_setJ s39 a38 11 0)).bind fun s40 =>
  (some (hv_setI s40 a38 12 ((-1)))).bind fun s41 =>
  (some (hv_setI s41 a38 13 ((-1)))).bind fun s42 =>
  (some (hv_n s42)).bind fun n43 =>
  (some (hv_new s42 (9, 0))).bind fun s44 =>
  (f_Au_init n43 ((3 : Int32) + (x1 &&& (15 : Int32))) s44).bind fun p45 =>
  (x_ob p45 0 ((some z0))).bind fun a46 =>
  (some (hv_setR p45 a46 7 ((some n43)))).bind fun s47 =>
  some s47
set_option maxRecDepth 4000 in
set_option maxHeartbeats 2000000 in
theorem c_C_init {G : lt_G} {z0 : Nat} {x1 : Int32} {s : hv_S} {p : hv_S} (h : f_C_init z0 x1 s = some p) : Ck G m_C_init 3 102 3083 [vR (some z0), vI x1] s none p := by
  refine Ck.of (by decide) (Nat.le_of_ble_eq_true rfl) ?_
  unfold f_C_init at h
  refine lk_aload_n d_C_init_0 rfl ?_
  refine lk_objInit d_C_init_1 lo_C_3 in_obj co_obj (Nat.le_of_ble_eq_true rfl) (Nat.le_of_ble_eq_true rfl) ?_
  refine lk_aload_n d_C_init_4 rfl ?_
  refine lk_bipush (v := 24) d_C_init_5 rfl ?_
  replace h := x_nm h
  replace h := x_nm h
  refine lkn_newarray 101 3059 2 24 d_C_init_7 ac_char (by decide) rfl (by decide) rfl (by decide) rfl rfl rfl ?_
  obtain ⟨a3, ha3, h⟩ := x_b h
  replace h := x_nm h
  refine lk_putFR (k := 0) d_C_init_9 ha3 (by decide) rfl (by decide) fl_C_9 rfl rfl rfl rfl ?_
  refine lk_aload_n d_C_init_12 rfl ?_
  replace h := x_nm h
  replace h := x_nm h
  refine lkn_new 100 3054 d_C_init_13 (by decide) rfl lc_C_13 ic_Wr nc_Wr df_Wr rfl rfl ?_
  refine lk_dup d_C_init_16 rfl ?_
  obtain ⟨p7, hp7, h⟩ := x_b h
  refine lkn_callI 100 3054 d_C_init_17 (c_Wr_init hp7) (Nat.le_of_ble_eq_true rfl) rfl M_Wr_init lm_C_15 in_Wr_init rfl (Nat.le_of_ble_eq_true rfl) rfl rfl ?_
  obtain ⟨a8, ha8, h⟩ := x_b h
  replace h := x_nm h
  refine lk_putFR (k := 2) d_C_init_20 ha8 (by decide) rfl (by decide) fl_C_16 rfl rfl rfl rfl ?_
  refine lk_aload_n d_C_init_23 rfl ?_
  replace h := x_nm h
  replace h := x_nm h
  refine lkn_new 99 3052 d_C_init_24 (by decide) rfl lc_C_20 ic_Tx nc_Tx df_Tx rfl rfl ?_
  refine lk_dup d_C_init_27 rfl ?_
  obtain ⟨p12, hp12, h⟩ := x_b h
  refine lkn_callI 98 3032 d_C_init_28 (c_Tx_init hp12) (Nat.le_of_ble_eq_true rfl) rfl M_Tx_init lm_C_22 in_Tx_init rfl (Nat.le_of_ble_eq_true rfl) rfl rfl ?_
  obtain ⟨a13, ha13, h⟩ := x_b h
  replace h := x_nm h
  refine lk_putFR (k := 3) d_C_init_31 ha13 (by decide) rfl (by decide) fl_C_23 rfl rfl rfl rfl ?_
  refine lk_aload_n d_C_init_34 rfl ?_
  replace h := x_nm h
  replace h := x_nm h
  refine lkn_new 97 3028 d_C_init_35 (by decide) rfl lc_C_27 ic_Ls nc_Ls df_Ls rfl rfl ?_
  refine lk_dup d_C_init_38 rfl ?_
  obtain ⟨p17, hp17, h⟩ := x_b h
  refine lkn_callI 88 2863 d_C_init_39 (c_Ls_init hp17) (Nat.le_of_ble_eq_true rfl) rfl M_Ls_init lm_C_29 in_Ls_init rfl (Nat.le_of_ble_eq_true rfl) rfl rfl ?_
  obtain ⟨a18, ha18, h⟩ := x_b h
  replace h := x_nm h
  refine lk_putFR (k := 4) d_C_init_42 ha18 (by decide) rfl (by decide) fl_C_30 rfl rfl rfl rfl ?_
  refine lk_aload_n d_C_init_45 rfl ?_
  replace h := x_nm h
  replace h := x_nm h
  refine lkn_new 87 2855 d_C_init_46 (by decide) rfl lc_C_34 ic_Ma nc_Ma df_Ma rfl rfl ?_
  refine lk_dup d_C_init_49 rfl ?_
  obtain ⟨p22, hp22, h⟩ := x_b h
  refine lkn_callI 83 1319 d_C_init_50 (c_Ma_init hp22) (Nat.le_of_ble_eq_true rfl) rfl M_Ma_init lm_C_36 in_Ma_init rfl (Nat.le_of_ble_eq_true rfl) rfl rfl ?_
  obtain ⟨a23, ha23, h⟩ := x_b h
  replace h := x_nm h
  refine lk_putFR (k := 5) d_C_init_53 ha23 (by decide) rfl (by decide) fl_C_37 rfl rfl rfl rfl ?_
  refine lk_aload_n d_C_init_56 rfl ?_
  replace h := x_nm h
  replace h := x_nm h
  refine lkn_new 82 1313 d_C_init_57 (by decide) rfl lc_C_41 ic_Si nc_Si df_Si rfl rfl ?_
  refine lk_dup d_C_init_60 rfl ?_
  obtain ⟨p27, hp27, h⟩ := x_b h
  refine lkn_callI 76 1201 d_C_init_61 (c_Si_init hp27) (Nat.le_of_ble_eq_true rfl) rfl M_Si_init lm_C_43 in_Si_init rfl (Nat.le_of_ble_eq_true rfl) rfl rfl ?_
  obtain ⟨a28, ha28, h⟩ := x_b h
  replace h := x_nm h
  refine lk_putFR (k := 6) d_C_init_64 ha28 (by decide) rfl (by decide) fl_C_44 rfl rfl rfl rfl ?_
  refine lk_aload_n d_C_init_67 rfl ?_
  replace h := x_nm h
  replace h := x_nm h
  refine lkn_new 75 1197 d_C_init_68 (by decide) rfl lc_C_48 ic_Pr nc_Pr df_Pr rfl rfl ?_
  refine lk_dup d_C_init_71 rfl ?_
  obtain ⟨p32, hp32, h⟩ := x_b h
  refine lkn_callI 72 1050 d_C_init_72 (c_Pr_init hp32) (Nat.le_of_ble_eq_true rfl) rfl M_Pr_init lm_C_50 in_Pr_init rfl (Nat.le_of_ble_eq_true rfl) rfl rfl ?_
  obtain ⟨a33, ha33, h⟩ := x_b h
  replace h := x_nm h
  refine lk_putR (k := 8) d_C_init_75 ha33 (by decide) rfl (by decide) lf_C_51 rfl rfl ?_
  refine lk_aload_n d_C_init_78 rfl ?_
  replace h := x_nm h
  replace h := x_nm h
  refine lkn_new 71 1046 d_C_init_79 (by decide) rfl lc_C_48 ic_Pr nc_Pr df_Pr rfl rfl ?_
  refine lk_dup d_C_init_82 rfl ?_
  obtain ⟨p37, hp37, h⟩ := x_b h
  refine lkn_callI 68 899 d_C_init_83 (c_Pr_init hp37) (Nat.le_of_ble_eq_true rfl) rfl M_Pr_init lm_C_50 in_Pr_init rfl (Nat.le_of_ble_eq_true rfl) rfl rfl ?_
  obtain ⟨a38, ha38, h⟩ := x_b h
  replace h := x_nm h
  refine lk_putR (k := 9) d_C_init_86 ha38 (by decide) rfl (by decide) lf_C_55 rfl rfl ?_
  refine lk_aload_n d_C_init_89 rfl ?_
  refine lk_lconst (v := 0) d_C_init_90 rfl ?_
  replace h := x_nm h
  refine lk_putJ (k := 11) d_C_init_91 ha38 (by decide) rfl (by decide) lf_C_58 rfl rfl ?_
  refine lk_aload_n d_C_init_94 rfl ?_
  refine lk_iconst (v := (-1)) d_C_init_95 rfl ?_
  replace h := x_nm h
  refine lk_putI (k := 12) d_C_init_96 ha38 (by decide) rfl (by decide) lf_C_62 rfl rfl ?_
  refine lk_aload_n d_C_init_99 rfl ?_
  refine lk_iconst (v := (-1)) d_C_init_100 rfl ?_
  replace h := x_nm h
  refine lk_putI (k := 13) d_C_init_101 ha38 (by decide) rfl (by decide) lf_C_66 rfl rfl ?_
  refine lk_aload_n d_C_init_104 rfl ?_
  replace h := x_nm h
  replace h := x_nm h
  refine lkn_new 67 891 d_C_init_105 (by decide) rfl lc_C_69 ic_Au nc_Au df_Au rfl rfl ?_
  refine lk_dup d_C_init_108 rfl ?_
  refine lk_iconst (v := 3) d_C_init_109 rfl ?_
  refine lk_iload_n d_C_init_110 rfl ?_
  refine lk_bipush (v := 15) d_C_init_111 rfl ?_
  refine lk_iand d_C_init_113 ?_
  refine lk_iadd d_C_init_114 ?_
  obtain ⟨p45, hp45, h⟩ := x_b h
  refine lkn_callI 0 0 d_C_init_115 (c_Au_init hp45) (Nat.le_of_ble_eq_true rfl) rfl M_Au_init lm_C_71 in_Au_init rfl (Nat.le_of_ble_eq_true rfl) rfl rfl ?_
  obtain ⟨a46, ha46, h⟩ := x_b h
  replace h := x_nm h
  refine lk_putFR (k := 7) d_C_init_118 ha46 (by decide) rfl (by decide) fl_C_74 rfl rfl rfl rfl ?_
  cases h
  exact Lk.stop ⟨rfl, Or.inl ⟨d_C_init_121, rfl, rfl, rfl⟩⟩
def f_Mo_init (z0 : Nat) (x1 : Int32) (s : hv_S) : Option (hv_S) :=
  (some (hv_n s)).bind fun n1 =>
  (some (hv_new s (1000, 24))).bind fun s2 =>
  (x_ob s2 11 ((some z0))).bind fun a3 =>
  (some (hv_setR s2 a3 3 ((some n1)))).bind fun s4 =>
  (some (hv_n s4)).bind fun n5 =>
  (some (hv_new s4 (1000, 20))).bind fun s6 =>
  (x_ob s6 11 ((some z0))).bind fun a7 =>
  (some (hv_setR s6 a7 5 ((some n5)))).bind fun s8 =>
  (some (hv_n s8)).bind fun n9 =>
  (some (hv_new s8 (1000, 64))).bind fun s10 =>
  (x_ob s10 11 ((some z0))).bind fun a11 =>
  (some (hv_setR s10 a11 7 ((some n9)))).bind fun s12 =>
  (some (hv_n s12)).bind fun n13 =>
  (some (hv_new s12 (1000, 64))).bind fun s14 =>
  (x_ob s14 11 ((some z0))).bind fun a15 =>
  (some (hv_setR s14 a15 8 ((some n13)))).bind fun s16 =>
  (some (hv_n s16)).bind fun n17 =>
  (some (hv_new s16 (1000, 64))).bind fun s18 =>
  (x_ob s18 11 ((some z0))).bind fun a19 =>
  (some (hv_setR s18 a19 9 ((some n17)))).bind fun s20 =>
  (some (hv_n s20)).bind fun n21 =>
  (some (hv_new s20 (1000, 64))).bind fun s22 =>
  (x_ob s22 11 ((some z0))).bind fun a23 =>
  (some (hv_setR s22 a23 11 ((some n21)))).bind fun s24 =>
  (some (hv_n s24)).bind fun n25 =>
  (some (hv_new s24 (1000, 64))).bind fun s26 =>
  (x_ob s26 11 ((some z0))).bind fun a27 =>
  (some (hv_setR s26 a27 12 ((some n25)))).bind fun s28 =>
  (some (hv_n s28)).bind fun n29 =>
  (some (hv_new s28 (1000, 64))).bind fun s30 =>
  (x_ob s30 11 ((some z0))).bind fun a31 =>
  (some (hv_setR s30 a31 13 ((some n29)))).bind fun s32 =>
  (some (hv_n s32)).bind fun n33 =>
  (some (hv_new s32 (1000, 64))).bind fun s34 =>
  (x_ob s34 11 ((some z0))).bind fun a35 =>
  (some (hv_setR s34 a35 17 ((some n33)))).bind fun s36 =>
  (some (hv_n s36)).bind fun n37 =>
  (some (hv_new s36 (1000, 600))).bind fun s38 =>
  (x_ob s38 11 ((some z0))).bind fun a39 =>
  (some (hv_setR s38 a39 19 ((some n37)))).bind fun s40 =>
  (some (hv_n s40)).bind fun n41 =>
  (some (hv_new s40 (1000, 600))).bind fun s42 =>
  (x_ob s42 11 ((some z0))).bind fun a43 =>
  (some (hv_setR s42 a43 20 ((some n41)))).bind fun s44 =>
  (some (hv_n s44)).bind fun n45 =>
  (some (hv_new s44 (1000, 4800))).bind fun s46 =>
  (x_ob s46 11 ((some z0))).bind fun a47 =>
  (some (hv_setR s46 a47 21 ((some n45)))).bind fun s48 =>
  (some (hv_n s48)).bind fun n49 =>
  (some (hv_new s48 (1000, 8))).bind fun s50 =>
  (x_ob s50 11 ((some z0))).bind fun a51 =>
  (some (hv_setR s50 a51 22 ((some n49)))).bind fun s52 =>
  (some (hv_n s52)).bind fun n53 =>
  (some (hv_new s52 (1000, 2))).bind fun s54 =>
  (x_ob s54 11 ((some z0))).bind fun a55 =>
  (some (hv_setR s54 a55 23 ((some n53)))).bind fun s56 =>
  (some (hv_n s56)).bind fun n57 =>
  (some (hv_new s56 (1000, 128))).bind fun s58 =>
  (x_ob s58 11 ((some z0))).bind fun a59 =>
  (some (hv_setR s58 a59 24 ((some n57)))).bind fun s60 =>
  (some (hv_n s60)).bind fun n61 =>
  (some (hv_new s60 (1000, 1024))).bind fun s62 =>
  (x_ob s62 11 ((some z0))).bind fun a63 =>
  (some (hv_setR s62 a63 25 ((some n61)))).bind fun s64 =>
  (some (hv_n s64)).bind fun n65 =>
  (some (hv_new s64 (1003, 1344))).bind fun s66 =>
  (x_ob s66 11 ((some z0))).bind fun a67 =>
  (some (hv_setR s66 a67 26 ((some n65)))).bind fun s68 =>
  (some (hv_n s68)).bind fun n69 =>
  (some (hv_new s68 (1000, 19))).bind fun s70 =>
  (x_ob s70 11 ((some z0))).bind fun a71 =>
  (some (hv_setR s70 a71 30 ((some n69)))).bind fun s72 =>
  (some (hv_n s72)).bind fun n73 =>
  (some (hv_new s72 (1000, 1216))).bind fun s74 =>
  (x_ob s74 11 ((some z0))).bind fun a75 =>
  (some (hv_setR s74 a75 31 ((some n73)))).bind fun s76 =>
  (some (hv_n s76)).bind fun n77 =>
  (some (hv_new s76 (1003, 19))).bind fun s78 =>
  (x_ob s78 11 ((some z0))).bind fun a79 =>
  (some (hv_setR s78 a79 32 ((some n77)))).bind fun s80 =>
  (some (hv_n s80)).bind fun n81 =>
  (some (hv_new s80 (1000, 152))).bind fun s82 =>
  (x_ob s82 11 ((some z0))).bind fun a83 =>
  (some (hv_setR s82 a83 33 ((some n81)))).bind fun s84 =>
  (some (hv_n s84)).bind fun n85 =>
  (some (hv_new s84 (1000, 64))).bind fun s86 =>
  (x_ob s86 11 ((some z0))).bind fun a87 =>
  (some (hv_setR s86 a87 35 ((some n85)))).bind fun s88 =>
  (x_ob s88 11 ((some z0))).bind fun a89 =>
  (some (hv_setI s88 a89 37 ((-1)))).bind fun s90 =>
  (x_ob s90 11 ((some z0))).bind fun a91 =>
  (some (hv_setI s90 a91 38 ((-1)))).bind fun s92 =>
  (some (hv_n s92)).bind fun n93 =>
  (some (hv_new s92 (1000, 8))).bind fun s94 =>
  (x_ob s94 11 ((some z0))).bind fun a95 =>
  (some (hv_setR s94 a95 40 ((some n93)))).bind fun s96 =>
  (some (hv_n s96)).bind fun n97 =>
  (some (hv_new s96 (1000, 4))).bind fun s98 =>
  (x_ob s98 11 ((some z0))).bind fun a99 =>
  (some (hv_setR s98 a99 41 ((some n97)))).bind fun s100 =>
  (some (hv_n s100)).bind fun n101 =>
  (some (hv_new s100 (1000, 4))).bind fun s102 =>
  (x_ob s102 11 ((some z0))).bind fun a103 =>
  (some (hv_setR s102 a103 42 ((some n101)))).bind fun s104 =>
  (some (hv_n s104)).bind fun n105 =>
  (some (hv_new s104 (1000, 4))).bind fun s106 =>
  (x_ob s106 11 ((some z0))).bind fun a107 =>
  (some (hv_setR s106 a107 43 ((some n105)))).bind fun s108 =>
  (some (hv_n s108)).bind fun n109 =>
  (some (hv_new s108 (1000, 8))).bind fun s110 =>
  (x_ob s110 11 ((some z0))).bind fun a111 =>
  (some (hv_setR s110 a111 44 ((some n109)))).bind fun s112 =>
  (x_ob s112 11 ((some z0))).bind fun a113 =>
  (some (hv_setI s112 a113 1 ((3 : Int32) + (x1 &&& (15 : Int32))))).bind fun s114 =>
  some s114
set_option maxRecDepth 4000 in
set_option maxHeartbeats 2000000 in
theorem c_Mo_init {G : lt_G} {z0 : Nat} {x1 : Int32} {s : hv_S} {p : hv_S} (h : f_Mo_init z0 x1 s = some p) : Ck G m_Mo_init 1 27 10496 [vR (some z0), vI x1] s none p := by
  refine Ck.of (by decide) (Nat.le_of_ble_eq_true rfl) ?_
  unfold f_Mo_init at h
  refine lk_aload_n d_Mo_init_0 rfl ?_
  refine lk_objInit d_Mo_init_1 lo_Mo_1 in_obj co_obj (Nat.le_of_ble_eq_true rfl) (Nat.le_of_ble_eq_true rfl) ?_
  refine lk_aload_n d_Mo_init_4 rfl ?_
  refine lk_bipush (v := 24) d_Mo_init_5 rfl ?_
  obtain ⟨n1, en1, h⟩ := x_b h
  replace en1 := Option.some.inj en1
  obtain ⟨s2, es2, h⟩ := x_b h
  replace es2 := Option.some.inj es2
  refine lkn_newarray 26 10472 0 24 d_Mo_init_7 ac_int (by decide) rfl (by decide) rfl (by decide) rfl rfl rfl ?_
  rw [es2, en1]
  obtain ⟨a3, ha3, h⟩ := x_b h
  obtain ⟨s4, es4, h⟩ := x_b h
  replace es4 := Option.some.inj es4
  refine lk_putFR (k := 3) d_Mo_init_9 ha3 (by decide) rfl (by decide) fl_Mo_7 rfl rfl rfl rfl ?_
  rw [es4]
  refine lk_aload_n d_Mo_init_12 rfl ?_
  refine lk_bipush (v := 20) d_Mo_init_13 rfl ?_
  obtain ⟨n5, en5, h⟩ := x_b h
  replace en5 := Option.some.inj en5
  obtain ⟨s6, es6, h⟩ := x_b h
  replace es6 := Option.some.inj es6
  refine lkn_newarray 25 10452 0 20 d_Mo_init_15 ac_int (by decide) rfl (by decide) rfl (by decide) rfl rfl rfl ?_
  rw [es6, en5]
  obtain ⟨a7, ha7, h⟩ := x_b h
  obtain ⟨s8, es8, h⟩ := x_b h
  replace es8 := Option.some.inj es8
  refine lk_putFR (k := 5) d_Mo_init_17 ha7 (by decide) rfl (by decide) fl_Mo_13 rfl rfl rfl rfl ?_
  rw [es8]
  refine lk_aload_n d_Mo_init_20 rfl ?_
  refine lk_bipush (v := 64) d_Mo_init_21 rfl ?_
  obtain ⟨n9, en9, h⟩ := x_b h
  replace en9 := Option.some.inj en9
  obtain ⟨s10, es10, h⟩ := x_b h
  replace es10 := Option.some.inj es10
  refine lkn_newarray 24 10388 0 64 d_Mo_init_23 ac_int (by decide) rfl (by decide) rfl (by decide) rfl rfl rfl ?_
  rw [es10, en9]
  obtain ⟨a11, ha11, h⟩ := x_b h
  obtain ⟨s12, es12, h⟩ := x_b h
  replace es12 := Option.some.inj es12
  refine lk_putFR (k := 7) d_Mo_init_25 ha11 (by decide) rfl (by decide) fl_Mo_16 rfl rfl rfl rfl ?_
  rw [es12]
  refine lk_aload_n d_Mo_init_28 rfl ?_
  refine lk_bipush (v := 64) d_Mo_init_29 rfl ?_
  obtain ⟨n13, en13, h⟩ := x_b h
  replace en13 := Option.some.inj en13
  obtain ⟨s14, es14, h⟩ := x_b h
  replace es14 := Option.some.inj es14
  refine lkn_newarray 23 10324 0 64 d_Mo_init_31 ac_int (by decide) rfl (by decide) rfl (by decide) rfl rfl rfl ?_
  rw [es14, en13]
  obtain ⟨a15, ha15, h⟩ := x_b h
  obtain ⟨s16, es16, h⟩ := x_b h
  replace es16 := Option.some.inj es16
  refine lk_putFR (k := 8) d_Mo_init_33 ha15 (by decide) rfl (by decide) fl_Mo_19 rfl rfl rfl rfl ?_
  rw [es16]
  refine lk_aload_n d_Mo_init_36 rfl ?_
  refine lk_bipush (v := 64) d_Mo_init_37 rfl ?_
  obtain ⟨n17, en17, h⟩ := x_b h
  replace en17 := Option.some.inj en17
  obtain ⟨s18, es18, h⟩ := x_b h
  replace es18 := Option.some.inj es18
  refine lkn_newarray 22 10260 0 64 d_Mo_init_39 ac_int (by decide) rfl (by decide) rfl (by decide) rfl rfl rfl ?_
  rw [es18, en17]
  obtain ⟨a19, ha19, h⟩ := x_b h
  obtain ⟨s20, es20, h⟩ := x_b h
  replace es20 := Option.some.inj es20
  refine lk_putFR (k := 9) d_Mo_init_41 ha19 (by decide) rfl (by decide) fl_Mo_22 rfl rfl rfl rfl ?_
  rw [es20]
  refine lk_aload_n d_Mo_init_44 rfl ?_
  refine lk_bipush (v := 64) d_Mo_init_45 rfl ?_
  obtain ⟨n21, en21, h⟩ := x_b h
  replace en21 := Option.some.inj en21
  obtain ⟨s22, es22, h⟩ := x_b h
  replace es22 := Option.some.inj es22
  refine lkn_newarray 21 10196 0 64 d_Mo_init_47 ac_int (by decide) rfl (by decide) rfl (by decide) rfl rfl rfl ?_
  rw [es22, en21]
  obtain ⟨a23, ha23, h⟩ := x_b h
  obtain ⟨s24, es24, h⟩ := x_b h
  replace es24 := Option.some.inj es24
  refine lk_putFR (k := 11) d_Mo_init_49 ha23 (by decide) rfl (by decide) fl_Mo_25 rfl rfl rfl rfl ?_
  rw [es24]
  refine lk_aload_n d_Mo_init_52 rfl ?_
  refine lk_bipush (v := 64) d_Mo_init_53 rfl ?_
  obtain ⟨n25, en25, h⟩ := x_b h
  replace en25 := Option.some.inj en25
  obtain ⟨s26, es26, h⟩ := x_b h
  replace es26 := Option.some.inj es26
  refine lkn_newarray 20 10132 0 64 d_Mo_init_55 ac_int (by decide) rfl (by decide) rfl (by decide) rfl rfl rfl ?_
  rw [es26, en25]
  obtain ⟨a27, ha27, h⟩ := x_b h
  obtain ⟨s28, es28, h⟩ := x_b h
  replace es28 := Option.some.inj es28
  refine lk_putFR (k := 12) d_Mo_init_57 ha27 (by decide) rfl (by decide) fl_Mo_28 rfl rfl rfl rfl ?_
  rw [es28]
  refine lk_aload_n d_Mo_init_60 rfl ?_
  refine lk_bipush (v := 64) d_Mo_init_61 rfl ?_
  obtain ⟨n29, en29, h⟩ := x_b h
  replace en29 := Option.some.inj en29
  obtain ⟨s30, es30, h⟩ := x_b h
  replace es30 := Option.some.inj es30
  refine lkn_newarray 19 10068 0 64 d_Mo_init_63 ac_int (by decide) rfl (by decide) rfl (by decide) rfl rfl rfl ?_
  rw [es30, en29]
  obtain ⟨a31, ha31, h⟩ := x_b h
  obtain ⟨s32, es32, h⟩ := x_b h
  replace es32 := Option.some.inj es32
  refine lk_putFR (k := 13) d_Mo_init_65 ha31 (by decide) rfl (by decide) fl_Mo_31 rfl rfl rfl rfl ?_
  rw [es32]
  refine lk_aload_n d_Mo_init_68 rfl ?_
  refine lk_bipush (v := 64) d_Mo_init_69 rfl ?_
  obtain ⟨n33, en33, h⟩ := x_b h
  replace en33 := Option.some.inj en33
  obtain ⟨s34, es34, h⟩ := x_b h
  replace es34 := Option.some.inj es34
  refine lkn_newarray 18 10004 0 64 d_Mo_init_71 ac_int (by decide) rfl (by decide) rfl (by decide) rfl rfl rfl ?_
  rw [es34, en33]
  obtain ⟨a35, ha35, h⟩ := x_b h
  obtain ⟨s36, es36, h⟩ := x_b h
  replace es36 := Option.some.inj es36
  refine lk_putFR (k := 17) d_Mo_init_73 ha35 (by decide) rfl (by decide) fl_Mo_34 rfl rfl rfl rfl ?_
  rw [es36]
  refine lk_aload_n d_Mo_init_76 rfl ?_
  refine lk_sipush (v := 600) d_Mo_init_77 rfl ?_
  obtain ⟨n37, en37, h⟩ := x_b h
  replace en37 := Option.some.inj en37
  obtain ⟨s38, es38, h⟩ := x_b h
  replace es38 := Option.some.inj es38
  refine lkn_newarray 17 9404 0 600 d_Mo_init_80 ac_int (by decide) rfl (by decide) rfl (by decide) rfl rfl rfl ?_
  rw [es38, en37]
  obtain ⟨a39, ha39, h⟩ := x_b h
  obtain ⟨s40, es40, h⟩ := x_b h
  replace es40 := Option.some.inj es40
  refine lk_putFR (k := 19) d_Mo_init_82 ha39 (by decide) rfl (by decide) fl_Mo_37 rfl rfl rfl rfl ?_
  rw [es40]
  refine lk_aload_n d_Mo_init_85 rfl ?_
  refine lk_sipush (v := 600) d_Mo_init_86 rfl ?_
  obtain ⟨n41, en41, h⟩ := x_b h
  replace en41 := Option.some.inj en41
  obtain ⟨s42, es42, h⟩ := x_b h
  replace es42 := Option.some.inj es42
  refine lkn_newarray 16 8804 0 600 d_Mo_init_89 ac_int (by decide) rfl (by decide) rfl (by decide) rfl rfl rfl ?_
  rw [es42, en41]
  obtain ⟨a43, ha43, h⟩ := x_b h
  obtain ⟨s44, es44, h⟩ := x_b h
  replace es44 := Option.some.inj es44
  refine lk_putFR (k := 20) d_Mo_init_91 ha43 (by decide) rfl (by decide) fl_Mo_40 rfl rfl rfl rfl ?_
  rw [es44]
  refine lk_aload_n d_Mo_init_94 rfl ?_
  refine lk_sipush (v := 4800) d_Mo_init_95 rfl ?_
  obtain ⟨n45, en45, h⟩ := x_b h
  replace en45 := Option.some.inj en45
  obtain ⟨s46, es46, h⟩ := x_b h
  replace es46 := Option.some.inj es46
  refine lkn_newarray 15 4004 0 4800 d_Mo_init_98 ac_int (by decide) rfl (by decide) rfl (by decide) rfl rfl rfl ?_
  rw [es46, en45]
  obtain ⟨a47, ha47, h⟩ := x_b h
  obtain ⟨s48, es48, h⟩ := x_b h
  replace es48 := Option.some.inj es48
  refine lk_putFR (k := 21) d_Mo_init_100 ha47 (by decide) rfl (by decide) fl_Mo_43 rfl rfl rfl rfl ?_
  rw [es48]
  refine lk_aload_n d_Mo_init_103 rfl ?_
  refine lk_bipush (v := 8) d_Mo_init_104 rfl ?_
  obtain ⟨n49, en49, h⟩ := x_b h
  replace en49 := Option.some.inj en49
  obtain ⟨s50, es50, h⟩ := x_b h
  replace es50 := Option.some.inj es50
  refine lkn_newarray 14 3996 0 8 d_Mo_init_106 ac_int (by decide) rfl (by decide) rfl (by decide) rfl rfl rfl ?_
  rw [es50, en49]
  obtain ⟨a51, ha51, h⟩ := x_b h
  obtain ⟨s52, es52, h⟩ := x_b h
  replace es52 := Option.some.inj es52
  refine lk_putFR (k := 22) d_Mo_init_108 ha51 (by decide) rfl (by decide) fl_Mo_46 rfl rfl rfl rfl ?_
  rw [es52]
  refine lk_aload_n d_Mo_init_111 rfl ?_
  refine lk_iconst (v := 2) d_Mo_init_112 rfl ?_
  obtain ⟨n53, en53, h⟩ := x_b h
  replace en53 := Option.some.inj en53
  obtain ⟨s54, es54, h⟩ := x_b h
  replace es54 := Option.some.inj es54
  refine lkn_newarray 13 3994 0 2 d_Mo_init_113 ac_int (by decide) rfl (by decide) rfl (by decide) rfl rfl rfl ?_
  rw [es54, en53]
  obtain ⟨a55, ha55, h⟩ := x_b h
  obtain ⟨s56, es56, h⟩ := x_b h
  replace es56 := Option.some.inj es56
  refine lk_putFR (k := 23) d_Mo_init_115 ha55 (by decide) rfl (by decide) fl_Mo_49 rfl rfl rfl rfl ?_
  rw [es56]
  refine lk_aload_n d_Mo_init_118 rfl ?_
  refine lk_sipush (v := 128) d_Mo_init_119 rfl ?_
  obtain ⟨n57, en57, h⟩ := x_b h
  replace en57 := Option.some.inj en57
  obtain ⟨s58, es58, h⟩ := x_b h
  replace es58 := Option.some.inj es58
  refine lkn_newarray 12 3866 0 128 d_Mo_init_122 ac_int (by decide) rfl (by decide) rfl (by decide) rfl rfl rfl ?_
  rw [es58, en57]
  obtain ⟨a59, ha59, h⟩ := x_b h
  obtain ⟨s60, es60, h⟩ := x_b h
  replace es60 := Option.some.inj es60
  refine lk_putFR (k := 24) d_Mo_init_124 ha59 (by decide) rfl (by decide) fl_Mo_52 rfl rfl rfl rfl ?_
  rw [es60]
  refine lk_aload_n d_Mo_init_127 rfl ?_
  refine lk_sipush (v := 1024) d_Mo_init_128 rfl ?_
  obtain ⟨n61, en61, h⟩ := x_b h
  replace en61 := Option.some.inj en61
  obtain ⟨s62, es62, h⟩ := x_b h
  replace es62 := Option.some.inj es62
  refine lkn_newarray 11 2842 0 1024 d_Mo_init_131 ac_int (by decide) rfl (by decide) rfl (by decide) rfl rfl rfl ?_
  rw [es62, en61]
  obtain ⟨a63, ha63, h⟩ := x_b h
  obtain ⟨s64, es64, h⟩ := x_b h
  replace es64 := Option.some.inj es64
  refine lk_putFR (k := 25) d_Mo_init_133 ha63 (by decide) rfl (by decide) fl_Mo_55 rfl rfl rfl rfl ?_
  rw [es64]
  refine lk_aload_n d_Mo_init_136 rfl ?_
  refine lk_sipush (v := 1344) d_Mo_init_137 rfl ?_
  obtain ⟨n65, en65, h⟩ := x_b h
  replace en65 := Option.some.inj en65
  obtain ⟨s66, es66, h⟩ := x_b h
  replace es66 := Option.some.inj es66
  refine lkn_newarray 10 1498 3 1344 d_Mo_init_140 ac_boolean (by decide) rfl (by decide) rfl (by decide) rfl rfl rfl ?_
  rw [es66, en65]
  obtain ⟨a67, ha67, h⟩ := x_b h
  obtain ⟨s68, es68, h⟩ := x_b h
  replace es68 := Option.some.inj es68
  refine lk_putFR (k := 26) d_Mo_init_142 ha67 (by decide) rfl (by decide) fl_Mo_58 rfl rfl rfl rfl ?_
  rw [es68]
  refine lk_aload_n d_Mo_init_145 rfl ?_
  refine lk_bipush (v := 19) d_Mo_init_146 rfl ?_
  obtain ⟨n69, en69, h⟩ := x_b h
  replace en69 := Option.some.inj en69
  obtain ⟨s70, es70, h⟩ := x_b h
  replace es70 := Option.some.inj es70
  refine lkn_newarray 9 1479 0 19 d_Mo_init_148 ac_int (by decide) rfl (by decide) rfl (by decide) rfl rfl rfl ?_
  rw [es70, en69]
  obtain ⟨a71, ha71, h⟩ := x_b h
  obtain ⟨s72, es72, h⟩ := x_b h
  replace es72 := Option.some.inj es72
  refine lk_putFR (k := 30) d_Mo_init_150 ha71 (by decide) rfl (by decide) fl_Mo_62 rfl rfl rfl rfl ?_
  rw [es72]
  refine lk_aload_n d_Mo_init_153 rfl ?_
  refine lk_sipush (v := 1216) d_Mo_init_154 rfl ?_
  obtain ⟨n73, en73, h⟩ := x_b h
  replace en73 := Option.some.inj en73
  obtain ⟨s74, es74, h⟩ := x_b h
  replace es74 := Option.some.inj es74
  refine lkn_newarray 8 263 0 1216 d_Mo_init_157 ac_int (by decide) rfl (by decide) rfl (by decide) rfl rfl rfl ?_
  rw [es74, en73]
  obtain ⟨a75, ha75, h⟩ := x_b h
  obtain ⟨s76, es76, h⟩ := x_b h
  replace es76 := Option.some.inj es76
  refine lk_putFR (k := 31) d_Mo_init_159 ha75 (by decide) rfl (by decide) fl_Mo_65 rfl rfl rfl rfl ?_
  rw [es76]
  refine lk_aload_n d_Mo_init_162 rfl ?_
  refine lk_bipush (v := 19) d_Mo_init_163 rfl ?_
  obtain ⟨n77, en77, h⟩ := x_b h
  replace en77 := Option.some.inj en77
  obtain ⟨s78, es78, h⟩ := x_b h
  replace es78 := Option.some.inj es78
  refine lkn_newarray 7 244 3 19 d_Mo_init_165 ac_boolean (by decide) rfl (by decide) rfl (by decide) rfl rfl rfl ?_
  rw [es78, en77]
  obtain ⟨a79, ha79, h⟩ := x_b h
  obtain ⟨s80, es80, h⟩ := x_b h
  replace es80 := Option.some.inj es80
  refine lk_putFR (k := 32) d_Mo_init_167 ha79 (by decide) rfl (by decide) fl_Mo_68 rfl rfl rfl rfl ?_
  rw [es80]
  refine lk_aload_n d_Mo_init_170 rfl ?_
  refine lk_sipush (v := 152) d_Mo_init_171 rfl ?_
  obtain ⟨n81, en81, h⟩ := x_b h
  replace en81 := Option.some.inj en81
  obtain ⟨s82, es82, h⟩ := x_b h
  replace es82 := Option.some.inj es82
  refine lkn_newarray 6 92 0 152 d_Mo_init_174 ac_int (by decide) rfl (by decide) rfl (by decide) rfl rfl rfl ?_
  rw [es82, en81]
  obtain ⟨a83, ha83, h⟩ := x_b h
  obtain ⟨s84, es84, h⟩ := x_b h
  replace es84 := Option.some.inj es84
  refine lk_putFR (k := 33) d_Mo_init_176 ha83 (by decide) rfl (by decide) fl_Mo_71 rfl rfl rfl rfl ?_
  rw [es84]
  refine lk_aload_n d_Mo_init_179 rfl ?_
  refine lk_bipush (v := 64) d_Mo_init_180 rfl ?_
  obtain ⟨n85, en85, h⟩ := x_b h
  replace en85 := Option.some.inj en85
  obtain ⟨s86, es86, h⟩ := x_b h
  replace es86 := Option.some.inj es86
  refine lkn_newarray 5 28 0 64 d_Mo_init_182 ac_int (by decide) rfl (by decide) rfl (by decide) rfl rfl rfl ?_
  rw [es86, en85]
  obtain ⟨a87, ha87, h⟩ := x_b h
  obtain ⟨s88, es88, h⟩ := x_b h
  replace es88 := Option.some.inj es88
  refine lk_putFR (k := 35) d_Mo_init_184 ha87 (by decide) rfl (by decide) fl_Mo_74 rfl rfl rfl rfl ?_
  rw [es88]
  refine lk_aload_n d_Mo_init_187 rfl ?_
  refine lk_iconst (v := (-1)) d_Mo_init_188 rfl ?_
  obtain ⟨a89, ha89, h⟩ := x_b h
  obtain ⟨s90, es90, h⟩ := x_b h
  replace es90 := Option.some.inj es90
  refine lk_putI (k := 37) d_Mo_init_189 ha89 (by decide) rfl (by decide) lf_Mo_77 rfl rfl ?_
  rw [es90]
  refine lk_aload_n d_Mo_init_192 rfl ?_
  refine lk_iconst (v := (-1)) d_Mo_init_193 rfl ?_
  obtain ⟨a91, ha91, h⟩ := x_b h
  obtain ⟨s92, es92, h⟩ := x_b h
  replace es92 := Option.some.inj es92
  refine lk_putI (k := 38) d_Mo_init_194 ha91 (by decide) rfl (by decide) lf_Mo_81 rfl rfl ?_
  rw [es92]
  refine lk_aload_n d_Mo_init_197 rfl ?_
  refine lk_bipush (v := 8) d_Mo_init_198 rfl ?_
  obtain ⟨n93, en93, h⟩ := x_b h
  replace en93 := Option.some.inj en93
  obtain ⟨s94, es94, h⟩ := x_b h
  replace es94 := Option.some.inj es94
  refine lkn_newarray 4 20 0 8 d_Mo_init_200 ac_int (by decide) rfl (by decide) rfl (by decide) rfl rfl rfl ?_
  rw [es94, en93]
  obtain ⟨a95, ha95, h⟩ := x_b h
  obtain ⟨s96, es96, h⟩ := x_b h
  replace es96 := Option.some.inj es96
  refine lk_putFR (k := 40) d_Mo_init_202 ha95 (by decide) rfl (by decide) fl_Mo_84 rfl rfl rfl rfl ?_
  rw [es96]
  refine lk_aload_n d_Mo_init_205 rfl ?_
  refine lk_iconst (v := 4) d_Mo_init_206 rfl ?_
  obtain ⟨n97, en97, h⟩ := x_b h
  replace en97 := Option.some.inj en97
  obtain ⟨s98, es98, h⟩ := x_b h
  replace es98 := Option.some.inj es98
  refine lkn_newarray 3 16 0 4 d_Mo_init_207 ac_int (by decide) rfl (by decide) rfl (by decide) rfl rfl rfl ?_
  rw [es98, en97]
  obtain ⟨a99, ha99, h⟩ := x_b h
  obtain ⟨s100, es100, h⟩ := x_b h
  replace es100 := Option.some.inj es100
  refine lk_putFR (k := 41) d_Mo_init_209 ha99 (by decide) rfl (by decide) fl_Mo_87 rfl rfl rfl rfl ?_
  rw [es100]
  refine lk_aload_n d_Mo_init_212 rfl ?_
  refine lk_iconst (v := 4) d_Mo_init_213 rfl ?_
  obtain ⟨n101, en101, h⟩ := x_b h
  replace en101 := Option.some.inj en101
  obtain ⟨s102, es102, h⟩ := x_b h
  replace es102 := Option.some.inj es102
  refine lkn_newarray 2 12 0 4 d_Mo_init_214 ac_int (by decide) rfl (by decide) rfl (by decide) rfl rfl rfl ?_
  rw [es102, en101]
  obtain ⟨a103, ha103, h⟩ := x_b h
  obtain ⟨s104, es104, h⟩ := x_b h
  replace es104 := Option.some.inj es104
  refine lk_putFR (k := 42) d_Mo_init_216 ha103 (by decide) rfl (by decide) fl_Mo_90 rfl rfl rfl rfl ?_
  rw [es104]
  refine lk_aload_n d_Mo_init_219 rfl ?_
  refine lk_iconst (v := 4) d_Mo_init_220 rfl ?_
  obtain ⟨n105, en105, h⟩ := x_b h
  replace en105 := Option.some.inj en105
  obtain ⟨s106, es106, h⟩ := x_b h
  replace es106 := Option.some.inj es106
  refine lkn_newarray 1 8 0 4 d_Mo_init_221 ac_int (by decide) rfl (by decide) rfl (by decide) rfl rfl rfl ?_
  rw [es106, en105]
  obtain ⟨a107, ha107, h⟩ := x_b h
  obtain ⟨s108, es108, h⟩ := x_b h
  replace es108 := Option.some.inj es108
  refine lk_putFR (k := 43) d_Mo_init_223 ha107 (by decide) rfl (by decide) fl_Mo_93 rfl rfl rfl rfl ?_
  rw [es108]
  refine lk_aload_n d_Mo_init_226 rfl ?_
  refine lk_bipush (v := 8) d_Mo_init_227 rfl ?_
  obtain ⟨n109, en109, h⟩ := x_b h
  replace en109 := Option.some.inj en109
  obtain ⟨s110, es110, h⟩ := x_b h
  replace es110 := Option.some.inj es110
  refine lkn_newarray 0 0 0 8 d_Mo_init_229 ac_int (by decide) rfl (by decide) rfl (by decide) rfl rfl rfl ?_
  rw [es110, en109]
  obtain ⟨a111, ha111, h⟩ := x_b h
  obtain ⟨s112, es112, h⟩ := x_b h
  replace es112 := Option.some.inj es112
  refine lk_putFR (k := 44) d_Mo_init_231 ha111 (by decide) rfl (by decide) fl_Mo_96 rfl rfl rfl rfl ?_
  rw [es112]
  refine lk_aload_n d_Mo_init_234 rfl ?_
  refine lk_iconst (v := 3) d_Mo_init_235 rfl ?_
  refine lk_iload_n d_Mo_init_236 rfl ?_
  refine lk_bipush (v := 15) d_Mo_init_237 rfl ?_
  refine lk_iand d_Mo_init_239 ?_
  refine lk_iadd d_Mo_init_240 ?_
  obtain ⟨a113, ha113, h⟩ := x_b h
  obtain ⟨s114, es114, h⟩ := x_b h
  replace es114 := Option.some.inj es114
  refine lk_putFI (k := 1) d_Mo_init_241 ha113 (by decide) rfl (by decide) fl_Mo_99 rfl rfl rfl rfl ?_
  rw [es114]
  cases h
  exact Lk.stop ⟨rfl, Or.inl ⟨d_Mo_init_244, rfl, rfl, rfl⟩⟩
