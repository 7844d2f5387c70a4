/-! WHAT THE METHODS DO: partial functions f_ over the view, loops L_, and the proofs c_, l_ that the bytecode does so; printed by wip/whole/gen_dec.py -/
def f_C_withSlot (w0 : Int64) (x2 : Int32) (x3 : Int32) (s : hv_S) : Option (Int64 × hv_S) :=
  (some ((5 : Int32) * x2)).bind fun y1 =>
  some (((w0 &&& (((31 : Int64) <<< (y1.toInt64 &&& 63)) ^^^ ((-1)))) ||| (((x3 + (1 : Int32)).toInt64) <<< (y1.toInt64 &&& 63)), s))
set_option maxRecDepth 4000 in
set_option maxHeartbeats 2000000 in
theorem c_C_withSlot {G : lt_G} {w0 : Int64} {x2 : Int32} {x3 : Int32} {s : hv_S} {p : Int64 × hv_S} (h : f_C_withSlot w0 x2 x3 s = some p) : Ck G m_C_withSlot 1 0 0 [vJ w0, vI x2, vI x3] s (some (vJ p.1)) p.2 := by
  refine Ck.of (by decide) (Nat.le_of_ble_eq_true rfl) ?_
  unfold f_C_withSlot at h
  refine lk_iconst (v := 5) d_C_withSlot_0 rfl ?_
  refine lk_iload_n d_C_withSlot_1 rfl ?_
  refine lk_imul d_C_withSlot_2 ?_
  replace h := x_nm h
  refine lk_istore d_C_withSlot_3 (by decide) rfl ?_
  refine lk_lload_n d_C_withSlot_5 rfl ?_
  refine lk_ldc2 d_C_withSlot_6 lj_C_203 ?_
  refine lk_iload d_C_withSlot_9 rfl ?_
  refine lk_lshl d_C_withSlot_11 ?_
  refine lk_ldc2 d_C_withSlot_12 lj_C_205 ?_
  refine lk_lxor d_C_withSlot_15 ?_
  refine lk_land d_C_withSlot_16 ?_
  refine lk_iload_n d_C_withSlot_17 rfl ?_
  refine lk_iconst (v := 1) d_C_withSlot_18 rfl ?_
  refine lk_iadd d_C_withSlot_19 ?_
  refine lk_i2l d_C_withSlot_20 ?_
  refine lk_iload d_C_withSlot_21 rfl ?_
  refine lk_lshl d_C_withSlot_23 ?_
  refine lk_lor d_C_withSlot_24 ?_
  cases h
  exact Lk.stop ⟨rfl, Or.inr (Or.inr (Or.inl ⟨_, d_C_withSlot_25, rfl, rfl, rfl⟩))⟩
def f_C_placeIn (w0 : Int64) (x2 : Int32) (s : hv_S) : Option (Int32 × hv_S) :=
  some ((((((w0.toUInt64 >>> (((5 : Int32) * x2).toInt64.toUInt64 &&& Int64.toUInt64 63)).toInt64) &&& (31 : Int64)).toInt32) - (1 : Int32), s))
set_option maxRecDepth 4000 in
set_option maxHeartbeats 2000000 in
theorem c_C_placeIn {G : lt_G} {w0 : Int64} {x2 : Int32} {s : hv_S} {p : Int32 × hv_S} (h : f_C_placeIn w0 x2 s = some p) : Ck G m_C_placeIn 1 0 0 [vJ w0, vI x2] s (some (vI p.1)) p.2 := by
  refine Ck.of (by decide) (Nat.le_of_ble_eq_true rfl) ?_
  unfold f_C_placeIn at h
  refine lk_lload_n d_C_placeIn_0 rfl ?_
  refine lk_iconst (v := 5) d_C_placeIn_1 rfl ?_
  refine lk_iload_n d_C_placeIn_2 rfl ?_
  refine lk_imul d_C_placeIn_3 ?_
  refine lk_lushr d_C_placeIn_4 ?_
  refine lk_ldc2 d_C_placeIn_5 lj_C_203 ?_
  refine lk_land d_C_placeIn_8 ?_
  refine lk_l2i d_C_placeIn_9 ?_
  refine lk_iconst (v := 1) d_C_placeIn_10 rfl ?_
  refine lk_isub d_C_placeIn_11 ?_
  cases h
  exact Lk.stop ⟨rfl, Or.inr (Or.inl ⟨_, _, d_C_placeIn_12, rfl, rfl, rfl, rfl⟩)⟩
def f_C_slotsFrom (x0 : Int32) (s : hv_S) : Option (Int64 × hv_S) :=
  (f_C_withSlot 0 0 x0 s).bind fun p1 =>
  some ((p1.1, p1.2))
set_option maxRecDepth 4000 in
set_option maxHeartbeats 2000000 in
theorem c_C_slotsFrom {G : lt_G} {x0 : Int32} {s : hv_S} {p : Int64 × hv_S} (h : f_C_slotsFrom x0 s = some p) : Ck G m_C_slotsFrom 2 0 0 [vI x0] s (some (vJ p.1)) p.2 := by
  refine Ck.of (by decide) (Nat.le_of_ble_eq_true rfl) ?_
  unfold f_C_slotsFrom at h
  refine lk_lconst (v := 0) d_C_slotsFrom_0 rfl ?_
  refine lk_iconst (v := 0) d_C_slotsFrom_1 rfl ?_
  refine lk_iload_n d_C_slotsFrom_2 rfl ?_
  obtain ⟨p1, hp1, h⟩ := x_b h
  refine lk_callS0 d_C_slotsFrom_3 (c_C_withSlot hp1) (Nat.le_of_ble_eq_true rfl) rfl M_C_withSlot lm_C_207 st_C_withSlot (Nat.le_of_ble_eq_true rfl) ?_
  cases h
  exact Lk.stop ⟨rfl, Or.inr (Or.inr (Or.inl ⟨_, d_C_slotsFrom_6, rfl, rfl, rfl⟩))⟩
def L_St_fill_26 : Nat → Option Nat → Option Nat → Option Nat → Int32 → hv_S → Option (hv_S)
  | 0, _, _, _, _, _ => none
  | n + 1, x0, x1, x2, x4, s =>
    (x_ob s 5 x2).bind fun a7 =>
    (f_TL_size a7 s).bind fun p8 =>
    if p8.1 ≤ x4 then
      some p8.2
    else
      if 25 ≤ x4 then
        some p8.2
      else
        (x_ob p8.2 10 x0).bind fun a9 =>
        if (hv_I p8.2 a9 4) = 0 then
          (x_ob p8.2 5 x2).bind fun a10 =>
          (f_TL_instructionAt a10 x4 p8.2).bind fun p11 =>
          (x_ar p11.2 0 (hv_R p8.2 a9 0)).bind fun q12 =>
          (x_ix q12.2 x4).bind fun k13 =>
          (some (hv_setI p11.2 q12.1 k13 p11.1)).bind fun s14 =>
          (x_ob s14 10 x0).bind fun a15 =>
          (x_ar s14 0 (hv_R s14 a15 0)).bind fun q16 =>
          (x_ix q16.2 x4).bind fun k17 =>
          (x_ob s14 8 x1).bind fun a18 =>
          (f_Pr_kindAt a18 (hv_I s14 q16.1 k17) s14).bind fun p19 =>
          ((
            if p19.1 = 7 then
              some 1
            else
              some 0
          ) : Option (Int32)).bind fun t20 =>
          (x_ob p19.2 10 x0).bind fun a21 =>
          (x_z t20).bind fun z22 =>
          (some (hv_setI p19.2 a21 4 z22)).bind fun s23 =>
          (some (hv_setI s23 a21 2 ((hv_I s23 a21 2) + (1 : Int32)))).bind fun s24 =>
          L_St_fill_26 n x0 x1 x2 (x4 + 1) s24
        else
          some p8.2
set_option maxRecDepth 4000 in
set_option maxHeartbeats 2000000 in
theorem l_St_fill_26 {G : lt_G} : ∀ (n : Nat) (x0 : Option Nat) (x1 : Option Nat) (x2 : Option Nat) (x4 : Int32) (s : hv_S) (e0 : hv_S), L_St_fill_26 n x0 x1 x2 x4 s = some e0 → Lk G m_St_fill 2 26 [(0, vR x0), (1, vR x1), (2, vR x2), (4, vI x4)] [] s 0 0 (lk_at 103 [] [] e0 0 0) := by
  intro n
  induction n with
  | zero => intro x0 x1 x2 x4 s e0 h; cases h
  | succ n ih =>
    intro x0 x1 x2 x4 s e0 h
    unfold L_St_fill_26 at h
    refine lk_iload d_St_fill_26 rfl ?_
    refine lk_aload_n d_St_fill_28 rfl ?_
    obtain ⟨a7, ha7, h⟩ := x_b h
    obtain ⟨p8, hp8, h⟩ := x_b h
    refine lk_callV0 d_St_fill_29 (x_obm ha7 rfl) (c_TL_size hp8) (Nat.le_of_ble_eq_true rfl) rfl M_TL_size lm_St_35 in_TL_size se_TL_size (by decide) rfl (Nat.le_of_ble_eq_true rfl) ?_
    refine lk_icmp_ge (tgt := 103) d_St_fill_32 (by decide) (fun hc => ?_) (fun hc => ?_)
    · replace h := x_ifp hc h
      cases h
      refine Lk.sel [] rfl ?_
      exact Lk.stop ⟨rfl, rfl, rfl, rfl, rfl, rfl⟩
    · replace h := x_ifn hc h
      refine lk_iload d_St_fill_35 rfl ?_
      refine lk_bipush (v := 25) d_St_fill_37 rfl ?_
      refine lk_icmp_ge (tgt := 103) d_St_fill_39 (by decide) (fun hc => ?_) (fun hc => ?_)
      · replace h := x_ifp hc h
        cases h
        refine Lk.sel [] rfl ?_
        exact Lk.stop ⟨rfl, rfl, rfl, rfl, rfl, rfl⟩
      · replace h := x_ifn hc h
        refine lk_aload_n d_St_fill_42 rfl ?_
        obtain ⟨a9, ha9, h⟩ := x_b h
        refine lk_getI (k := 4) d_St_fill_43 ha9 (by decide) rfl (by decide) lf_St_26 rfl ?_
        refine lk_if_ne (tgt := 103) d_St_fill_46 (by decide) (fun hc => ?_) (fun hc => ?_)
        · replace h := x_ifn hc h
          cases h
          refine Lk.sel [] rfl ?_
          exact Lk.stop ⟨rfl, rfl, rfl, rfl, rfl, rfl⟩
        · replace h := x_ifp hc h
          refine lk_aload_n d_St_fill_49 rfl ?_
          refine lk_getR (k := 0) d_St_fill_50 ha9 (by decide) rfl (by decide) lf_St_9 rfl ?_
          refine lk_iload d_St_fill_53 rfl ?_
          refine lk_aload_n d_St_fill_55 rfl ?_
          refine lk_iload d_St_fill_56 rfl ?_
          obtain ⟨a10, ha10, h⟩ := x_b h
          obtain ⟨p11, hp11, h⟩ := x_b h
          refine lk_callV0 d_St_fill_58 (x_obm ha10 rfl) (c_TL_instructionAt hp11) (Nat.le_of_ble_eq_true rfl) rfl M_TL_instructionAt lm_St_40 in_TL_instructionAt se_TL_instructionAt (by decide) rfl (Nat.le_of_ble_eq_true rfl) ?_
          obtain ⟨q12, hq12, h⟩ := x_b h
          obtain ⟨k13, hk13, h⟩ := x_b h
          replace h := x_nm h
          refine lk_iast d_St_fill_61 hq12 hk13 ?_
          refine lk_aload_n d_St_fill_62 rfl ?_
          refine lk_aload_n d_St_fill_63 rfl ?_
          refine lk_aload_n d_St_fill_64 rfl ?_
          obtain ⟨a15, ha15, h⟩ := x_b h
          refine lk_getR (k := 0) d_St_fill_65 ha15 (by decide) rfl (by decide) lf_St_9 rfl ?_
          refine lk_iload d_St_fill_68 rfl ?_
          obtain ⟨q16, hq16, h⟩ := x_b h
          obtain ⟨k17, hk17, h⟩ := x_b h
          refine lk_iald d_St_fill_70 hq16 hk17 ?_
          obtain ⟨a18, ha18, h⟩ := x_b h
          obtain ⟨p19, hp19, h⟩ := x_b h
          refine lk_callV0 d_St_fill_71 (x_obm ha18 rfl) (c_Pr_kindAt hp19) (Nat.le_of_ble_eq_true rfl) rfl M_Pr_kindAt lm_St_44 in_Pr_kindAt se_Pr_kindAt (by decide) rfl (Nat.le_of_ble_eq_true rfl) ?_
          refine lk_bipush (v := 7) d_St_fill_74 rfl ?_
          obtain ⟨t20, hj, h⟩ := x_b h
          refine Lk.joinA 84 [0, 1, 2, 4] [] rfl 2 [vI t20] ?_ ?_
          · replace h := hj
            refine lk_icmp_ne (tgt := 83) d_St_fill_76 (by decide) (fun hc => ?_) (fun hc => ?_)
            · replace h := x_ifn hc h
              refine lk_iconst (v := 0) d_St_fill_83 rfl ?_
              cases h
              refine Lk.sel [0, 1, 2, 4] rfl ?_
              exact Lk.stop ⟨rfl, rfl, rfl, rfl, rfl, rfl⟩
            · replace h := x_ifp hc h
              refine lk_iconst (v := 1) d_St_fill_79 rfl ?_
              refine lk_goto (tgt := 84) d_St_fill_80 (by decide) ?_
              cases h
              refine Lk.sel [0, 1, 2, 4] rfl ?_
              exact Lk.stop ⟨rfl, rfl, rfl, rfl, rfl, rfl⟩
          · clear hj
            obtain ⟨a21, ha21, h⟩ := x_b h
            obtain ⟨z22, hz220, h⟩ := x_b h
            obtain ⟨rfl, hz22⟩ := x_z_some hz220
            replace h := x_nm h
            refine lk_putZ (k := 4) d_St_fill_84 ha21 hz22 (by decide) rfl (by decide) lf_St_26 rfl rfl ?_
            refine lk_aload_n d_St_fill_87 rfl ?_
            refine lk_dup d_St_fill_88 rfl ?_
            refine lk_getI (k := 2) d_St_fill_89 ha21 (by decide) rfl (by decide) lf_St_18 rfl ?_
            refine lk_iconst (v := 1) d_St_fill_92 rfl ?_
            refine lk_iadd d_St_fill_93 ?_
            replace h := x_nm h
            refine lk_putI (k := 2) d_St_fill_94 ha21 (by decide) rfl (by decide) lf_St_18 rfl rfl ?_
            refine lk_iinc (v := _ + 1) d_St_fill_97 rfl rfl (by decide) rfl ?_
            refine lk_goto (tgt := 26) d_St_fill_100 (by decide) ?_
            refine Lk.sel [0, 1, 2, 4] rfl ?_
            exact ih _ _ _ _ _ _ h
def f_St_fill (z0 : Nat) (r1 : Option Nat) (r2 : Option Nat) (x3 : Int32) (s : hv_S) : Option (hv_S) :=
  (x_ob s 10 ((some z0))).bind fun a1 =>
  (some (hv_setI s a1 2 0)).bind fun s2 =>
  (x_z x3).bind fun z3 =>
  (some (hv_setI s2 a1 3 z3)).bind fun s4 =>
  (some (hv_setI s4 a1 4 0)).bind fun s5 =>
  (f_Ar_fillI (hv_R s5 a1 1) ((-1)) s5).bind fun p6 =>
  (L_St_fill_26 100000 ((some z0)) r1 r2 0 p6).bind fun e25 =>
  some e25
set_option maxRecDepth 4000 in
set_option maxHeartbeats 2000000 in
theorem c_St_fill {G : lt_G} {z0 : Nat} {r1 : Option Nat} {r2 : Option Nat} {x3 : Int32} {s : hv_S} {p : hv_S} (h : f_St_fill z0 r1 r2 x3 s = some p) : Ck G m_St_fill 2 0 0 [vR (some z0), vR r1, vR r2, vI x3] s none p := by
  refine Ck.of (by decide) (Nat.le_of_ble_eq_true rfl) ?_
  unfold f_St_fill at h
  refine lk_aload_n d_St_fill_0 rfl ?_
  refine lk_iconst (v := 0) d_St_fill_1 rfl ?_
  obtain ⟨a1, ha1, h⟩ := x_b h
  replace h := x_nm h
  refine lk_putI (k := 2) d_St_fill_2 ha1 (by decide) rfl (by decide) lf_St_18 rfl rfl ?_
  refine lk_aload_n d_St_fill_5 rfl ?_
  refine lk_iload_n d_St_fill_6 rfl ?_
  obtain ⟨z3, hz30, h⟩ := x_b h
  obtain ⟨rfl, hz3⟩ := x_z_some hz30
  replace h := x_nm h
  refine lk_putZ (k := 3) d_St_fill_7 ha1 hz3 (by decide) rfl (by decide) lf_St_22 rfl rfl ?_
  refine lk_aload_n d_St_fill_10 rfl ?_
  refine lk_iconst (v := 0) d_St_fill_11 rfl ?_
  replace h := x_nm h
  refine lk_putZ (k := 4) d_St_fill_12 ha1 (by decide) (by decide) rfl (by decide) lf_St_26 rfl rfl ?_
  refine lk_aload_n d_St_fill_15 rfl ?_
  refine lk_getR (k := 1) d_St_fill_16 ha1 (by decide) rfl (by decide) lf_St_15 rfl ?_
  refine lk_iconst (v := (-1)) d_St_fill_19 rfl ?_
  obtain ⟨p6, hp6, h⟩ := x_b h
  refine lk_callS0 d_St_fill_20 (c_Ar_fillI hp6) (Nat.le_of_ble_eq_true rfl) rfl M_Ar_fillI lm_St_29 st_Ar_fillI (Nat.le_of_ble_eq_true rfl) ?_
  refine lk_iconst (v := 0) d_St_fill_23 rfl ?_
  refine lk_istore d_St_fill_24 (by decide) rfl ?_
  obtain ⟨e25, hl, h⟩ := x_b h
  refine Lk.sel [0, 1, 2, 4] rfl ?_
  refine Lk.trans (l_St_fill_26 _ _ _ _ _ _ _ hl) ?_
  intro pc' lo' st' s' mc' ms' hx
  obtain ⟨rfl, rfl, rfl, rfl, rfl, rfl⟩ := hx
  cases h
  exact Lk.stop ⟨rfl, Or.inl ⟨d_St_fill_103, rfl, rfl, rfl⟩⟩
def L_St_isSameAs_26 : Nat → Option Nat → Option Nat → Int32 → hv_S → Option ((hv_S) ⊕ (Int32 × hv_S))
  | 0, _, _, _, _ => none
  | n + 1, x0, x1, x2, s =>
    (x_ob s 10 x0).bind fun a3 =>
    if (hv_I s a3 2) ≤ x2 then
      some (.inl s)
    else
      if 25 ≤ x2 then
        some (.inl s)
      else
        (x_ar s 0 (hv_R s a3 0)).bind fun q4 =>
        (x_ix q4.2 x2).bind fun k5 =>
        (x_ob s 10 x1).bind fun a6 =>
        (x_ar s 0 (hv_R s a6 0)).bind fun q7 =>
        (x_ix q7.2 x2).bind fun k8 =>
        if (hv_I s q4.1 k5) = (hv_I s q7.1 k8) then
          L_St_isSameAs_26 n x0 x1 (x2 + 1) s
        else
          some (.inr ((0, s)))
set_option maxRecDepth 4000 in
set_option maxHeartbeats 2000000 in
theorem l_St_isSameAs_26 {G : lt_G} : ∀ (n : Nat) (x0 : Option Nat) (x1 : Option Nat) (x2 : Int32) (s : hv_S) (e0 : (hv_S) ⊕ (Int32 × hv_S)), L_St_isSameAs_26 n x0 x1 x2 s = some e0 → Lk G m_St_isSameAs 1 26 [(0, vR x0), (1, vR x1), (2, vI x2)] [] s 0 0 (fun a b c d e f => match e0 with | .inl t => lk_at 63 [] [] t 0 0 a b c d e f | .inr w => lk_end m_St_isSameAs (some (vI w.1)) w.2 a b c d e f) := by
  intro n
  induction n with
  | zero => intro x0 x1 x2 s e0 h; cases h
  | succ n ih =>
    intro x0 x1 x2 s e0 h
    unfold L_St_isSameAs_26 at h
    refine lk_iload_n d_St_isSameAs_26 rfl ?_
    refine lk_aload_n d_St_isSameAs_27 rfl ?_
    obtain ⟨a3, ha3, h⟩ := x_b h
    refine lk_getI (k := 2) d_St_isSameAs_28 ha3 (by decide) rfl (by decide) lf_St_18 rfl ?_
    refine lk_icmp_ge (tgt := 63) d_St_isSameAs_31 (by decide) (fun hc => ?_) (fun hc => ?_)
    · replace h := x_ifp hc h
      cases h
      refine Lk.sel [] rfl ?_
      exact Lk.stop ⟨rfl, rfl, rfl, rfl, rfl, rfl⟩
    · replace h := x_ifn hc h
      refine lk_iload_n d_St_isSameAs_34 rfl ?_
      refine lk_bipush (v := 25) d_St_isSameAs_35 rfl ?_
      refine lk_icmp_ge (tgt := 63) d_St_isSameAs_37 (by decide) (fun hc => ?_) (fun hc => ?_)
      · replace h := x_ifp hc h
        cases h
        refine Lk.sel [] rfl ?_
        exact Lk.stop ⟨rfl, rfl, rfl, rfl, rfl, rfl⟩
      · replace h := x_ifn hc h
        refine lk_aload_n d_St_isSameAs_40 rfl ?_
        refine lk_getR (k := 0) d_St_isSameAs_41 ha3 (by decide) rfl (by decide) lf_St_9 rfl ?_
        refine lk_iload_n d_St_isSameAs_44 rfl ?_
        obtain ⟨q4, hq4, h⟩ := x_b h
        obtain ⟨k5, hk5, h⟩ := x_b h
        refine lk_iald d_St_isSameAs_45 hq4 hk5 ?_
        refine lk_aload_n d_St_isSameAs_46 rfl ?_
        obtain ⟨a6, ha6, h⟩ := x_b h
        refine lk_getR (k := 0) d_St_isSameAs_47 ha6 (by decide) rfl (by decide) lf_St_9 rfl ?_
        refine lk_iload_n d_St_isSameAs_50 rfl ?_
        obtain ⟨q7, hq7, h⟩ := x_b h
        obtain ⟨k8, hk8, h⟩ := x_b h
        refine lk_iald d_St_isSameAs_51 hq7 hk8 ?_
        refine lk_icmp_eq (tgt := 57) d_St_isSameAs_52 (by decide) (fun hc => ?_) (fun hc => ?_)
        · replace h := x_ifp hc h
          refine lk_iinc (v := _ + 1) d_St_isSameAs_57 rfl rfl (by decide) rfl ?_
          refine lk_goto (tgt := 26) d_St_isSameAs_60 (by decide) ?_
          refine Lk.sel [0, 1, 2] rfl ?_
          exact ih _ _ _ _ _ h
        · replace h := x_ifn hc h
          refine lk_iconst (v := 0) d_St_isSameAs_55 rfl ?_
          cases h
          exact Lk.stop ⟨rfl, Or.inr (Or.inl ⟨_, _, d_St_isSameAs_56, rfl, rfl, rfl, rfl⟩)⟩
def f_St_isSameAs (z0 : Nat) (r1 : Option Nat) (s : hv_S) : Option (Int32 × hv_S) :=
  (x_ob s 10 ((some z0))).bind fun a1 =>
  (x_ob s 10 r1).bind fun a2 =>
  if (hv_I s a1 2) = (hv_I s a2 2) then
    if (hv_I s a1 3) = (hv_I s a2 3) then
      (L_St_isSameAs_26 100000 ((some z0)) r1 0 s).bind fun e9r => e9r.elim (fun e9 =>
        some ((1, e9))
      ) (fun w => some w)
    else
      some ((0, s))
  else
    some ((0, s))
set_option maxRecDepth 4000 in
set_option maxHeartbeats 2000000 in
theorem c_St_isSameAs {G : lt_G} {z0 : Nat} {r1 : Option Nat} {s : hv_S} {p : Int32 × hv_S} (h : f_St_isSameAs z0 r1 s = some p) : Ck G m_St_isSameAs 1 0 0 [vR (some z0), vR r1] s (some (vI p.1)) p.2 := by
  refine Ck.of (by decide) (Nat.le_of_ble_eq_true rfl) ?_
  unfold f_St_isSameAs at h
  refine lk_aload_n d_St_isSameAs_0 rfl ?_
  obtain ⟨a1, ha1, h⟩ := x_b h
  refine lk_getI (k := 2) d_St_isSameAs_1 ha1 (by decide) rfl (by decide) lf_St_18 rfl ?_
  refine lk_aload_n d_St_isSameAs_4 rfl ?_
  obtain ⟨a2, ha2, h⟩ := x_b h
  refine lk_getI (k := 2) d_St_isSameAs_5 ha2 (by decide) rfl (by decide) lf_St_18 rfl ?_
  refine lk_icmp_ne (tgt := 22) d_St_isSameAs_8 (by decide) (fun hc => ?_) (fun hc => ?_)
  · replace h := x_ifn hc h
    refine lk_iconst (v := 0) d_St_isSameAs_22 rfl ?_
    cases h
    exact Lk.stop ⟨rfl, Or.inr (Or.inl ⟨_, _, d_St_isSameAs_23, rfl, rfl, rfl, rfl⟩)⟩
  · replace h := x_ifp hc h
    refine lk_aload_n d_St_isSameAs_11 rfl ?_
    refine lk_getI (k := 3) d_St_isSameAs_12 ha1 (by decide) rfl (by decide) lf_St_22 rfl ?_
    refine lk_aload_n d_St_isSameAs_15 rfl ?_
    refine lk_getI (k := 3) d_St_isSameAs_16 ha2 (by decide) rfl (by decide) lf_St_22 rfl ?_
    refine lk_icmp_eq (tgt := 24) d_St_isSameAs_19 (by decide) (fun hc => ?_) (fun hc => ?_)
    · replace h := x_ifp hc h
      refine lk_iconst (v := 0) d_St_isSameAs_24 rfl ?_
      refine lk_istore_n d_St_isSameAs_25 (by decide) rfl ?_
      obtain ⟨e9r, hl, h⟩ := x_b h
      refine Lk.sel [0, 1, 2] rfl ?_
      refine Lk.trans (l_St_isSameAs_26 _ _ _ _ _ _ hl) ?_
      intro pc' lo' st' s' mc' ms' hx
      cases e9r with
      | inl e9 =>
        obtain ⟨rfl, rfl, rfl, rfl, rfl, rfl⟩ := hx
        refine lk_iconst (v := 1) d_St_isSameAs_63 rfl ?_
        cases h
        exact Lk.stop ⟨rfl, Or.inr (Or.inl ⟨_, _, d_St_isSameAs_64, rfl, rfl, rfl, rfl⟩)⟩
      | inr w =>
        cases h
        exact Lk.stop hx
    · replace h := x_ifn hc h
      refine lk_iconst (v := 0) d_St_isSameAs_22 rfl ?_
      cases h
      exact Lk.stop ⟨rfl, Or.inr (Or.inl ⟨_, _, d_St_isSameAs_23, rfl, rfl, rfl, rfl⟩)⟩
def f_St_isOver (z0 : Nat) (s : hv_S) : Option (Int32 × hv_S) :=
  (x_ob s 10 ((some z0))).bind fun a1 =>
  ((
    if (hv_I s a1 3) = 0 then
      if (hv_I s a1 2) = 0 then
        some 1
      else
        some 0
    else
      some 0
  ) : Option (Int32)).bind fun t2 =>
  (x_z t2).bind fun z3 =>
  some ((z3, s))
set_option maxRecDepth 4000 in
set_option maxHeartbeats 2000000 in
theorem c_St_isOver {G : lt_G} {z0 : Nat} {s : hv_S} {p : Int32 × hv_S} (h : f_St_isOver z0 s = some p) : Ck G m_St_isOver 1 0 0 [vR (some z0)] s (some (vI p.1)) p.2 := by
  refine Ck.of (by decide) (Nat.le_of_ble_eq_true rfl) ?_
  unfold f_St_isOver at h
  refine lk_aload_n d_St_isOver_0 rfl ?_
  obtain ⟨a1, ha1, h⟩ := x_b h
  refine lk_getI (k := 3) d_St_isOver_1 ha1 (by decide) rfl (by decide) lf_St_22 rfl ?_
  obtain ⟨t2, hj, h⟩ := x_b h
  refine Lk.joinA 19 [] [] rfl 1 [vI t2] ?_ ?_
  · replace h := hj
    refine lk_if_ne (tgt := 18) d_St_isOver_4 (by decide) (fun hc => ?_) (fun hc => ?_)
    · replace h := x_ifn hc h
      refine lk_iconst (v := 0) d_St_isOver_18 rfl ?_
      cases h
      refine Lk.sel [] rfl ?_
      exact Lk.stop ⟨rfl, rfl, rfl, rfl, rfl, rfl⟩
    · replace h := x_ifp hc h
      refine lk_aload_n d_St_isOver_7 rfl ?_
      refine lk_getI (k := 2) d_St_isOver_8 ha1 (by decide) rfl (by decide) lf_St_18 rfl ?_
      refine lk_if_ne (tgt := 18) d_St_isOver_11 (by decide) (fun hc => ?_) (fun hc => ?_)
      · replace h := x_ifn hc h
        refine lk_iconst (v := 0) d_St_isOver_18 rfl ?_
        cases h
        refine Lk.sel [] rfl ?_
        exact Lk.stop ⟨rfl, rfl, rfl, rfl, rfl, rfl⟩
      · replace h := x_ifp hc h
        refine lk_iconst (v := 1) d_St_isOver_14 rfl ?_
        refine lk_goto (tgt := 19) d_St_isOver_15 (by decide) ?_
        cases h
        refine Lk.sel [] rfl ?_
        exact Lk.stop ⟨rfl, rfl, rfl, rfl, rfl, rfl⟩
  · clear hj
    obtain ⟨z3, hz30, h⟩ := x_b h
    obtain ⟨rfl, hz3⟩ := x_z_some hz30
    cases h
    exact Lk.stop ⟨rfl, Or.inr (Or.inl ⟨_, _, d_St_isOver_19, rfl, x_zn hz3, rfl, rfl⟩)⟩
def f_St_opensNext (z0 : Nat) (s : hv_S) : Option (Int32 × hv_S) :=
  (x_ob s 10 ((some z0))).bind fun a1 =>
  ((
    if (hv_I s a1 3) = 0 then
      some 0
    else
      if (hv_I s a1 4) = 0 then
        some 1
      else
        some 0
  ) : Option (Int32)).bind fun t2 =>
  (x_z t2).bind fun z3 =>
  some ((z3, s))
set_option maxRecDepth 4000 in
set_option maxHeartbeats 2000000 in
theorem c_St_opensNext {G : lt_G} {z0 : Nat} {s : hv_S} {p : Int32 × hv_S} (h : f_St_opensNext z0 s = some p) : Ck G m_St_opensNext 1 0 0 [vR (some z0)] s (some (vI p.1)) p.2 := by
  refine Ck.of (by decide) (Nat.le_of_ble_eq_true rfl) ?_
  unfold f_St_opensNext at h
  refine lk_aload_n d_St_opensNext_0 rfl ?_
  obtain ⟨a1, ha1, h⟩ := x_b h
  refine lk_getI (k := 3) d_St_opensNext_1 ha1 (by decide) rfl (by decide) lf_St_22 rfl ?_
  obtain ⟨t2, hj, h⟩ := x_b h
  refine Lk.joinA 19 [] [] rfl 1 [vI t2] ?_ ?_
  · replace h := hj
    refine lk_if_eq (tgt := 18) d_St_opensNext_4 (by decide) (fun hc => ?_) (fun hc => ?_)
    · replace h := x_ifp hc h
      refine lk_iconst (v := 0) d_St_opensNext_18 rfl ?_
      cases h
      refine Lk.sel [] rfl ?_
      exact Lk.stop ⟨rfl, rfl, rfl, rfl, rfl, rfl⟩
    · replace h := x_ifn hc h
      refine lk_aload_n d_St_opensNext_7 rfl ?_
      refine lk_getI (k := 4) d_St_opensNext_8 ha1 (by decide) rfl (by decide) lf_St_26 rfl ?_
      refine lk_if_ne (tgt := 18) d_St_opensNext_11 (by decide) (fun hc => ?_) (fun hc => ?_)
      · replace h := x_ifn hc h
        refine lk_iconst (v := 0) d_St_opensNext_18 rfl ?_
        cases h
        refine Lk.sel [] rfl ?_
        exact Lk.stop ⟨rfl, rfl, rfl, rfl, rfl, rfl⟩
      · replace h := x_ifp hc h
        refine lk_iconst (v := 1) d_St_opensNext_14 rfl ?_
        refine lk_goto (tgt := 19) d_St_opensNext_15 (by decide) ?_
        cases h
        refine Lk.sel [] rfl ?_
        exact Lk.stop ⟨rfl, rfl, rfl, rfl, rfl, rfl⟩
  · clear hj
    obtain ⟨z3, hz30, h⟩ := x_b h
    obtain ⟨rfl, hz3⟩ := x_z_some hz30
    cases h
    exact Lk.stop ⟨rfl, Or.inr (Or.inl ⟨_, _, d_St_opensNext_19, rfl, x_zn hz3, rfl, rfl⟩)⟩
def f_St_entryAt (z0 : Nat) (x1 : Int32) (s : hv_S) : Option (Int32 × hv_S) :=
  ((
    if x1 < 0 then
      some ((-1))
    else
      (x_ob s 10 ((some z0))).bind fun a1 =>
      if (hv_I s a1 2) ≤ x1 then
        some ((-1))
      else
        if 25 ≤ x1 then
          some ((-1))
        else
          (x_ar s 0 (hv_R s a1 0)).bind fun q2 =>
          (x_ix q2.2 x1).bind fun k3 =>
          some (hv_I s q2.1 k3)
  ) : Option (Int32)).bind fun t4 =>
  some ((t4, s))
set_option maxRecDepth 4000 in
set_option maxHeartbeats 2000000 in
theorem c_St_entryAt {G : lt_G} {z0 : Nat} {x1 : Int32} {s : hv_S} {p : Int32 × hv_S} (h : f_St_entryAt z0 x1 s = some p) : Ck G m_St_entryAt 1 0 0 [vR (some z0), vI x1] s (some (vI p.1)) p.2 := by
  refine Ck.of (by decide) (Nat.le_of_ble_eq_true rfl) ?_
  unfold f_St_entryAt at h
  refine lk_iload_n d_St_entryAt_0 rfl ?_
  obtain ⟨t4, hj, h⟩ := x_b h
  refine Lk.joinA 28 [] [] rfl 1 [vI t4] ?_ ?_
  · replace h := hj
    refine lk_if_lt (tgt := 27) d_St_entryAt_1 (by decide) (fun hc => ?_) (fun hc => ?_)
    · replace h := x_ifp hc h
      refine lk_iconst (v := (-1)) d_St_entryAt_27 rfl ?_
      cases h
      refine Lk.sel [] rfl ?_
      exact Lk.stop ⟨rfl, rfl, rfl, rfl, rfl, rfl⟩
    · replace h := x_ifn hc h
      refine lk_iload_n d_St_entryAt_4 rfl ?_
      refine lk_aload_n d_St_entryAt_5 rfl ?_
      obtain ⟨a1, ha1, h⟩ := x_b h
      refine lk_getI (k := 2) d_St_entryAt_6 ha1 (by decide) rfl (by decide) lf_St_18 rfl ?_
      refine lk_icmp_ge (tgt := 27) d_St_entryAt_9 (by decide) (fun hc => ?_) (fun hc => ?_)
      · replace h := x_ifp hc h
        refine lk_iconst (v := (-1)) d_St_entryAt_27 rfl ?_
        cases h
        refine Lk.sel [] rfl ?_
        exact Lk.stop ⟨rfl, rfl, rfl, rfl, rfl, rfl⟩
      · replace h := x_ifn hc h
        refine lk_iload_n d_St_entryAt_12 rfl ?_
        refine lk_bipush (v := 25) d_St_entryAt_13 rfl ?_
        refine lk_icmp_ge (tgt := 27) d_St_entryAt_15 (by decide) (fun hc => ?_) (fun hc => ?_)
        · replace h := x_ifp hc h
          refine lk_iconst (v := (-1)) d_St_entryAt_27 rfl ?_
          cases h
          refine Lk.sel [] rfl ?_
          exact Lk.stop ⟨rfl, rfl, rfl, rfl, rfl, rfl⟩
        · replace h := x_ifn hc h
          refine lk_aload_n d_St_entryAt_18 rfl ?_
          refine lk_getR (k := 0) d_St_entryAt_19 ha1 (by decide) rfl (by decide) lf_St_9 rfl ?_
          refine lk_iload_n d_St_entryAt_22 rfl ?_
          obtain ⟨q2, hq2, h⟩ := x_b h
          obtain ⟨k3, hk3, h⟩ := x_b h
          refine lk_iald d_St_entryAt_23 hq2 hk3 ?_
          refine lk_goto (tgt := 28) d_St_entryAt_24 (by decide) ?_
          cases h
          refine Lk.sel [] rfl ?_
          exact Lk.stop ⟨rfl, rfl, rfl, rfl, rfl, rfl⟩
  · clear hj
    cases h
    exact Lk.stop ⟨rfl, Or.inr (Or.inl ⟨_, _, d_St_entryAt_28, rfl, rfl, rfl, rfl⟩)⟩
def f_St_leadBy (z0 : Nat) (x1 : Int32) (s : hv_S) : Option (Int32 × hv_S) :=
  ((
    if x1 < 0 then
      some ((-1))
    else
      if 8 ≤ x1 then
        some ((-1))
      else
        (x_ob s 10 ((some z0))).bind fun a1 =>
        (x_ar s 0 (hv_R s a1 1)).bind fun q2 =>
        (x_ix q2.2 x1).bind fun k3 =>
        some (hv_I s q2.1 k3)
  ) : Option (Int32)).bind fun t4 =>
  some ((t4, s))
set_option maxRecDepth 4000 in
set_option maxHeartbeats 2000000 in
theorem c_St_leadBy {G : lt_G} {z0 : Nat} {x1 : Int32} {s : hv_S} {p : Int32 × hv_S} (h : f_St_leadBy z0 x1 s = some p) : Ck G m_St_leadBy 1 0 0 [vR (some z0), vI x1] s (some (vI p.1)) p.2 := by
  refine Ck.of (by decide) (Nat.le_of_ble_eq_true rfl) ?_
  unfold f_St_leadBy at h
  refine lk_iload_n d_St_leadBy_0 rfl ?_
  obtain ⟨t4, hj, h⟩ := x_b h
  refine Lk.joinA 20 [] [] rfl 1 [vI t4] ?_ ?_
  · replace h := hj
    refine lk_if_lt (tgt := 19) d_St_leadBy_1 (by decide) (fun hc => ?_) (fun hc => ?_)
    · replace h := x_ifp hc h
      refine lk_iconst (v := (-1)) d_St_leadBy_19 rfl ?_
      cases h
      refine Lk.sel [] rfl ?_
      exact Lk.stop ⟨rfl, rfl, rfl, rfl, rfl, rfl⟩
    · replace h := x_ifn hc h
      refine lk_iload_n d_St_leadBy_4 rfl ?_
      refine lk_bipush (v := 8) d_St_leadBy_5 rfl ?_
      refine lk_icmp_ge (tgt := 19) d_St_leadBy_7 (by decide) (fun hc => ?_) (fun hc => ?_)
      · replace h := x_ifp hc h
        refine lk_iconst (v := (-1)) d_St_leadBy_19 rfl ?_
        cases h
        refine Lk.sel [] rfl ?_
        exact Lk.stop ⟨rfl, rfl, rfl, rfl, rfl, rfl⟩
      · replace h := x_ifn hc h
        refine lk_aload_n d_St_leadBy_10 rfl ?_
        obtain ⟨a1, ha1, h⟩ := x_b h
        refine lk_getR (k := 1) d_St_leadBy_11 ha1 (by decide) rfl (by decide) lf_St_15 rfl ?_
        refine lk_iload_n d_St_leadBy_14 rfl ?_
        obtain ⟨q2, hq2, h⟩ := x_b h
        obtain ⟨k3, hk3, h⟩ := x_b h
        refine lk_iald d_St_leadBy_15 hq2 hk3 ?_
        refine lk_goto (tgt := 20) d_St_leadBy_16 (by decide) ?_
        cases h
        refine Lk.sel [] rfl ?_
        exact Lk.stop ⟨rfl, rfl, rfl, rfl, rfl, rfl⟩
  · clear hj
    cases h
    exact Lk.stop ⟨rfl, Or.inr (Or.inl ⟨_, _, d_St_leadBy_20, rfl, rfl, rfl, rfl⟩)⟩
def f_St_setLead (z0 : Nat) (x1 : Int32) (x2 : Int32) (s : hv_S) : Option (hv_S) :=
  ((
    if x1 < 0 then
      some s
    else
      if 8 ≤ x1 then
        some s
      else
        (x_ob s 10 ((some z0))).bind fun a1 =>
        (x_ar s 0 (hv_R s a1 1)).bind fun q2 =>
        (x_ix q2.2 x1).bind fun k3 =>
        (some (hv_setI s q2.1 k3 x2)).bind fun s4 =>
        some s4
  ) : Option (hv_S)).bind fun t5 =>
  some t5
set_option maxRecDepth 4000 in
set_option maxHeartbeats 2000000 in
theorem c_St_setLead {G : lt_G} {z0 : Nat} {x1 : Int32} {x2 : Int32} {s : hv_S} {p : hv_S} (h : f_St_setLead z0 x1 x2 s = some p) : Ck G m_St_setLead 1 0 0 [vR (some z0), vI x1, vI x2] s none p := by
  refine Ck.of (by decide) (Nat.le_of_ble_eq_true rfl) ?_
  unfold f_St_setLead at h
  refine lk_iload_n d_St_setLead_0 rfl ?_
  obtain ⟨t5, hj, h⟩ := x_b h
  refine Lk.joinS 17 [] [] rfl 1 [] t5 ?_ ?_
  · replace h := hj
    refine lk_if_lt (tgt := 17) d_St_setLead_1 (by decide) (fun hc => ?_) (fun hc => ?_)
    · replace h := x_ifp hc h
      cases h
      refine Lk.sel [] rfl ?_
      exact Lk.stop ⟨rfl, rfl, rfl, rfl, rfl, rfl⟩
    · replace h := x_ifn hc h
      refine lk_iload_n d_St_setLead_4 rfl ?_
      refine lk_bipush (v := 8) d_St_setLead_5 rfl ?_
      refine lk_icmp_ge (tgt := 17) d_St_setLead_7 (by decide) (fun hc => ?_) (fun hc => ?_)
      · replace h := x_ifp hc h
        cases h
        refine Lk.sel [] rfl ?_
        exact Lk.stop ⟨rfl, rfl, rfl, rfl, rfl, rfl⟩
      · replace h := x_ifn hc h
        refine lk_aload_n d_St_setLead_10 rfl ?_
        obtain ⟨a1, ha1, h⟩ := x_b h
        refine lk_getR (k := 1) d_St_setLead_11 ha1 (by decide) rfl (by decide) lf_St_15 rfl ?_
        refine lk_iload_n d_St_setLead_14 rfl ?_
        refine lk_iload_n d_St_setLead_15 rfl ?_
        obtain ⟨q2, hq2, h⟩ := x_b h
        obtain ⟨k3, hk3, h⟩ := x_b h
        replace h := x_nm h
        refine lk_iast d_St_setLead_16 hq2 hk3 ?_
        cases h
        refine Lk.sel [] rfl ?_
        exact Lk.stop ⟨rfl, rfl, rfl, rfl, rfl, rfl⟩
  · clear hj
    cases h
    exact Lk.stop ⟨rfl, Or.inl ⟨d_St_setLead_17, rfl, rfl, rfl⟩⟩
def f_Fo_begin (z0 : Nat) (r1 : Option Nat) (r2 : Option Nat) (x3 : Int32) (x4 : Int32) (s : hv_S) : Option (hv_S) :=
  (x_ob s 4 ((some z0))).bind fun a1 =>
  (some (hv_setR s a1 5 r1)).bind fun s2 =>
  (some (hv_setR s2 a1 6 r2)).bind fun s3 =>
  (some (hv_setI s3 a1 7 x3)).bind fun s4 =>
  (some (hv_setI s4 a1 8 x4)).bind fun s5 =>
  (some (hv_setI s5 a1 2 0)).bind fun s6 =>
  (some (hv_setJ s6 a1 3 0)).bind fun s7 =>
  (some (hv_setI s7 a1 4 0)).bind fun s8 =>
  ((
    if (hv_R s8 a1 6) = none then
      some s8
    else
      (x_ob s8 5 (hv_R s8 a1 6)).bind fun a9 =>
      (f_TL_empty a9 s8).bind fun p10 =>
      some p10
  ) : Option (hv_S)).bind fun t11 =>
  some t11
set_option maxRecDepth 4000 in
set_option maxHeartbeats 2000000 in
theorem c_Fo_begin {G : lt_G} {z0 : Nat} {r1 : Option Nat} {r2 : Option Nat} {x3 : Int32} {x4 : Int32} {s : hv_S} {p : hv_S} (h : f_Fo_begin z0 r1 r2 x3 x4 s = some p) : Ck G m_Fo_begin 2 0 0 [vR (some z0), vR r1, vR r2, vI x3, vI x4] s none p := by
  refine Ck.of (by decide) (Nat.le_of_ble_eq_true rfl) ?_
  unfold f_Fo_begin at h
  refine lk_aload_n d_Fo_begin_0 rfl ?_
  refine lk_aload_n d_Fo_begin_1 rfl ?_
  obtain ⟨a1, ha1, h⟩ := x_b h
  replace h := x_nm h
  refine lk_putR (k := 5) d_Fo_begin_2 ha1 (by decide) rfl (by decide) lf_Fo_19 rfl rfl ?_
  refine lk_aload_n d_Fo_begin_5 rfl ?_
  refine lk_aload_n d_Fo_begin_6 rfl ?_
  replace h := x_nm h
  refine lk_putR (k := 6) d_Fo_begin_7 ha1 (by decide) rfl (by decide) lf_Fo_23 rfl rfl ?_
  refine lk_aload_n d_Fo_begin_10 rfl ?_
  refine lk_iload_n d_Fo_begin_11 rfl ?_
  replace h := x_nm h
  refine lk_putI (k := 7) d_Fo_begin_12 ha1 (by decide) rfl (by decide) lf_Fo_27 rfl rfl ?_
  refine lk_aload_n d_Fo_begin_15 rfl ?_
  refine lk_iload d_Fo_begin_16 rfl ?_
  replace h := x_nm h
  refine lk_putI (k := 8) d_Fo_begin_18 ha1 (by decide) rfl (by decide) lf_Fo_31 rfl rfl ?_
  refine lk_aload_n d_Fo_begin_21 rfl ?_
  refine lk_iconst (v := 0) d_Fo_begin_22 rfl ?_
  replace h := x_nm h
  refine lk_putI (k := 2) d_Fo_begin_23 ha1 (by decide) rfl (by decide) lf_Fo_34 rfl rfl ?_
  refine lk_aload_n d_Fo_begin_26 rfl ?_
  refine lk_lconst (v := 0) d_Fo_begin_27 rfl ?_
  replace h := x_nm h
  refine lk_putJ (k := 3) d_Fo_begin_28 ha1 (by decide) rfl (by decide) lf_Fo_37 rfl rfl ?_
  refine lk_aload_n d_Fo_begin_31 rfl ?_
  refine lk_iconst (v := 0) d_Fo_begin_32 rfl ?_
  replace h := x_nm h
  refine lk_putZ (k := 4) d_Fo_begin_33 ha1 (by decide) (by decide) rfl (by decide) lf_Fo_41 rfl rfl ?_
  refine lk_aload_n d_Fo_begin_36 rfl ?_
  refine lk_getR (k := 6) d_Fo_begin_37 ha1 (by decide) rfl (by decide) lf_Fo_23 rfl ?_
  obtain ⟨t11, hj, h⟩ := x_b h
  refine Lk.joinS 50 [] [] rfl 1 [] t11 ?_ ?_
  · replace h := hj
    refine lk_ifnull (tgt := 50) d_Fo_begin_40 (by decide) (fun hc => ?_) (fun hc => ?_)
    · replace h := x_ifp hc h
      cases h
      refine Lk.sel [] rfl ?_
      exact Lk.stop ⟨rfl, rfl, rfl, rfl, rfl, rfl⟩
    · replace h := x_ifn hc h
      refine lk_aload_n d_Fo_begin_43 rfl ?_
      refine lk_getR (k := 6) d_Fo_begin_44 ha1 (by decide) rfl (by decide) lf_Fo_23 rfl ?_
      obtain ⟨a9, ha9, h⟩ := x_b h
      obtain ⟨p10, hp10, h⟩ := x_b h
      refine lk_callV0 d_Fo_begin_47 (x_obm ha9 rfl) (c_TL_empty hp10) (Nat.le_of_ble_eq_true rfl) rfl M_TL_empty lm_Fo_45 in_TL_empty se_TL_empty (by decide) rfl (Nat.le_of_ble_eq_true rfl) ?_
      cases h
      refine Lk.sel [] rfl ?_
      exact Lk.stop ⟨rfl, rfl, rfl, rfl, rfl, rfl⟩
  · clear hj
    cases h
    exact Lk.stop ⟨rfl, Or.inl ⟨d_Fo_begin_50, rfl, rfl, rfl⟩⟩
def f_Fo_ruleAt (x0 : Int32) (r1 : Option Nat) (s : hv_S) : Option (Int32 × hv_S) :=
  (x_ob s 2 r1).bind fun a1 =>
  (f_Tx_length a1 s).bind fun p2 =>
  ((
    if x0 = p2.1 then
      some 1
    else
      some 0
  ) : Option (Int32)).bind fun t3 =>
  some ((t3, p2.2))
set_option maxRecDepth 4000 in
set_option maxHeartbeats 2000000 in
theorem c_Fo_ruleAt {G : lt_G} {x0 : Int32} {r1 : Option Nat} {s : hv_S} {p : Int32 × hv_S} (h : f_Fo_ruleAt x0 r1 s = some p) : Ck G m_Fo_ruleAt 2 0 0 [vI x0, vR r1] s (some (vI p.1)) p.2 := by
  refine Ck.of (by decide) (Nat.le_of_ble_eq_true rfl) ?_
  unfold f_Fo_ruleAt at h
  refine lk_iload_n d_Fo_ruleAt_0 rfl ?_
  refine lk_aload_n d_Fo_ruleAt_1 rfl ?_
  obtain ⟨a1, ha1, h⟩ := x_b h
  obtain ⟨p2, hp2, h⟩ := x_b h
  refine lk_callV0 d_Fo_ruleAt_2 (x_obm ha1 rfl) (c_Tx_length hp2) (Nat.le_of_ble_eq_true rfl) rfl M_Tx_length lm_Fo_50 in_Tx_length se_Tx_length (by decide) rfl (Nat.le_of_ble_eq_true rfl) ?_
  obtain ⟨t3, hj, h⟩ := x_b h
  refine Lk.joinA 13 [] [] rfl 2 [vI t3] ?_ ?_
  · replace h := hj
    refine lk_icmp_ne (tgt := 12) d_Fo_ruleAt_5 (by decide) (fun hc => ?_) (fun hc => ?_)
    · replace h := x_ifn hc h
      refine lk_iconst (v := 0) d_Fo_ruleAt_12 rfl ?_
      cases h
      refine Lk.sel [] rfl ?_
      exact Lk.stop ⟨rfl, rfl, rfl, rfl, rfl, rfl⟩
    · replace h := x_ifp hc h
      refine lk_iconst (v := 1) d_Fo_ruleAt_8 rfl ?_
      refine lk_goto (tgt := 13) d_Fo_ruleAt_9 (by decide) ?_
      cases h
      refine Lk.sel [] rfl ?_
      exact Lk.stop ⟨rfl, rfl, rfl, rfl, rfl, rfl⟩
  · clear hj
    cases h
    exact Lk.stop ⟨rfl, Or.inr (Or.inl ⟨_, _, d_Fo_ruleAt_13, rfl, rfl, rfl, rfl⟩)⟩
def f_Fo_cameTwice (z0 : Nat) (s : hv_S) : Option (Int32 × hv_S) :=
  (x_ob s 4 ((some z0))).bind fun a1 =>
  (x_z (hv_I s a1 4)).bind fun z2 =>
  some ((z2, s))
set_option maxRecDepth 4000 in
set_option maxHeartbeats 2000000 in
theorem c_Fo_cameTwice {G : lt_G} {z0 : Nat} {s : hv_S} {p : Int32 × hv_S} (h : f_Fo_cameTwice z0 s = some p) : Ck G m_Fo_cameTwice 1 0 0 [vR (some z0)] s (some (vI p.1)) p.2 := by
  refine Ck.of (by decide) (Nat.le_of_ble_eq_true rfl) ?_
  unfold f_Fo_cameTwice at h
  refine lk_aload_n d_Fo_cameTwice_0 rfl ?_
  obtain ⟨a1, ha1, h⟩ := x_b h
  refine lk_getI (k := 4) d_Fo_cameTwice_1 ha1 (by decide) rfl (by decide) lf_Fo_41 rfl ?_
  obtain ⟨z2, hz20, h⟩ := x_b h
  obtain ⟨rfl, hz2⟩ := x_z_some hz20
  cases h
  exact Lk.stop ⟨rfl, Or.inr (Or.inl ⟨_, _, d_Fo_cameTwice_4, rfl, x_zn hz2, rfl, rfl⟩)⟩
def f_Fo_push (z0 : Nat) (x1 : Int32) (w2 : Int64) (s : hv_S) : Option (hv_S) :=
  ((
    if x1 < 0 then
      some s
    else
      if 49 ≤ x1 then
        some s
      else
        (x_ob s 4 ((some z0))).bind fun a1 =>
        if (hv_I s a1 2) < 0 then
          some s
        else
          if 25 ≤ (hv_I s a1 2) then
            some s
          else
            (x_ar s 0 (hv_R s a1 0)).bind fun q2 =>
            (x_ix q2.2 (hv_I s a1 2)).bind fun k3 =>
            (some (hv_setI s q2.1 k3 x1)).bind fun s4 =>
            (x_ar s4 1 (hv_R s4 a1 1)).bind fun q5 =>
            (x_ix q5.2 (hv_I s4 a1 2)).bind fun k6 =>
            (some (hv_setJ s4 q5.1 k6 w2)).bind fun s7 =>
            (some (hv_setI s7 a1 2 ((hv_I s7 a1 2) + (1 : Int32)))).bind fun s8 =>
            some s8
  ) : Option (hv_S)).bind fun t9 =>
  some t9
set_option maxRecDepth 4000 in
set_option maxHeartbeats 2000000 in
theorem c_Fo_push {G : lt_G} {z0 : Nat} {x1 : Int32} {w2 : Int64} {s : hv_S} {p : hv_S} (h : f_Fo_push z0 x1 w2 s = some p) : Ck G m_Fo_push 1 0 0 [vR (some z0), vI x1, vJ w2] s none p := by
  refine Ck.of (by decide) (Nat.le_of_ble_eq_true rfl) ?_
  unfold f_Fo_push at h
  refine lk_iload_n d_Fo_push_0 rfl ?_
  obtain ⟨t9, hj, h⟩ := x_b h
  refine Lk.joinS 56 [] [] rfl 1 [] t9 ?_ ?_
  · replace h := hj
    refine lk_if_lt (tgt := 56) d_Fo_push_1 (by decide) (fun hc => ?_) (fun hc => ?_)
    · replace h := x_ifp hc h
      cases h
      refine Lk.sel [] rfl ?_
      exact Lk.stop ⟨rfl, rfl, rfl, rfl, rfl, rfl⟩
    · replace h := x_ifn hc h
      refine lk_iload_n d_Fo_push_4 rfl ?_
      refine lk_bipush (v := 49) d_Fo_push_5 rfl ?_
      refine lk_icmp_ge (tgt := 56) d_Fo_push_7 (by decide) (fun hc => ?_) (fun hc => ?_)
      · replace h := x_ifp hc h
        cases h
        refine Lk.sel [] rfl ?_
        exact Lk.stop ⟨rfl, rfl, rfl, rfl, rfl, rfl⟩
      · replace h := x_ifn hc h
        refine lk_aload_n d_Fo_push_10 rfl ?_
        obtain ⟨a1, ha1, h⟩ := x_b h
        refine lk_getI (k := 2) d_Fo_push_11 ha1 (by decide) rfl (by decide) lf_Fo_34 rfl ?_
        refine lk_if_lt (tgt := 56) d_Fo_push_14 (by decide) (fun hc => ?_) (fun hc => ?_)
        · replace h := x_ifp hc h
          cases h
          refine Lk.sel [] rfl ?_
          exact Lk.stop ⟨rfl, rfl, rfl, rfl, rfl, rfl⟩
        · replace h := x_ifn hc h
          refine lk_aload_n d_Fo_push_17 rfl ?_
          refine lk_getI (k := 2) d_Fo_push_18 ha1 (by decide) rfl (by decide) lf_Fo_34 rfl ?_
          refine lk_bipush (v := 25) d_Fo_push_21 rfl ?_
          refine lk_icmp_ge (tgt := 56) d_Fo_push_23 (by decide) (fun hc => ?_) (fun hc => ?_)
          · replace h := x_ifp hc h
            cases h
            refine Lk.sel [] rfl ?_
            exact Lk.stop ⟨rfl, rfl, rfl, rfl, rfl, rfl⟩
          · replace h := x_ifn hc h
            refine lk_aload_n d_Fo_push_26 rfl ?_
            refine lk_getR (k := 0) d_Fo_push_27 ha1 (by decide) rfl (by decide) lf_Fo_11 rfl ?_
            refine lk_aload_n d_Fo_push_30 rfl ?_
            refine lk_getI (k := 2) d_Fo_push_31 ha1 (by decide) rfl (by decide) lf_Fo_34 rfl ?_
            refine lk_iload_n d_Fo_push_34 rfl ?_
            obtain ⟨q2, hq2, h⟩ := x_b h
            obtain ⟨k3, hk3, h⟩ := x_b h
            replace h := x_nm h
            refine lk_iast d_Fo_push_35 hq2 hk3 ?_
            refine lk_aload_n d_Fo_push_36 rfl ?_
            refine lk_getR (k := 1) d_Fo_push_37 ha1 (by decide) rfl (by decide) lf_Fo_15 rfl ?_
            refine lk_aload_n d_Fo_push_40 rfl ?_
            refine lk_getI (k := 2) d_Fo_push_41 ha1 (by decide) rfl (by decide) lf_Fo_34 rfl ?_
            refine lk_lload_n d_Fo_push_44 rfl ?_
            obtain ⟨q5, hq5, h⟩ := x_b h
            obtain ⟨k6, hk6, h⟩ := x_b h
            replace h := x_nm h
            refine lk_last d_Fo_push_45 hq5 hk6 ?_
            refine lk_aload_n d_Fo_push_46 rfl ?_
            refine lk_dup d_Fo_push_47 rfl ?_
            refine lk_getI (k := 2) d_Fo_push_48 ha1 (by decide) rfl (by decide) lf_Fo_34 rfl ?_
            refine lk_iconst (v := 1) d_Fo_push_51 rfl ?_
            refine lk_iadd d_Fo_push_52 ?_
            replace h := x_nm h
            refine lk_putI (k := 2) d_Fo_push_53 ha1 (by decide) rfl (by decide) lf_Fo_34 rfl rfl ?_
            cases h
            refine Lk.sel [] rfl ?_
            exact Lk.stop ⟨rfl, rfl, rfl, rfl, rfl, rfl⟩
  · clear hj
    cases h
    exact Lk.stop ⟨rfl, Or.inl ⟨d_Fo_push_56, rfl, rfl, rfl⟩⟩
def f_Fo_step (z0 : Nat) (x1 : Int32) (w2 : Int64) (s : hv_S) : Option (hv_S) :=
  (some ((1 : Int64) <<< (x1.toInt64 &&& 63))).bind fun y1 =>
  (x_ob s 4 ((some z0))).bind fun a2 =>
  if (lg_cmp ((hv_J s a2 3) &&& y1) 0) = 0 then
    (some (hv_setJ s a2 3 ((hv_J s a2 3) ||| y1))).bind fun s3 =>
    (x_ob s3 8 (hv_R s3 a2 5)).bind fun a4 =>
    (f_Pr_kindAt a4 x1 s3).bind fun p5 =>
    ((
      if p5.1 = 2 then
        (x_ob p5.2 4 ((some z0))).bind fun a6 =>
        (x_ob p5.2 8 (hv_R p5.2 a6 5)).bind fun a7 =>
        (f_Pr_yAt a7 x1 p5.2).bind fun p8 =>
        (x_ob p8.2 4 ((some z0))).bind fun a9 =>
        (f_Fo_push a9 p8.1 w2 p8.2).bind fun p10 =>
        (x_ob p10 4 ((some z0))).bind fun a11 =>
        (x_ob p10 8 (hv_R p10 a11 5)).bind fun a12 =>
        (f_Pr_xAt a12 x1 p10).bind fun p13 =>
        (x_ob p13.2 4 ((some z0))).bind fun a14 =>
        (f_Fo_push a14 p13.1 w2 p13.2).bind fun p15 =>
        some p15
      else if p5.1 = 3 then
        (x_ob p5.2 4 ((some z0))).bind fun a16 =>
        (x_ob p5.2 8 (hv_R p5.2 a16 5)).bind fun a17 =>
        (f_Pr_xAt a17 x1 p5.2).bind fun p18 =>
        (x_ob p18.2 4 ((some z0))).bind fun a19 =>
        (f_Fo_push a19 p18.1 w2 p18.2).bind fun p20 =>
        some p20
      else if p5.1 = 4 then
        (x_ob p5.2 4 ((some z0))).bind fun a21 =>
        (x_ob p5.2 8 (hv_R p5.2 a21 5)).bind fun a22 =>
        (f_Pr_xAt a22 x1 p5.2).bind fun p23 =>
        (x_ob p23.2 4 ((some z0))).bind fun a24 =>
        (f_C_withSlot w2 p23.1 (hv_I p23.2 a24 7) p23.2).bind fun p25 =>
        (x_ob p25.2 4 ((some z0))).bind fun a26 =>
        (f_Fo_push a26 (x1 + (1 : Int32)) p25.1 p25.2).bind fun p27 =>
        some p27
      else if p5.1 = 5 then
        (x_ob p5.2 4 ((some z0))).bind fun a28 =>
        if (hv_I p5.2 a28 7) = 0 then
          (f_Fo_push a28 (x1 + (1 : Int32)) w2 p5.2).bind fun p29 =>
          some p29
        else
          some p5.2
      else if p5.1 = 6 then
        (x_ob p5.2 4 ((some z0))).bind fun a30 =>
        if (hv_I p5.2 a30 8) = 1 then
          (f_Fo_push a30 (x1 + (1 : Int32)) w2 p5.2).bind fun p33 =>
          some p33
        else
          if (hv_I p5.2 a30 8) = 2 then
            (x_ob p5.2 5 (hv_R p5.2 a30 6)).bind fun a31 =>
            (f_TL_add a31 x1 w2 p5.2).bind fun p32 =>
            some p32
          else
            some p5.2
      else
        (x_ob p5.2 4 ((some z0))).bind fun a34 =>
        (x_ob p5.2 5 (hv_R p5.2 a34 6)).bind fun a35 =>
        (f_TL_add a35 x1 w2 p5.2).bind fun p36 =>
        some p36
    ) : Option (hv_S)).bind fun t37 =>
    some t37
  else
    (some (hv_setI s a2 4 1)).bind fun s38 =>
    some s38
set_option maxRecDepth 4000 in
set_option maxHeartbeats 2000000 in
theorem c_Fo_step {G : lt_G} {z0 : Nat} {x1 : Int32} {w2 : Int64} {s : hv_S} {p : hv_S} (h : f_Fo_step z0 x1 w2 s = some p) : Ck G m_Fo_step 2 0 0 [vR (some z0), vI x1, vJ w2] s none p := by
  refine Ck.of (by decide) (Nat.le_of_ble_eq_true rfl) ?_
  unfold f_Fo_step at h
  refine lk_lconst (v := 1) d_Fo_step_0 rfl ?_
  refine lk_iload_n d_Fo_step_1 rfl ?_
  refine lk_lshl d_Fo_step_2 ?_
  replace h := x_nm h
  refine lk_lstore d_Fo_step_3 (by decide) rfl ?_
  refine lk_aload_n d_Fo_step_5 rfl ?_
  obtain ⟨a2, ha2, h⟩ := x_b h
  refine lk_getJ (k := 3) d_Fo_step_6 ha2 (by decide) rfl (by decide) lf_Fo_37 rfl ?_
  refine lk_lload d_Fo_step_9 rfl ?_
  refine lk_land d_Fo_step_11 ?_
  refine lk_lconst (v := 0) d_Fo_step_12 rfl ?_
  refine lk_lcmp d_Fo_step_13 ?_
  refine lk_if_eq (tgt := 23) d_Fo_step_14 (by decide) (fun hc => ?_) (fun hc => ?_)
  · replace h := x_ifp hc h
    refine lk_aload_n d_Fo_step_23 rfl ?_
    refine lk_dup d_Fo_step_24 rfl ?_
    refine lk_getJ (k := 3) d_Fo_step_25 ha2 (by decide) rfl (by decide) lf_Fo_37 rfl ?_
    refine lk_lload d_Fo_step_28 rfl ?_
    refine lk_lor d_Fo_step_30 ?_
    replace h := x_nm h
    refine lk_putJ (k := 3) d_Fo_step_31 ha2 (by decide) rfl (by decide) lf_Fo_37 rfl rfl ?_
    refine lk_aload_n d_Fo_step_34 rfl ?_
    refine lk_getR (k := 5) d_Fo_step_35 ha2 (by decide) rfl (by decide) lf_Fo_19 rfl ?_
    refine lk_iload_n d_Fo_step_38 rfl ?_
    obtain ⟨a4, ha4, h⟩ := x_b h
    obtain ⟨p5, hp5, h⟩ := x_b h
    refine lk_callV0 d_Fo_step_39 (x_obm ha4 rfl) (c_Pr_kindAt hp5) (Nat.le_of_ble_eq_true rfl) rfl M_Pr_kindAt lm_Fo_63 in_Pr_kindAt se_Pr_kindAt (by decide) rfl (Nat.le_of_ble_eq_true rfl) ?_
    obtain ⟨t37, hj, h⟩ := x_b h
    refine Lk.joinS 213 [] [] rfl 1 [] t37 ?_ ?_
    · replace h := hj
      rcases x_ifc h with ⟨g0, h⟩ | ⟨g0, h⟩
      · refine lk_tableIn (tgt := 76) d_Fo_step_42 (by rw [g0]; decide) (by rw [g0]; decide) (by rw [g0]; rfl) (by decide) ?_
        refine lk_aload_n d_Fo_step_76 rfl ?_
        refine lk_aload_n d_Fo_step_77 rfl ?_
        obtain ⟨a6, ha6, h⟩ := x_b h
        refine lk_getR (k := 5) d_Fo_step_78 ha6 (by decide) rfl (by decide) lf_Fo_19 rfl ?_
        refine lk_iload_n d_Fo_step_81 rfl ?_
        obtain ⟨a7, ha7, h⟩ := x_b h
        obtain ⟨p8, hp8, h⟩ := x_b h
        refine lk_callV0 d_Fo_step_82 (x_obm ha7 rfl) (c_Pr_yAt hp8) (Nat.le_of_ble_eq_true rfl) rfl M_Pr_yAt lm_Fo_69 in_Pr_yAt se_Pr_yAt (by decide) rfl (Nat.le_of_ble_eq_true rfl) ?_
        refine lk_lload_n d_Fo_step_85 rfl ?_
        obtain ⟨a9, ha9, h⟩ := x_b h
        obtain ⟨p10, hp10, h⟩ := x_b h
        refine lk_callV0 d_Fo_step_86 (x_obm ha9 rfl) (c_Fo_push hp10) (Nat.le_of_ble_eq_true rfl) rfl M_Fo_push lm_Fo_56 in_Fo_push se_Fo_push (by decide) rfl (Nat.le_of_ble_eq_true rfl) ?_
        refine lk_aload_n d_Fo_step_89 rfl ?_
        refine lk_aload_n d_Fo_step_90 rfl ?_
        obtain ⟨a11, ha11, h⟩ := x_b h
        refine lk_getR (k := 5) d_Fo_step_91 ha11 (by decide) rfl (by decide) lf_Fo_19 rfl ?_
        refine lk_iload_n d_Fo_step_94 rfl ?_
        obtain ⟨a12, ha12, h⟩ := x_b h
        obtain ⟨p13, hp13, h⟩ := x_b h
        refine lk_callV0 d_Fo_step_95 (x_obm ha12 rfl) (c_Pr_xAt hp13) (Nat.le_of_ble_eq_true rfl) rfl M_Pr_xAt lm_Fo_72 in_Pr_xAt se_Pr_xAt (by decide) rfl (Nat.le_of_ble_eq_true rfl) ?_
        refine lk_lload_n d_Fo_step_98 rfl ?_
        obtain ⟨a14, ha14, h⟩ := x_b h
        obtain ⟨p15, hp15, h⟩ := x_b h
        refine lk_callV0 d_Fo_step_99 (x_obm ha14 rfl) (c_Fo_push hp15) (Nat.le_of_ble_eq_true rfl) rfl M_Fo_push lm_Fo_56 in_Fo_push se_Fo_push (by decide) rfl (Nat.le_of_ble_eq_true rfl) ?_
        refine lk_goto (tgt := 213) d_Fo_step_102 (by decide) ?_
        cases h
        refine Lk.sel [] rfl ?_
        exact Lk.stop ⟨rfl, rfl, rfl, rfl, rfl, rfl⟩
      · rcases x_ifc h with ⟨g1, h⟩ | ⟨g1, h⟩
        · refine lk_tableIn (tgt := 105) d_Fo_step_42 (by rw [g1]; decide) (by rw [g1]; decide) (by rw [g1]; rfl) (by decide) ?_
          refine lk_aload_n d_Fo_step_105 rfl ?_
          refine lk_aload_n d_Fo_step_106 rfl ?_
          obtain ⟨a16, ha16, h⟩ := x_b h
          refine lk_getR (k := 5) d_Fo_step_107 ha16 (by decide) rfl (by decide) lf_Fo_19 rfl ?_
          refine lk_iload_n d_Fo_step_110 rfl ?_
          obtain ⟨a17, ha17, h⟩ := x_b h
          obtain ⟨p18, hp18, h⟩ := x_b h
          refine lk_callV0 d_Fo_step_111 (x_obm ha17 rfl) (c_Pr_xAt hp18) (Nat.le_of_ble_eq_true rfl) rfl M_Pr_xAt lm_Fo_72 in_Pr_xAt se_Pr_xAt (by decide) rfl (Nat.le_of_ble_eq_true rfl) ?_
          refine lk_lload_n d_Fo_step_114 rfl ?_
          obtain ⟨a19, ha19, h⟩ := x_b h
          obtain ⟨p20, hp20, h⟩ := x_b h
          refine lk_callV0 d_Fo_step_115 (x_obm ha19 rfl) (c_Fo_push hp20) (Nat.le_of_ble_eq_true rfl) rfl M_Fo_push lm_Fo_56 in_Fo_push se_Fo_push (by decide) rfl (Nat.le_of_ble_eq_true rfl) ?_
          refine lk_goto (tgt := 213) d_Fo_step_118 (by decide) ?_
          cases h
          refine Lk.sel [] rfl ?_
          exact Lk.stop ⟨rfl, rfl, rfl, rfl, rfl, rfl⟩
        · rcases x_ifc h with ⟨g2, h⟩ | ⟨g2, h⟩
          · refine lk_tableIn (tgt := 121) d_Fo_step_42 (by rw [g2]; decide) (by rw [g2]; decide) (by rw [g2]; rfl) (by decide) ?_
            refine lk_aload_n d_Fo_step_121 rfl ?_
            refine lk_iload_n d_Fo_step_122 rfl ?_
            refine lk_iconst (v := 1) d_Fo_step_123 rfl ?_
            refine lk_iadd d_Fo_step_124 ?_
            refine lk_lload_n d_Fo_step_125 rfl ?_
            refine lk_aload_n d_Fo_step_126 rfl ?_
            obtain ⟨a21, ha21, h⟩ := x_b h
            refine lk_getR (k := 5) d_Fo_step_127 ha21 (by decide) rfl (by decide) lf_Fo_19 rfl ?_
            refine lk_iload_n d_Fo_step_130 rfl ?_
            obtain ⟨a22, ha22, h⟩ := x_b h
            obtain ⟨p23, hp23, h⟩ := x_b h
            refine lk_callV0 d_Fo_step_131 (x_obm ha22 rfl) (c_Pr_xAt hp23) (Nat.le_of_ble_eq_true rfl) rfl M_Pr_xAt lm_Fo_72 in_Pr_xAt se_Pr_xAt (by decide) rfl (Nat.le_of_ble_eq_true rfl) ?_
            refine lk_aload_n d_Fo_step_134 rfl ?_
            obtain ⟨a24, ha24, h⟩ := x_b h
            refine lk_getI (k := 7) d_Fo_step_135 ha24 (by decide) rfl (by decide) lf_Fo_27 rfl ?_
            obtain ⟨p25, hp25, h⟩ := x_b h
            refine lk_callS0 d_Fo_step_138 (c_C_withSlot hp25) (Nat.le_of_ble_eq_true rfl) rfl M_C_withSlot lm_Fo_75 st_C_withSlot (Nat.le_of_ble_eq_true rfl) ?_
            obtain ⟨a26, ha26, h⟩ := x_b h
            obtain ⟨p27, hp27, h⟩ := x_b h
            refine lk_callV0 d_Fo_step_141 (x_obm ha26 rfl) (c_Fo_push hp27) (Nat.le_of_ble_eq_true rfl) rfl M_Fo_push lm_Fo_56 in_Fo_push se_Fo_push (by decide) rfl (Nat.le_of_ble_eq_true rfl) ?_
            refine lk_goto (tgt := 213) d_Fo_step_144 (by decide) ?_
            cases h
            refine Lk.sel [] rfl ?_
            exact Lk.stop ⟨rfl, rfl, rfl, rfl, rfl, rfl⟩
          · rcases x_ifc h with ⟨g3, h⟩ | ⟨g3, h⟩
            · refine lk_tableIn (tgt := 147) d_Fo_step_42 (by rw [g3]; decide) (by rw [g3]; decide) (by rw [g3]; rfl) (by decide) ?_
              refine lk_aload_n d_Fo_step_147 rfl ?_
              obtain ⟨a28, ha28, h⟩ := x_b h
              refine lk_getI (k := 7) d_Fo_step_148 ha28 (by decide) rfl (by decide) lf_Fo_27 rfl ?_
              refine lk_if_ne (tgt := 213) d_Fo_step_151 (by decide) (fun hc => ?_) (fun hc => ?_)
              · replace h := x_ifn hc h
                cases h
                refine Lk.sel [] rfl ?_
                exact Lk.stop ⟨rfl, rfl, rfl, rfl, rfl, rfl⟩
              · replace h := x_ifp hc h
                refine lk_aload_n d_Fo_step_154 rfl ?_
                refine lk_iload_n d_Fo_step_155 rfl ?_
                refine lk_iconst (v := 1) d_Fo_step_156 rfl ?_
                refine lk_iadd d_Fo_step_157 ?_
                refine lk_lload_n d_Fo_step_158 rfl ?_
                obtain ⟨p29, hp29, h⟩ := x_b h
                refine lk_callV0 d_Fo_step_159 (x_obm ha28 rfl) (c_Fo_push hp29) (Nat.le_of_ble_eq_true rfl) rfl M_Fo_push lm_Fo_56 in_Fo_push se_Fo_push (by decide) rfl (Nat.le_of_ble_eq_true rfl) ?_
                refine lk_goto (tgt := 213) d_Fo_step_162 (by decide) ?_
                cases h
                refine Lk.sel [] rfl ?_
                exact Lk.stop ⟨rfl, rfl, rfl, rfl, rfl, rfl⟩
            · rcases x_ifc h with ⟨g4, h⟩ | ⟨g4, h⟩
              · refine lk_tableIn (tgt := 165) d_Fo_step_42 (by rw [g4]; decide) (by rw [g4]; decide) (by rw [g4]; rfl) (by decide) ?_
                refine lk_aload_n d_Fo_step_165 rfl ?_
                obtain ⟨a30, ha30, h⟩ := x_b h
                refine lk_getI (k := 8) d_Fo_step_166 ha30 (by decide) rfl (by decide) lf_Fo_31 rfl ?_
                refine lk_iconst (v := 1) d_Fo_step_169 rfl ?_
                refine lk_icmp_ne (tgt := 184) d_Fo_step_170 (by decide) (fun hc => ?_) (fun hc => ?_)
                · replace h := x_ifn hc h
                  refine lk_aload_n d_Fo_step_184 rfl ?_
                  refine lk_getI (k := 8) d_Fo_step_185 ha30 (by decide) rfl (by decide) lf_Fo_31 rfl ?_
                  refine lk_iconst (v := 2) d_Fo_step_188 rfl ?_
                  refine lk_icmp_ne (tgt := 213) d_Fo_step_189 (by decide) (fun hc => ?_) (fun hc => ?_)
                  · replace h := x_ifn hc h
                    cases h
                    refine Lk.sel [] rfl ?_
                    exact Lk.stop ⟨rfl, rfl, rfl, rfl, rfl, rfl⟩
                  · replace h := x_ifp hc h
                    refine lk_aload_n d_Fo_step_192 rfl ?_
                    refine lk_getR (k := 6) d_Fo_step_193 ha30 (by decide) rfl (by decide) lf_Fo_23 rfl ?_
                    refine lk_iload_n d_Fo_step_196 rfl ?_
                    refine lk_lload_n d_Fo_step_197 rfl ?_
                    obtain ⟨a31, ha31, h⟩ := x_b h
                    obtain ⟨p32, hp32, h⟩ := x_b h
                    refine lk_callV0 d_Fo_step_198 (x_obm ha31 rfl) (c_TL_add hp32) (Nat.le_of_ble_eq_true rfl) rfl M_TL_add lm_Fo_79 in_TL_add se_TL_add (by decide) rfl (Nat.le_of_ble_eq_true rfl) ?_
                    refine lk_goto (tgt := 213) d_Fo_step_201 (by decide) ?_
                    cases h
                    refine Lk.sel [] rfl ?_
                    exact Lk.stop ⟨rfl, rfl, rfl, rfl, rfl, rfl⟩
                · replace h := x_ifp hc h
                  refine lk_aload_n d_Fo_step_173 rfl ?_
                  refine lk_iload_n d_Fo_step_174 rfl ?_
                  refine lk_iconst (v := 1) d_Fo_step_175 rfl ?_
                  refine lk_iadd d_Fo_step_176 ?_
                  refine lk_lload_n d_Fo_step_177 rfl ?_
                  obtain ⟨p33, hp33, h⟩ := x_b h
                  refine lk_callV0 d_Fo_step_178 (x_obm ha30 rfl) (c_Fo_push hp33) (Nat.le_of_ble_eq_true rfl) rfl M_Fo_push lm_Fo_56 in_Fo_push se_Fo_push (by decide) rfl (Nat.le_of_ble_eq_true rfl) ?_
                  refine lk_goto (tgt := 213) d_Fo_step_181 (by decide) ?_
                  cases h
                  refine Lk.sel [] rfl ?_
                  exact Lk.stop ⟨rfl, rfl, rfl, rfl, rfl, rfl⟩
              · have e0 := lv_neT g0 (a := 2) rfl
                have e1 := lv_neT g1 (a := 3) rfl
                have e2 := lv_neT g2 (a := 4) rfl
                have e3 := lv_neT g3 (a := 5) rfl
                have e4 := lv_neT g4 (a := 6) rfl
                refine lk_tableOut (tgt := 204) d_Fo_step_42 (by omega) (by decide) ?_
                refine lk_aload_n d_Fo_step_204 rfl ?_
                obtain ⟨a34, ha34, h⟩ := x_b h
                refine lk_getR (k := 6) d_Fo_step_205 ha34 (by decide) rfl (by decide) lf_Fo_23 rfl ?_
                refine lk_iload_n d_Fo_step_208 rfl ?_
                refine lk_lload_n d_Fo_step_209 rfl ?_
                obtain ⟨a35, ha35, h⟩ := x_b h
                obtain ⟨p36, hp36, h⟩ := x_b h
                refine lk_callV0 d_Fo_step_210 (x_obm ha35 rfl) (c_TL_add hp36) (Nat.le_of_ble_eq_true rfl) rfl M_TL_add lm_Fo_79 in_TL_add se_TL_add (by decide) rfl (Nat.le_of_ble_eq_true rfl) ?_
                cases h
                refine Lk.sel [] rfl ?_
                exact Lk.stop ⟨rfl, rfl, rfl, rfl, rfl, rfl⟩
    · clear hj
      cases h
      exact Lk.stop ⟨rfl, Or.inl ⟨d_Fo_step_213, rfl, rfl, rfl⟩⟩
  · replace h := x_ifn hc h
    refine lk_aload_n d_Fo_step_17 rfl ?_
    refine lk_iconst (v := 1) d_Fo_step_18 rfl ?_
    replace h := x_nm h
    refine lk_putZ (k := 4) d_Fo_step_19 ha2 (by decide) (by decide) rfl (by decide) lf_Fo_41 rfl rfl ?_
    cases h
    exact Lk.stop ⟨rfl, Or.inl ⟨d_Fo_step_22, rfl, rfl, rfl⟩⟩
def L_Fo_follow_24 : Nat → Option Nat → Int32 → hv_S → Option (hv_S)
  | 0, _, _, _ => none
  | n + 1, x0, x4, s =>
    if 99 ≤ x4 then
      some s
    else
      (x_ob s 4 x0).bind fun a3 =>
      if (hv_I s a3 2) ≤ 0 then
        some s
      else
        if 25 < (hv_I s a3 2) then
          some s
        else
          (some (hv_setI s a3 2 ((hv_I s a3 2) - (1 : Int32)))).bind fun s4 =>
          (x_ar s4 0 (hv_R s4 a3 0)).bind fun q5 =>
          (x_ix q5.2 (hv_I s4 a3 2)).bind fun k6 =>
          (x_ar s4 1 (hv_R s4 a3 1)).bind fun q7 =>
          (x_ix q7.2 (hv_I s4 a3 2)).bind fun k8 =>
          (f_Fo_step a3 (hv_I s4 q5.1 k6) (hv_J s4 q7.1 k8) s4).bind fun p9 =>
          L_Fo_follow_24 n x0 (x4 + 1) p9
set_option maxRecDepth 4000 in
set_option maxHeartbeats 2000000 in
theorem l_Fo_follow_24 {G : lt_G} : ∀ (n : Nat) (x0 : Option Nat) (x4 : Int32) (s : hv_S) (e0 : hv_S), L_Fo_follow_24 n x0 x4 s = some e0 → Lk G m_Fo_follow 3 24 [(0, vR x0), (4, vI x4)] [] s 0 0 (lk_at 85 [] [] e0 0 0) := by
  intro n
  induction n with
  | zero => intro x0 x4 s e0 h; cases h
  | succ n ih =>
    intro x0 x4 s e0 h
    unfold L_Fo_follow_24 at h
    refine lk_iload d_Fo_follow_24 rfl ?_
    refine lk_bipush (v := 99) d_Fo_follow_26 rfl ?_
    refine lk_icmp_ge (tgt := 85) d_Fo_follow_28 (by decide) (fun hc => ?_) (fun hc => ?_)
    · replace h := x_ifp hc h
      cases h
      refine Lk.sel [] rfl ?_
      exact Lk.stop ⟨rfl, rfl, rfl, rfl, rfl, rfl⟩
    · replace h := x_ifn hc h
      refine lk_aload_n d_Fo_follow_31 rfl ?_
      obtain ⟨a3, ha3, h⟩ := x_b h
      refine lk_getI (k := 2) d_Fo_follow_32 ha3 (by decide) rfl (by decide) lf_Fo_34 rfl ?_
      refine lk_if_le (tgt := 85) d_Fo_follow_35 (by decide) (fun hc => ?_) (fun hc => ?_)
      · replace h := x_ifp hc h
        cases h
        refine Lk.sel [] rfl ?_
        exact Lk.stop ⟨rfl, rfl, rfl, rfl, rfl, rfl⟩
      · replace h := x_ifn hc h
        refine lk_aload_n d_Fo_follow_38 rfl ?_
        refine lk_getI (k := 2) d_Fo_follow_39 ha3 (by decide) rfl (by decide) lf_Fo_34 rfl ?_
        refine lk_bipush (v := 25) d_Fo_follow_42 rfl ?_
        refine lk_icmp_gt (tgt := 85) d_Fo_follow_44 (by decide) (fun hc => ?_) (fun hc => ?_)
        · replace h := x_ifp hc h
          cases h
          refine Lk.sel [] rfl ?_
          exact Lk.stop ⟨rfl, rfl, rfl, rfl, rfl, rfl⟩
        · replace h := x_ifn hc h
          refine lk_aload_n d_Fo_follow_47 rfl ?_
          refine lk_dup d_Fo_follow_48 rfl ?_
          refine lk_getI (k := 2) d_Fo_follow_49 ha3 (by decide) rfl (by decide) lf_Fo_34 rfl ?_
          refine lk_iconst (v := 1) d_Fo_follow_52 rfl ?_
          refine lk_isub d_Fo_follow_53 ?_
          replace h := x_nm h
          refine lk_putI (k := 2) d_Fo_follow_54 ha3 (by decide) rfl (by decide) lf_Fo_34 rfl rfl ?_
          refine lk_aload_n d_Fo_follow_57 rfl ?_
          refine lk_aload_n d_Fo_follow_58 rfl ?_
          refine lk_getR (k := 0) d_Fo_follow_59 ha3 (by decide) rfl (by decide) lf_Fo_11 rfl ?_
          refine lk_aload_n d_Fo_follow_62 rfl ?_
          refine lk_getI (k := 2) d_Fo_follow_63 ha3 (by decide) rfl (by decide) lf_Fo_34 rfl ?_
          obtain ⟨q5, hq5, h⟩ := x_b h
          obtain ⟨k6, hk6, h⟩ := x_b h
          refine lk_iald d_Fo_follow_66 hq5 hk6 ?_
          refine lk_aload_n d_Fo_follow_67 rfl ?_
          refine lk_getR (k := 1) d_Fo_follow_68 ha3 (by decide) rfl (by decide) lf_Fo_15 rfl ?_
          refine lk_aload_n d_Fo_follow_71 rfl ?_
          refine lk_getI (k := 2) d_Fo_follow_72 ha3 (by decide) rfl (by decide) lf_Fo_34 rfl ?_
          obtain ⟨q7, hq7, h⟩ := x_b h
          obtain ⟨k8, hk8, h⟩ := x_b h
          refine lk_lald d_Fo_follow_75 hq7 hk8 ?_
          obtain ⟨p9, hp9, h⟩ := x_b h
          refine lk_callV0 d_Fo_follow_76 (x_obm ha3 rfl) (c_Fo_step hp9) (Nat.le_of_ble_eq_true rfl) rfl M_Fo_step lm_Fo_60 in_Fo_step se_Fo_step (by decide) rfl (Nat.le_of_ble_eq_true rfl) ?_
          refine lk_iinc (v := _ + 1) d_Fo_follow_79 rfl rfl (by decide) rfl ?_
          refine lk_goto (tgt := 24) d_Fo_follow_82 (by decide) ?_
          refine Lk.sel [0, 4] rfl ?_
          exact ih _ _ _ _ h
def f_Fo_follow (z0 : Nat) (x1 : Int32) (w2 : Int64) (s : hv_S) : Option (hv_S) :=
  (x_ob s 4 ((some z0))).bind fun a1 =>
  if (hv_R s a1 5) = none then
    some s
  else
    if (hv_R s a1 6) = none then
      some s
    else
      (f_Fo_push a1 x1 w2 s).bind fun p2 =>
      (L_Fo_follow_24 100000 ((some z0)) 0 p2).bind fun e10 =>
      some e10
set_option maxRecDepth 4000 in
set_option maxHeartbeats 2000000 in
theorem c_Fo_follow {G : lt_G} {z0 : Nat} {x1 : Int32} {w2 : Int64} {s : hv_S} {p : hv_S} (h : f_Fo_follow z0 x1 w2 s = some p) : Ck G m_Fo_follow 3 0 0 [vR (some z0), vI x1, vJ w2] s none p := by
  refine Ck.of (by decide) (Nat.le_of_ble_eq_true rfl) ?_
  unfold f_Fo_follow at h
  refine lk_aload_n d_Fo_follow_0 rfl ?_
  obtain ⟨a1, ha1, h⟩ := x_b h
  refine lk_getR (k := 5) d_Fo_follow_1 ha1 (by decide) rfl (by decide) lf_Fo_19 rfl ?_
  refine lk_ifnull (tgt := 14) d_Fo_follow_4 (by decide) (fun hc => ?_) (fun hc => ?_)
  · replace h := x_ifp hc h
    cases h
    exact Lk.stop ⟨rfl, Or.inl ⟨d_Fo_follow_14, rfl, rfl, rfl⟩⟩
  · replace h := x_ifn hc h
    refine lk_aload_n d_Fo_follow_7 rfl ?_
    refine lk_getR (k := 6) d_Fo_follow_8 ha1 (by decide) rfl (by decide) lf_Fo_23 rfl ?_
    refine lk_ifnonnull (tgt := 15) d_Fo_follow_11 (by decide) (fun hc => ?_) (fun hc => ?_)
    · replace h := x_ifn hc h
      refine lk_aload_n d_Fo_follow_15 rfl ?_
      refine lk_iload_n d_Fo_follow_16 rfl ?_
      refine lk_lload_n d_Fo_follow_17 rfl ?_
      obtain ⟨p2, hp2, h⟩ := x_b h
      refine lk_callV0 d_Fo_follow_18 (x_obm ha1 rfl) (c_Fo_push hp2) (Nat.le_of_ble_eq_true rfl) rfl M_Fo_push lm_Fo_56 in_Fo_push se_Fo_push (by decide) rfl (Nat.le_of_ble_eq_true rfl) ?_
      refine lk_iconst (v := 0) d_Fo_follow_21 rfl ?_
      refine lk_istore d_Fo_follow_22 (by decide) rfl ?_
      obtain ⟨e10, hl, h⟩ := x_b h
      refine Lk.sel [0, 4] rfl ?_
      refine Lk.trans (l_Fo_follow_24 _ _ _ _ _ hl) ?_
      intro pc' lo' st' s' mc' ms' hx
      obtain ⟨rfl, rfl, rfl, rfl, rfl, rfl⟩ := hx
      cases h
      exact Lk.stop ⟨rfl, Or.inl ⟨d_Fo_follow_85, rfl, rfl, rfl⟩⟩
    · replace h := x_ifp hc h
      cases h
      exact Lk.stop ⟨rfl, Or.inl ⟨d_Fo_follow_14, rfl, rfl, rfl⟩⟩
