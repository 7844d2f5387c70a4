/-! WHAT THE METHODS DO: partial functions f_ over the view, loops L_, and the proofs c_, l_ that the bytecode does so; printed by wip/whole/gen_dec.py -/
def L_Ar_fillI_5 : Nat → Option Nat → Int32 → Int32 → Int32 → hv_S → Option (hv_S)
  | 0, _, _, _, _, _ => none
  | n + 1, x0, x1, x2, x3, s =>
    if x3 ≤ x2 then
      some s
    else
      (x_ar s 0 x0).bind fun q2 =>
      (x_ix q2.2 x2).bind fun k3 =>
      (some (hv_setI s q2.1 k3 x1)).bind fun s4 =>
      L_Ar_fillI_5 n x0 x1 (x2 + 1) x3 s4
set_option maxRecDepth 4000 in
set_option maxHeartbeats 2000000 in
theorem l_Ar_fillI_5 {G : lt_G} : ∀ (n : Nat) (x0 : Option Nat) (x1 : Int32) (x2 : Int32) (x3 : Int32) (s : hv_S) (e0 : hv_S), L_Ar_fillI_5 n x0 x1 x2 x3 s = some e0 → Lk G m_Ar_fillI 1 5 [(0, vR x0), (1, vI x1), (2, vI x2), (3, vI x3)] [] s 0 0 (lk_at 20 [] [] e0 0 0) := by
  intro n
  induction n with
  | zero => intro x0 x1 x2 x3 s e0 h; cases h
  | succ n ih =>
    intro x0 x1 x2 x3 s e0 h
    unfold L_Ar_fillI_5 at h
    refine lk_iload_n d_Ar_fillI_5 rfl ?_
    refine lk_iload_n d_Ar_fillI_6 rfl ?_
    refine lk_icmp_ge (tgt := 20) d_Ar_fillI_7 (by decide) (fun hc => ?_) (fun hc => ?_)
    · replace h := x_ifp hc h
      cases h
      refine Lk.sel [] rfl ?_
      exact Lk.stop ⟨rfl, rfl, rfl, rfl, rfl, rfl⟩
    · replace h := x_ifn hc h
      refine lk_aload_n d_Ar_fillI_10 rfl ?_
      refine lk_iload_n d_Ar_fillI_11 rfl ?_
      refine lk_iload_n d_Ar_fillI_12 rfl ?_
      obtain ⟨q2, hq2, h⟩ := x_b h
      obtain ⟨k3, hk3, h⟩ := x_b h
      replace h := x_nm h
      refine lk_iast d_Ar_fillI_13 hq2 hk3 ?_
      refine lk_iinc (v := _ + 1) d_Ar_fillI_14 rfl rfl (by decide) rfl ?_
      refine lk_goto (tgt := 5) d_Ar_fillI_17 (by decide) ?_
      refine Lk.sel [0, 1, 2, 3] rfl ?_
      exact ih _ _ _ _ _ _ h
def f_Ar_fillI (r0 : Option Nat) (x1 : Int32) (s : hv_S) : Option (hv_S) :=
  (x_ar s 0 r0).bind fun q1 =>
  (L_Ar_fillI_5 100000 r0 x1 0 (nI q1.2) s).bind fun e5 =>
  some e5
set_option maxRecDepth 4000 in
set_option maxHeartbeats 2000000 in
theorem c_Ar_fillI {G : lt_G} {r0 : Option Nat} {x1 : Int32} {s : hv_S} {p : hv_S} (h : f_Ar_fillI r0 x1 s = some p) : Ck G m_Ar_fillI 1 0 0 [vR r0, vI x1] s none p := by
  refine Ck.of (by decide) (Nat.le_of_ble_eq_true rfl) ?_
  unfold f_Ar_fillI at h
  refine lk_iconst (v := 0) d_Ar_fillI_0 rfl ?_
  refine lk_istore_n d_Ar_fillI_1 (by decide) rfl ?_
  refine lk_aload_n d_Ar_fillI_2 rfl ?_
  obtain ⟨q1, hq1, h⟩ := x_b h
  refine lk_alen d_Ar_fillI_3 hq1 (by decide) ?_
  refine lk_istore_n d_Ar_fillI_4 (by decide) rfl ?_
  obtain ⟨e5, hl, h⟩ := x_b h
  refine Lk.sel [0, 1, 2, 3] rfl ?_
  refine Lk.trans (l_Ar_fillI_5 _ _ _ _ _ _ _ hl) ?_
  intro pc' lo' st' s' mc' ms' hx
  obtain ⟨rfl, rfl, rfl, rfl, rfl, rfl⟩ := hx
  cases h
  exact Lk.stop ⟨rfl, Or.inl ⟨d_Ar_fillI_20, rfl, rfl, rfl⟩⟩
def L_Ar_fillJ_6 : Nat → Option Nat → Int64 → Int32 → Int32 → hv_S → Option (hv_S)
  | 0, _, _, _, _, _ => none
  | n + 1, x0, x1, x3, x4, s =>
    if x4 ≤ x3 then
      some s
    else
      (x_ar s 1 x0).bind fun q2 =>
      (x_ix q2.2 x3).bind fun k3 =>
      (some (hv_setJ s q2.1 k3 x1)).bind fun s4 =>
      L_Ar_fillJ_6 n x0 x1 (x3 + 1) x4 s4
set_option maxRecDepth 4000 in
set_option maxHeartbeats 2000000 in
theorem l_Ar_fillJ_6 {G : lt_G} : ∀ (n : Nat) (x0 : Option Nat) (x1 : Int64) (x3 : Int32) (x4 : Int32) (s : hv_S) (e0 : hv_S), L_Ar_fillJ_6 n x0 x1 x3 x4 s = some e0 → Lk G m_Ar_fillJ 1 6 [(0, vR x0), (1, vJ x1), (3, vI x3), (4, vI x4)] [] s 0 0 (lk_at 22 [] [] e0 0 0) := by
  intro n
  induction n with
  | zero => intro x0 x1 x3 x4 s e0 h; cases h
  | succ n ih =>
    intro x0 x1 x3 x4 s e0 h
    unfold L_Ar_fillJ_6 at h
    refine lk_iload_n d_Ar_fillJ_6 rfl ?_
    refine lk_iload d_Ar_fillJ_7 rfl ?_
    refine lk_icmp_ge (tgt := 22) d_Ar_fillJ_9 (by decide) (fun hc => ?_) (fun hc => ?_)
    · replace h := x_ifp hc h
      cases h
      refine Lk.sel [] rfl ?_
      exact Lk.stop ⟨rfl, rfl, rfl, rfl, rfl, rfl⟩
    · replace h := x_ifn hc h
      refine lk_aload_n d_Ar_fillJ_12 rfl ?_
      refine lk_iload_n d_Ar_fillJ_13 rfl ?_
      refine lk_lload_n d_Ar_fillJ_14 rfl ?_
      obtain ⟨q2, hq2, h⟩ := x_b h
      obtain ⟨k3, hk3, h⟩ := x_b h
      replace h := x_nm h
      refine lk_last d_Ar_fillJ_15 hq2 hk3 ?_
      refine lk_iinc (v := _ + 1) d_Ar_fillJ_16 rfl rfl (by decide) rfl ?_
      refine lk_goto (tgt := 6) d_Ar_fillJ_19 (by decide) ?_
      refine Lk.sel [0, 1, 3, 4] rfl ?_
      exact ih _ _ _ _ _ _ h
def f_Ar_fillJ (r0 : Option Nat) (w1 : Int64) (s : hv_S) : Option (hv_S) :=
  (x_ar s 1 r0).bind fun q1 =>
  (L_Ar_fillJ_6 100000 r0 w1 0 (nI q1.2) s).bind fun e5 =>
  some e5
set_option maxRecDepth 4000 in
set_option maxHeartbeats 2000000 in
theorem c_Ar_fillJ {G : lt_G} {r0 : Option Nat} {w1 : Int64} {s : hv_S} {p : hv_S} (h : f_Ar_fillJ r0 w1 s = some p) : Ck G m_Ar_fillJ 1 0 0 [vR r0, vJ w1] s none p := by
  refine Ck.of (by decide) (Nat.le_of_ble_eq_true rfl) ?_
  unfold f_Ar_fillJ at h
  refine lk_iconst (v := 0) d_Ar_fillJ_0 rfl ?_
  refine lk_istore_n d_Ar_fillJ_1 (by decide) rfl ?_
  refine lk_aload_n d_Ar_fillJ_2 rfl ?_
  obtain ⟨q1, hq1, h⟩ := x_b h
  refine lk_alen d_Ar_fillJ_3 hq1 (by decide) ?_
  refine lk_istore d_Ar_fillJ_4 (by decide) rfl ?_
  obtain ⟨e5, hl, h⟩ := x_b h
  refine Lk.sel [0, 1, 3, 4] rfl ?_
  refine Lk.trans (l_Ar_fillJ_6 _ _ _ _ _ _ _ hl) ?_
  intro pc' lo' st' s' mc' ms' hx
  obtain ⟨rfl, rfl, rfl, rfl, rfl, rfl⟩ := hx
  cases h
  exact Lk.stop ⟨rfl, Or.inl ⟨d_Ar_fillJ_22, rfl, rfl, rfl⟩⟩
def L_Pr_insertSplit_27 : Nat → Option Nat → Int32 → Int32 → hv_S → Option (hv_S)
  | 0, _, _, _, _ => none
  | n + 1, x0, x1, x2, s =>
    if x2 ≤ x1 then
      some s
    else
      (x_ob s 8 x0).bind fun a2 =>
      (x_ar s 0 (hv_R s a2 0)).bind fun q3 =>
      (x_ix q3.2 (x2 - (1 : Int32))).bind fun k4 =>
      (some (hv_I s q3.1 k4)).bind fun y5 =>
      ((
        if y5 = 2 then
          some 1
        else
          if y5 = 3 then
            some 1
          else
            some 0
      ) : Option (Int32)).bind fun t6 =>
      (x_ix q3.2 x2).bind fun k7 =>
      (some (hv_setI s q3.1 k7 y5)).bind fun s8 =>
      ((
        if t6 = 0 then
          (x_ar s8 0 (hv_R s8 a2 1)).bind fun q9 =>
          (x_ix q9.2 (x2 - (1 : Int32))).bind fun k10 =>
          some (hv_I s8 q9.1 k10)
        else
          (x_ar s8 0 (hv_R s8 a2 1)).bind fun q11 =>
          (x_ix q11.2 (x2 - (1 : Int32))).bind fun k12 =>
          if (hv_I s8 q11.1 k12) < x1 then
            (x_ix q11.2 (x2 - (1 : Int32))).bind fun k13 =>
            some (hv_I s8 q11.1 k13)
          else
            (x_ix q11.2 (x2 - (1 : Int32))).bind fun k14 =>
            some ((hv_I s8 q11.1 k14) + (1 : Int32))
      ) : Option (Int32)).bind fun t15 =>
      (x_ar s8 0 (hv_R s8 a2 1)).bind fun q16 =>
      (x_ix q16.2 x2).bind fun k17 =>
      (some (hv_setI s8 q16.1 k17 t15)).bind fun s18 =>
      ((
        if y5 = 2 then
          (x_ar s18 0 (hv_R s18 a2 2)).bind fun q21 =>
          (x_ix q21.2 (x2 - (1 : Int32))).bind fun k22 =>
          if (hv_I s18 q21.1 k22) < x1 then
            (x_ix q21.2 (x2 - (1 : Int32))).bind fun k23 =>
            some (hv_I s18 q21.1 k23)
          else
            (x_ix q21.2 (x2 - (1 : Int32))).bind fun k24 =>
            some ((hv_I s18 q21.1 k24) + (1 : Int32))
        else
          (x_ar s18 0 (hv_R s18 a2 2)).bind fun q19 =>
          (x_ix q19.2 (x2 - (1 : Int32))).bind fun k20 =>
          some (hv_I s18 q19.1 k20)
      ) : Option (Int32)).bind fun t25 =>
      (x_ar s18 0 (hv_R s18 a2 2)).bind fun q26 =>
      (x_ix q26.2 x2).bind fun k27 =>
      (some (hv_setI s18 q26.1 k27 t25)).bind fun s28 =>
      L_Pr_insertSplit_27 n x0 x1 (x2 + (-1)) s28
set_option maxRecDepth 4000 in
set_option maxHeartbeats 2000000 in
theorem l_Pr_insertSplit_27 {G : lt_G} : ∀ (n : Nat) (x0 : Option Nat) (x1 : Int32) (x2 : Int32) (s : hv_S) (e0 : hv_S), L_Pr_insertSplit_27 n x0 x1 x2 s = some e0 → Lk G m_Pr_insertSplit 1 27 [(0, vR x0), (1, vI x1), (2, vI x2)] [] s 0 0 (lk_at 159 [(0, vR x0), (1, vI x1)] [] e0 0 0) := by
  intro n
  induction n with
  | zero => intro x0 x1 x2 s e0 h; cases h
  | succ n ih =>
    intro x0 x1 x2 s e0 h
    unfold L_Pr_insertSplit_27 at h
    refine lk_iload_n d_Pr_insertSplit_27 rfl ?_
    refine lk_iload_n d_Pr_insertSplit_28 rfl ?_
    refine lk_icmp_le (tgt := 159) d_Pr_insertSplit_29 (by decide) (fun hc => ?_) (fun hc => ?_)
    · replace h := x_ifp hc h
      cases h
      refine Lk.sel [0, 1] rfl ?_
      exact Lk.stop ⟨rfl, rfl, rfl, rfl, rfl, rfl⟩
    · replace h := x_ifn hc h
      refine lk_aload_n d_Pr_insertSplit_32 rfl ?_
      obtain ⟨a2, ha2, h⟩ := x_b h
      refine lk_getR (k := 0) d_Pr_insertSplit_33 ha2 (by decide) rfl (by decide) lf_Pr_9 rfl ?_
      refine lk_iload_n d_Pr_insertSplit_36 rfl ?_
      refine lk_iconst (v := 1) d_Pr_insertSplit_37 rfl ?_
      refine lk_isub d_Pr_insertSplit_38 ?_
      obtain ⟨q3, hq3, h⟩ := x_b h
      obtain ⟨k4, hk4, h⟩ := x_b h
      refine lk_iald d_Pr_insertSplit_39 hq3 hk4 ?_
      replace h := x_nm h
      refine lk_istore_n d_Pr_insertSplit_40 (by decide) rfl ?_
      refine lk_iload_n d_Pr_insertSplit_41 rfl ?_
      refine lk_iconst (v := 2) d_Pr_insertSplit_42 rfl ?_
      obtain ⟨t6, hj, h⟩ := x_b h
      refine Lk.joinA 56 [0, 1, 2, 3] [] rfl 2 [vI t6] ?_ ?_
      · replace h := hj
        refine lk_icmp_eq (tgt := 51) d_Pr_insertSplit_43 (by decide) (fun hc => ?_) (fun hc => ?_)
        · replace h := x_ifp hc h
          refine lk_iconst (v := 1) d_Pr_insertSplit_51 rfl ?_
          refine lk_goto (tgt := 56) d_Pr_insertSplit_52 (by decide) ?_
          cases h
          refine Lk.sel [0, 1, 2, 3] rfl ?_
          exact Lk.stop ⟨rfl, rfl, rfl, rfl, rfl, rfl⟩
        · replace h := x_ifn hc h
          refine lk_iload_n d_Pr_insertSplit_46 rfl ?_
          refine lk_iconst (v := 3) d_Pr_insertSplit_47 rfl ?_
          refine lk_icmp_ne (tgt := 55) d_Pr_insertSplit_48 (by decide) (fun hc => ?_) (fun hc => ?_)
          · replace h := x_ifn hc h
            refine lk_iconst (v := 0) d_Pr_insertSplit_55 rfl ?_
            cases h
            refine Lk.sel [0, 1, 2, 3] rfl ?_
            exact Lk.stop ⟨rfl, rfl, rfl, rfl, rfl, rfl⟩
          · replace h := x_ifp hc h
            refine lk_iconst (v := 1) d_Pr_insertSplit_51 rfl ?_
            refine lk_goto (tgt := 56) d_Pr_insertSplit_52 (by decide) ?_
            cases h
            refine Lk.sel [0, 1, 2, 3] rfl ?_
            exact Lk.stop ⟨rfl, rfl, rfl, rfl, rfl, rfl⟩
      · clear hj
        refine lk_istore d_Pr_insertSplit_56 (by decide) rfl ?_
        refine lk_aload_n d_Pr_insertSplit_58 rfl ?_
        refine lk_getR (k := 0) d_Pr_insertSplit_59 ha2 (by decide) rfl (by decide) lf_Pr_9 rfl ?_
        refine lk_iload_n d_Pr_insertSplit_62 rfl ?_
        refine lk_iload_n d_Pr_insertSplit_63 rfl ?_
        obtain ⟨k7, hk7, h⟩ := x_b h
        replace h := x_nm h
        refine lk_iast d_Pr_insertSplit_64 hq3 hk7 ?_
        refine lk_aload_n d_Pr_insertSplit_65 rfl ?_
        refine lk_getR (k := 1) d_Pr_insertSplit_66 ha2 (by decide) rfl (by decide) lf_Pr_15 rfl ?_
        refine lk_iload_n d_Pr_insertSplit_69 rfl ?_
        refine lk_iload d_Pr_insertSplit_70 rfl ?_
        obtain ⟨t15, hj, h⟩ := x_b h
        refine Lk.joinA 108 [0, 1, 2, 3] [] rfl 1 [vI t15] ?_ ?_
        · replace h := hj
          refine lk_if_eq (tgt := 100) d_Pr_insertSplit_72 (by decide) (fun hc => ?_) (fun hc => ?_)
          · replace h := x_ifp hc h
            refine lk_aload_n d_Pr_insertSplit_100 rfl ?_
            refine lk_getR (k := 1) d_Pr_insertSplit_101 ha2 (by decide) rfl (by decide) lf_Pr_15 rfl ?_
            refine lk_iload_n d_Pr_insertSplit_104 rfl ?_
            refine lk_iconst (v := 1) d_Pr_insertSplit_105 rfl ?_
            refine lk_isub d_Pr_insertSplit_106 ?_
            obtain ⟨q9, hq9, h⟩ := x_b h
            obtain ⟨k10, hk10, h⟩ := x_b h
            refine lk_iald d_Pr_insertSplit_107 hq9 hk10 ?_
            cases h
            refine Lk.sel [0, 1, 2, 3] rfl ?_
            exact Lk.stop ⟨rfl, rfl, rfl, rfl, rfl, rfl⟩
          · replace h := x_ifn hc h
            refine lk_aload_n d_Pr_insertSplit_75 rfl ?_
            refine lk_getR (k := 1) d_Pr_insertSplit_76 ha2 (by decide) rfl (by decide) lf_Pr_15 rfl ?_
            refine lk_iload_n d_Pr_insertSplit_79 rfl ?_
            refine lk_iconst (v := 1) d_Pr_insertSplit_80 rfl ?_
            refine lk_isub d_Pr_insertSplit_81 ?_
            obtain ⟨q11, hq11, h⟩ := x_b h
            obtain ⟨k12, hk12, h⟩ := x_b h
            refine lk_iald d_Pr_insertSplit_82 hq11 hk12 ?_
            refine lk_iload_n d_Pr_insertSplit_83 rfl ?_
            refine lk_icmp_lt (tgt := 100) d_Pr_insertSplit_84 (by decide) (fun hc => ?_) (fun hc => ?_)
            · replace h := x_ifp hc h
              refine lk_aload_n d_Pr_insertSplit_100 rfl ?_
              refine lk_getR (k := 1) d_Pr_insertSplit_101 ha2 (by decide) rfl (by decide) lf_Pr_15 rfl ?_
              refine lk_iload_n d_Pr_insertSplit_104 rfl ?_
              refine lk_iconst (v := 1) d_Pr_insertSplit_105 rfl ?_
              refine lk_isub d_Pr_insertSplit_106 ?_
              obtain ⟨k13, hk13, h⟩ := x_b h
              refine lk_iald d_Pr_insertSplit_107 hq11 hk13 ?_
              cases h
              refine Lk.sel [0, 1, 2, 3] rfl ?_
              exact Lk.stop ⟨rfl, rfl, rfl, rfl, rfl, rfl⟩
            · replace h := x_ifn hc h
              refine lk_aload_n d_Pr_insertSplit_87 rfl ?_
              refine lk_getR (k := 1) d_Pr_insertSplit_88 ha2 (by decide) rfl (by decide) lf_Pr_15 rfl ?_
              refine lk_iload_n d_Pr_insertSplit_91 rfl ?_
              refine lk_iconst (v := 1) d_Pr_insertSplit_92 rfl ?_
              refine lk_isub d_Pr_insertSplit_93 ?_
              obtain ⟨k14, hk14, h⟩ := x_b h
              refine lk_iald d_Pr_insertSplit_94 hq11 hk14 ?_
              refine lk_iconst (v := 1) d_Pr_insertSplit_95 rfl ?_
              refine lk_iadd d_Pr_insertSplit_96 ?_
              refine lk_goto (tgt := 108) d_Pr_insertSplit_97 (by decide) ?_
              cases h
              refine Lk.sel [0, 1, 2, 3] rfl ?_
              exact Lk.stop ⟨rfl, rfl, rfl, rfl, rfl, rfl⟩
        · clear hj
          obtain ⟨q16, hq16, h⟩ := x_b h
          obtain ⟨k17, hk17, h⟩ := x_b h
          replace h := x_nm h
          refine lk_iast d_Pr_insertSplit_108 hq16 hk17 ?_
          refine lk_aload_n d_Pr_insertSplit_109 rfl ?_
          refine lk_getR (k := 2) d_Pr_insertSplit_110 ha2 (by decide) rfl (by decide) lf_Pr_18 rfl ?_
          refine lk_iload_n d_Pr_insertSplit_113 rfl ?_
          refine lk_iload_n d_Pr_insertSplit_114 rfl ?_
          refine lk_iconst (v := 2) d_Pr_insertSplit_115 rfl ?_
          obtain ⟨t25, hj, h⟩ := x_b h
          refine Lk.joinA 152 [0, 1, 2] [] rfl 2 [vI t25] ?_ ?_
          · replace h := hj
            refine lk_icmp_ne (tgt := 144) d_Pr_insertSplit_116 (by decide) (fun hc => ?_) (fun hc => ?_)
            · replace h := x_ifn hc h
              refine lk_aload_n d_Pr_insertSplit_144 rfl ?_
              refine lk_getR (k := 2) d_Pr_insertSplit_145 ha2 (by decide) rfl (by decide) lf_Pr_18 rfl ?_
              refine lk_iload_n d_Pr_insertSplit_148 rfl ?_
              refine lk_iconst (v := 1) d_Pr_insertSplit_149 rfl ?_
              refine lk_isub d_Pr_insertSplit_150 ?_
              obtain ⟨q19, hq19, h⟩ := x_b h
              obtain ⟨k20, hk20, h⟩ := x_b h
              refine lk_iald d_Pr_insertSplit_151 hq19 hk20 ?_
              cases h
              refine Lk.sel [0, 1, 2] rfl ?_
              exact Lk.stop ⟨rfl, rfl, rfl, rfl, rfl, rfl⟩
            · replace h := x_ifp hc h
              refine lk_aload_n d_Pr_insertSplit_119 rfl ?_
              refine lk_getR (k := 2) d_Pr_insertSplit_120 ha2 (by decide) rfl (by decide) lf_Pr_18 rfl ?_
              refine lk_iload_n d_Pr_insertSplit_123 rfl ?_
              refine lk_iconst (v := 1) d_Pr_insertSplit_124 rfl ?_
              refine lk_isub d_Pr_insertSplit_125 ?_
              obtain ⟨q21, hq21, h⟩ := x_b h
              obtain ⟨k22, hk22, h⟩ := x_b h
              refine lk_iald d_Pr_insertSplit_126 hq21 hk22 ?_
              refine lk_iload_n d_Pr_insertSplit_127 rfl ?_
              refine lk_icmp_lt (tgt := 144) d_Pr_insertSplit_128 (by decide) (fun hc => ?_) (fun hc => ?_)
              · replace h := x_ifp hc h
                refine lk_aload_n d_Pr_insertSplit_144 rfl ?_
                refine lk_getR (k := 2) d_Pr_insertSplit_145 ha2 (by decide) rfl (by decide) lf_Pr_18 rfl ?_
                refine lk_iload_n d_Pr_insertSplit_148 rfl ?_
                refine lk_iconst (v := 1) d_Pr_insertSplit_149 rfl ?_
                refine lk_isub d_Pr_insertSplit_150 ?_
                obtain ⟨k23, hk23, h⟩ := x_b h
                refine lk_iald d_Pr_insertSplit_151 hq21 hk23 ?_
                cases h
                refine Lk.sel [0, 1, 2] rfl ?_
                exact Lk.stop ⟨rfl, rfl, rfl, rfl, rfl, rfl⟩
              · replace h := x_ifn hc h
                refine lk_aload_n d_Pr_insertSplit_131 rfl ?_
                refine lk_getR (k := 2) d_Pr_insertSplit_132 ha2 (by decide) rfl (by decide) lf_Pr_18 rfl ?_
                refine lk_iload_n d_Pr_insertSplit_135 rfl ?_
                refine lk_iconst (v := 1) d_Pr_insertSplit_136 rfl ?_
                refine lk_isub d_Pr_insertSplit_137 ?_
                obtain ⟨k24, hk24, h⟩ := x_b h
                refine lk_iald d_Pr_insertSplit_138 hq21 hk24 ?_
                refine lk_iconst (v := 1) d_Pr_insertSplit_139 rfl ?_
                refine lk_iadd d_Pr_insertSplit_140 ?_
                refine lk_goto (tgt := 152) d_Pr_insertSplit_141 (by decide) ?_
                cases h
                refine Lk.sel [0, 1, 2] rfl ?_
                exact Lk.stop ⟨rfl, rfl, rfl, rfl, rfl, rfl⟩
          · clear hj
            obtain ⟨q26, hq26, h⟩ := x_b h
            obtain ⟨k27, hk27, h⟩ := x_b h
            replace h := x_nm h
            refine lk_iast d_Pr_insertSplit_152 hq26 hk27 ?_
            refine lk_iinc (v := _ + (-1)) d_Pr_insertSplit_153 rfl rfl (by decide) rfl ?_
            refine lk_goto (tgt := 27) d_Pr_insertSplit_156 (by decide) ?_
            refine Lk.sel [0, 1, 2] rfl ?_
            exact ih _ _ _ _ _ h
def f_Pr_insertSplit (z0 : Nat) (x1 : Int32) (s : hv_S) : Option (hv_S) :=
  if x1 < 0 then
    some s
  else
    (x_ob s 8 ((some z0))).bind fun a1 =>
    if (hv_I s a1 3) < x1 then
      some s
    else
      if (hv_I s a1 3) < 49 then
        (L_Pr_insertSplit_27 100000 ((some z0)) x1 (hv_I s a1 3) s).bind fun e29 =>
        (x_ob e29 8 ((some z0))).bind fun a30 =>
        (x_ar e29 0 (hv_R e29 a30 0)).bind fun q31 =>
        (x_ix q31.2 x1).bind fun k32 =>
        (some (hv_setI e29 q31.1 k32 2)).bind fun s33 =>
        (some (hv_setI s33 a30 3 ((hv_I s33 a30 3) + (1 : Int32)))).bind fun s34 =>
        some s34
      else
        some s
set_option maxRecDepth 4000 in
set_option maxHeartbeats 2000000 in
theorem c_Pr_insertSplit {G : lt_G} {z0 : Nat} {x1 : Int32} {s : hv_S} {p : hv_S} (h : f_Pr_insertSplit z0 x1 s = some p) : Ck G m_Pr_insertSplit 1 0 0 [vR (some z0), vI x1] s none p := by
  refine Ck.of (by decide) (Nat.le_of_ble_eq_true rfl) ?_
  unfold f_Pr_insertSplit at h
  refine lk_iload_n d_Pr_insertSplit_0 rfl ?_
  refine lk_if_lt (tgt := 21) d_Pr_insertSplit_1 (by decide) (fun hc => ?_) (fun hc => ?_)
  · replace h := x_ifp hc h
    cases h
    exact Lk.stop ⟨rfl, Or.inl ⟨d_Pr_insertSplit_21, rfl, rfl, rfl⟩⟩
  · replace h := x_ifn hc h
    refine lk_iload_n d_Pr_insertSplit_4 rfl ?_
    refine lk_aload_n d_Pr_insertSplit_5 rfl ?_
    obtain ⟨a1, ha1, h⟩ := x_b h
    refine lk_getI (k := 3) d_Pr_insertSplit_6 ha1 (by decide) rfl (by decide) lf_Pr_21 rfl ?_
    refine lk_icmp_gt (tgt := 21) d_Pr_insertSplit_9 (by decide) (fun hc => ?_) (fun hc => ?_)
    · replace h := x_ifp hc h
      cases h
      exact Lk.stop ⟨rfl, Or.inl ⟨d_Pr_insertSplit_21, rfl, rfl, rfl⟩⟩
    · replace h := x_ifn hc h
      refine lk_aload_n d_Pr_insertSplit_12 rfl ?_
      refine lk_getI (k := 3) d_Pr_insertSplit_13 ha1 (by decide) rfl (by decide) lf_Pr_21 rfl ?_
      refine lk_bipush (v := 49) d_Pr_insertSplit_16 rfl ?_
      refine lk_icmp_lt (tgt := 22) d_Pr_insertSplit_18 (by decide) (fun hc => ?_) (fun hc => ?_)
      · replace h := x_ifp hc h
        refine lk_aload_n d_Pr_insertSplit_22 rfl ?_
        refine lk_getI (k := 3) d_Pr_insertSplit_23 ha1 (by decide) rfl (by decide) lf_Pr_21 rfl ?_
        refine lk_istore_n d_Pr_insertSplit_26 (by decide) rfl ?_
        obtain ⟨e29, hl, h⟩ := x_b h
        refine Lk.sel [0, 1, 2] rfl ?_
        refine Lk.trans (l_Pr_insertSplit_27 _ _ _ _ _ _ hl) ?_
        intro pc' lo' st' s' mc' ms' hx
        obtain ⟨rfl, rfl, rfl, rfl, rfl, rfl⟩ := hx
        refine lk_aload_n d_Pr_insertSplit_159 rfl ?_
        obtain ⟨a30, ha30, h⟩ := x_b h
        refine lk_getR (k := 0) d_Pr_insertSplit_160 ha30 (by decide) rfl (by decide) lf_Pr_9 rfl ?_
        refine lk_iload_n d_Pr_insertSplit_163 rfl ?_
        refine lk_iconst (v := 2) d_Pr_insertSplit_164 rfl ?_
        obtain ⟨q31, hq31, h⟩ := x_b h
        obtain ⟨k32, hk32, h⟩ := x_b h
        replace h := x_nm h
        refine lk_iast d_Pr_insertSplit_165 hq31 hk32 ?_
        refine lk_aload_n d_Pr_insertSplit_166 rfl ?_
        refine lk_dup d_Pr_insertSplit_167 rfl ?_
        refine lk_getI (k := 3) d_Pr_insertSplit_168 ha30 (by decide) rfl (by decide) lf_Pr_21 rfl ?_
        refine lk_iconst (v := 1) d_Pr_insertSplit_171 rfl ?_
        refine lk_iadd d_Pr_insertSplit_172 ?_
        replace h := x_nm h
        refine lk_putI (k := 3) d_Pr_insertSplit_173 ha30 (by decide) rfl (by decide) lf_Pr_21 rfl rfl ?_
        cases h
        exact Lk.stop ⟨rfl, Or.inl ⟨d_Pr_insertSplit_176, rfl, rfl, rfl⟩⟩
      · replace h := x_ifn hc h
        cases h
        exact Lk.stop ⟨rfl, Or.inl ⟨d_Pr_insertSplit_21, rfl, rfl, rfl⟩⟩
def L_Pr_closeChoice_6 : Nat → Option Nat → Int32 → hv_S → Option (hv_S)
  | 0, _, _, _ => none
  | n + 1, x0, x2, s =>
    (x_ob s 8 x0).bind fun a2 =>
    if (hv_I s a2 3) ≤ x2 then
      some s
    else
      if 49 ≤ x2 then
        some s
      else
        (x_ar s 0 (hv_R s a2 0)).bind fun q3 =>
        (x_ix q3.2 x2).bind fun k4 =>
        ((
          if (hv_I s q3.1 k4) = 3 then
            (x_ar s 0 (hv_R s a2 1)).bind fun q5 =>
            (x_ix q5.2 x2).bind fun k6 =>
            if (hv_I s q5.1 k6) = ((-1)) then
              (x_ix q5.2 x2).bind fun k7 =>
              (some (hv_setI s q5.1 k7 (hv_I s a2 3))).bind fun s8 =>
              some s8
            else
              some s
          else
            some s
        ) : Option (hv_S)).bind fun t9 =>
        L_Pr_closeChoice_6 n x0 (x2 + 1) t9
set_option maxRecDepth 4000 in
set_option maxHeartbeats 2000000 in
theorem l_Pr_closeChoice_6 {G : lt_G} : ∀ (n : Nat) (x0 : Option Nat) (x2 : Int32) (s : hv_S) (e0 : hv_S), L_Pr_closeChoice_6 n x0 x2 s = some e0 → Lk G m_Pr_closeChoice 1 6 [(0, vR x0), (2, vI x2)] [] s 0 0 (lk_at 56 [] [] e0 0 0) := by
  intro n
  induction n with
  | zero => intro x0 x2 s e0 h; cases h
  | succ n ih =>
    intro x0 x2 s e0 h
    unfold L_Pr_closeChoice_6 at h
    refine lk_iload_n d_Pr_closeChoice_6 rfl ?_
    refine lk_aload_n d_Pr_closeChoice_7 rfl ?_
    obtain ⟨a2, ha2, h⟩ := x_b h
    refine lk_getI (k := 3) d_Pr_closeChoice_8 ha2 (by decide) rfl (by decide) lf_Pr_21 rfl ?_
    refine lk_icmp_ge (tgt := 56) d_Pr_closeChoice_11 (by decide) (fun hc => ?_) (fun hc => ?_)
    · replace h := x_ifp hc h
      cases h
      refine Lk.sel [] rfl ?_
      exact Lk.stop ⟨rfl, rfl, rfl, rfl, rfl, rfl⟩
    · replace h := x_ifn hc h
      refine lk_iload_n d_Pr_closeChoice_14 rfl ?_
      refine lk_bipush (v := 49) d_Pr_closeChoice_15 rfl ?_
      refine lk_icmp_ge (tgt := 56) d_Pr_closeChoice_17 (by decide) (fun hc => ?_) (fun hc => ?_)
      · replace h := x_ifp hc h
        cases h
        refine Lk.sel [] rfl ?_
        exact Lk.stop ⟨rfl, rfl, rfl, rfl, rfl, rfl⟩
      · replace h := x_ifn hc h
        refine lk_aload_n d_Pr_closeChoice_20 rfl ?_
        refine lk_getR (k := 0) d_Pr_closeChoice_21 ha2 (by decide) rfl (by decide) lf_Pr_9 rfl ?_
        refine lk_iload_n d_Pr_closeChoice_24 rfl ?_
        obtain ⟨q3, hq3, h⟩ := x_b h
        obtain ⟨k4, hk4, h⟩ := x_b h
        refine lk_iald d_Pr_closeChoice_25 hq3 hk4 ?_
        refine lk_iconst (v := 3) d_Pr_closeChoice_26 rfl ?_
        obtain ⟨t9, hj, h⟩ := x_b h
        refine Lk.joinS 50 [0, 2] [] rfl 2 [] t9 ?_ ?_
        · replace h := hj
          refine lk_icmp_ne (tgt := 50) d_Pr_closeChoice_27 (by decide) (fun hc => ?_) (fun hc => ?_)
          · replace h := x_ifn hc h
            cases h
            refine Lk.sel [0, 2] rfl ?_
            exact Lk.stop ⟨rfl, rfl, rfl, rfl, rfl, rfl⟩
          · replace h := x_ifp hc h
            refine lk_aload_n d_Pr_closeChoice_30 rfl ?_
            refine lk_getR (k := 1) d_Pr_closeChoice_31 ha2 (by decide) rfl (by decide) lf_Pr_15 rfl ?_
            refine lk_iload_n d_Pr_closeChoice_34 rfl ?_
            obtain ⟨q5, hq5, h⟩ := x_b h
            obtain ⟨k6, hk6, h⟩ := x_b h
            refine lk_iald d_Pr_closeChoice_35 hq5 hk6 ?_
            refine lk_iconst (v := (-1)) d_Pr_closeChoice_36 rfl ?_
            refine lk_icmp_ne (tgt := 50) d_Pr_closeChoice_37 (by decide) (fun hc => ?_) (fun hc => ?_)
            · replace h := x_ifn hc h
              cases h
              refine Lk.sel [0, 2] rfl ?_
              exact Lk.stop ⟨rfl, rfl, rfl, rfl, rfl, rfl⟩
            · replace h := x_ifp hc h
              refine lk_aload_n d_Pr_closeChoice_40 rfl ?_
              refine lk_getR (k := 1) d_Pr_closeChoice_41 ha2 (by decide) rfl (by decide) lf_Pr_15 rfl ?_
              refine lk_iload_n d_Pr_closeChoice_44 rfl ?_
              refine lk_aload_n d_Pr_closeChoice_45 rfl ?_
              refine lk_getI (k := 3) d_Pr_closeChoice_46 ha2 (by decide) rfl (by decide) lf_Pr_21 rfl ?_
              obtain ⟨k7, hk7, h⟩ := x_b h
              replace h := x_nm h
              refine lk_iast d_Pr_closeChoice_49 hq5 hk7 ?_
              cases h
              refine Lk.sel [0, 2] rfl ?_
              exact Lk.stop ⟨rfl, rfl, rfl, rfl, rfl, rfl⟩
        · clear hj
          refine lk_iinc (v := _ + 1) d_Pr_closeChoice_50 rfl rfl (by decide) rfl ?_
          refine lk_goto (tgt := 6) d_Pr_closeChoice_53 (by decide) ?_
          refine Lk.sel [0, 2] rfl ?_
          exact ih _ _ _ _ h
def f_Pr_closeChoice (z0 : Nat) (x1 : Int32) (s : hv_S) : Option (hv_S) :=
  (some (if x1 < 0 then 0 else x1)).bind fun y1 =>
  (L_Pr_closeChoice_6 100000 ((some z0)) y1 s).bind fun e10 =>
  some e10
set_option maxRecDepth 4000 in
set_option maxHeartbeats 2000000 in
theorem c_Pr_closeChoice {G : lt_G} {z0 : Nat} {x1 : Int32} {s : hv_S} {p : hv_S} (h : f_Pr_closeChoice z0 x1 s = some p) : Ck G m_Pr_closeChoice 1 0 0 [vR (some z0), vI x1] s none p := by
  refine Ck.of (by decide) (Nat.le_of_ble_eq_true rfl) ?_
  unfold f_Pr_closeChoice at h
  refine lk_iload_n d_Pr_closeChoice_0 rfl ?_
  refine lk_iconst (v := 0) d_Pr_closeChoice_1 rfl ?_
  refine lk_mmax d_Pr_closeChoice_2 lmm_Pr_36 mm_st mm_in mm_co (Nat.le_of_ble_eq_true rfl) (Nat.le_of_ble_eq_true rfl) ?_
  replace h := x_nm h
  refine lk_istore_n d_Pr_closeChoice_5 (by decide) rfl ?_
  obtain ⟨e10, hl, h⟩ := x_b h
  refine Lk.sel [0, 2] rfl ?_
  refine Lk.trans (l_Pr_closeChoice_6 _ _ _ _ _ hl) ?_
  intro pc' lo' st' s' mc' ms' hx
  obtain ⟨rfl, rfl, rfl, rfl, rfl, rfl⟩ := hx
  cases h
  exact Lk.stop ⟨rfl, Or.inl ⟨d_Pr_closeChoice_56, rfl, rfl, rfl⟩⟩
