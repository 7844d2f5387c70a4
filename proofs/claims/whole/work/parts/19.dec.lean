/-! WHAT THE METHODS DO: partial functions f_ over the view, loops L_, and the proofs c_, l_ that the bytecode does so; printed by wip/whole/gen_dec.py -/
def f_Mo_behind (z0 : Nat) (x1 : Int32) (x2 : Int32) (s : hv_S) : Option (Int32 × hv_S) :=
  (x_ob s 11 ((some z0))).bind fun a1 =>
  (x_ar s 0 (hv_R s a1 7)).bind fun q2 =>
  (x_ix q2.2 x1).bind fun k3 =>
  (some (hv_I s q2.1 k3)).bind fun y4 =>
  if y4 = 2 then
    (x_ar s 0 (hv_R s a1 9)).bind fun q5 =>
    (x_ix q5.2 x1).bind fun k6 =>
    (f_Mo_otherWay a1 (hv_I s q5.1 k6) x2 s).bind fun p7 =>
    (x_ob p7 11 ((some z0))).bind fun a8 =>
    (x_ar p7 0 (hv_R p7 a8 8)).bind fun q9 =>
    (x_ix q9.2 x1).bind fun k10 =>
    some ((hv_I p7 q9.1 k10, p7))
  else if y4 = 3 then
    (x_ar s 0 (hv_R s a1 8)).bind fun q11 =>
    (x_ix q11.2 x1).bind fun k12 =>
    some ((hv_I s q11.1 k12, s))
  else if y4 = 4 then
    (x_ar s 0 (hv_R s a1 8)).bind fun q13 =>
    (x_ix q13.2 x1).bind fun k14 =>
    (x_ar s 0 (hv_R s a1 22)).bind fun q15 =>
    (x_ix q15.2 (hv_I s q13.1 k14)).bind fun k16 =>
    (some (hv_setI s q15.1 k16 x2)).bind fun s17 =>
    some ((x1 + (1 : Int32), s17))
  else if y4 = 5 then
    ((
      if x2 = 0 then
        some (x1 + (1 : Int32))
      else
        some ((-1))
    ) : Option (Int32)).bind fun t18 =>
    some ((t18, s))
  else if y4 = 6 then
    ((
      if x2 = (hv_I s a1 4) then
        some (x1 + (1 : Int32))
      else
        some ((-1))
    ) : Option (Int32)).bind fun t19 =>
    some ((t19, s))
  else
    some (((-1), s))
set_option maxRecDepth 4000 in
set_option maxHeartbeats 2000000 in
theorem c_Mo_behind {G : lt_G} {z0 : Nat} {x1 : Int32} {x2 : Int32} {s : hv_S} {p : Int32 × hv_S} (h : f_Mo_behind z0 x1 x2 s = some p) : Ck G m_Mo_behind 2 0 0 [vR (some z0), vI x1, vI x2] s (some (vI p.1)) p.2 := by
  refine Ck.of (by decide) (Nat.le_of_ble_eq_true rfl) ?_
  unfold f_Mo_behind at h
  refine lk_aload_n d_Mo_behind_0 rfl ?_
  obtain ⟨a1, ha1, h⟩ := x_b h
  refine lk_getR (k := 7) d_Mo_behind_1 ha1 (by decide) rfl (by decide) lf_Mo_16 rfl ?_
  refine lk_iload_n d_Mo_behind_4 rfl ?_
  obtain ⟨q2, hq2, h⟩ := x_b h
  obtain ⟨k3, hk3, h⟩ := x_b h
  refine lk_iald d_Mo_behind_5 hq2 hk3 ?_
  replace h := x_nm h
  rcases x_ifc h with ⟨g0, h⟩ | ⟨g0, h⟩
  · refine lk_tableIn (tgt := 40) d_Mo_behind_6 (by rw [g0]; decide) (by rw [g0]; decide) (by rw [g0]; rfl) (by decide) ?_
    refine lk_aload_n d_Mo_behind_40 rfl ?_
    refine lk_aload_n d_Mo_behind_41 rfl ?_
    refine lk_getR (k := 9) d_Mo_behind_42 ha1 (by decide) rfl (by decide) lf_Mo_22 rfl ?_
    refine lk_iload_n d_Mo_behind_45 rfl ?_
    obtain ⟨q5, hq5, h⟩ := x_b h
    obtain ⟨k6, hk6, h⟩ := x_b h
    refine lk_iald d_Mo_behind_46 hq5 hk6 ?_
    refine lk_iload_n d_Mo_behind_47 rfl ?_
    obtain ⟨p7, hp7, h⟩ := x_b h
    refine lk_callV0 d_Mo_behind_48 (x_obm ha1 rfl) (c_Mo_otherWay hp7) (Nat.le_of_ble_eq_true rfl) rfl M_Mo_otherWay lm_Mo_175 in_Mo_otherWay se_Mo_otherWay (by decide) rfl (Nat.le_of_ble_eq_true rfl) ?_
    refine lk_aload_n d_Mo_behind_51 rfl ?_
    obtain ⟨a8, ha8, h⟩ := x_b h
    refine lk_getR (k := 8) d_Mo_behind_52 ha8 (by decide) rfl (by decide) lf_Mo_19 rfl ?_
    refine lk_iload_n d_Mo_behind_55 rfl ?_
    obtain ⟨q9, hq9, h⟩ := x_b h
    obtain ⟨k10, hk10, h⟩ := x_b h
    refine lk_iald d_Mo_behind_56 hq9 hk10 ?_
    cases h
    exact Lk.stop ⟨rfl, Or.inr (Or.inl ⟨_, _, d_Mo_behind_57, rfl, rfl, rfl, rfl⟩)⟩
  · rcases x_ifc h with ⟨g1, h⟩ | ⟨g1, h⟩
    · refine lk_tableIn (tgt := 58) d_Mo_behind_6 (by rw [g1]; decide) (by rw [g1]; decide) (by rw [g1]; rfl) (by decide) ?_
      refine lk_aload_n d_Mo_behind_58 rfl ?_
      refine lk_getR (k := 8) d_Mo_behind_59 ha1 (by decide) rfl (by decide) lf_Mo_19 rfl ?_
      refine lk_iload_n d_Mo_behind_62 rfl ?_
      obtain ⟨q11, hq11, h⟩ := x_b h
      obtain ⟨k12, hk12, h⟩ := x_b h
      refine lk_iald d_Mo_behind_63 hq11 hk12 ?_
      cases h
      exact Lk.stop ⟨rfl, Or.inr (Or.inl ⟨_, _, d_Mo_behind_64, rfl, rfl, rfl, rfl⟩)⟩
    · rcases x_ifc h with ⟨g2, h⟩ | ⟨g2, h⟩
      · refine lk_tableIn (tgt := 65) d_Mo_behind_6 (by rw [g2]; decide) (by rw [g2]; decide) (by rw [g2]; rfl) (by decide) ?_
        refine lk_aload_n d_Mo_behind_65 rfl ?_
        refine lk_getR (k := 22) d_Mo_behind_66 ha1 (by decide) rfl (by decide) lf_Mo_46 rfl ?_
        refine lk_aload_n d_Mo_behind_69 rfl ?_
        refine lk_getR (k := 8) d_Mo_behind_70 ha1 (by decide) rfl (by decide) lf_Mo_19 rfl ?_
        refine lk_iload_n d_Mo_behind_73 rfl ?_
        obtain ⟨q13, hq13, h⟩ := x_b h
        obtain ⟨k14, hk14, h⟩ := x_b h
        refine lk_iald d_Mo_behind_74 hq13 hk14 ?_
        refine lk_iload_n d_Mo_behind_75 rfl ?_
        obtain ⟨q15, hq15, h⟩ := x_b h
        obtain ⟨k16, hk16, h⟩ := x_b h
        replace h := x_nm h
        refine lk_iast d_Mo_behind_76 hq15 hk16 ?_
        refine lk_iload_n d_Mo_behind_77 rfl ?_
        refine lk_iconst (v := 1) d_Mo_behind_78 rfl ?_
        refine lk_iadd d_Mo_behind_79 ?_
        cases h
        exact Lk.stop ⟨rfl, Or.inr (Or.inl ⟨_, _, d_Mo_behind_80, rfl, rfl, rfl, rfl⟩)⟩
      · rcases x_ifc h with ⟨g3, h⟩ | ⟨g3, h⟩
        · refine lk_tableIn (tgt := 81) d_Mo_behind_6 (by rw [g3]; decide) (by rw [g3]; decide) (by rw [g3]; rfl) (by decide) ?_
          refine lk_iload_n d_Mo_behind_81 rfl ?_
          obtain ⟨t18, hj, h⟩ := x_b h
          refine Lk.joinA 92 [] [] rfl 1 [vI t18] ?_ ?_
          · replace h := hj
            refine lk_if_ne (tgt := 91) d_Mo_behind_82 (by decide) (fun hc => ?_) (fun hc => ?_)
            · replace h := x_ifn hc h
              refine lk_iconst (v := (-1)) d_Mo_behind_91 rfl ?_
              cases h
              refine Lk.sel [] rfl ?_
              exact Lk.stop ⟨rfl, rfl, rfl, rfl, rfl, rfl⟩
            · replace h := x_ifp hc h
              refine lk_iload_n d_Mo_behind_85 rfl ?_
              refine lk_iconst (v := 1) d_Mo_behind_86 rfl ?_
              refine lk_iadd d_Mo_behind_87 ?_
              refine lk_goto (tgt := 92) d_Mo_behind_88 (by decide) ?_
              cases h
              refine Lk.sel [] rfl ?_
              exact Lk.stop ⟨rfl, rfl, rfl, rfl, rfl, rfl⟩
          · clear hj
            cases h
            exact Lk.stop ⟨rfl, Or.inr (Or.inl ⟨_, _, d_Mo_behind_92, rfl, rfl, rfl, rfl⟩)⟩
        · rcases x_ifc h with ⟨g4, h⟩ | ⟨g4, h⟩
          · refine lk_tableIn (tgt := 93) d_Mo_behind_6 (by rw [g4]; decide) (by rw [g4]; decide) (by rw [g4]; rfl) (by decide) ?_
            refine lk_iload_n d_Mo_behind_93 rfl ?_
            refine lk_aload_n d_Mo_behind_94 rfl ?_
            refine lk_getI (k := 4) d_Mo_behind_95 ha1 (by decide) rfl (by decide) lf_Mo_172 rfl ?_
            obtain ⟨t19, hj, h⟩ := x_b h
            refine Lk.joinA 108 [] [] rfl 2 [vI t19] ?_ ?_
            · replace h := hj
              refine lk_icmp_ne (tgt := 107) d_Mo_behind_98 (by decide) (fun hc => ?_) (fun hc => ?_)
              · replace h := x_ifn hc h
                refine lk_iconst (v := (-1)) d_Mo_behind_107 rfl ?_
                cases h
                refine Lk.sel [] rfl ?_
                exact Lk.stop ⟨rfl, rfl, rfl, rfl, rfl, rfl⟩
              · replace h := x_ifp hc h
                refine lk_iload_n d_Mo_behind_101 rfl ?_
                refine lk_iconst (v := 1) d_Mo_behind_102 rfl ?_
                refine lk_iadd d_Mo_behind_103 ?_
                refine lk_goto (tgt := 108) d_Mo_behind_104 (by decide) ?_
                cases h
                refine Lk.sel [] rfl ?_
                exact Lk.stop ⟨rfl, rfl, rfl, rfl, rfl, rfl⟩
            · clear hj
              cases h
              exact Lk.stop ⟨rfl, Or.inr (Or.inl ⟨_, _, d_Mo_behind_108, rfl, rfl, rfl, rfl⟩)⟩
          · have e0 := lv_neT g0 (a := 2) rfl
            have e1 := lv_neT g1 (a := 3) rfl
            have e2 := lv_neT g2 (a := 4) rfl
            have e3 := lv_neT g3 (a := 5) rfl
            have e4 := lv_neT g4 (a := 6) rfl
            refine lk_tableOut (tgt := 109) d_Mo_behind_6 (by omega) (by decide) ?_
            refine lk_iconst (v := (-1)) d_Mo_behind_109 rfl ?_
            cases h
            exact Lk.stop ⟨rfl, Or.inr (Or.inl ⟨_, _, d_Mo_behind_110, rfl, rfl, rfl, rfl⟩)⟩
def L_Mo_enter_22 : Nat → Option Nat → Int32 → Int32 → Int32 → hv_S → Option (hv_S)
  | 0, _, _, _, _, _ => none
  | n + 1, x0, x2, x3, x4, s =>
    if 8 ≤ x4 then
      some s
    else
      (x_ob s 11 x0).bind fun a8 =>
      (x_ar s 0 (hv_R s a8 22)).bind fun q9 =>
      (x_ix q9.2 x4).bind fun k10 =>
      (x_ar s 0 (hv_R s a8 25)).bind fun q11 =>
      (x_ix q11.2 (((8 : Int32) * x3) + x4)).bind fun k12 =>
      (some (hv_setI s q11.1 k12 (hv_I s q9.1 k10))).bind fun s13 =>
      L_Mo_enter_22 n x0 x2 x3 (x4 + 1) s13
set_option maxRecDepth 4000 in
set_option maxHeartbeats 2000000 in
theorem l_Mo_enter_22 {G : lt_G} : ∀ (n : Nat) (x0 : Option Nat) (x2 : Int32) (x3 : Int32) (x4 : Int32) (s : hv_S) (e0 : hv_S), L_Mo_enter_22 n x0 x2 x3 x4 s = some e0 → Lk G m_Mo_enter 1 22 [(0, vR x0), (2, vI x2), (3, vI x3), (4, vI x4)] [] s 0 0 (lk_at 54 [(0, vR x0), (2, vI x2)] [] e0 0 0) := by
  intro n
  induction n with
  | zero => intro x0 x2 x3 x4 s e0 h; cases h
  | succ n ih =>
    intro x0 x2 x3 x4 s e0 h
    unfold L_Mo_enter_22 at h
    refine lk_iload d_Mo_enter_22 rfl ?_
    refine lk_bipush (v := 8) d_Mo_enter_24 rfl ?_
    refine lk_icmp_ge (tgt := 54) d_Mo_enter_26 (by decide) (fun hc => ?_) (fun hc => ?_)
    · replace h := x_ifp hc h
      cases h
      refine Lk.sel [0, 2] rfl ?_
      exact Lk.stop ⟨rfl, rfl, rfl, rfl, rfl, rfl⟩
    · replace h := x_ifn hc h
      refine lk_aload_n d_Mo_enter_29 rfl ?_
      obtain ⟨a8, ha8, h⟩ := x_b h
      refine lk_getR (k := 25) d_Mo_enter_30 ha8 (by decide) rfl (by decide) lf_Mo_55 rfl ?_
      refine lk_bipush (v := 8) d_Mo_enter_33 rfl ?_
      refine lk_iload_n d_Mo_enter_35 rfl ?_
      refine lk_imul d_Mo_enter_36 ?_
      refine lk_iload d_Mo_enter_37 rfl ?_
      refine lk_iadd d_Mo_enter_39 ?_
      refine lk_aload_n d_Mo_enter_40 rfl ?_
      refine lk_getR (k := 22) d_Mo_enter_41 ha8 (by decide) rfl (by decide) lf_Mo_46 rfl ?_
      refine lk_iload d_Mo_enter_44 rfl ?_
      obtain ⟨q9, hq9, h⟩ := x_b h
      obtain ⟨k10, hk10, h⟩ := x_b h
      refine lk_iald d_Mo_enter_46 hq9 hk10 ?_
      obtain ⟨q11, hq11, h⟩ := x_b h
      obtain ⟨k12, hk12, h⟩ := x_b h
      replace h := x_nm h
      refine lk_iast d_Mo_enter_47 hq11 hk12 ?_
      refine lk_iinc (v := _ + 1) d_Mo_enter_48 rfl rfl (by decide) rfl ?_
      refine lk_goto (tgt := 22) d_Mo_enter_51 (by decide) ?_
      refine Lk.sel [0, 2, 3, 4] rfl ?_
      exact ih _ _ _ _ _ _ h
def f_Mo_enter (z0 : Nat) (x1 : Int32) (x2 : Int32) (s : hv_S) : Option (hv_S) :=
  (x_ob s 11 ((some z0))).bind fun a1 =>
  (x_ar s 0 (hv_R s a1 23)).bind fun q2 =>
  (x_ix q2.2 x2).bind fun k3 =>
  (some (((64 : Int32) * x2) + (hv_I s q2.1 k3))).bind fun y4 =>
  (x_ar s 0 (hv_R s a1 24)).bind fun q5 =>
  (x_ix q5.2 y4).bind fun k6 =>
  (some (hv_setI s q5.1 k6 x1)).bind fun s7 =>
  (L_Mo_enter_22 100000 ((some z0)) x2 y4 0 s7).bind fun e14 =>
  (x_ob e14 11 ((some z0))).bind fun a15 =>
  (x_ar e14 0 (hv_R e14 a15 23)).bind fun q16 =>
  (x_ix q16.2 x2).bind fun k17 =>
  (x_ix q16.2 x2).bind fun k18 =>
  (some (hv_setI e14 q16.1 k18 ((hv_I e14 q16.1 k17) + (1 : Int32)))).bind fun s19 =>
  some s19
set_option maxRecDepth 4000 in
set_option maxHeartbeats 2000000 in
theorem c_Mo_enter {G : lt_G} {z0 : Nat} {x1 : Int32} {x2 : Int32} {s : hv_S} {p : hv_S} (h : f_Mo_enter z0 x1 x2 s = some p) : Ck G m_Mo_enter 1 0 0 [vR (some z0), vI x1, vI x2] s none p := by
  refine Ck.of (by decide) (Nat.le_of_ble_eq_true rfl) ?_
  unfold f_Mo_enter at h
  refine lk_bipush (v := 64) d_Mo_enter_0 rfl ?_
  refine lk_iload_n d_Mo_enter_2 rfl ?_
  refine lk_imul d_Mo_enter_3 ?_
  refine lk_aload_n d_Mo_enter_4 rfl ?_
  obtain ⟨a1, ha1, h⟩ := x_b h
  refine lk_getR (k := 23) d_Mo_enter_5 ha1 (by decide) rfl (by decide) lf_Mo_49 rfl ?_
  refine lk_iload_n d_Mo_enter_8 rfl ?_
  obtain ⟨q2, hq2, h⟩ := x_b h
  obtain ⟨k3, hk3, h⟩ := x_b h
  refine lk_iald d_Mo_enter_9 hq2 hk3 ?_
  refine lk_iadd d_Mo_enter_10 ?_
  replace h := x_nm h
  refine lk_istore_n d_Mo_enter_11 (by decide) rfl ?_
  refine lk_aload_n d_Mo_enter_12 rfl ?_
  refine lk_getR (k := 24) d_Mo_enter_13 ha1 (by decide) rfl (by decide) lf_Mo_52 rfl ?_
  refine lk_iload_n d_Mo_enter_16 rfl ?_
  refine lk_iload_n d_Mo_enter_17 rfl ?_
  obtain ⟨q5, hq5, h⟩ := x_b h
  obtain ⟨k6, hk6, h⟩ := x_b h
  replace h := x_nm h
  refine lk_iast d_Mo_enter_18 hq5 hk6 ?_
  refine lk_iconst (v := 0) d_Mo_enter_19 rfl ?_
  refine lk_istore d_Mo_enter_20 (by decide) rfl ?_
  obtain ⟨e14, hl, h⟩ := x_b h
  refine Lk.sel [0, 2, 3, 4] rfl ?_
  refine Lk.trans (l_Mo_enter_22 _ _ _ _ _ _ _ hl) ?_
  intro pc' lo' st' s' mc' ms' hx
  obtain ⟨rfl, rfl, rfl, rfl, rfl, rfl⟩ := hx
  refine lk_aload_n d_Mo_enter_54 rfl ?_
  obtain ⟨a15, ha15, h⟩ := x_b h
  refine lk_getR (k := 23) d_Mo_enter_55 ha15 (by decide) rfl (by decide) lf_Mo_49 rfl ?_
  refine lk_iload_n d_Mo_enter_58 rfl ?_
  refine lk_dup2_11 d_Mo_enter_59 rfl rfl ?_
  obtain ⟨q16, hq16, h⟩ := x_b h
  obtain ⟨k17, hk17, h⟩ := x_b h
  refine lk_iald d_Mo_enter_60 hq16 hk17 ?_
  refine lk_iconst (v := 1) d_Mo_enter_61 rfl ?_
  refine lk_iadd d_Mo_enter_62 ?_
  obtain ⟨k18, hk18, h⟩ := x_b h
  replace h := x_nm h
  refine lk_iast d_Mo_enter_63 hq16 hk18 ?_
  cases h
  exact Lk.stop ⟨rfl, Or.inl ⟨d_Mo_enter_64, rfl, rfl, rfl⟩⟩
def L_Mo_follow_8 : Nat → Option Nat → Int32 → Int32 → Int32 → hv_S → Option (hv_S)
  | 0, _, _, _, _, _ => none
  | n + 1, x0, x2, x3, x4, s =>
    if x4 = ((-1)) then
      some s
    else
      (x_ob s 11 x0).bind fun a3 =>
      (x_ar s 0 (hv_R s a3 17)).bind fun q4 =>
      (x_ix q4.2 x4).bind fun k5 =>
      ((
        if (hv_I s q4.1 k5) = (hv_I s a3 16) then
          some ((-1), s)
        else
          (x_ix q4.2 x4).bind fun k6 =>
          (some (hv_setI s q4.1 k6 (hv_I s a3 16))).bind fun s7 =>
          (f_Mo_behind a3 x4 x2 s7).bind fun p8 =>
          (x_ob p8.2 11 x0).bind fun a9 =>
          (x_ar p8.2 0 (hv_R p8.2 a9 7)).bind fun q10 =>
          (x_ix q10.2 x4).bind fun k11 =>
          if (hv_I p8.2 q10.1 k11) ≤ 1 then
            (f_Mo_enter a9 x4 x3 p8.2).bind fun p12 =>
            some (p8.1, p12)
          else
            (x_ix q10.2 x4).bind fun k13 =>
            if (hv_I p8.2 q10.1 k13) = 7 then
              (f_Mo_enter a9 x4 x3 p8.2).bind fun p14 =>
              some (p8.1, p14)
            else
              some (p8.1, p8.2)
      ) : Option (Int32 × hv_S)).bind fun t15 =>
      ((
        if t15.1 = ((-1)) then
          (x_ob t15.2 11 x0).bind fun a16 =>
          (f_Mo_back a16 t15.2).bind fun p17 =>
          some (p17.1, p17.2)
        else
          some (t15.1, t15.2)
      ) : Option (Int32 × hv_S)).bind fun t18 =>
      L_Mo_follow_8 n x0 x2 x3 t18.1 t18.2
set_option maxRecDepth 4000 in
set_option maxHeartbeats 2000000 in
theorem l_Mo_follow_8 {G : lt_G} : ∀ (n : Nat) (x0 : Option Nat) (x2 : Int32) (x3 : Int32) (x4 : Int32) (s : hv_S) (e0 : hv_S), L_Mo_follow_8 n x0 x2 x3 x4 s = some e0 → Lk G m_Mo_follow 3 8 [(0, vR x0), (2, vI x2), (3, vI x3), (4, vI x4)] [] s 0 0 (lk_at 101 [] [] e0 0 0) := by
  intro n
  induction n with
  | zero => intro x0 x2 x3 x4 s e0 h; cases h
  | succ n ih =>
    intro x0 x2 x3 x4 s e0 h
    unfold L_Mo_follow_8 at h
    refine lk_iload d_Mo_follow_8 rfl ?_
    refine lk_iconst (v := (-1)) d_Mo_follow_10 rfl ?_
    refine lk_icmp_eq (tgt := 101) d_Mo_follow_11 (by decide) (fun hc => ?_) (fun hc => ?_)
    · replace h := x_ifp hc h
      cases h
      refine Lk.sel [] rfl ?_
      exact Lk.stop ⟨rfl, rfl, rfl, rfl, rfl, rfl⟩
    · replace h := x_ifn hc h
      refine lk_iconst (v := (-1)) d_Mo_follow_14 rfl ?_
      refine lk_istore d_Mo_follow_15 (by decide) rfl ?_
      refine lk_aload_n d_Mo_follow_17 rfl ?_
      obtain ⟨a3, ha3, h⟩ := x_b h
      refine lk_getR (k := 17) d_Mo_follow_18 ha3 (by decide) rfl (by decide) lf_Mo_34 rfl ?_
      refine lk_iload d_Mo_follow_21 rfl ?_
      obtain ⟨q4, hq4, h⟩ := x_b h
      obtain ⟨k5, hk5, h⟩ := x_b h
      refine lk_iald d_Mo_follow_23 hq4 hk5 ?_
      refine lk_aload_n d_Mo_follow_24 rfl ?_
      refine lk_getI (k := 16) d_Mo_follow_25 ha3 (by decide) rfl (by decide) lf_Mo_166 rfl ?_
      obtain ⟨t15, hj, h⟩ := x_b h
      refine Lk.joinS 81 [0, 2, 3, 5] [(5, vI t15.1)] rfl 2 [] t15.2 ?_ ?_
      · replace h := hj
        refine lk_icmp_eq (tgt := 81) d_Mo_follow_28 (by decide) (fun hc => ?_) (fun hc => ?_)
        · replace h := x_ifp hc h
          cases h
          refine Lk.sel [0, 2, 3, 5] rfl ?_
          exact Lk.stop ⟨rfl, rfl, rfl, rfl, rfl, rfl⟩
        · replace h := x_ifn hc h
          refine lk_aload_n d_Mo_follow_31 rfl ?_
          refine lk_getR (k := 17) d_Mo_follow_32 ha3 (by decide) rfl (by decide) lf_Mo_34 rfl ?_
          refine lk_iload d_Mo_follow_35 rfl ?_
          refine lk_aload_n d_Mo_follow_37 rfl ?_
          refine lk_getI (k := 16) d_Mo_follow_38 ha3 (by decide) rfl (by decide) lf_Mo_166 rfl ?_
          obtain ⟨k6, hk6, h⟩ := x_b h
          replace h := x_nm h
          refine lk_iast d_Mo_follow_41 hq4 hk6 ?_
          refine lk_aload_n d_Mo_follow_42 rfl ?_
          refine lk_iload d_Mo_follow_43 rfl ?_
          refine lk_iload_n d_Mo_follow_45 rfl ?_
          obtain ⟨p8, hp8, h⟩ := x_b h
          refine lk_callV0 d_Mo_follow_46 (x_obm ha3 rfl) (c_Mo_behind hp8) (Nat.le_of_ble_eq_true rfl) rfl M_Mo_behind lm_Mo_179 in_Mo_behind se_Mo_behind (by decide) rfl (Nat.le_of_ble_eq_true rfl) ?_
          refine lk_istore d_Mo_follow_49 (by decide) rfl ?_
          refine lk_aload_n d_Mo_follow_51 rfl ?_
          obtain ⟨a9, ha9, h⟩ := x_b h
          refine lk_getR (k := 7) d_Mo_follow_52 ha9 (by decide) rfl (by decide) lf_Mo_16 rfl ?_
          refine lk_iload d_Mo_follow_55 rfl ?_
          obtain ⟨q10, hq10, h⟩ := x_b h
          obtain ⟨k11, hk11, h⟩ := x_b h
          refine lk_iald d_Mo_follow_57 hq10 hk11 ?_
          refine lk_iconst (v := 1) d_Mo_follow_58 rfl ?_
          refine lk_icmp_le (tgt := 74) d_Mo_follow_59 (by decide) (fun hc => ?_) (fun hc => ?_)
          · replace h := x_ifp hc h
            refine lk_aload_n d_Mo_follow_74 rfl ?_
            refine lk_iload d_Mo_follow_75 rfl ?_
            refine lk_iload_n d_Mo_follow_77 rfl ?_
            obtain ⟨p12, hp12, h⟩ := x_b h
            refine lk_callV0 d_Mo_follow_78 (x_obm ha9 rfl) (c_Mo_enter hp12) (Nat.le_of_ble_eq_true rfl) rfl M_Mo_enter lm_Mo_183 in_Mo_enter se_Mo_enter (by decide) rfl (Nat.le_of_ble_eq_true rfl) ?_
            cases h
            refine Lk.sel [0, 2, 3, 5] rfl ?_
            exact Lk.stop ⟨rfl, rfl, rfl, rfl, rfl, rfl⟩
          · replace h := x_ifn hc h
            refine lk_aload_n d_Mo_follow_62 rfl ?_
            refine lk_getR (k := 7) d_Mo_follow_63 ha9 (by decide) rfl (by decide) lf_Mo_16 rfl ?_
            refine lk_iload d_Mo_follow_66 rfl ?_
            obtain ⟨k13, hk13, h⟩ := x_b h
            refine lk_iald d_Mo_follow_68 hq10 hk13 ?_
            refine lk_bipush (v := 7) d_Mo_follow_69 rfl ?_
            refine lk_icmp_ne (tgt := 81) d_Mo_follow_71 (by decide) (fun hc => ?_) (fun hc => ?_)
            · replace h := x_ifn hc h
              cases h
              refine Lk.sel [0, 2, 3, 5] rfl ?_
              exact Lk.stop ⟨rfl, rfl, rfl, rfl, rfl, rfl⟩
            · replace h := x_ifp hc h
              refine lk_aload_n d_Mo_follow_74 rfl ?_
              refine lk_iload d_Mo_follow_75 rfl ?_
              refine lk_iload_n d_Mo_follow_77 rfl ?_
              obtain ⟨p14, hp14, h⟩ := x_b h
              refine lk_callV0 d_Mo_follow_78 (x_obm ha9 rfl) (c_Mo_enter hp14) (Nat.le_of_ble_eq_true rfl) rfl M_Mo_enter lm_Mo_183 in_Mo_enter se_Mo_enter (by decide) rfl (Nat.le_of_ble_eq_true rfl) ?_
              cases h
              refine Lk.sel [0, 2, 3, 5] rfl ?_
              exact Lk.stop ⟨rfl, rfl, rfl, rfl, rfl, rfl⟩
      · clear hj
        refine lk_iload d_Mo_follow_81 rfl ?_
        refine lk_iconst (v := (-1)) d_Mo_follow_83 rfl ?_
        obtain ⟨t18, hj, h⟩ := x_b h
        refine Lk.joinS 96 [0, 2, 3] [] rfl 2 [vI t18.1] t18.2 ?_ ?_
        · replace h := hj
          refine lk_icmp_ne (tgt := 94) d_Mo_follow_84 (by decide) (fun hc => ?_) (fun hc => ?_)
          · replace h := x_ifn hc h
            refine lk_iload d_Mo_follow_94 rfl ?_
            cases h
            refine Lk.sel [0, 2, 3] rfl ?_
            exact Lk.stop ⟨rfl, rfl, rfl, rfl, rfl, rfl⟩
          · replace h := x_ifp hc h
            refine lk_aload_n d_Mo_follow_87 rfl ?_
            obtain ⟨a16, ha16, h⟩ := x_b h
            obtain ⟨p17, hp17, h⟩ := x_b h
            refine lk_callV0 d_Mo_follow_88 (x_obm ha16 rfl) (c_Mo_back hp17) (Nat.le_of_ble_eq_true rfl) rfl M_Mo_back lm_Mo_186 in_Mo_back se_Mo_back (by decide) rfl (Nat.le_of_ble_eq_true rfl) ?_
            refine lk_goto (tgt := 96) d_Mo_follow_91 (by decide) ?_
            cases h
            refine Lk.sel [0, 2, 3] rfl ?_
            exact Lk.stop ⟨rfl, rfl, rfl, rfl, rfl, rfl⟩
        · clear hj
          refine lk_istore d_Mo_follow_96 (by decide) rfl ?_
          refine lk_goto (tgt := 8) d_Mo_follow_98 (by decide) ?_
          refine Lk.sel [0, 2, 3, 4] rfl ?_
          exact ih _ _ _ _ _ _ h
def f_Mo_follow (z0 : Nat) (x1 : Int32) (x2 : Int32) (x3 : Int32) (s : hv_S) : Option (hv_S) :=
  (x_ob s 11 ((some z0))).bind fun a1 =>
  (some (hv_setI s a1 18 0)).bind fun s2 =>
  (L_Mo_follow_8 100000 ((some z0)) x2 x3 x1 s2).bind fun e19 =>
  some e19
set_option maxRecDepth 4000 in
set_option maxHeartbeats 2000000 in
theorem c_Mo_follow {G : lt_G} {z0 : Nat} {x1 : Int32} {x2 : Int32} {x3 : Int32} {s : hv_S} {p : hv_S} (h : f_Mo_follow z0 x1 x2 x3 s = some p) : Ck G m_Mo_follow 3 0 0 [vR (some z0), vI x1, vI x2, vI x3] s none p := by
  refine Ck.of (by decide) (Nat.le_of_ble_eq_true rfl) ?_
  unfold f_Mo_follow at h
  refine lk_aload_n d_Mo_follow_0 rfl ?_
  refine lk_iconst (v := 0) d_Mo_follow_1 rfl ?_
  obtain ⟨a1, ha1, h⟩ := x_b h
  replace h := x_nm h
  refine lk_putI (k := 18) d_Mo_follow_2 ha1 (by decide) rfl (by decide) lf_Mo_169 rfl rfl ?_
  refine lk_iload_n d_Mo_follow_5 rfl ?_
  refine lk_istore d_Mo_follow_6 (by decide) rfl ?_
  obtain ⟨e19, hl, h⟩ := x_b h
  refine Lk.sel [0, 2, 3, 4] rfl ?_
  refine Lk.trans (l_Mo_follow_8 _ _ _ _ _ _ _ hl) ?_
  intro pc' lo' st' s' mc' ms' hx
  obtain ⟨rfl, rfl, rfl, rfl, rfl, rfl⟩ := hx
  cases h
  exact Lk.stop ⟨rfl, Or.inl ⟨d_Mo_follow_101, rfl, rfl, rfl⟩⟩
def L_Mo_take_2 : Nat → Option Nat → Int32 → Int32 → hv_S → Option (hv_S)
  | 0, _, _, _, _ => none
  | n + 1, x0, x1, x2, s =>
    if 8 ≤ x2 then
      some s
    else
      (x_ob s 11 x0).bind fun a1 =>
      (x_ar s 0 (hv_R s a1 25)).bind fun q2 =>
      (x_ix q2.2 (((8 : Int32) * x1) + x2)).bind fun k3 =>
      (x_ar s 0 (hv_R s a1 22)).bind fun q4 =>
      (x_ix q4.2 x2).bind fun k5 =>
      (some (hv_setI s q4.1 k5 (hv_I s q2.1 k3))).bind fun s6 =>
      L_Mo_take_2 n x0 x1 (x2 + 1) s6
set_option maxRecDepth 4000 in
set_option maxHeartbeats 2000000 in
theorem l_Mo_take_2 {G : lt_G} : ∀ (n : Nat) (x0 : Option Nat) (x1 : Int32) (x2 : Int32) (s : hv_S) (e0 : hv_S), L_Mo_take_2 n x0 x1 x2 s = some e0 → Lk G m_Mo_take 1 2 [(0, vR x0), (1, vI x1), (2, vI x2)] [] s 0 0 (lk_at 31 [] [] e0 0 0) := by
  intro n
  induction n with
  | zero => intro x0 x1 x2 s e0 h; cases h
  | succ n ih =>
    intro x0 x1 x2 s e0 h
    unfold L_Mo_take_2 at h
    refine lk_iload_n d_Mo_take_2 rfl ?_
    refine lk_bipush (v := 8) d_Mo_take_3 rfl ?_
    refine lk_icmp_ge (tgt := 31) d_Mo_take_5 (by decide) (fun hc => ?_) (fun hc => ?_)
    · replace h := x_ifp hc h
      cases h
      refine Lk.sel [] rfl ?_
      exact Lk.stop ⟨rfl, rfl, rfl, rfl, rfl, rfl⟩
    · replace h := x_ifn hc h
      refine lk_aload_n d_Mo_take_8 rfl ?_
      obtain ⟨a1, ha1, h⟩ := x_b h
      refine lk_getR (k := 22) d_Mo_take_9 ha1 (by decide) rfl (by decide) lf_Mo_46 rfl ?_
      refine lk_iload_n d_Mo_take_12 rfl ?_
      refine lk_aload_n d_Mo_take_13 rfl ?_
      refine lk_getR (k := 25) d_Mo_take_14 ha1 (by decide) rfl (by decide) lf_Mo_55 rfl ?_
      refine lk_bipush (v := 8) d_Mo_take_17 rfl ?_
      refine lk_iload_n d_Mo_take_19 rfl ?_
      refine lk_imul d_Mo_take_20 ?_
      refine lk_iload_n d_Mo_take_21 rfl ?_
      refine lk_iadd d_Mo_take_22 ?_
      obtain ⟨q2, hq2, h⟩ := x_b h
      obtain ⟨k3, hk3, h⟩ := x_b h
      refine lk_iald d_Mo_take_23 hq2 hk3 ?_
      obtain ⟨q4, hq4, h⟩ := x_b h
      obtain ⟨k5, hk5, h⟩ := x_b h
      replace h := x_nm h
      refine lk_iast d_Mo_take_24 hq4 hk5 ?_
      refine lk_iinc (v := _ + 1) d_Mo_take_25 rfl rfl (by decide) rfl ?_
      refine lk_goto (tgt := 2) d_Mo_take_28 (by decide) ?_
      refine Lk.sel [0, 1, 2] rfl ?_
      exact ih _ _ _ _ _ h
def f_Mo_take (z0 : Nat) (x1 : Int32) (s : hv_S) : Option (hv_S) :=
  (L_Mo_take_2 100000 ((some z0)) x1 0 s).bind fun e7 =>
  some e7
set_option maxRecDepth 4000 in
set_option maxHeartbeats 2000000 in
theorem c_Mo_take {G : lt_G} {z0 : Nat} {x1 : Int32} {s : hv_S} {p : hv_S} (h : f_Mo_take z0 x1 s = some p) : Ck G m_Mo_take 1 0 0 [vR (some z0), vI x1] s none p := by
  refine Ck.of (by decide) (Nat.le_of_ble_eq_true rfl) ?_
  unfold f_Mo_take at h
  refine lk_iconst (v := 0) d_Mo_take_0 rfl ?_
  refine lk_istore_n d_Mo_take_1 (by decide) rfl ?_
  obtain ⟨e7, hl, h⟩ := x_b h
  refine Lk.sel [0, 1, 2] rfl ?_
  refine Lk.trans (l_Mo_take_2 _ _ _ _ _ _ hl) ?_
  intro pc' lo' st' s' mc' ms' hx
  obtain ⟨rfl, rfl, rfl, rfl, rfl, rfl⟩ := hx
  cases h
  exact Lk.stop ⟨rfl, Or.inl ⟨d_Mo_take_31, rfl, rfl, rfl⟩⟩
def L_Mo_note_7 : Nat → Option Nat → Int32 → Int32 → hv_S → Option (hv_S)
  | 0, _, _, _, _ => none
  | n + 1, x0, x1, x2, s =>
    if 8 ≤ x2 then
      some s
    else
      (x_ob s 11 x0).bind fun a3 =>
      (x_ar s 0 (hv_R s a3 22)).bind fun q4 =>
      (x_ix q4.2 x2).bind fun k5 =>
      (x_ar s 0 (hv_R s a3 40)).bind fun q6 =>
      (x_ix q6.2 x2).bind fun k7 =>
      (some (hv_setI s q6.1 k7 (hv_I s q4.1 k5))).bind fun s8 =>
      L_Mo_note_7 n x0 x1 (x2 + 1) s8
set_option maxRecDepth 4000 in
set_option maxHeartbeats 2000000 in
theorem l_Mo_note_7 {G : lt_G} : ∀ (n : Nat) (x0 : Option Nat) (x1 : Int32) (x2 : Int32) (s : hv_S) (e0 : hv_S), L_Mo_note_7 n x0 x1 x2 s = some e0 → Lk G m_Mo_note 1 7 [(0, vR x0), (1, vI x1), (2, vI x2)] [] s 0 0 (lk_at 31 [(0, vR x0), (1, vI x1)] [] e0 0 0) := by
  intro n
  induction n with
  | zero => intro x0 x1 x2 s e0 h; cases h
  | succ n ih =>
    intro x0 x1 x2 s e0 h
    unfold L_Mo_note_7 at h
    refine lk_iload_n d_Mo_note_7 rfl ?_
    refine lk_bipush (v := 8) d_Mo_note_8 rfl ?_
    refine lk_icmp_ge (tgt := 31) d_Mo_note_10 (by decide) (fun hc => ?_) (fun hc => ?_)
    · replace h := x_ifp hc h
      cases h
      refine Lk.sel [0, 1] rfl ?_
      exact Lk.stop ⟨rfl, rfl, rfl, rfl, rfl, rfl⟩
    · replace h := x_ifn hc h
      refine lk_aload_n d_Mo_note_13 rfl ?_
      obtain ⟨a3, ha3, h⟩ := x_b h
      refine lk_getR (k := 40) d_Mo_note_14 ha3 (by decide) rfl (by decide) lf_Mo_84 rfl ?_
      refine lk_iload_n d_Mo_note_17 rfl ?_
      refine lk_aload_n d_Mo_note_18 rfl ?_
      refine lk_getR (k := 22) d_Mo_note_19 ha3 (by decide) rfl (by decide) lf_Mo_46 rfl ?_
      refine lk_iload_n d_Mo_note_22 rfl ?_
      obtain ⟨q4, hq4, h⟩ := x_b h
      obtain ⟨k5, hk5, h⟩ := x_b h
      refine lk_iald d_Mo_note_23 hq4 hk5 ?_
      obtain ⟨q6, hq6, h⟩ := x_b h
      obtain ⟨k7, hk7, h⟩ := x_b h
      replace h := x_nm h
      refine lk_iast d_Mo_note_24 hq6 hk7 ?_
      refine lk_iinc (v := _ + 1) d_Mo_note_25 rfl rfl (by decide) rfl ?_
      refine lk_goto (tgt := 7) d_Mo_note_28 (by decide) ?_
      refine Lk.sel [0, 1, 2] rfl ?_
      exact ih _ _ _ _ _ h
def f_Mo_note (z0 : Nat) (x1 : Int32) (s : hv_S) : Option (hv_S) :=
  (x_ob s 11 ((some z0))).bind fun a1 =>
  (some (hv_setI s a1 39 1)).bind fun s2 =>
  (L_Mo_note_7 100000 ((some z0)) x1 0 s2).bind fun e9 =>
  (x_ob e9 11 ((some z0))).bind fun a10 =>
  (x_ar e9 0 (hv_R e9 a10 40)).bind fun q11 =>
  (x_ix q11.2 1).bind fun k12 =>
  (some (hv_setI e9 q11.1 k12 x1)).bind fun s13 =>
  some s13
set_option maxRecDepth 4000 in
set_option maxHeartbeats 2000000 in
theorem c_Mo_note {G : lt_G} {z0 : Nat} {x1 : Int32} {s : hv_S} {p : hv_S} (h : f_Mo_note z0 x1 s = some p) : Ck G m_Mo_note 1 0 0 [vR (some z0), vI x1] s none p := by
  refine Ck.of (by decide) (Nat.le_of_ble_eq_true rfl) ?_
  unfold f_Mo_note at h
  refine lk_aload_n d_Mo_note_0 rfl ?_
  refine lk_iconst (v := 1) d_Mo_note_1 rfl ?_
  obtain ⟨a1, ha1, h⟩ := x_b h
  replace h := x_nm h
  refine lk_putZ (k := 39) d_Mo_note_2 ha1 (by decide) (by decide) rfl (by decide) lf_Mo_105 rfl rfl ?_
  refine lk_iconst (v := 0) d_Mo_note_5 rfl ?_
  refine lk_istore_n d_Mo_note_6 (by decide) rfl ?_
  obtain ⟨e9, hl, h⟩ := x_b h
  refine Lk.sel [0, 1, 2] rfl ?_
  refine Lk.trans (l_Mo_note_7 _ _ _ _ _ _ hl) ?_
  intro pc' lo' st' s' mc' ms' hx
  obtain ⟨rfl, rfl, rfl, rfl, rfl, rfl⟩ := hx
  refine lk_aload_n d_Mo_note_31 rfl ?_
  obtain ⟨a10, ha10, h⟩ := x_b h
  refine lk_getR (k := 40) d_Mo_note_32 ha10 (by decide) rfl (by decide) lf_Mo_84 rfl ?_
  refine lk_iconst (v := 1) d_Mo_note_35 rfl ?_
  refine lk_iload_n d_Mo_note_36 rfl ?_
  obtain ⟨q11, hq11, h⟩ := x_b h
  obtain ⟨k12, hk12, h⟩ := x_b h
  replace h := x_nm h
  refine lk_iast d_Mo_note_37 hq11 hk12 ?_
  cases h
  exact Lk.stop ⟨rfl, Or.inl ⟨d_Mo_note_38, rfl, rfl, rfl⟩⟩
def L_Mo_go_5 : Nat → Option Nat → Int32 → Int32 → Int32 → Int32 → hv_S → Option (hv_S)
  | 0, _, _, _, _, _, _ => none
  | n + 1, x0, x1, x2, x3, x4, s =>
    (x_ob s 11 x0).bind fun a1 =>
    (x_ar s 0 (hv_R s a1 23)).bind fun q2 =>
    (x_ix q2.2 x1).bind fun k3 =>
    if (hv_I s q2.1 k3) ≤ x4 then
      some s
    else
      if x3 = 0 then
        (some (((64 : Int32) * x1) + x4)).bind fun y4 =>
        (some (hv_setI s a1 36 ((hv_I s a1 36) + (1 : Int32)))).bind fun s5 =>
        (f_Mo_take a1 y4 s5).bind fun p6 =>
        (x_ob p6 11 x0).bind fun a7 =>
        (x_ar p6 0 (hv_R p6 a7 24)).bind fun q8 =>
        (x_ix q8.2 y4).bind fun k9 =>
        (x_ar p6 0 (hv_R p6 a7 7)).bind fun q10 =>
        (x_ix q10.2 (hv_I p6 q8.1 k9)).bind fun k11 =>
        ((
          if (hv_I p6 q10.1 k11) = 7 then
            some 1
          else
            some 0
        ) : Option (Int32)).bind fun t12 =>
        ((
          if t12 = 0 then
            (x_ix q8.2 y4).bind fun k13 =>
            (f_Mo_isRight a7 (hv_I p6 q8.1 k13) x2 p6).bind fun p14 =>
            if p14.1 = 0 then
              some p14.2
            else
              (x_ob p14.2 11 x0).bind fun a15 =>
              (x_ar p14.2 0 (hv_R p14.2 a15 24)).bind fun q16 =>
              (x_ix q16.2 y4).bind fun k17 =>
              (f_Mo_follow a15 ((hv_I p14.2 q16.1 k17) + (1 : Int32)) (x2 + (1 : Int32)) ((1 : Int32) - x1) p14.2).bind fun p18 =>
              some p18
          else
            (f_Mo_note a7 x2 p6).bind fun p19 =>
            some p19
        ) : Option (hv_S)).bind fun t20 =>
        L_Mo_go_5 n x0 x1 x2 t12 (x4 + 1) t20
      else
        some s
set_option maxRecDepth 4000 in
set_option maxHeartbeats 2000000 in
theorem l_Mo_go_5 {G : lt_G} : ∀ (n : Nat) (x0 : Option Nat) (x1 : Int32) (x2 : Int32) (x3 : Int32) (x4 : Int32) (s : hv_S) (e0 : hv_S), L_Mo_go_5 n x0 x1 x2 x3 x4 s = some e0 → Lk G m_Mo_go 4 5 [(0, vR x0), (1, vI x1), (2, vI x2), (3, vI x3), (4, vI x4)] [] s 0 0 (lk_at 120 [] [] e0 0 0) := by
  intro n
  induction n with
  | zero => intro x0 x1 x2 x3 x4 s e0 h; cases h
  | succ n ih =>
    intro x0 x1 x2 x3 x4 s e0 h
    unfold L_Mo_go_5 at h
    refine lk_iload d_Mo_go_5 rfl ?_
    refine lk_aload_n d_Mo_go_7 rfl ?_
    obtain ⟨a1, ha1, h⟩ := x_b h
    refine lk_getR (k := 23) d_Mo_go_8 ha1 (by decide) rfl (by decide) lf_Mo_49 rfl ?_
    refine lk_iload_n d_Mo_go_11 rfl ?_
    obtain ⟨q2, hq2, h⟩ := x_b h
    obtain ⟨k3, hk3, h⟩ := x_b h
    refine lk_iald d_Mo_go_12 hq2 hk3 ?_
    refine lk_icmp_ge (tgt := 120) d_Mo_go_13 (by decide) (fun hc => ?_) (fun hc => ?_)
    · replace h := x_ifp hc h
      cases h
      refine Lk.sel [] rfl ?_
      exact Lk.stop ⟨rfl, rfl, rfl, rfl, rfl, rfl⟩
    · replace h := x_ifn hc h
      refine lk_iload_n d_Mo_go_16 rfl ?_
      refine lk_if_ne (tgt := 120) d_Mo_go_17 (by decide) (fun hc => ?_) (fun hc => ?_)
      · replace h := x_ifn hc h
        cases h
        refine Lk.sel [] rfl ?_
        exact Lk.stop ⟨rfl, rfl, rfl, rfl, rfl, rfl⟩
      · replace h := x_ifp hc h
        refine lk_bipush (v := 64) d_Mo_go_20 rfl ?_
        refine lk_iload_n d_Mo_go_22 rfl ?_
        refine lk_imul d_Mo_go_23 ?_
        refine lk_iload d_Mo_go_24 rfl ?_
        refine lk_iadd d_Mo_go_26 ?_
        replace h := x_nm h
        refine lk_istore d_Mo_go_27 (by decide) rfl ?_
        refine lk_aload_n d_Mo_go_29 rfl ?_
        refine lk_dup d_Mo_go_30 rfl ?_
        refine lk_getI (k := 36) d_Mo_go_31 ha1 (by decide) rfl (by decide) lf_Mo_189 rfl ?_
        refine lk_iconst (v := 1) d_Mo_go_34 rfl ?_
        refine lk_iadd d_Mo_go_35 ?_
        replace h := x_nm h
        refine lk_putI (k := 36) d_Mo_go_36 ha1 (by decide) rfl (by decide) lf_Mo_189 rfl rfl ?_
        refine lk_aload_n d_Mo_go_39 rfl ?_
        refine lk_iload d_Mo_go_40 rfl ?_
        obtain ⟨p6, hp6, h⟩ := x_b h
        refine lk_callV0 d_Mo_go_42 (x_obm ha1 rfl) (c_Mo_take hp6) (Nat.le_of_ble_eq_true rfl) rfl M_Mo_take lm_Mo_192 in_Mo_take se_Mo_take (by decide) rfl (Nat.le_of_ble_eq_true rfl) ?_
        refine lk_aload_n d_Mo_go_45 rfl ?_
        obtain ⟨a7, ha7, h⟩ := x_b h
        refine lk_getR (k := 7) d_Mo_go_46 ha7 (by decide) rfl (by decide) lf_Mo_16 rfl ?_
        refine lk_aload_n d_Mo_go_49 rfl ?_
        refine lk_getR (k := 24) d_Mo_go_50 ha7 (by decide) rfl (by decide) lf_Mo_52 rfl ?_
        refine lk_iload d_Mo_go_53 rfl ?_
        obtain ⟨q8, hq8, h⟩ := x_b h
        obtain ⟨k9, hk9, h⟩ := x_b h
        refine lk_iald d_Mo_go_55 hq8 hk9 ?_
        obtain ⟨q10, hq10, h⟩ := x_b h
        obtain ⟨k11, hk11, h⟩ := x_b h
        refine lk_iald d_Mo_go_56 hq10 hk11 ?_
        refine lk_bipush (v := 7) d_Mo_go_57 rfl ?_
        obtain ⟨t12, hj, h⟩ := x_b h
        refine Lk.joinA 67 [0, 1, 2, 4, 5] [] rfl 2 [vI t12] ?_ ?_
        · replace h := hj
          refine lk_icmp_ne (tgt := 66) d_Mo_go_59 (by decide) (fun hc => ?_) (fun hc => ?_)
          · replace h := x_ifn hc h
            refine lk_iconst (v := 0) d_Mo_go_66 rfl ?_
            cases h
            refine Lk.sel [0, 1, 2, 4, 5] rfl ?_
            exact Lk.stop ⟨rfl, rfl, rfl, rfl, rfl, rfl⟩
          · replace h := x_ifp hc h
            refine lk_iconst (v := 1) d_Mo_go_62 rfl ?_
            refine lk_goto (tgt := 67) d_Mo_go_63 (by decide) ?_
            cases h
            refine Lk.sel [0, 1, 2, 4, 5] rfl ?_
            exact Lk.stop ⟨rfl, rfl, rfl, rfl, rfl, rfl⟩
        · clear hj
          refine lk_istore_n d_Mo_go_67 (by decide) rfl ?_
          refine lk_iload_n d_Mo_go_68 rfl ?_
          obtain ⟨t20, hj, h⟩ := x_b h
          refine Lk.joinS 114 [0, 1, 2, 3, 4] [] rfl 1 [] t20 ?_ ?_
          · replace h := hj
            refine lk_if_eq (tgt := 80) d_Mo_go_69 (by decide) (fun hc => ?_) (fun hc => ?_)
            · replace h := x_ifp hc h
              refine lk_aload_n d_Mo_go_80 rfl ?_
              refine lk_aload_n d_Mo_go_81 rfl ?_
              refine lk_getR (k := 24) d_Mo_go_82 ha7 (by decide) rfl (by decide) lf_Mo_52 rfl ?_
              refine lk_iload d_Mo_go_85 rfl ?_
              obtain ⟨k13, hk13, h⟩ := x_b h
              refine lk_iald d_Mo_go_87 hq8 hk13 ?_
              refine lk_iload_n d_Mo_go_88 rfl ?_
              obtain ⟨p14, hp14, h⟩ := x_b h
              refine lk_callV0 d_Mo_go_89 (x_obm ha7 rfl) (c_Mo_isRight hp14) (Nat.le_of_ble_eq_true rfl) rfl M_Mo_isRight lm_Mo_198 in_Mo_isRight se_Mo_isRight (by decide) rfl (Nat.le_of_ble_eq_true rfl) ?_
              refine lk_if_eq (tgt := 114) d_Mo_go_92 (by decide) (fun hc => ?_) (fun hc => ?_)
              · replace h := x_ifp hc h
                cases h
                refine Lk.sel [0, 1, 2, 3, 4] rfl ?_
                exact Lk.stop ⟨rfl, rfl, rfl, rfl, rfl, rfl⟩
              · replace h := x_ifn hc h
                refine lk_aload_n d_Mo_go_95 rfl ?_
                refine lk_aload_n d_Mo_go_96 rfl ?_
                obtain ⟨a15, ha15, h⟩ := x_b h
                refine lk_getR (k := 24) d_Mo_go_97 ha15 (by decide) rfl (by decide) lf_Mo_52 rfl ?_
                refine lk_iload d_Mo_go_100 rfl ?_
                obtain ⟨q16, hq16, h⟩ := x_b h
                obtain ⟨k17, hk17, h⟩ := x_b h
                refine lk_iald d_Mo_go_102 hq16 hk17 ?_
                refine lk_iconst (v := 1) d_Mo_go_103 rfl ?_
                refine lk_iadd d_Mo_go_104 ?_
                refine lk_iload_n d_Mo_go_105 rfl ?_
                refine lk_iconst (v := 1) d_Mo_go_106 rfl ?_
                refine lk_iadd d_Mo_go_107 ?_
                refine lk_iconst (v := 1) d_Mo_go_108 rfl ?_
                refine lk_iload_n d_Mo_go_109 rfl ?_
                refine lk_isub d_Mo_go_110 ?_
                obtain ⟨p18, hp18, h⟩ := x_b h
                refine lk_callV0 d_Mo_go_111 (x_obm ha15 rfl) (c_Mo_follow hp18) (Nat.le_of_ble_eq_true rfl) rfl M_Mo_follow lm_Mo_202 in_Mo_follow se_Mo_follow (by decide) rfl (Nat.le_of_ble_eq_true rfl) ?_
                cases h
                refine Lk.sel [0, 1, 2, 3, 4] rfl ?_
                exact Lk.stop ⟨rfl, rfl, rfl, rfl, rfl, rfl⟩
            · replace h := x_ifn hc h
              refine lk_aload_n d_Mo_go_72 rfl ?_
              refine lk_iload_n d_Mo_go_73 rfl ?_
              obtain ⟨p19, hp19, h⟩ := x_b h
              refine lk_callV0 d_Mo_go_74 (x_obm ha7 rfl) (c_Mo_note hp19) (Nat.le_of_ble_eq_true rfl) rfl M_Mo_note lm_Mo_195 in_Mo_note se_Mo_note (by decide) rfl (Nat.le_of_ble_eq_true rfl) ?_
              refine lk_goto (tgt := 114) d_Mo_go_77 (by decide) ?_
              cases h
              refine Lk.sel [0, 1, 2, 3, 4] rfl ?_
              exact Lk.stop ⟨rfl, rfl, rfl, rfl, rfl, rfl⟩
          · clear hj
            refine lk_iinc (v := _ + 1) d_Mo_go_114 rfl rfl (by decide) rfl ?_
            refine lk_goto (tgt := 5) d_Mo_go_117 (by decide) ?_
            refine Lk.sel [0, 1, 2, 3, 4] rfl ?_
            exact ih _ _ _ _ _ _ _ h
def f_Mo_go (z0 : Nat) (x1 : Int32) (x2 : Int32) (s : hv_S) : Option (hv_S) :=
  (L_Mo_go_5 100000 ((some z0)) x1 x2 0 0 s).bind fun e21 =>
  some e21
set_option maxRecDepth 4000 in
set_option maxHeartbeats 2000000 in
theorem c_Mo_go {G : lt_G} {z0 : Nat} {x1 : Int32} {x2 : Int32} {s : hv_S} {p : hv_S} (h : f_Mo_go z0 x1 x2 s = some p) : Ck G m_Mo_go 4 0 0 [vR (some z0), vI x1, vI x2] s none p := by
  refine Ck.of (by decide) (Nat.le_of_ble_eq_true rfl) ?_
  unfold f_Mo_go at h
  refine lk_iconst (v := 0) d_Mo_go_0 rfl ?_
  refine lk_istore_n d_Mo_go_1 (by decide) rfl ?_
  refine lk_iconst (v := 0) d_Mo_go_2 rfl ?_
  refine lk_istore d_Mo_go_3 (by decide) rfl ?_
  obtain ⟨e21, hl, h⟩ := x_b h
  refine Lk.sel [0, 1, 2, 3, 4] rfl ?_
  refine Lk.trans (l_Mo_go_5 _ _ _ _ _ _ _ _ hl) ?_
  intro pc' lo' st' s' mc' ms' hx
  obtain ⟨rfl, rfl, rfl, rfl, rfl, rfl⟩ := hx
  cases h
  exact Lk.stop ⟨rfl, Or.inl ⟨d_Mo_go_120, rfl, rfl, rfl⟩⟩
def L_Mo_runLists_39 : Nat → Option Nat → Int32 → Int32 → Int32 → hv_S → Option (hv_S)
  | 0, _, _, _, _, _ => none
  | n + 1, x0, x2, x3, x4, s =>
    (x_ob s 11 x0).bind fun a10 =>
    if (hv_I s a10 4) < x4 then
      some s
    else
      (x_ar s 0 (hv_R s a10 23)).bind fun q11 =>
      (x_ix q11.2 x3).bind fun k12 =>
      if 0 < (hv_I s q11.1 k12) then
        (x_ix q11.2 ((1 : Int32) - x3)).bind fun k13 =>
        (some (hv_setI s q11.1 k13 0)).bind fun s14 =>
        (some (hv_setI s14 a10 16 ((hv_I s14 a10 16) + (1 : Int32)))).bind fun s15 =>
        (f_Mo_go a10 x3 x4 s15).bind fun p16 =>
        (x_ob p16 11 x0).bind fun a17 =>
        ((
          if (hv_I p16 a17 4) ≤ x4 then
            some p16
          else
            if (hv_I p16 a17 39) = 0 then
              if x2 = 0 then
                (f_Mo_begin a17 (x4 + (1 : Int32)) p16).bind fun p18 =>
                (x_ob p18 11 x0).bind fun a19 =>
                (f_Mo_follow a19 0 (x4 + (1 : Int32)) ((1 : Int32) - x3) p18).bind fun p20 =>
                some p20
              else
                some p16
            else
              some p16
        ) : Option (hv_S)).bind fun t21 =>
        (some ((1 : Int32) - x3)).bind fun y22 =>
        L_Mo_runLists_39 n x0 x2 y22 (x4 + 1) t21
      else
        if (hv_I s a10 39) = 0 then
          (x_ix q11.2 ((1 : Int32) - x3)).bind fun k23 =>
          (some (hv_setI s q11.1 k23 0)).bind fun s24 =>
          (some (hv_setI s24 a10 16 ((hv_I s24 a10 16) + (1 : Int32)))).bind fun s25 =>
          (f_Mo_go a10 x3 x4 s25).bind fun p26 =>
          (x_ob p26 11 x0).bind fun a27 =>
          ((
            if (hv_I p26 a27 4) ≤ x4 then
              some p26
            else
              if (hv_I p26 a27 39) = 0 then
                if x2 = 0 then
                  (f_Mo_begin a27 (x4 + (1 : Int32)) p26).bind fun p28 =>
                  (x_ob p28 11 x0).bind fun a29 =>
                  (f_Mo_follow a29 0 (x4 + (1 : Int32)) ((1 : Int32) - x3) p28).bind fun p30 =>
                  some p30
                else
                  some p26
              else
                some p26
          ) : Option (hv_S)).bind fun t31 =>
          (some ((1 : Int32) - x3)).bind fun y32 =>
          L_Mo_runLists_39 n x0 x2 y32 (x4 + 1) t31
        else
          some s
set_option maxRecDepth 4000 in
set_option maxHeartbeats 2000000 in
theorem l_Mo_runLists_39 {G : lt_G} : ∀ (n : Nat) (x0 : Option Nat) (x2 : Int32) (x3 : Int32) (x4 : Int32) (s : hv_S) (e0 : hv_S), L_Mo_runLists_39 n x0 x2 x3 x4 s = some e0 → Lk G m_Mo_runLists 5 39 [(0, vR x0), (2, vI x2), (3, vI x3), (4, vI x4)] [] s 0 0 (lk_at 140 [] [] e0 0 0) := by
  intro n
  induction n with
  | zero => intro x0 x2 x3 x4 s e0 h; cases h
  | succ n ih =>
    intro x0 x2 x3 x4 s e0 h
    unfold L_Mo_runLists_39 at h
    refine lk_iload d_Mo_runLists_39 rfl ?_
    refine lk_aload_n d_Mo_runLists_41 rfl ?_
    obtain ⟨a10, ha10, h⟩ := x_b h
    refine lk_getI (k := 4) d_Mo_runLists_42 ha10 (by decide) rfl (by decide) lf_Mo_172 rfl ?_
    refine lk_icmp_gt (tgt := 140) d_Mo_runLists_45 (by decide) (fun hc => ?_) (fun hc => ?_)
    · replace h := x_ifp hc h
      cases h
      refine Lk.sel [] rfl ?_
      exact Lk.stop ⟨rfl, rfl, rfl, rfl, rfl, rfl⟩
    · replace h := x_ifn hc h
      refine lk_aload_n d_Mo_runLists_48 rfl ?_
      refine lk_getR (k := 23) d_Mo_runLists_49 ha10 (by decide) rfl (by decide) lf_Mo_49 rfl ?_
      refine lk_iload_n d_Mo_runLists_52 rfl ?_
      obtain ⟨q11, hq11, h⟩ := x_b h
      obtain ⟨k12, hk12, h⟩ := x_b h
      refine lk_iald d_Mo_runLists_53 hq11 hk12 ?_
      refine lk_if_gt (tgt := 64) d_Mo_runLists_54 (by decide) (fun hc => ?_) (fun hc => ?_)
      · replace h := x_ifp hc h
        refine lk_aload_n d_Mo_runLists_64 rfl ?_
        refine lk_getR (k := 23) d_Mo_runLists_65 ha10 (by decide) rfl (by decide) lf_Mo_49 rfl ?_
        refine lk_iconst (v := 1) d_Mo_runLists_68 rfl ?_
        refine lk_iload_n d_Mo_runLists_69 rfl ?_
        refine lk_isub d_Mo_runLists_70 ?_
        refine lk_iconst (v := 0) d_Mo_runLists_71 rfl ?_
        obtain ⟨k13, hk13, h⟩ := x_b h
        replace h := x_nm h
        refine lk_iast d_Mo_runLists_72 hq11 hk13 ?_
        refine lk_aload_n d_Mo_runLists_73 rfl ?_
        refine lk_dup d_Mo_runLists_74 rfl ?_
        refine lk_getI (k := 16) d_Mo_runLists_75 ha10 (by decide) rfl (by decide) lf_Mo_166 rfl ?_
        refine lk_iconst (v := 1) d_Mo_runLists_78 rfl ?_
        refine lk_iadd d_Mo_runLists_79 ?_
        replace h := x_nm h
        refine lk_putI (k := 16) d_Mo_runLists_80 ha10 (by decide) rfl (by decide) lf_Mo_166 rfl rfl ?_
        refine lk_aload_n d_Mo_runLists_83 rfl ?_
        refine lk_iload_n d_Mo_runLists_84 rfl ?_
        refine lk_iload d_Mo_runLists_85 rfl ?_
        obtain ⟨p16, hp16, h⟩ := x_b h
        refine lk_callV0 d_Mo_runLists_87 (x_obm ha10 rfl) (c_Mo_go hp16) (Nat.le_of_ble_eq_true rfl) rfl M_Mo_go lm_Mo_208 in_Mo_go se_Mo_go (by decide) rfl (Nat.le_of_ble_eq_true rfl) ?_
        refine lk_iload d_Mo_runLists_90 rfl ?_
        refine lk_aload_n d_Mo_runLists_92 rfl ?_
        obtain ⟨a17, ha17, h⟩ := x_b h
        refine lk_getI (k := 4) d_Mo_runLists_93 ha17 (by decide) rfl (by decide) lf_Mo_172 rfl ?_
        obtain ⟨t21, hj, h⟩ := x_b h
        refine Lk.joinS 130 [0, 2, 3, 4] [] rfl 2 [] t21 ?_ ?_
        · replace h := hj
          refine lk_icmp_ge (tgt := 130) d_Mo_runLists_96 (by decide) (fun hc => ?_) (fun hc => ?_)
          · replace h := x_ifp hc h
            cases h
            refine Lk.sel [0, 2, 3, 4] rfl ?_
            exact Lk.stop ⟨rfl, rfl, rfl, rfl, rfl, rfl⟩
          · replace h := x_ifn hc h
            refine lk_aload_n d_Mo_runLists_99 rfl ?_
            refine lk_getI (k := 39) d_Mo_runLists_100 ha17 (by decide) rfl (by decide) lf_Mo_105 rfl ?_
            refine lk_if_ne (tgt := 130) d_Mo_runLists_103 (by decide) (fun hc => ?_) (fun hc => ?_)
            · replace h := x_ifn hc h
              cases h
              refine Lk.sel [0, 2, 3, 4] rfl ?_
              exact Lk.stop ⟨rfl, rfl, rfl, rfl, rfl, rfl⟩
            · replace h := x_ifp hc h
              refine lk_iload_n d_Mo_runLists_106 rfl ?_
              refine lk_if_ne (tgt := 130) d_Mo_runLists_107 (by decide) (fun hc => ?_) (fun hc => ?_)
              · replace h := x_ifn hc h
                cases h
                refine Lk.sel [0, 2, 3, 4] rfl ?_
                exact Lk.stop ⟨rfl, rfl, rfl, rfl, rfl, rfl⟩
              · replace h := x_ifp hc h
                refine lk_aload_n d_Mo_runLists_110 rfl ?_
                refine lk_iload d_Mo_runLists_111 rfl ?_
                refine lk_iconst (v := 1) d_Mo_runLists_113 rfl ?_
                refine lk_iadd d_Mo_runLists_114 ?_
                obtain ⟨p18, hp18, h⟩ := x_b h
                refine lk_callV0 d_Mo_runLists_115 (x_obm ha17 rfl) (c_Mo_begin hp18) (Nat.le_of_ble_eq_true rfl) rfl M_Mo_begin lm_Mo_205 in_Mo_begin se_Mo_begin (by decide) rfl (Nat.le_of_ble_eq_true rfl) ?_
                refine lk_aload_n d_Mo_runLists_118 rfl ?_
                refine lk_iconst (v := 0) d_Mo_runLists_119 rfl ?_
                refine lk_iload d_Mo_runLists_120 rfl ?_
                refine lk_iconst (v := 1) d_Mo_runLists_122 rfl ?_
                refine lk_iadd d_Mo_runLists_123 ?_
                refine lk_iconst (v := 1) d_Mo_runLists_124 rfl ?_
                refine lk_iload_n d_Mo_runLists_125 rfl ?_
                refine lk_isub d_Mo_runLists_126 ?_
                obtain ⟨a19, ha19, h⟩ := x_b h
                obtain ⟨p20, hp20, h⟩ := x_b h
                refine lk_callV0 d_Mo_runLists_127 (x_obm ha19 rfl) (c_Mo_follow hp20) (Nat.le_of_ble_eq_true rfl) rfl M_Mo_follow lm_Mo_202 in_Mo_follow se_Mo_follow (by decide) rfl (Nat.le_of_ble_eq_true rfl) ?_
                cases h
                refine Lk.sel [0, 2, 3, 4] rfl ?_
                exact Lk.stop ⟨rfl, rfl, rfl, rfl, rfl, rfl⟩
        · clear hj
          refine lk_iconst (v := 1) d_Mo_runLists_130 rfl ?_
          refine lk_iload_n d_Mo_runLists_131 rfl ?_
          refine lk_isub d_Mo_runLists_132 ?_
          replace h := x_nm h
          refine lk_istore_n d_Mo_runLists_133 (by decide) rfl ?_
          refine lk_iinc (v := _ + 1) d_Mo_runLists_134 rfl rfl (by decide) rfl ?_
          refine lk_goto (tgt := 39) d_Mo_runLists_137 (by decide) ?_
          refine Lk.sel [0, 2, 3, 4] rfl ?_
          exact ih _ _ _ _ _ _ h
      · replace h := x_ifn hc h
        refine lk_aload_n d_Mo_runLists_57 rfl ?_
        refine lk_getI (k := 39) d_Mo_runLists_58 ha10 (by decide) rfl (by decide) lf_Mo_105 rfl ?_
        refine lk_if_ne (tgt := 140) d_Mo_runLists_61 (by decide) (fun hc => ?_) (fun hc => ?_)
        · replace h := x_ifn hc h
          cases h
          refine Lk.sel [] rfl ?_
          exact Lk.stop ⟨rfl, rfl, rfl, rfl, rfl, rfl⟩
        · replace h := x_ifp hc h
          refine lk_aload_n d_Mo_runLists_64 rfl ?_
          refine lk_getR (k := 23) d_Mo_runLists_65 ha10 (by decide) rfl (by decide) lf_Mo_49 rfl ?_
          refine lk_iconst (v := 1) d_Mo_runLists_68 rfl ?_
          refine lk_iload_n d_Mo_runLists_69 rfl ?_
          refine lk_isub d_Mo_runLists_70 ?_
          refine lk_iconst (v := 0) d_Mo_runLists_71 rfl ?_
          obtain ⟨k23, hk23, h⟩ := x_b h
          replace h := x_nm h
          refine lk_iast d_Mo_runLists_72 hq11 hk23 ?_
          refine lk_aload_n d_Mo_runLists_73 rfl ?_
          refine lk_dup d_Mo_runLists_74 rfl ?_
          refine lk_getI (k := 16) d_Mo_runLists_75 ha10 (by decide) rfl (by decide) lf_Mo_166 rfl ?_
          refine lk_iconst (v := 1) d_Mo_runLists_78 rfl ?_
          refine lk_iadd d_Mo_runLists_79 ?_
          replace h := x_nm h
          refine lk_putI (k := 16) d_Mo_runLists_80 ha10 (by decide) rfl (by decide) lf_Mo_166 rfl rfl ?_
          refine lk_aload_n d_Mo_runLists_83 rfl ?_
          refine lk_iload_n d_Mo_runLists_84 rfl ?_
          refine lk_iload d_Mo_runLists_85 rfl ?_
          obtain ⟨p26, hp26, h⟩ := x_b h
          refine lk_callV0 d_Mo_runLists_87 (x_obm ha10 rfl) (c_Mo_go hp26) (Nat.le_of_ble_eq_true rfl) rfl M_Mo_go lm_Mo_208 in_Mo_go se_Mo_go (by decide) rfl (Nat.le_of_ble_eq_true rfl) ?_
          refine lk_iload d_Mo_runLists_90 rfl ?_
          refine lk_aload_n d_Mo_runLists_92 rfl ?_
          obtain ⟨a27, ha27, h⟩ := x_b h
          refine lk_getI (k := 4) d_Mo_runLists_93 ha27 (by decide) rfl (by decide) lf_Mo_172 rfl ?_
          obtain ⟨t31, hj, h⟩ := x_b h
          refine Lk.joinS 130 [0, 2, 3, 4] [] rfl 2 [] t31 ?_ ?_
          · replace h := hj
            refine lk_icmp_ge (tgt := 130) d_Mo_runLists_96 (by decide) (fun hc => ?_) (fun hc => ?_)
            · replace h := x_ifp hc h
              cases h
              refine Lk.sel [0, 2, 3, 4] rfl ?_
              exact Lk.stop ⟨rfl, rfl, rfl, rfl, rfl, rfl⟩
            · replace h := x_ifn hc h
              refine lk_aload_n d_Mo_runLists_99 rfl ?_
              refine lk_getI (k := 39) d_Mo_runLists_100 ha27 (by decide) rfl (by decide) lf_Mo_105 rfl ?_
              refine lk_if_ne (tgt := 130) d_Mo_runLists_103 (by decide) (fun hc => ?_) (fun hc => ?_)
              · replace h := x_ifn hc h
                cases h
                refine Lk.sel [0, 2, 3, 4] rfl ?_
                exact Lk.stop ⟨rfl, rfl, rfl, rfl, rfl, rfl⟩
              · replace h := x_ifp hc h
                refine lk_iload_n d_Mo_runLists_106 rfl ?_
                refine lk_if_ne (tgt := 130) d_Mo_runLists_107 (by decide) (fun hc => ?_) (fun hc => ?_)
                · replace h := x_ifn hc h
                  cases h
                  refine Lk.sel [0, 2, 3, 4] rfl ?_
                  exact Lk.stop ⟨rfl, rfl, rfl, rfl, rfl, rfl⟩
                · replace h := x_ifp hc h
                  refine lk_aload_n d_Mo_runLists_110 rfl ?_
                  refine lk_iload d_Mo_runLists_111 rfl ?_
                  refine lk_iconst (v := 1) d_Mo_runLists_113 rfl ?_
                  refine lk_iadd d_Mo_runLists_114 ?_
                  obtain ⟨p28, hp28, h⟩ := x_b h
                  refine lk_callV0 d_Mo_runLists_115 (x_obm ha27 rfl) (c_Mo_begin hp28) (Nat.le_of_ble_eq_true rfl) rfl M_Mo_begin lm_Mo_205 in_Mo_begin se_Mo_begin (by decide) rfl (Nat.le_of_ble_eq_true rfl) ?_
                  refine lk_aload_n d_Mo_runLists_118 rfl ?_
                  refine lk_iconst (v := 0) d_Mo_runLists_119 rfl ?_
                  refine lk_iload d_Mo_runLists_120 rfl ?_
                  refine lk_iconst (v := 1) d_Mo_runLists_122 rfl ?_
                  refine lk_iadd d_Mo_runLists_123 ?_
                  refine lk_iconst (v := 1) d_Mo_runLists_124 rfl ?_
                  refine lk_iload_n d_Mo_runLists_125 rfl ?_
                  refine lk_isub d_Mo_runLists_126 ?_
                  obtain ⟨a29, ha29, h⟩ := x_b h
                  obtain ⟨p30, hp30, h⟩ := x_b h
                  refine lk_callV0 d_Mo_runLists_127 (x_obm ha29 rfl) (c_Mo_follow hp30) (Nat.le_of_ble_eq_true rfl) rfl M_Mo_follow lm_Mo_202 in_Mo_follow se_Mo_follow (by decide) rfl (Nat.le_of_ble_eq_true rfl) ?_
                  cases h
                  refine Lk.sel [0, 2, 3, 4] rfl ?_
                  exact Lk.stop ⟨rfl, rfl, rfl, rfl, rfl, rfl⟩
          · clear hj
            refine lk_iconst (v := 1) d_Mo_runLists_130 rfl ?_
            refine lk_iload_n d_Mo_runLists_131 rfl ?_
            refine lk_isub d_Mo_runLists_132 ?_
            replace h := x_nm h
            refine lk_istore_n d_Mo_runLists_133 (by decide) rfl ?_
            refine lk_iinc (v := _ + 1) d_Mo_runLists_134 rfl rfl (by decide) rfl ?_
            refine lk_goto (tgt := 39) d_Mo_runLists_137 (by decide) ?_
            refine Lk.sel [0, 2, 3, 4] rfl ?_
            exact ih _ _ _ _ _ _ h
def f_Mo_runLists (z0 : Nat) (x1 : Int32) (x2 : Int32) (s : hv_S) : Option (hv_S) :=
  (x_ob s 11 ((some z0))).bind fun a1 =>
  (some (hv_setI s a1 39 0)).bind fun s2 =>
  (x_ar s2 0 (hv_R s2 a1 23)).bind fun q3 =>
  (x_ix q3.2 0).bind fun k4 =>
  (some (hv_setI s2 q3.1 k4 0)).bind fun s5 =>
  (some (hv_setI s5 a1 16 ((hv_I s5 a1 16) + (1 : Int32)))).bind fun s6 =>
  (f_Mo_begin a1 x1 s6).bind fun p7 =>
  (x_ob p7 11 ((some z0))).bind fun a8 =>
  (f_Mo_follow a8 0 x1 0 p7).bind fun p9 =>
  (L_Mo_runLists_39 100000 ((some z0)) x2 0 x1 p9).bind fun e33 =>
  some e33
set_option maxRecDepth 4000 in
set_option maxHeartbeats 2000000 in
theorem c_Mo_runLists {G : lt_G} {z0 : Nat} {x1 : Int32} {x2 : Int32} {s : hv_S} {p : hv_S} (h : f_Mo_runLists z0 x1 x2 s = some p) : Ck G m_Mo_runLists 5 0 0 [vR (some z0), vI x1, vI x2] s none p := by
  refine Ck.of (by decide) (Nat.le_of_ble_eq_true rfl) ?_
  unfold f_Mo_runLists at h
  refine lk_aload_n d_Mo_runLists_0 rfl ?_
  refine lk_iconst (v := 0) d_Mo_runLists_1 rfl ?_
  obtain ⟨a1, ha1, h⟩ := x_b h
  replace h := x_nm h
  refine lk_putZ (k := 39) d_Mo_runLists_2 ha1 (by decide) (by decide) rfl (by decide) lf_Mo_105 rfl rfl ?_
  refine lk_iconst (v := 0) d_Mo_runLists_5 rfl ?_
  refine lk_istore_n d_Mo_runLists_6 (by decide) rfl ?_
  refine lk_aload_n d_Mo_runLists_7 rfl ?_
  refine lk_getR (k := 23) d_Mo_runLists_8 ha1 (by decide) rfl (by decide) lf_Mo_49 rfl ?_
  refine lk_iconst (v := 0) d_Mo_runLists_11 rfl ?_
  refine lk_iconst (v := 0) d_Mo_runLists_12 rfl ?_
  obtain ⟨q3, hq3, h⟩ := x_b h
  obtain ⟨k4, hk4, h⟩ := x_b h
  replace h := x_nm h
  refine lk_iast d_Mo_runLists_13 hq3 hk4 ?_
  refine lk_aload_n d_Mo_runLists_14 rfl ?_
  refine lk_dup d_Mo_runLists_15 rfl ?_
  refine lk_getI (k := 16) d_Mo_runLists_16 ha1 (by decide) rfl (by decide) lf_Mo_166 rfl ?_
  refine lk_iconst (v := 1) d_Mo_runLists_19 rfl ?_
  refine lk_iadd d_Mo_runLists_20 ?_
  replace h := x_nm h
  refine lk_putI (k := 16) d_Mo_runLists_21 ha1 (by decide) rfl (by decide) lf_Mo_166 rfl rfl ?_
  refine lk_aload_n d_Mo_runLists_24 rfl ?_
  refine lk_iload_n d_Mo_runLists_25 rfl ?_
  obtain ⟨p7, hp7, h⟩ := x_b h
  refine lk_callV0 d_Mo_runLists_26 (x_obm ha1 rfl) (c_Mo_begin hp7) (Nat.le_of_ble_eq_true rfl) rfl M_Mo_begin lm_Mo_205 in_Mo_begin se_Mo_begin (by decide) rfl (Nat.le_of_ble_eq_true rfl) ?_
  refine lk_aload_n d_Mo_runLists_29 rfl ?_
  refine lk_iconst (v := 0) d_Mo_runLists_30 rfl ?_
  refine lk_iload_n d_Mo_runLists_31 rfl ?_
  refine lk_iconst (v := 0) d_Mo_runLists_32 rfl ?_
  obtain ⟨a8, ha8, h⟩ := x_b h
  obtain ⟨p9, hp9, h⟩ := x_b h
  refine lk_callV0 d_Mo_runLists_33 (x_obm ha8 rfl) (c_Mo_follow hp9) (Nat.le_of_ble_eq_true rfl) rfl M_Mo_follow lm_Mo_202 in_Mo_follow se_Mo_follow (by decide) rfl (Nat.le_of_ble_eq_true rfl) ?_
  refine lk_iload_n d_Mo_runLists_36 rfl ?_
  refine lk_istore d_Mo_runLists_37 (by decide) rfl ?_
  obtain ⟨e33, hl, h⟩ := x_b h
  refine Lk.sel [0, 2, 3, 4] rfl ?_
  refine Lk.trans (l_Mo_runLists_39 _ _ _ _ _ _ _ hl) ?_
  intro pc' lo' st' s' mc' ms' hx
  obtain ⟨rfl, rfl, rfl, rfl, rfl, rfl⟩ := hx
  cases h
  exact Lk.stop ⟨rfl, Or.inl ⟨d_Mo_runLists_140, rfl, rfl, rfl⟩⟩
def L_Mo_runThread_14 : Nat → Option Nat → Int32 → Int32 → hv_S → Option (hv_S)
  | 0, _, _, _, _ => none
  | n + 1, x0, x2, x3, s =>
    if x2 = ((-1)) then
      some s
    else
      (x_ob s 11 x0).bind fun a4 =>
      if (hv_I s a4 39) = 0 then
        (some (((21 : Int32) * x2) + x3)).bind fun y5 =>
        (x_ar s 3 (hv_R s a4 26)).bind fun q6 =>
        (x_ix q6.2 y5).bind fun k7 =>
        ((
          if (hv_I s q6.1 k7) = 0 then
            (x_ix q6.2 y5).bind fun k8 =>
            (some (hv_setI s q6.1 k8 (vp_nar .boolean 1))).bind fun s9 =>
            (some (hv_setI s9 a4 36 ((hv_I s9 a4 36) + (1 : Int32)))).bind fun s10 =>
            (x_ar s10 0 (hv_R s10 a4 7)).bind fun q11 =>
            (x_ix q11.2 x2).bind fun k12 =>
            ((
              if (hv_I s10 q11.1 k12) = 7 then
                (f_Mo_note a4 x3 s10).bind fun p13 =>
                some p13
              else
                some s10
            ) : Option (hv_S)).bind fun t14 =>
            (x_ob t14 11 x0).bind fun a15 =>
            (f_Mo_isRight a15 x2 x3 t14).bind fun p16 =>
            ((
              if p16.1 = 0 then
                (x_ob p16.2 11 x0).bind fun a17 =>
                (f_Mo_behind a17 x2 x3 p16.2).bind fun p18 =>
                some (p18.1, p18.2)
              else
                some (x2 + (1 : Int32), p16.2)
            ) : Option (Int32 × hv_S)).bind fun t19 =>
            (x_ob t19.2 11 x0).bind fun a20 =>
            (f_Mo_isRight a20 x2 x3 t19.2).bind fun p21 =>
            if p21.1 = 0 then
              some (x3, t19.1, p21.2)
            else
              some (x3 + 1, t19.1, p21.2)
          else
            some (x3, (-1), s)
        ) : Option (Int32 × Int32 × hv_S)).bind fun t22 =>
        ((
          if t22.2.1 = ((-1)) then
            (x_ob t22.2.2 11 x0).bind fun a23 =>
            (f_Mo_back a23 t22.2.2).bind fun p24 =>
            ((
              if p24.1 = ((-1)) then
                some t22.1
              else
                (x_ob p24.2 11 x0).bind fun a25 =>
                (x_ar p24.2 0 (hv_R p24.2 a25 20)).bind fun q26 =>
                (x_ix q26.2 (hv_I p24.2 a25 18)).bind fun k27 =>
                some (hv_I p24.2 q26.1 k27)
            ) : Option (Int32)).bind fun t28 =>
            some (t28, p24.1, p24.2)
          else
            some (t22.1, t22.2.1, t22.2.2)
        ) : Option (Int32 × Int32 × hv_S)).bind fun t29 =>
        L_Mo_runThread_14 n x0 t29.2.1 t29.1 t29.2.2
      else
        some s
set_option maxRecDepth 4000 in
set_option maxHeartbeats 2000000 in
theorem l_Mo_runThread_14 {G : lt_G} : ∀ (n : Nat) (x0 : Option Nat) (x2 : Int32) (x3 : Int32) (s : hv_S) (e0 : hv_S), L_Mo_runThread_14 n x0 x2 x3 s = some e0 → Lk G m_Mo_runThread 3 14 [(0, vR x0), (2, vI x2), (3, vI x3)] [] s 0 0 (lk_at 154 [] [] e0 0 0) := by
  intro n
  induction n with
  | zero => intro x0 x2 x3 s e0 h; cases h
  | succ n ih =>
    intro x0 x2 x3 s e0 h
    unfold L_Mo_runThread_14 at h
    refine lk_iload_n d_Mo_runThread_14 rfl ?_
    refine lk_iconst (v := (-1)) d_Mo_runThread_15 rfl ?_
    refine lk_icmp_eq (tgt := 154) d_Mo_runThread_16 (by decide) (fun hc => ?_) (fun hc => ?_)
    · replace h := x_ifp hc h
      cases h
      refine Lk.sel [] rfl ?_
      exact Lk.stop ⟨rfl, rfl, rfl, rfl, rfl, rfl⟩
    · replace h := x_ifn hc h
      refine lk_aload_n d_Mo_runThread_19 rfl ?_
      obtain ⟨a4, ha4, h⟩ := x_b h
      refine lk_getI (k := 39) d_Mo_runThread_20 ha4 (by decide) rfl (by decide) lf_Mo_105 rfl ?_
      refine lk_if_ne (tgt := 154) d_Mo_runThread_23 (by decide) (fun hc => ?_) (fun hc => ?_)
      · replace h := x_ifn hc h
        cases h
        refine Lk.sel [] rfl ?_
        exact Lk.stop ⟨rfl, rfl, rfl, rfl, rfl, rfl⟩
      · replace h := x_ifp hc h
        refine lk_bipush (v := 21) d_Mo_runThread_26 rfl ?_
        refine lk_iload_n d_Mo_runThread_28 rfl ?_
        refine lk_imul d_Mo_runThread_29 ?_
        refine lk_iload_n d_Mo_runThread_30 rfl ?_
        refine lk_iadd d_Mo_runThread_31 ?_
        replace h := x_nm h
        refine lk_istore d_Mo_runThread_32 (by decide) rfl ?_
        refine lk_iconst (v := (-1)) d_Mo_runThread_34 rfl ?_
        refine lk_istore d_Mo_runThread_35 (by decide) rfl ?_
        refine lk_aload_n d_Mo_runThread_37 rfl ?_
        refine lk_getR (k := 26) d_Mo_runThread_38 ha4 (by decide) rfl (by decide) lf_Mo_58 rfl ?_
        refine lk_iload d_Mo_runThread_41 rfl ?_
        obtain ⟨q6, hq6, h⟩ := x_b h
        obtain ⟨k7, hk7, h⟩ := x_b h
        refine lk_zald d_Mo_runThread_43 hq6 hk7 ?_
        obtain ⟨t22, hj, h⟩ := x_b h
        refine Lk.joinS 116 [0, 3, 5] [(3, vI t22.1), (5, vI t22.2.1)] rfl 1 [] t22.2.2 ?_ ?_
        · replace h := hj
          refine lk_if_ne (tgt := 116) d_Mo_runThread_44 (by decide) (fun hc => ?_) (fun hc => ?_)
          · replace h := x_ifn hc h
            cases h
            refine Lk.sel [0, 3, 5] rfl ?_
            exact Lk.stop ⟨rfl, rfl, rfl, rfl, rfl, rfl⟩
          · replace h := x_ifp hc h
            refine lk_aload_n d_Mo_runThread_47 rfl ?_
            refine lk_getR (k := 26) d_Mo_runThread_48 ha4 (by decide) rfl (by decide) lf_Mo_58 rfl ?_
            refine lk_iload d_Mo_runThread_51 rfl ?_
            refine lk_iconst (v := 1) d_Mo_runThread_53 rfl ?_
            obtain ⟨k8, hk8, h⟩ := x_b h
            replace h := x_nm h
            refine lk_zast d_Mo_runThread_54 hq6 hk8 ?_
            refine lk_aload_n d_Mo_runThread_55 rfl ?_
            refine lk_dup d_Mo_runThread_56 rfl ?_
            refine lk_getI (k := 36) d_Mo_runThread_57 ha4 (by decide) rfl (by decide) lf_Mo_189 rfl ?_
            refine lk_iconst (v := 1) d_Mo_runThread_60 rfl ?_
            refine lk_iadd d_Mo_runThread_61 ?_
            replace h := x_nm h
            refine lk_putI (k := 36) d_Mo_runThread_62 ha4 (by decide) rfl (by decide) lf_Mo_189 rfl rfl ?_
            refine lk_aload_n d_Mo_runThread_65 rfl ?_
            refine lk_getR (k := 7) d_Mo_runThread_66 ha4 (by decide) rfl (by decide) lf_Mo_16 rfl ?_
            refine lk_iload_n d_Mo_runThread_69 rfl ?_
            obtain ⟨q11, hq11, h⟩ := x_b h
            obtain ⟨k12, hk12, h⟩ := x_b h
            refine lk_iald d_Mo_runThread_70 hq11 hk12 ?_
            refine lk_bipush (v := 7) d_Mo_runThread_71 rfl ?_
            obtain ⟨t14, hj, h⟩ := x_b h
            refine Lk.joinS 81 [0, 2, 3] [] rfl 2 [] t14 ?_ ?_
            · replace h := hj
              refine lk_icmp_ne (tgt := 81) d_Mo_runThread_73 (by decide) (fun hc => ?_) (fun hc => ?_)
              · replace h := x_ifn hc h
                cases h
                refine Lk.sel [0, 2, 3] rfl ?_
                exact Lk.stop ⟨rfl, rfl, rfl, rfl, rfl, rfl⟩
              · replace h := x_ifp hc h
                refine lk_aload_n d_Mo_runThread_76 rfl ?_
                refine lk_iload_n d_Mo_runThread_77 rfl ?_
                obtain ⟨p13, hp13, h⟩ := x_b h
                refine lk_callV0 d_Mo_runThread_78 (x_obm ha4 rfl) (c_Mo_note hp13) (Nat.le_of_ble_eq_true rfl) rfl M_Mo_note lm_Mo_195 in_Mo_note se_Mo_note (by decide) rfl (Nat.le_of_ble_eq_true rfl) ?_
                cases h
                refine Lk.sel [0, 2, 3] rfl ?_
                exact Lk.stop ⟨rfl, rfl, rfl, rfl, rfl, rfl⟩
            · clear hj
              refine lk_aload_n d_Mo_runThread_81 rfl ?_
              refine lk_iload_n d_Mo_runThread_82 rfl ?_
              refine lk_iload_n d_Mo_runThread_83 rfl ?_
              obtain ⟨a15, ha15, h⟩ := x_b h
              obtain ⟨p16, hp16, h⟩ := x_b h
              refine lk_callV0 d_Mo_runThread_84 (x_obm ha15 rfl) (c_Mo_isRight hp16) (Nat.le_of_ble_eq_true rfl) rfl M_Mo_isRight lm_Mo_198 in_Mo_isRight se_Mo_isRight (by decide) rfl (Nat.le_of_ble_eq_true rfl) ?_
              obtain ⟨t19, hj, h⟩ := x_b h
              refine Lk.joinS 102 [0, 2, 3] [] rfl 1 [vI t19.1] t19.2 ?_ ?_
              · replace h := hj
                refine lk_if_eq (tgt := 96) d_Mo_runThread_87 (by decide) (fun hc => ?_) (fun hc => ?_)
                · replace h := x_ifp hc h
                  refine lk_aload_n d_Mo_runThread_96 rfl ?_
                  refine lk_iload_n d_Mo_runThread_97 rfl ?_
                  refine lk_iload_n d_Mo_runThread_98 rfl ?_
                  obtain ⟨a17, ha17, h⟩ := x_b h
                  obtain ⟨p18, hp18, h⟩ := x_b h
                  refine lk_callV0 d_Mo_runThread_99 (x_obm ha17 rfl) (c_Mo_behind hp18) (Nat.le_of_ble_eq_true rfl) rfl M_Mo_behind lm_Mo_179 in_Mo_behind se_Mo_behind (by decide) rfl (Nat.le_of_ble_eq_true rfl) ?_
                  cases h
                  refine Lk.sel [0, 2, 3] rfl ?_
                  exact Lk.stop ⟨rfl, rfl, rfl, rfl, rfl, rfl⟩
                · replace h := x_ifn hc h
                  refine lk_iload_n d_Mo_runThread_90 rfl ?_
                  refine lk_iconst (v := 1) d_Mo_runThread_91 rfl ?_
                  refine lk_iadd d_Mo_runThread_92 ?_
                  refine lk_goto (tgt := 102) d_Mo_runThread_93 (by decide) ?_
                  cases h
                  refine Lk.sel [0, 2, 3] rfl ?_
                  exact Lk.stop ⟨rfl, rfl, rfl, rfl, rfl, rfl⟩
              · clear hj
                refine lk_istore d_Mo_runThread_102 (by decide) rfl ?_
                refine lk_aload_n d_Mo_runThread_104 rfl ?_
                refine lk_iload_n d_Mo_runThread_105 rfl ?_
                refine lk_iload_n d_Mo_runThread_106 rfl ?_
                obtain ⟨a20, ha20, h⟩ := x_b h
                obtain ⟨p21, hp21, h⟩ := x_b h
                refine lk_callV0 d_Mo_runThread_107 (x_obm ha20 rfl) (c_Mo_isRight hp21) (Nat.le_of_ble_eq_true rfl) rfl M_Mo_isRight lm_Mo_198 in_Mo_isRight se_Mo_isRight (by decide) rfl (Nat.le_of_ble_eq_true rfl) ?_
                refine lk_if_eq (tgt := 116) d_Mo_runThread_110 (by decide) (fun hc => ?_) (fun hc => ?_)
                · replace h := x_ifp hc h
                  cases h
                  refine Lk.sel [0, 3, 5] rfl ?_
                  exact Lk.stop ⟨rfl, rfl, rfl, rfl, rfl, rfl⟩
                · replace h := x_ifn hc h
                  refine lk_iinc (v := _ + 1) d_Mo_runThread_113 rfl rfl (by decide) rfl ?_
                  cases h
                  refine Lk.sel [0, 3, 5] rfl ?_
                  exact Lk.stop ⟨rfl, rfl, rfl, rfl, rfl, rfl⟩
        · clear hj
          refine lk_iload d_Mo_runThread_116 rfl ?_
          refine lk_iconst (v := (-1)) d_Mo_runThread_118 rfl ?_
          obtain ⟨t29, hj, h⟩ := x_b h
          refine Lk.joinS 148 [0, 3, 5] [(3, vI t29.1), (5, vI t29.2.1)] rfl 2 [] t29.2.2 ?_ ?_
          · replace h := hj
            refine lk_icmp_ne (tgt := 148) d_Mo_runThread_119 (by decide) (fun hc => ?_) (fun hc => ?_)
            · replace h := x_ifn hc h
              cases h
              refine Lk.sel [0, 3, 5] rfl ?_
              exact Lk.stop ⟨rfl, rfl, rfl, rfl, rfl, rfl⟩
            · replace h := x_ifp hc h
              refine lk_aload_n d_Mo_runThread_122 rfl ?_
              obtain ⟨a23, ha23, h⟩ := x_b h
              obtain ⟨p24, hp24, h⟩ := x_b h
              refine lk_callV0 d_Mo_runThread_123 (x_obm ha23 rfl) (c_Mo_back hp24) (Nat.le_of_ble_eq_true rfl) rfl M_Mo_back lm_Mo_186 in_Mo_back se_Mo_back (by decide) rfl (Nat.le_of_ble_eq_true rfl) ?_
              refine lk_istore d_Mo_runThread_126 (by decide) rfl ?_
              refine lk_iload d_Mo_runThread_128 rfl ?_
              refine lk_iconst (v := (-1)) d_Mo_runThread_130 rfl ?_
              obtain ⟨t28, hj, h⟩ := x_b h
              refine Lk.joinA 147 [0, 5] [] rfl 2 [vI t28] ?_ ?_
              · replace h := hj
                refine lk_icmp_ne (tgt := 138) d_Mo_runThread_131 (by decide) (fun hc => ?_) (fun hc => ?_)
                · replace h := x_ifn hc h
                  refine lk_aload_n d_Mo_runThread_138 rfl ?_
                  obtain ⟨a25, ha25, h⟩ := x_b h
                  refine lk_getR (k := 20) d_Mo_runThread_139 ha25 (by decide) rfl (by decide) lf_Mo_40 rfl ?_
                  refine lk_aload_n d_Mo_runThread_142 rfl ?_
                  refine lk_getI (k := 18) d_Mo_runThread_143 ha25 (by decide) rfl (by decide) lf_Mo_169 rfl ?_
                  obtain ⟨q26, hq26, h⟩ := x_b h
                  obtain ⟨k27, hk27, h⟩ := x_b h
                  refine lk_iald d_Mo_runThread_146 hq26 hk27 ?_
                  cases h
                  refine Lk.sel [0, 5] rfl ?_
                  exact Lk.stop ⟨rfl, rfl, rfl, rfl, rfl, rfl⟩
                · replace h := x_ifp hc h
                  refine lk_iload_n d_Mo_runThread_134 rfl ?_
                  refine lk_goto (tgt := 147) d_Mo_runThread_135 (by decide) ?_
                  cases h
                  refine Lk.sel [0, 5] rfl ?_
                  exact Lk.stop ⟨rfl, rfl, rfl, rfl, rfl, rfl⟩
              · clear hj
                refine lk_istore_n d_Mo_runThread_147 (by decide) rfl ?_
                cases h
                refine Lk.sel [0, 3, 5] rfl ?_
                exact Lk.stop ⟨rfl, rfl, rfl, rfl, rfl, rfl⟩
          · clear hj
            refine lk_iload d_Mo_runThread_148 rfl ?_
            refine lk_istore_n d_Mo_runThread_150 (by decide) rfl ?_
            refine lk_goto (tgt := 14) d_Mo_runThread_151 (by decide) ?_
            refine Lk.sel [0, 2, 3] rfl ?_
            exact ih _ _ _ _ _ h
def f_Mo_runThread (z0 : Nat) (x1 : Int32) (s : hv_S) : Option (hv_S) :=
  (x_ob s 11 ((some z0))).bind fun a1 =>
  (some (hv_setI s a1 18 0)).bind fun s2 =>
  (f_Mo_begin a1 x1 s2).bind fun p3 =>
  (L_Mo_runThread_14 100000 ((some z0)) 0 x1 p3).bind fun e30 =>
  some e30
set_option maxRecDepth 4000 in
set_option maxHeartbeats 2000000 in
theorem c_Mo_runThread {G : lt_G} {z0 : Nat} {x1 : Int32} {s : hv_S} {p : hv_S} (h : f_Mo_runThread z0 x1 s = some p) : Ck G m_Mo_runThread 3 0 0 [vR (some z0), vI x1] s none p := by
  refine Ck.of (by decide) (Nat.le_of_ble_eq_true rfl) ?_
  unfold f_Mo_runThread at h
  refine lk_aload_n d_Mo_runThread_0 rfl ?_
  refine lk_iconst (v := 0) d_Mo_runThread_1 rfl ?_
  obtain ⟨a1, ha1, h⟩ := x_b h
  replace h := x_nm h
  refine lk_putI (k := 18) d_Mo_runThread_2 ha1 (by decide) rfl (by decide) lf_Mo_169 rfl rfl ?_
  refine lk_aload_n d_Mo_runThread_5 rfl ?_
  refine lk_iload_n d_Mo_runThread_6 rfl ?_
  obtain ⟨p3, hp3, h⟩ := x_b h
  refine lk_callV0 d_Mo_runThread_7 (x_obm ha1 rfl) (c_Mo_begin hp3) (Nat.le_of_ble_eq_true rfl) rfl M_Mo_begin lm_Mo_205 in_Mo_begin se_Mo_begin (by decide) rfl (Nat.le_of_ble_eq_true rfl) ?_
  refine lk_iconst (v := 0) d_Mo_runThread_10 rfl ?_
  refine lk_istore_n d_Mo_runThread_11 (by decide) rfl ?_
  refine lk_iload_n d_Mo_runThread_12 rfl ?_
  refine lk_istore_n d_Mo_runThread_13 (by decide) rfl ?_
  obtain ⟨e30, hl, h⟩ := x_b h
  refine Lk.sel [0, 2, 3] rfl ?_
  refine Lk.trans (l_Mo_runThread_14 _ _ _ _ _ _ hl) ?_
  intro pc' lo' st' s' mc' ms' hx
  obtain ⟨rfl, rfl, rfl, rfl, rfl, rfl⟩ := hx
  cases h
  exact Lk.stop ⟨rfl, Or.inl ⟨d_Mo_runThread_154, rfl, rfl, rfl⟩⟩
def L_Mo_runMarks_29 : Nat → Option Nat → Int32 → hv_S → Option (hv_S)
  | 0, _, _, _ => none
  | n + 1, x0, x1, s =>
    (x_ob s 11 x0).bind fun a8 =>
    if (hv_I s a8 4) < x1 then
      some s
    else
      if (hv_I s a8 39) = 0 then
        (f_Mo_runThread a8 x1 s).bind fun p9 =>
        L_Mo_runMarks_29 n x0 (x1 + 1) p9
      else
        some s
set_option maxRecDepth 4000 in
set_option maxHeartbeats 2000000 in
theorem l_Mo_runMarks_29 {G : lt_G} : ∀ (n : Nat) (x0 : Option Nat) (x1 : Int32) (s : hv_S) (e0 : hv_S), L_Mo_runMarks_29 n x0 x1 s = some e0 → Lk G m_Mo_runMarks 4 29 [(0, vR x0), (1, vI x1)] [] s 0 0 (lk_at 55 [] [] e0 0 0) := by
  intro n
  induction n with
  | zero => intro x0 x1 s e0 h; cases h
  | succ n ih =>
    intro x0 x1 s e0 h
    unfold L_Mo_runMarks_29 at h
    refine lk_iload_n d_Mo_runMarks_29 rfl ?_
    refine lk_aload_n d_Mo_runMarks_30 rfl ?_
    obtain ⟨a8, ha8, h⟩ := x_b h
    refine lk_getI (k := 4) d_Mo_runMarks_31 ha8 (by decide) rfl (by decide) lf_Mo_172 rfl ?_
    refine lk_icmp_gt (tgt := 55) d_Mo_runMarks_34 (by decide) (fun hc => ?_) (fun hc => ?_)
    · replace h := x_ifp hc h
      cases h
      refine Lk.sel [] rfl ?_
      exact Lk.stop ⟨rfl, rfl, rfl, rfl, rfl, rfl⟩
    · replace h := x_ifn hc h
      refine lk_aload_n d_Mo_runMarks_37 rfl ?_
      refine lk_getI (k := 39) d_Mo_runMarks_38 ha8 (by decide) rfl (by decide) lf_Mo_105 rfl ?_
      refine lk_if_ne (tgt := 55) d_Mo_runMarks_41 (by decide) (fun hc => ?_) (fun hc => ?_)
      · replace h := x_ifn hc h
        cases h
        refine Lk.sel [] rfl ?_
        exact Lk.stop ⟨rfl, rfl, rfl, rfl, rfl, rfl⟩
      · replace h := x_ifp hc h
        refine lk_aload_n d_Mo_runMarks_44 rfl ?_
        refine lk_iload_n d_Mo_runMarks_45 rfl ?_
        obtain ⟨p9, hp9, h⟩ := x_b h
        refine lk_callV0 d_Mo_runMarks_46 (x_obm ha8 rfl) (c_Mo_runThread hp9) (Nat.le_of_ble_eq_true rfl) rfl M_Mo_runThread lm_Mo_211 in_Mo_runThread se_Mo_runThread (by decide) rfl (Nat.le_of_ble_eq_true rfl) ?_
        refine lk_iinc (v := _ + 1) d_Mo_runMarks_49 rfl rfl (by decide) rfl ?_
        refine lk_goto (tgt := 29) d_Mo_runMarks_52 (by decide) ?_
        refine Lk.sel [0, 1] rfl ?_
        exact ih _ _ _ _ h
def L_Mo_runMarks_7 : Nat → Option Nat → Int32 → hv_S → Option (hv_S)
  | 0, _, _, _ => none
  | n + 1, x0, x1, s =>
    if 1344 ≤ x1 then
      some s
    else
      (x_ob s 11 x0).bind fun a3 =>
      (x_ar s 3 (hv_R s a3 26)).bind fun q4 =>
      (x_ix q4.2 x1).bind fun k5 =>
      (some (hv_setI s q4.1 k5 (vp_nar .boolean 0))).bind fun s6 =>
      L_Mo_runMarks_7 n x0 (x1 + 1) s6
set_option maxRecDepth 4000 in
set_option maxHeartbeats 2000000 in
theorem l_Mo_runMarks_7 {G : lt_G} : ∀ (n : Nat) (x0 : Option Nat) (x1 : Int32) (s : hv_S) (e0 : hv_S), L_Mo_runMarks_7 n x0 x1 s = some e0 → Lk G m_Mo_runMarks 4 7 [(0, vR x0), (1, vI x1)] [] s 0 0 (lk_at 27 [(0, vR x0)] [] e0 0 0) := by
  intro n
  induction n with
  | zero => intro x0 x1 s e0 h; cases h
  | succ n ih =>
    intro x0 x1 s e0 h
    unfold L_Mo_runMarks_7 at h
    refine lk_iload_n d_Mo_runMarks_7 rfl ?_
    refine lk_sipush (v := 1344) d_Mo_runMarks_8 rfl ?_
    refine lk_icmp_ge (tgt := 27) d_Mo_runMarks_11 (by decide) (fun hc => ?_) (fun hc => ?_)
    · replace h := x_ifp hc h
      cases h
      refine Lk.sel [0] rfl ?_
      exact Lk.stop ⟨rfl, rfl, rfl, rfl, rfl, rfl⟩
    · replace h := x_ifn hc h
      refine lk_aload_n d_Mo_runMarks_14 rfl ?_
      obtain ⟨a3, ha3, h⟩ := x_b h
      refine lk_getR (k := 26) d_Mo_runMarks_15 ha3 (by decide) rfl (by decide) lf_Mo_58 rfl ?_
      refine lk_iload_n d_Mo_runMarks_18 rfl ?_
      refine lk_iconst (v := 0) d_Mo_runMarks_19 rfl ?_
      obtain ⟨q4, hq4, h⟩ := x_b h
      obtain ⟨k5, hk5, h⟩ := x_b h
      replace h := x_nm h
      refine lk_zast d_Mo_runMarks_20 hq4 hk5 ?_
      refine lk_iinc (v := _ + 1) d_Mo_runMarks_21 rfl rfl (by decide) rfl ?_
      refine lk_goto (tgt := 7) d_Mo_runMarks_24 (by decide) ?_
      refine Lk.sel [0, 1] rfl ?_
      exact ih _ _ _ _ h
def f_Mo_runMarks (z0 : Nat) (s : hv_S) : Option (hv_S) :=
  (x_ob s 11 ((some z0))).bind fun a1 =>
  (some (hv_setI s a1 39 0)).bind fun s2 =>
  (L_Mo_runMarks_7 100000 ((some z0)) 0 s2).bind fun e7 =>
  (L_Mo_runMarks_29 100000 ((some z0)) 0 e7).bind fun e10 =>
  some e10
set_option maxRecDepth 4000 in
set_option maxHeartbeats 2000000 in
theorem c_Mo_runMarks {G : lt_G} {z0 : Nat} {s : hv_S} {p : hv_S} (h : f_Mo_runMarks z0 s = some p) : Ck G m_Mo_runMarks 4 0 0 [vR (some z0)] s none p := by
  refine Ck.of (by decide) (Nat.le_of_ble_eq_true rfl) ?_
  unfold f_Mo_runMarks at h
  refine lk_aload_n d_Mo_runMarks_0 rfl ?_
  refine lk_iconst (v := 0) d_Mo_runMarks_1 rfl ?_
  obtain ⟨a1, ha1, h⟩ := x_b h
  replace h := x_nm h
  refine lk_putZ (k := 39) d_Mo_runMarks_2 ha1 (by decide) (by decide) rfl (by decide) lf_Mo_105 rfl rfl ?_
  refine lk_iconst (v := 0) d_Mo_runMarks_5 rfl ?_
  refine lk_istore_n d_Mo_runMarks_6 (by decide) rfl ?_
  obtain ⟨e7, hl, h⟩ := x_b h
  refine Lk.sel [0, 1] rfl ?_
  refine Lk.trans (l_Mo_runMarks_7 _ _ _ _ _ hl) ?_
  intro pc' lo' st' s' mc' ms' hx
  obtain ⟨rfl, rfl, rfl, rfl, rfl, rfl⟩ := hx
  refine lk_iconst (v := 0) d_Mo_runMarks_27 rfl ?_
  refine lk_istore_n d_Mo_runMarks_28 (by decide) rfl ?_
  obtain ⟨e10, hl, h⟩ := x_b h
  refine Lk.sel [0, 1] rfl ?_
  refine Lk.trans (l_Mo_runMarks_29 _ _ _ _ _ hl) ?_
  intro pc' lo' st' s' mc' ms' hx
  obtain ⟨rfl, rfl, rfl, rfl, rfl, rfl⟩ := hx
  cases h
  exact Lk.stop ⟨rfl, Or.inl ⟨d_Mo_runMarks_55, rfl, rfl, rfl⟩⟩
def f_Mo_hasFound (z0 : Nat) (r1 : Option Nat) (x2 : Int32) (x3 : Int32) (s : hv_S) : Option (Int32 × hv_S) :=
  ((
    if x3 ≤ 0 then
      some 0
    else
      (x_ob s 11 ((some z0))).bind fun a1 =>
      (x_ar s 0 r1).bind fun q2 =>
      (x_ix q2.2 ((x2 + x3) - (1 : Int32))).bind fun k3 =>
      (x_ar s 0 (hv_R s a1 7)).bind fun q4 =>
      (x_ix q4.2 (hv_I s q2.1 k3)).bind fun k5 =>
      if (hv_I s q4.1 k5) = 7 then
        some 1
      else
        some 0
  ) : Option (Int32)).bind fun t6 =>
  (x_z t6).bind fun z7 =>
  some ((z7, s))
set_option maxRecDepth 4000 in
set_option maxHeartbeats 2000000 in
theorem c_Mo_hasFound {G : lt_G} {z0 : Nat} {r1 : Option Nat} {x2 : Int32} {x3 : Int32} {s : hv_S} {p : Int32 × hv_S} (h : f_Mo_hasFound z0 r1 x2 x3 s = some p) : Ck G m_Mo_hasFound 1 0 0 [vR (some z0), vR r1, vI x2, vI x3] s (some (vI p.1)) p.2 := by
  refine Ck.of (by decide) (Nat.le_of_ble_eq_true rfl) ?_
  unfold f_Mo_hasFound at h
  refine lk_iload_n d_Mo_hasFound_0 rfl ?_
  obtain ⟨t6, hj, h⟩ := x_b h
  refine Lk.joinA 26 [] [] rfl 1 [vI t6] ?_ ?_
  · replace h := hj
    refine lk_if_le (tgt := 25) d_Mo_hasFound_1 (by decide) (fun hc => ?_) (fun hc => ?_)
    · replace h := x_ifp hc h
      refine lk_iconst (v := 0) d_Mo_hasFound_25 rfl ?_
      cases h
      refine Lk.sel [] rfl ?_
      exact Lk.stop ⟨rfl, rfl, rfl, rfl, rfl, rfl⟩
    · replace h := x_ifn hc h
      refine lk_aload_n d_Mo_hasFound_4 rfl ?_
      obtain ⟨a1, ha1, h⟩ := x_b h
      refine lk_getR (k := 7) d_Mo_hasFound_5 ha1 (by decide) rfl (by decide) lf_Mo_16 rfl ?_
      refine lk_aload_n d_Mo_hasFound_8 rfl ?_
      refine lk_iload_n d_Mo_hasFound_9 rfl ?_
      refine lk_iload_n d_Mo_hasFound_10 rfl ?_
      refine lk_iadd d_Mo_hasFound_11 ?_
      refine lk_iconst (v := 1) d_Mo_hasFound_12 rfl ?_
      refine lk_isub d_Mo_hasFound_13 ?_
      obtain ⟨q2, hq2, h⟩ := x_b h
      obtain ⟨k3, hk3, h⟩ := x_b h
      refine lk_iald d_Mo_hasFound_14 hq2 hk3 ?_
      obtain ⟨q4, hq4, h⟩ := x_b h
      obtain ⟨k5, hk5, h⟩ := x_b h
      refine lk_iald d_Mo_hasFound_15 hq4 hk5 ?_
      refine lk_bipush (v := 7) d_Mo_hasFound_16 rfl ?_
      refine lk_icmp_ne (tgt := 25) d_Mo_hasFound_18 (by decide) (fun hc => ?_) (fun hc => ?_)
      · replace h := x_ifn hc h
        refine lk_iconst (v := 0) d_Mo_hasFound_25 rfl ?_
        cases h
        refine Lk.sel [] rfl ?_
        exact Lk.stop ⟨rfl, rfl, rfl, rfl, rfl, rfl⟩
      · replace h := x_ifp hc h
        refine lk_iconst (v := 1) d_Mo_hasFound_21 rfl ?_
        refine lk_goto (tgt := 26) d_Mo_hasFound_22 (by decide) ?_
        cases h
        refine Lk.sel [] rfl ?_
        exact Lk.stop ⟨rfl, rfl, rfl, rfl, rfl, rfl⟩
  · clear hj
    obtain ⟨z7, hz70, h⟩ := x_b h
    obtain ⟨rfl, hz7⟩ := x_z_some hz70
    cases h
    exact Lk.stop ⟨rfl, Or.inr (Or.inl ⟨_, _, d_Mo_hasFound_26, rfl, x_zn hz7, rfl, rfl⟩)⟩
def L_Mo_followRow_7 : Nat → Option Nat → Int32 → Int32 → hv_S → Option (hv_S)
  | 0, _, _, _, _ => none
  | n + 1, x0, x2, x3, s =>
    if x3 = ((-1)) then
      some s
    else
      (x_ob s 11 x0).bind fun a3 =>
      (f_Mo_hasFound a3 (hv_R s a3 35) 0 (hv_I s a3 34) s).bind fun p4 =>
      if p4.1 = 0 then
        (x_ob p4.2 11 x0).bind fun a5 =>
        (x_ar p4.2 0 (hv_R p4.2 a5 17)).bind fun q6 =>
        (x_ix q6.2 x3).bind fun k7 =>
        ((
          if (hv_I p4.2 q6.1 k7) = (hv_I p4.2 a5 16) then
            some ((-1), p4.2)
          else
            (x_ix q6.2 x3).bind fun k8 =>
            (some (hv_setI p4.2 q6.1 k8 (hv_I p4.2 a5 16))).bind fun s9 =>
            (x_ar s9 0 (hv_R s9 a5 7)).bind fun q10 =>
            (x_ix q10.2 x3).bind fun k11 =>
            (some (hv_I s9 q10.1 k11)).bind fun y12 =>
            if y12 ≤ 1 then
              (x_ar s9 0 (hv_R s9 a5 35)).bind fun q13 =>
              (x_ix q13.2 (hv_I s9 a5 34)).bind fun k14 =>
              (some (hv_setI s9 q13.1 k14 x3)).bind fun s15 =>
              (some (hv_setI s15 a5 34 ((hv_I s15 a5 34) + (1 : Int32)))).bind fun s16 =>
              some ((-1), s16)
            else
              if y12 < 6 then
                if y12 = 5 then
                  if x2 = 0 then
                    some ((-1), s9)
                  else
                    (f_Mo_behind a5 x3 0 s9).bind fun p18 =>
                    some (p18.1, p18.2)
                else
                  (f_Mo_behind a5 x3 0 s9).bind fun p17 =>
                  some (p17.1, p17.2)
              else
                (x_ar s9 0 (hv_R s9 a5 35)).bind fun q19 =>
                (x_ix q19.2 (hv_I s9 a5 34)).bind fun k20 =>
                (some (hv_setI s9 q19.1 k20 x3)).bind fun s21 =>
                (some (hv_setI s21 a5 34 ((hv_I s21 a5 34) + (1 : Int32)))).bind fun s22 =>
                some ((-1), s22)
        ) : Option (Int32 × hv_S)).bind fun t23 =>
        ((
          if t23.1 = ((-1)) then
            (x_ob t23.2 11 x0).bind fun a24 =>
            (f_Mo_back a24 t23.2).bind fun p25 =>
            some (p25.1, p25.2)
          else
            some (t23.1, t23.2)
        ) : Option (Int32 × hv_S)).bind fun t26 =>
        L_Mo_followRow_7 n x0 x2 t26.1 t26.2
      else
        some p4.2
set_option maxRecDepth 4000 in
set_option maxHeartbeats 2000000 in
theorem l_Mo_followRow_7 {G : lt_G} : ∀ (n : Nat) (x0 : Option Nat) (x2 : Int32) (x3 : Int32) (s : hv_S) (e0 : hv_S), L_Mo_followRow_7 n x0 x2 x3 s = some e0 → Lk G m_Mo_followRow 3 7 [(0, vR x0), (2, vI x2), (3, vI x3)] [] s 0 0 (lk_at 135 [] [] e0 0 0) := by
  intro n
  induction n with
  | zero => intro x0 x2 x3 s e0 h; cases h
  | succ n ih =>
    intro x0 x2 x3 s e0 h
    unfold L_Mo_followRow_7 at h
    refine lk_iload_n d_Mo_followRow_7 rfl ?_
    refine lk_iconst (v := (-1)) d_Mo_followRow_8 rfl ?_
    refine lk_icmp_eq (tgt := 135) d_Mo_followRow_9 (by decide) (fun hc => ?_) (fun hc => ?_)
    · replace h := x_ifp hc h
      cases h
      refine Lk.sel [] rfl ?_
      exact Lk.stop ⟨rfl, rfl, rfl, rfl, rfl, rfl⟩
    · replace h := x_ifn hc h
      refine lk_aload_n d_Mo_followRow_12 rfl ?_
      refine lk_aload_n d_Mo_followRow_13 rfl ?_
      obtain ⟨a3, ha3, h⟩ := x_b h
      refine lk_getR (k := 35) d_Mo_followRow_14 ha3 (by decide) rfl (by decide) lf_Mo_74 rfl ?_
      refine lk_iconst (v := 0) d_Mo_followRow_17 rfl ?_
      refine lk_aload_n d_Mo_followRow_18 rfl ?_
      refine lk_getI (k := 34) d_Mo_followRow_19 ha3 (by decide) rfl (by decide) lf_Mo_214 rfl ?_
      obtain ⟨p4, hp4, h⟩ := x_b h
      refine lk_callV0 d_Mo_followRow_22 (x_obm ha3 rfl) (c_Mo_hasFound hp4) (Nat.le_of_ble_eq_true rfl) rfl M_Mo_hasFound lm_Mo_217 in_Mo_hasFound se_Mo_hasFound (by decide) rfl (Nat.le_of_ble_eq_true rfl) ?_
      refine lk_if_ne (tgt := 135) d_Mo_followRow_25 (by decide) (fun hc => ?_) (fun hc => ?_)
      · replace h := x_ifn hc h
        cases h
        refine Lk.sel [] rfl ?_
        exact Lk.stop ⟨rfl, rfl, rfl, rfl, rfl, rfl⟩
      · replace h := x_ifp hc h
        refine lk_iconst (v := (-1)) d_Mo_followRow_28 rfl ?_
        refine lk_istore d_Mo_followRow_29 (by decide) rfl ?_
        refine lk_aload_n d_Mo_followRow_31 rfl ?_
        obtain ⟨a5, ha5, h⟩ := x_b h
        refine lk_getR (k := 17) d_Mo_followRow_32 ha5 (by decide) rfl (by decide) lf_Mo_34 rfl ?_
        refine lk_iload_n d_Mo_followRow_35 rfl ?_
        obtain ⟨q6, hq6, h⟩ := x_b h
        obtain ⟨k7, hk7, h⟩ := x_b h
        refine lk_iald d_Mo_followRow_36 hq6 hk7 ?_
        refine lk_aload_n d_Mo_followRow_37 rfl ?_
        refine lk_getI (k := 16) d_Mo_followRow_38 ha5 (by decide) rfl (by decide) lf_Mo_166 rfl ?_
        obtain ⟨t23, hj, h⟩ := x_b h
        refine Lk.joinS 116 [0, 2, 4] [(4, vI t23.1)] rfl 2 [] t23.2 ?_ ?_
        · replace h := hj
          refine lk_icmp_eq (tgt := 116) d_Mo_followRow_41 (by decide) (fun hc => ?_) (fun hc => ?_)
          · replace h := x_ifp hc h
            cases h
            refine Lk.sel [0, 2, 4] rfl ?_
            exact Lk.stop ⟨rfl, rfl, rfl, rfl, rfl, rfl⟩
          · replace h := x_ifn hc h
            refine lk_aload_n d_Mo_followRow_44 rfl ?_
            refine lk_getR (k := 17) d_Mo_followRow_45 ha5 (by decide) rfl (by decide) lf_Mo_34 rfl ?_
            refine lk_iload_n d_Mo_followRow_48 rfl ?_
            refine lk_aload_n d_Mo_followRow_49 rfl ?_
            refine lk_getI (k := 16) d_Mo_followRow_50 ha5 (by decide) rfl (by decide) lf_Mo_166 rfl ?_
            obtain ⟨k8, hk8, h⟩ := x_b h
            replace h := x_nm h
            refine lk_iast d_Mo_followRow_53 hq6 hk8 ?_
            refine lk_aload_n d_Mo_followRow_54 rfl ?_
            refine lk_getR (k := 7) d_Mo_followRow_55 ha5 (by decide) rfl (by decide) lf_Mo_16 rfl ?_
            refine lk_iload_n d_Mo_followRow_58 rfl ?_
            obtain ⟨q10, hq10, h⟩ := x_b h
            obtain ⟨k11, hk11, h⟩ := x_b h
            refine lk_iald d_Mo_followRow_59 hq10 hk11 ?_
            replace h := x_nm h
            refine lk_istore d_Mo_followRow_60 (by decide) rfl ?_
            refine lk_iload d_Mo_followRow_62 rfl ?_
            refine lk_iconst (v := 1) d_Mo_followRow_64 rfl ?_
            refine lk_icmp_le (tgt := 75) d_Mo_followRow_65 (by decide) (fun hc => ?_) (fun hc => ?_)
            · replace h := x_ifp hc h
              refine lk_aload_n d_Mo_followRow_75 rfl ?_
              refine lk_getR (k := 35) d_Mo_followRow_76 ha5 (by decide) rfl (by decide) lf_Mo_74 rfl ?_
              refine lk_aload_n d_Mo_followRow_79 rfl ?_
              refine lk_getI (k := 34) d_Mo_followRow_80 ha5 (by decide) rfl (by decide) lf_Mo_214 rfl ?_
              refine lk_iload_n d_Mo_followRow_83 rfl ?_
              obtain ⟨q13, hq13, h⟩ := x_b h
              obtain ⟨k14, hk14, h⟩ := x_b h
              replace h := x_nm h
              refine lk_iast d_Mo_followRow_84 hq13 hk14 ?_
              refine lk_aload_n d_Mo_followRow_85 rfl ?_
              refine lk_dup d_Mo_followRow_86 rfl ?_
              refine lk_getI (k := 34) d_Mo_followRow_87 ha5 (by decide) rfl (by decide) lf_Mo_214 rfl ?_
              refine lk_iconst (v := 1) d_Mo_followRow_90 rfl ?_
              refine lk_iadd d_Mo_followRow_91 ?_
              replace h := x_nm h
              refine lk_putI (k := 34) d_Mo_followRow_92 ha5 (by decide) rfl (by decide) lf_Mo_214 rfl rfl ?_
              refine lk_goto (tgt := 116) d_Mo_followRow_95 (by decide) ?_
              cases h
              refine Lk.sel [0, 2, 4] rfl ?_
              exact Lk.stop ⟨rfl, rfl, rfl, rfl, rfl, rfl⟩
            · replace h := x_ifn hc h
              refine lk_iload d_Mo_followRow_68 rfl ?_
              refine lk_bipush (v := 6) d_Mo_followRow_70 rfl ?_
              refine lk_icmp_lt (tgt := 98) d_Mo_followRow_72 (by decide) (fun hc => ?_) (fun hc => ?_)
              · replace h := x_ifp hc h
                refine lk_iload d_Mo_followRow_98 rfl ?_
                refine lk_iconst (v := 5) d_Mo_followRow_100 rfl ?_
                refine lk_icmp_ne (tgt := 108) d_Mo_followRow_101 (by decide) (fun hc => ?_) (fun hc => ?_)
                · replace h := x_ifn hc h
                  refine lk_aload_n d_Mo_followRow_108 rfl ?_
                  refine lk_iload_n d_Mo_followRow_109 rfl ?_
                  refine lk_iconst (v := 0) d_Mo_followRow_110 rfl ?_
                  obtain ⟨p17, hp17, h⟩ := x_b h
                  refine lk_callV0 d_Mo_followRow_111 (x_obm ha5 rfl) (c_Mo_behind hp17) (Nat.le_of_ble_eq_true rfl) rfl M_Mo_behind lm_Mo_179 in_Mo_behind se_Mo_behind (by decide) rfl (Nat.le_of_ble_eq_true rfl) ?_
                  refine lk_istore d_Mo_followRow_114 (by decide) rfl ?_
                  cases h
                  refine Lk.sel [0, 2, 4] rfl ?_
                  exact Lk.stop ⟨rfl, rfl, rfl, rfl, rfl, rfl⟩
                · replace h := x_ifp hc h
                  refine lk_iload_n d_Mo_followRow_104 rfl ?_
                  refine lk_if_eq (tgt := 116) d_Mo_followRow_105 (by decide) (fun hc => ?_) (fun hc => ?_)
                  · replace h := x_ifp hc h
                    cases h
                    refine Lk.sel [0, 2, 4] rfl ?_
                    exact Lk.stop ⟨rfl, rfl, rfl, rfl, rfl, rfl⟩
                  · replace h := x_ifn hc h
                    refine lk_aload_n d_Mo_followRow_108 rfl ?_
                    refine lk_iload_n d_Mo_followRow_109 rfl ?_
                    refine lk_iconst (v := 0) d_Mo_followRow_110 rfl ?_
                    obtain ⟨p18, hp18, h⟩ := x_b h
                    refine lk_callV0 d_Mo_followRow_111 (x_obm ha5 rfl) (c_Mo_behind hp18) (Nat.le_of_ble_eq_true rfl) rfl M_Mo_behind lm_Mo_179 in_Mo_behind se_Mo_behind (by decide) rfl (Nat.le_of_ble_eq_true rfl) ?_
                    refine lk_istore d_Mo_followRow_114 (by decide) rfl ?_
                    cases h
                    refine Lk.sel [0, 2, 4] rfl ?_
                    exact Lk.stop ⟨rfl, rfl, rfl, rfl, rfl, rfl⟩
              · replace h := x_ifn hc h
                refine lk_aload_n d_Mo_followRow_75 rfl ?_
                refine lk_getR (k := 35) d_Mo_followRow_76 ha5 (by decide) rfl (by decide) lf_Mo_74 rfl ?_
                refine lk_aload_n d_Mo_followRow_79 rfl ?_
                refine lk_getI (k := 34) d_Mo_followRow_80 ha5 (by decide) rfl (by decide) lf_Mo_214 rfl ?_
                refine lk_iload_n d_Mo_followRow_83 rfl ?_
                obtain ⟨q19, hq19, h⟩ := x_b h
                obtain ⟨k20, hk20, h⟩ := x_b h
                replace h := x_nm h
                refine lk_iast d_Mo_followRow_84 hq19 hk20 ?_
                refine lk_aload_n d_Mo_followRow_85 rfl ?_
                refine lk_dup d_Mo_followRow_86 rfl ?_
                refine lk_getI (k := 34) d_Mo_followRow_87 ha5 (by decide) rfl (by decide) lf_Mo_214 rfl ?_
                refine lk_iconst (v := 1) d_Mo_followRow_90 rfl ?_
                refine lk_iadd d_Mo_followRow_91 ?_
                replace h := x_nm h
                refine lk_putI (k := 34) d_Mo_followRow_92 ha5 (by decide) rfl (by decide) lf_Mo_214 rfl rfl ?_
                refine lk_goto (tgt := 116) d_Mo_followRow_95 (by decide) ?_
                cases h
                refine Lk.sel [0, 2, 4] rfl ?_
                exact Lk.stop ⟨rfl, rfl, rfl, rfl, rfl, rfl⟩
        · clear hj
          refine lk_iload d_Mo_followRow_116 rfl ?_
          refine lk_iconst (v := (-1)) d_Mo_followRow_118 rfl ?_
          obtain ⟨t26, hj, h⟩ := x_b h
          refine Lk.joinS 131 [0, 2] [] rfl 2 [vI t26.1] t26.2 ?_ ?_
          · replace h := hj
            refine lk_icmp_ne (tgt := 129) d_Mo_followRow_119 (by decide) (fun hc => ?_) (fun hc => ?_)
            · replace h := x_ifn hc h
              refine lk_iload d_Mo_followRow_129 rfl ?_
              cases h
              refine Lk.sel [0, 2] rfl ?_
              exact Lk.stop ⟨rfl, rfl, rfl, rfl, rfl, rfl⟩
            · replace h := x_ifp hc h
              refine lk_aload_n d_Mo_followRow_122 rfl ?_
              obtain ⟨a24, ha24, h⟩ := x_b h
              obtain ⟨p25, hp25, h⟩ := x_b h
              refine lk_callV0 d_Mo_followRow_123 (x_obm ha24 rfl) (c_Mo_back hp25) (Nat.le_of_ble_eq_true rfl) rfl M_Mo_back lm_Mo_186 in_Mo_back se_Mo_back (by decide) rfl (Nat.le_of_ble_eq_true rfl) ?_
              refine lk_goto (tgt := 131) d_Mo_followRow_126 (by decide) ?_
              cases h
              refine Lk.sel [0, 2] rfl ?_
              exact Lk.stop ⟨rfl, rfl, rfl, rfl, rfl, rfl⟩
          · clear hj
            refine lk_istore_n d_Mo_followRow_131 (by decide) rfl ?_
            refine lk_goto (tgt := 7) d_Mo_followRow_132 (by decide) ?_
            refine Lk.sel [0, 2, 3] rfl ?_
            exact ih _ _ _ _ _ h
def f_Mo_followRow (z0 : Nat) (x1 : Int32) (x2 : Int32) (s : hv_S) : Option (hv_S) :=
  (x_ob s 11 ((some z0))).bind fun a1 =>
  (some (hv_setI s a1 18 0)).bind fun s2 =>
  (L_Mo_followRow_7 100000 ((some z0)) x2 x1 s2).bind fun e27 =>
  some e27
set_option maxRecDepth 4000 in
set_option maxHeartbeats 2000000 in
theorem c_Mo_followRow {G : lt_G} {z0 : Nat} {x1 : Int32} {x2 : Int32} {s : hv_S} {p : hv_S} (h : f_Mo_followRow z0 x1 x2 s = some p) : Ck G m_Mo_followRow 3 0 0 [vR (some z0), vI x1, vI x2] s none p := by
  refine Ck.of (by decide) (Nat.le_of_ble_eq_true rfl) ?_
  unfold f_Mo_followRow at h
  refine lk_aload_n d_Mo_followRow_0 rfl ?_
  refine lk_iconst (v := 0) d_Mo_followRow_1 rfl ?_
  obtain ⟨a1, ha1, h⟩ := x_b h
  replace h := x_nm h
  refine lk_putI (k := 18) d_Mo_followRow_2 ha1 (by decide) rfl (by decide) lf_Mo_169 rfl rfl ?_
  refine lk_iload_n d_Mo_followRow_5 rfl ?_
  refine lk_istore_n d_Mo_followRow_6 (by decide) rfl ?_
  obtain ⟨e27, hl, h⟩ := x_b h
  refine Lk.sel [0, 2, 3] rfl ?_
  refine Lk.trans (l_Mo_followRow_7 _ _ _ _ _ _ hl) ?_
  intro pc' lo' st' s' mc' ms' hx
  obtain ⟨rfl, rfl, rfl, rfl, rfl, rfl⟩ := hx
  cases h
  exact Lk.stop ⟨rfl, Or.inl ⟨d_Mo_followRow_135, rfl, rfl, rfl⟩⟩
def f_Mo_isFinal (z0 : Nat) (x1 : Int32) (s : hv_S) : Option (Int32 × hv_S) :=
  (x_ob s 11 ((some z0))).bind fun a1 =>
  (x_ar s 0 (hv_R s a1 30)).bind fun q2 =>
  (x_ix q2.2 x1).bind fun k3 =>
  (f_Mo_hasFound a1 (hv_R s a1 31) ((64 : Int32) * x1) (hv_I s q2.1 k3) s).bind fun p4 =>
  (x_z p4.1).bind fun z5 =>
  some ((z5, p4.2))
set_option maxRecDepth 4000 in
set_option maxHeartbeats 2000000 in
theorem c_Mo_isFinal {G : lt_G} {z0 : Nat} {x1 : Int32} {s : hv_S} {p : Int32 × hv_S} (h : f_Mo_isFinal z0 x1 s = some p) : Ck G m_Mo_isFinal 2 0 0 [vR (some z0), vI x1] s (some (vI p.1)) p.2 := by
  refine Ck.of (by decide) (Nat.le_of_ble_eq_true rfl) ?_
  unfold f_Mo_isFinal at h
  refine lk_aload_n d_Mo_isFinal_0 rfl ?_
  refine lk_aload_n d_Mo_isFinal_1 rfl ?_
  obtain ⟨a1, ha1, h⟩ := x_b h
  refine lk_getR (k := 31) d_Mo_isFinal_2 ha1 (by decide) rfl (by decide) lf_Mo_65 rfl ?_
  refine lk_bipush (v := 64) d_Mo_isFinal_5 rfl ?_
  refine lk_iload_n d_Mo_isFinal_7 rfl ?_
  refine lk_imul d_Mo_isFinal_8 ?_
  refine lk_aload_n d_Mo_isFinal_9 rfl ?_
  refine lk_getR (k := 30) d_Mo_isFinal_10 ha1 (by decide) rfl (by decide) lf_Mo_62 rfl ?_
  refine lk_iload_n d_Mo_isFinal_13 rfl ?_
  obtain ⟨q2, hq2, h⟩ := x_b h
  obtain ⟨k3, hk3, h⟩ := x_b h
  refine lk_iald d_Mo_isFinal_14 hq2 hk3 ?_
  obtain ⟨p4, hp4, h⟩ := x_b h
  refine lk_callV0 d_Mo_isFinal_15 (x_obm ha1 rfl) (c_Mo_hasFound hp4) (Nat.le_of_ble_eq_true rfl) rfl M_Mo_hasFound lm_Mo_217 in_Mo_hasFound se_Mo_hasFound (by decide) rfl (Nat.le_of_ble_eq_true rfl) ?_
  obtain ⟨z5, hz50, h⟩ := x_b h
  obtain ⟨rfl, hz5⟩ := x_z_some hz50
  cases h
  exact Lk.stop ⟨rfl, Or.inr (Or.inl ⟨_, _, d_Mo_isFinal_18, rfl, x_zn hz5, rfl, rfl⟩)⟩
def L_Mo_isRow_32 : Nat → Option Nat → Int32 → Int32 → Int32 → hv_S → Option (Int32 × hv_S)
  | 0, _, _, _, _, _ => none
  | n + 1, x0, x1, x3, x4, s =>
    (x_ob s 11 x0).bind fun a7 =>
    if (hv_I s a7 34) ≤ x4 then
      some (x3, s)
    else
      if x3 = 0 then
        some (x3, s)
      else
        (x_ar s 0 (hv_R s a7 31)).bind fun q8 =>
        (x_ix q8.2 (((64 : Int32) * x1) + x4)).bind fun k9 =>
        (x_ar s 0 (hv_R s a7 35)).bind fun q10 =>
        (x_ix q10.2 x4).bind fun k11 =>
        ((
          if (hv_I s q8.1 k9) = (hv_I s q10.1 k11) then
            some 1
          else
            some 0
        ) : Option (Int32)).bind fun t12 =>
        L_Mo_isRow_32 n x0 x1 t12 (x4 + 1) s
set_option maxRecDepth 4000 in
set_option maxHeartbeats 2000000 in
theorem l_Mo_isRow_32 {G : lt_G} : ∀ (n : Nat) (x0 : Option Nat) (x1 : Int32) (x3 : Int32) (x4 : Int32) (s : hv_S) (e0 : Int32 × hv_S), L_Mo_isRow_32 n x0 x1 x3 x4 s = some e0 → Lk G m_Mo_isRow 1 32 [(0, vR x0), (1, vI x1), (3, vI x3), (4, vI x4)] [] s 0 0 (lk_at 79 [(3, vI e0.1)] [] e0.2 0 0) := by
  intro n
  induction n with
  | zero => intro x0 x1 x3 x4 s e0 h; cases h
  | succ n ih =>
    intro x0 x1 x3 x4 s e0 h
    unfold L_Mo_isRow_32 at h
    refine lk_iload d_Mo_isRow_32 rfl ?_
    refine lk_aload_n d_Mo_isRow_34 rfl ?_
    obtain ⟨a7, ha7, h⟩ := x_b h
    refine lk_getI (k := 34) d_Mo_isRow_35 ha7 (by decide) rfl (by decide) lf_Mo_214 rfl ?_
    refine lk_icmp_ge (tgt := 79) d_Mo_isRow_38 (by decide) (fun hc => ?_) (fun hc => ?_)
    · replace h := x_ifp hc h
      cases h
      refine Lk.sel [3] rfl ?_
      exact Lk.stop ⟨rfl, rfl, rfl, rfl, rfl, rfl⟩
    · replace h := x_ifn hc h
      refine lk_iload_n d_Mo_isRow_41 rfl ?_
      refine lk_if_eq (tgt := 79) d_Mo_isRow_42 (by decide) (fun hc => ?_) (fun hc => ?_)
      · replace h := x_ifp hc h
        cases h
        refine Lk.sel [3] rfl ?_
        exact Lk.stop ⟨rfl, rfl, rfl, rfl, rfl, rfl⟩
      · replace h := x_ifn hc h
        refine lk_aload_n d_Mo_isRow_45 rfl ?_
        refine lk_getR (k := 31) d_Mo_isRow_46 ha7 (by decide) rfl (by decide) lf_Mo_65 rfl ?_
        refine lk_bipush (v := 64) d_Mo_isRow_49 rfl ?_
        refine lk_iload_n d_Mo_isRow_51 rfl ?_
        refine lk_imul d_Mo_isRow_52 ?_
        refine lk_iload d_Mo_isRow_53 rfl ?_
        refine lk_iadd d_Mo_isRow_55 ?_
        obtain ⟨q8, hq8, h⟩ := x_b h
        obtain ⟨k9, hk9, h⟩ := x_b h
        refine lk_iald d_Mo_isRow_56 hq8 hk9 ?_
        refine lk_aload_n d_Mo_isRow_57 rfl ?_
        refine lk_getR (k := 35) d_Mo_isRow_58 ha7 (by decide) rfl (by decide) lf_Mo_74 rfl ?_
        refine lk_iload d_Mo_isRow_61 rfl ?_
        obtain ⟨q10, hq10, h⟩ := x_b h
        obtain ⟨k11, hk11, h⟩ := x_b h
        refine lk_iald d_Mo_isRow_63 hq10 hk11 ?_
        obtain ⟨t12, hj, h⟩ := x_b h
        refine Lk.joinA 72 [0, 1, 4] [] rfl 2 [vI t12] ?_ ?_
        · replace h := hj
          refine lk_icmp_ne (tgt := 71) d_Mo_isRow_64 (by decide) (fun hc => ?_) (fun hc => ?_)
          · replace h := x_ifn hc h
            refine lk_iconst (v := 0) d_Mo_isRow_71 rfl ?_
            cases h
            refine Lk.sel [0, 1, 4] rfl ?_
            exact Lk.stop ⟨rfl, rfl, rfl, rfl, rfl, rfl⟩
          · replace h := x_ifp hc h
            refine lk_iconst (v := 1) d_Mo_isRow_67 rfl ?_
            refine lk_goto (tgt := 72) d_Mo_isRow_68 (by decide) ?_
            cases h
            refine Lk.sel [0, 1, 4] rfl ?_
            exact Lk.stop ⟨rfl, rfl, rfl, rfl, rfl, rfl⟩
        · clear hj
          refine lk_istore_n d_Mo_isRow_72 (by decide) rfl ?_
          refine lk_iinc (v := _ + 1) d_Mo_isRow_73 rfl rfl (by decide) rfl ?_
          refine lk_goto (tgt := 32) d_Mo_isRow_76 (by decide) ?_
          refine Lk.sel [0, 1, 3, 4] rfl ?_
          exact ih _ _ _ _ _ _ h
def f_Mo_isRow (z0 : Nat) (x1 : Int32) (x2 : Int32) (s : hv_S) : Option (Int32 × hv_S) :=
  (x_ob s 11 ((some z0))).bind fun a1 =>
  (x_ar s 0 (hv_R s a1 30)).bind fun q2 =>
  (x_ix q2.2 x1).bind fun k3 =>
  ((
    if (hv_I s q2.1 k3) = (hv_I s a1 34) then
      (x_ar s 3 (hv_R s a1 32)).bind fun q4 =>
      (x_ix q4.2 x1).bind fun k5 =>
      if (hv_I s q4.1 k5) = x2 then
        some 1
      else
        some 0
    else
      some 0
  ) : Option (Int32)).bind fun t6 =>
  (L_Mo_isRow_32 100000 ((some z0)) x1 t6 0 s).bind fun e13 =>
  (x_z e13.1).bind fun z14 =>
  some ((z14, e13.2))
set_option maxRecDepth 4000 in
set_option maxHeartbeats 2000000 in
theorem c_Mo_isRow {G : lt_G} {z0 : Nat} {x1 : Int32} {x2 : Int32} {s : hv_S} {p : Int32 × hv_S} (h : f_Mo_isRow z0 x1 x2 s = some p) : Ck G m_Mo_isRow 1 0 0 [vR (some z0), vI x1, vI x2] s (some (vI p.1)) p.2 := by
  refine Ck.of (by decide) (Nat.le_of_ble_eq_true rfl) ?_
  unfold f_Mo_isRow at h
  refine lk_aload_n d_Mo_isRow_0 rfl ?_
  obtain ⟨a1, ha1, h⟩ := x_b h
  refine lk_getR (k := 30) d_Mo_isRow_1 ha1 (by decide) rfl (by decide) lf_Mo_62 rfl ?_
  refine lk_iload_n d_Mo_isRow_4 rfl ?_
  obtain ⟨q2, hq2, h⟩ := x_b h
  obtain ⟨k3, hk3, h⟩ := x_b h
  refine lk_iald d_Mo_isRow_5 hq2 hk3 ?_
  refine lk_aload_n d_Mo_isRow_6 rfl ?_
  refine lk_getI (k := 34) d_Mo_isRow_7 ha1 (by decide) rfl (by decide) lf_Mo_214 rfl ?_
  obtain ⟨t6, hj, h⟩ := x_b h
  refine Lk.joinA 28 [0, 1] [] rfl 2 [vI t6] ?_ ?_
  · replace h := hj
    refine lk_icmp_ne (tgt := 27) d_Mo_isRow_10 (by decide) (fun hc => ?_) (fun hc => ?_)
    · replace h := x_ifn hc h
      refine lk_iconst (v := 0) d_Mo_isRow_27 rfl ?_
      cases h
      refine Lk.sel [0, 1] rfl ?_
      exact Lk.stop ⟨rfl, rfl, rfl, rfl, rfl, rfl⟩
    · replace h := x_ifp hc h
      refine lk_aload_n d_Mo_isRow_13 rfl ?_
      refine lk_getR (k := 32) d_Mo_isRow_14 ha1 (by decide) rfl (by decide) lf_Mo_68 rfl ?_
      refine lk_iload_n d_Mo_isRow_17 rfl ?_
      obtain ⟨q4, hq4, h⟩ := x_b h
      obtain ⟨k5, hk5, h⟩ := x_b h
      refine lk_zald d_Mo_isRow_18 hq4 hk5 ?_
      refine lk_iload_n d_Mo_isRow_19 rfl ?_
      refine lk_icmp_ne (tgt := 27) d_Mo_isRow_20 (by decide) (fun hc => ?_) (fun hc => ?_)
      · replace h := x_ifn hc h
        refine lk_iconst (v := 0) d_Mo_isRow_27 rfl ?_
        cases h
        refine Lk.sel [0, 1] rfl ?_
        exact Lk.stop ⟨rfl, rfl, rfl, rfl, rfl, rfl⟩
      · replace h := x_ifp hc h
        refine lk_iconst (v := 1) d_Mo_isRow_23 rfl ?_
        refine lk_goto (tgt := 28) d_Mo_isRow_24 (by decide) ?_
        cases h
        refine Lk.sel [0, 1] rfl ?_
        exact Lk.stop ⟨rfl, rfl, rfl, rfl, rfl, rfl⟩
  · clear hj
    refine lk_istore_n d_Mo_isRow_28 (by decide) rfl ?_
    refine lk_iconst (v := 0) d_Mo_isRow_29 rfl ?_
    refine lk_istore d_Mo_isRow_30 (by decide) rfl ?_
    obtain ⟨e13, hl, h⟩ := x_b h
    refine Lk.sel [0, 1, 3, 4] rfl ?_
    refine Lk.trans (l_Mo_isRow_32 _ _ _ _ _ _ _ hl) ?_
    intro pc' lo' st' s' mc' ms' hx
    obtain ⟨rfl, rfl, rfl, rfl, rfl, rfl⟩ := hx
    refine lk_iload_n d_Mo_isRow_79 rfl ?_
    obtain ⟨z14, hz140, h⟩ := x_b h
    obtain ⟨rfl, hz14⟩ := x_z_some hz140
    cases h
    exact Lk.stop ⟨rfl, Or.inr (Or.inl ⟨_, _, d_Mo_isRow_80, rfl, x_zn hz14, rfl, rfl⟩)⟩
def L_Mo_stateOf_150 : Nat → Option Nat → Int32 → Int32 → hv_S → Option (hv_S)
  | 0, _, _, _, _ => none
  | n + 1, x0, x2, x3, s =>
    if 8 ≤ x3 then
      some s
    else
      (x_ob s 11 x0).bind fun a20 =>
      (x_ar s 0 (hv_R s a20 33)).bind fun q21 =>
      (x_ix q21.2 (((8 : Int32) * x2) + x3)).bind fun k22 =>
      (some (hv_setI s q21.1 k22 ((-1)))).bind fun s23 =>
      L_Mo_stateOf_150 n x0 x2 (x3 + 1) s23
set_option maxRecDepth 4000 in
set_option maxHeartbeats 2000000 in
theorem l_Mo_stateOf_150 {G : lt_G} : ∀ (n : Nat) (x0 : Option Nat) (x2 : Int32) (x3 : Int32) (s : hv_S) (e0 : hv_S), L_Mo_stateOf_150 n x0 x2 x3 s = some e0 → Lk G m_Mo_stateOf 2 150 [(0, vR x0), (2, vI x2), (3, vI x3)] [] s 0 0 (lk_at 174 [(2, vI x2)] [] e0 0 0) := by
  intro n
  induction n with
  | zero => intro x0 x2 x3 s e0 h; cases h
  | succ n ih =>
    intro x0 x2 x3 s e0 h
    unfold L_Mo_stateOf_150 at h
    refine lk_iload_n d_Mo_stateOf_150 rfl ?_
    refine lk_bipush (v := 8) d_Mo_stateOf_151 rfl ?_
    refine lk_icmp_ge (tgt := 174) d_Mo_stateOf_153 (by decide) (fun hc => ?_) (fun hc => ?_)
    · replace h := x_ifp hc h
      cases h
      refine Lk.sel [2] rfl ?_
      exact Lk.stop ⟨rfl, rfl, rfl, rfl, rfl, rfl⟩
    · replace h := x_ifn hc h
      refine lk_aload_n d_Mo_stateOf_156 rfl ?_
      obtain ⟨a20, ha20, h⟩ := x_b h
      refine lk_getR (k := 33) d_Mo_stateOf_157 ha20 (by decide) rfl (by decide) lf_Mo_71 rfl ?_
      refine lk_bipush (v := 8) d_Mo_stateOf_160 rfl ?_
      refine lk_iload_n d_Mo_stateOf_162 rfl ?_
      refine lk_imul d_Mo_stateOf_163 ?_
      refine lk_iload_n d_Mo_stateOf_164 rfl ?_
      refine lk_iadd d_Mo_stateOf_165 ?_
      refine lk_iconst (v := (-1)) d_Mo_stateOf_166 rfl ?_
      obtain ⟨q21, hq21, h⟩ := x_b h
      obtain ⟨k22, hk22, h⟩ := x_b h
      replace h := x_nm h
      refine lk_iast d_Mo_stateOf_167 hq21 hk22 ?_
      refine lk_iinc (v := _ + 1) d_Mo_stateOf_168 rfl rfl (by decide) rfl ?_
      refine lk_goto (tgt := 150) d_Mo_stateOf_171 (by decide) ?_
      refine Lk.sel [0, 2, 3] rfl ?_
      exact ih _ _ _ _ _ h
def L_Mo_stateOf_117 : Nat → Option Nat → Int32 → Int32 → hv_S → Option (hv_S)
  | 0, _, _, _, _ => none
  | n + 1, x0, x2, x3, s =>
    (x_ob s 11 x0).bind fun a13 =>
    if (hv_I s a13 34) ≤ x3 then
      some s
    else
      (x_ar s 0 (hv_R s a13 35)).bind fun q14 =>
      (x_ix q14.2 x3).bind fun k15 =>
      (x_ar s 0 (hv_R s a13 31)).bind fun q16 =>
      (x_ix q16.2 (((64 : Int32) * x2) + x3)).bind fun k17 =>
      (some (hv_setI s q16.1 k17 (hv_I s q14.1 k15))).bind fun s18 =>
      L_Mo_stateOf_117 n x0 x2 (x3 + 1) s18
set_option maxRecDepth 4000 in
set_option maxHeartbeats 2000000 in
theorem l_Mo_stateOf_117 {G : lt_G} : ∀ (n : Nat) (x0 : Option Nat) (x2 : Int32) (x3 : Int32) (s : hv_S) (e0 : hv_S), L_Mo_stateOf_117 n x0 x2 x3 s = some e0 → Lk G m_Mo_stateOf 2 117 [(0, vR x0), (2, vI x2), (3, vI x3)] [] s 0 0 (lk_at 148 [(0, vR x0), (2, vI x2)] [] e0 0 0) := by
  intro n
  induction n with
  | zero => intro x0 x2 x3 s e0 h; cases h
  | succ n ih =>
    intro x0 x2 x3 s e0 h
    unfold L_Mo_stateOf_117 at h
    refine lk_iload_n d_Mo_stateOf_117 rfl ?_
    refine lk_aload_n d_Mo_stateOf_118 rfl ?_
    obtain ⟨a13, ha13, h⟩ := x_b h
    refine lk_getI (k := 34) d_Mo_stateOf_119 ha13 (by decide) rfl (by decide) lf_Mo_214 rfl ?_
    refine lk_icmp_ge (tgt := 148) d_Mo_stateOf_122 (by decide) (fun hc => ?_) (fun hc => ?_)
    · replace h := x_ifp hc h
      cases h
      refine Lk.sel [0, 2] rfl ?_
      exact Lk.stop ⟨rfl, rfl, rfl, rfl, rfl, rfl⟩
    · replace h := x_ifn hc h
      refine lk_aload_n d_Mo_stateOf_125 rfl ?_
      refine lk_getR (k := 31) d_Mo_stateOf_126 ha13 (by decide) rfl (by decide) lf_Mo_65 rfl ?_
      refine lk_bipush (v := 64) d_Mo_stateOf_129 rfl ?_
      refine lk_iload_n d_Mo_stateOf_131 rfl ?_
      refine lk_imul d_Mo_stateOf_132 ?_
      refine lk_iload_n d_Mo_stateOf_133 rfl ?_
      refine lk_iadd d_Mo_stateOf_134 ?_
      refine lk_aload_n d_Mo_stateOf_135 rfl ?_
      refine lk_getR (k := 35) d_Mo_stateOf_136 ha13 (by decide) rfl (by decide) lf_Mo_74 rfl ?_
      refine lk_iload_n d_Mo_stateOf_139 rfl ?_
      obtain ⟨q14, hq14, h⟩ := x_b h
      obtain ⟨k15, hk15, h⟩ := x_b h
      refine lk_iald d_Mo_stateOf_140 hq14 hk15 ?_
      obtain ⟨q16, hq16, h⟩ := x_b h
      obtain ⟨k17, hk17, h⟩ := x_b h
      replace h := x_nm h
      refine lk_iast d_Mo_stateOf_141 hq16 hk17 ?_
      refine lk_iinc (v := _ + 1) d_Mo_stateOf_142 rfl rfl (by decide) rfl ?_
      refine lk_goto (tgt := 117) d_Mo_stateOf_145 (by decide) ?_
      refine Lk.sel [0, 2, 3] rfl ?_
      exact ih _ _ _ _ _ h
def L_Mo_stateOf_2 : Nat → Option Nat → Int32 → Int32 → hv_S → Option ((hv_S) ⊕ (Int32 × hv_S))
  | 0, _, _, _, _ => none
  | n + 1, x0, x1, x2, s =>
    (x_ob s 11 x0).bind fun a1 =>
    if (hv_I s a1 27) ≤ x2 then
      some (.inl s)
    else
      (f_Mo_isRow a1 x2 x1 s).bind fun p2 =>
      if p2.1 = 0 then
        L_Mo_stateOf_2 n x0 x1 (x2 + 1) p2.2
      else
        some (.inr ((x2, p2.2)))
set_option maxRecDepth 4000 in
set_option maxHeartbeats 2000000 in
theorem l_Mo_stateOf_2 {G : lt_G} : ∀ (n : Nat) (x0 : Option Nat) (x1 : Int32) (x2 : Int32) (s : hv_S) (e0 : (hv_S) ⊕ (Int32 × hv_S)), L_Mo_stateOf_2 n x0 x1 x2 s = some e0 → Lk G m_Mo_stateOf 2 2 [(0, vR x0), (1, vI x1), (2, vI x2)] [] s 0 0 (fun a b c d e f => match e0 with | .inl t => lk_at 27 [(0, vR x0), (1, vI x1)] [] t 0 0 a b c d e f | .inr w => lk_end m_Mo_stateOf (some (vI w.1)) w.2 a b c d e f) := by
  intro n
  induction n with
  | zero => intro x0 x1 x2 s e0 h; cases h
  | succ n ih =>
    intro x0 x1 x2 s e0 h
    unfold L_Mo_stateOf_2 at h
    refine lk_iload_n d_Mo_stateOf_2 rfl ?_
    refine lk_aload_n d_Mo_stateOf_3 rfl ?_
    obtain ⟨a1, ha1, h⟩ := x_b h
    refine lk_getI (k := 27) d_Mo_stateOf_4 ha1 (by decide) rfl (by decide) lf_Mo_151 rfl ?_
    refine lk_icmp_ge (tgt := 27) d_Mo_stateOf_7 (by decide) (fun hc => ?_) (fun hc => ?_)
    · replace h := x_ifp hc h
      cases h
      refine Lk.sel [0, 1] rfl ?_
      exact Lk.stop ⟨rfl, rfl, rfl, rfl, rfl, rfl⟩
    · replace h := x_ifn hc h
      refine lk_aload_n d_Mo_stateOf_10 rfl ?_
      refine lk_iload_n d_Mo_stateOf_11 rfl ?_
      refine lk_iload_n d_Mo_stateOf_12 rfl ?_
      obtain ⟨p2, hp2, h⟩ := x_b h
      refine lk_callV0 d_Mo_stateOf_13 (x_obm ha1 rfl) (c_Mo_isRow hp2) (Nat.le_of_ble_eq_true rfl) rfl M_Mo_isRow lm_Mo_221 in_Mo_isRow se_Mo_isRow (by decide) rfl (Nat.le_of_ble_eq_true rfl) ?_
      refine lk_if_eq (tgt := 21) d_Mo_stateOf_16 (by decide) (fun hc => ?_) (fun hc => ?_)
      · replace h := x_ifp hc h
        refine lk_iinc (v := _ + 1) d_Mo_stateOf_21 rfl rfl (by decide) rfl ?_
        refine lk_goto (tgt := 2) d_Mo_stateOf_24 (by decide) ?_
        refine Lk.sel [0, 1, 2] rfl ?_
        exact ih _ _ _ _ _ h
      · replace h := x_ifn hc h
        refine lk_iload_n d_Mo_stateOf_19 rfl ?_
        cases h
        exact Lk.stop ⟨rfl, Or.inr (Or.inl ⟨_, _, d_Mo_stateOf_20, rfl, rfl, rfl, rfl⟩)⟩
def f_Mo_stateOf (z0 : Nat) (x1 : Int32) (s : hv_S) : Option (Int32 × hv_S) :=
  (L_Mo_stateOf_2 100000 ((some z0)) x1 0 s).bind fun e3r => e3r.elim (fun e3 =>
    (x_ob e3 11 ((some z0))).bind fun a4 =>
    if (hv_I e3 a4 27) = (hv_I e3 a4 1) then
      (some (hv_setI e3 a4 27 0)).bind fun s25 =>
      (some (hv_setI s25 a4 28 ((hv_I s25 a4 28) + (1 : Int32)))).bind fun s26 =>
      (some (hv_setI s26 a4 29 ((hv_I s26 a4 29) + (1 : Int32)))).bind fun s27 =>
      if (hv_I s27 a4 29) = 3 then
        some (((-1), s27))
      else
        (some (hv_I s27 a4 27)).bind fun y28 =>
        (some (hv_setI s27 a4 27 ((hv_I s27 a4 27) + (1 : Int32)))).bind fun s29 =>
        (some (hv_setI s29 a4 36 ((hv_I s29 a4 36) + (1 : Int32)))).bind fun s30 =>
        (x_ar s30 0 (hv_R s30 a4 30)).bind fun q31 =>
        (x_ix q31.2 y28).bind fun k32 =>
        (some (hv_setI s30 q31.1 k32 (hv_I s30 a4 34))).bind fun s33 =>
        (x_ar s33 3 (hv_R s33 a4 32)).bind fun q34 =>
        (x_ix q34.2 y28).bind fun k35 =>
        (some (hv_setI s33 q34.1 k35 (vp_nar .boolean x1))).bind fun s36 =>
        (L_Mo_stateOf_117 100000 ((some z0)) y28 0 s36).bind fun e37 =>
        (L_Mo_stateOf_150 100000 ((some z0)) y28 0 e37).bind fun e38 =>
        some ((y28, e38))
    else
      (some (hv_setI e3 a4 27 ((hv_I e3 a4 27) + (1 : Int32)))).bind fun s5 =>
      (some (hv_setI s5 a4 36 ((hv_I s5 a4 36) + (1 : Int32)))).bind fun s6 =>
      (x_ar s6 0 (hv_R s6 a4 30)).bind fun q7 =>
      (x_ix q7.2 (hv_I e3 a4 27)).bind fun k8 =>
      (some (hv_setI s6 q7.1 k8 (hv_I s6 a4 34))).bind fun s9 =>
      (x_ar s9 3 (hv_R s9 a4 32)).bind fun q10 =>
      (x_ix q10.2 (hv_I e3 a4 27)).bind fun k11 =>
      (some (hv_setI s9 q10.1 k11 (vp_nar .boolean x1))).bind fun s12 =>
      (L_Mo_stateOf_117 100000 ((some z0)) (hv_I e3 a4 27) 0 s12).bind fun e19 =>
      (L_Mo_stateOf_150 100000 ((some z0)) (hv_I e3 a4 27) 0 e19).bind fun e24 =>
      some ((hv_I e3 a4 27, e24))
  ) (fun w => some w)
set_option maxRecDepth 4000 in
set_option maxHeartbeats 2000000 in
theorem c_Mo_stateOf {G : lt_G} {z0 : Nat} {x1 : Int32} {s : hv_S} {p : Int32 × hv_S} (h : f_Mo_stateOf z0 x1 s = some p) : Ck G m_Mo_stateOf 2 0 0 [vR (some z0), vI x1] s (some (vI p.1)) p.2 := by
  refine Ck.of (by decide) (Nat.le_of_ble_eq_true rfl) ?_
  unfold f_Mo_stateOf at h
  refine lk_iconst (v := 0) d_Mo_stateOf_0 rfl ?_
  refine lk_istore_n d_Mo_stateOf_1 (by decide) rfl ?_
  obtain ⟨e3r, hl, h⟩ := x_b h
  refine Lk.sel [0, 1, 2] rfl ?_
  refine Lk.trans (l_Mo_stateOf_2 _ _ _ _ _ _ hl) ?_
  intro pc' lo' st' s' mc' ms' hx
  cases e3r with
  | inl e3 =>
    obtain ⟨rfl, rfl, rfl, rfl, rfl, rfl⟩ := hx
    refine lk_aload_n d_Mo_stateOf_27 rfl ?_
    obtain ⟨a4, ha4, h⟩ := x_b h
    refine lk_getI (k := 27) d_Mo_stateOf_28 ha4 (by decide) rfl (by decide) lf_Mo_151 rfl ?_
    refine lk_aload_n d_Mo_stateOf_31 rfl ?_
    refine lk_getI (k := 1) d_Mo_stateOf_32 ha4 (by decide) rfl (by decide) lf_Mo_99 rfl ?_
    refine lk_icmp_ne (tgt := 73) d_Mo_stateOf_35 (by decide) (fun hc => ?_) (fun hc => ?_)
    · replace h := x_ifn hc h
      refine lk_aload_n d_Mo_stateOf_73 rfl ?_
      refine lk_getI (k := 27) d_Mo_stateOf_74 ha4 (by decide) rfl (by decide) lf_Mo_151 rfl ?_
      refine lk_istore_n d_Mo_stateOf_77 (by decide) rfl ?_
      refine lk_aload_n d_Mo_stateOf_78 rfl ?_
      refine lk_dup d_Mo_stateOf_79 rfl ?_
      refine lk_getI (k := 27) d_Mo_stateOf_80 ha4 (by decide) rfl (by decide) lf_Mo_151 rfl ?_
      refine lk_iconst (v := 1) d_Mo_stateOf_83 rfl ?_
      refine lk_iadd d_Mo_stateOf_84 ?_
      replace h := x_nm h
      refine lk_putI (k := 27) d_Mo_stateOf_85 ha4 (by decide) rfl (by decide) lf_Mo_151 rfl rfl ?_
      refine lk_aload_n d_Mo_stateOf_88 rfl ?_
      refine lk_dup d_Mo_stateOf_89 rfl ?_
      refine lk_getI (k := 36) d_Mo_stateOf_90 ha4 (by decide) rfl (by decide) lf_Mo_189 rfl ?_
      refine lk_iconst (v := 1) d_Mo_stateOf_93 rfl ?_
      refine lk_iadd d_Mo_stateOf_94 ?_
      replace h := x_nm h
      refine lk_putI (k := 36) d_Mo_stateOf_95 ha4 (by decide) rfl (by decide) lf_Mo_189 rfl rfl ?_
      refine lk_aload_n d_Mo_stateOf_98 rfl ?_
      refine lk_getR (k := 30) d_Mo_stateOf_99 ha4 (by decide) rfl (by decide) lf_Mo_62 rfl ?_
      refine lk_iload_n d_Mo_stateOf_102 rfl ?_
      refine lk_aload_n d_Mo_stateOf_103 rfl ?_
      refine lk_getI (k := 34) d_Mo_stateOf_104 ha4 (by decide) rfl (by decide) lf_Mo_214 rfl ?_
      obtain ⟨q7, hq7, h⟩ := x_b h
      obtain ⟨k8, hk8, h⟩ := x_b h
      replace h := x_nm h
      refine lk_iast d_Mo_stateOf_107 hq7 hk8 ?_
      refine lk_aload_n d_Mo_stateOf_108 rfl ?_
      refine lk_getR (k := 32) d_Mo_stateOf_109 ha4 (by decide) rfl (by decide) lf_Mo_68 rfl ?_
      refine lk_iload_n d_Mo_stateOf_112 rfl ?_
      refine lk_iload_n d_Mo_stateOf_113 rfl ?_
      obtain ⟨q10, hq10, h⟩ := x_b h
      obtain ⟨k11, hk11, h⟩ := x_b h
      replace h := x_nm h
      refine lk_zast d_Mo_stateOf_114 hq10 hk11 ?_
      refine lk_iconst (v := 0) d_Mo_stateOf_115 rfl ?_
      refine lk_istore_n d_Mo_stateOf_116 (by decide) rfl ?_
      obtain ⟨e19, hl, h⟩ := x_b h
      refine Lk.sel [0, 2, 3] rfl ?_
      refine Lk.trans (l_Mo_stateOf_117 _ _ _ _ _ _ hl) ?_
      intro pc' lo' st' s' mc' ms' hx
      obtain ⟨rfl, rfl, rfl, rfl, rfl, rfl⟩ := hx
      refine lk_iconst (v := 0) d_Mo_stateOf_148 rfl ?_
      refine lk_istore_n d_Mo_stateOf_149 (by decide) rfl ?_
      obtain ⟨e24, hl, h⟩ := x_b h
      refine Lk.sel [0, 2, 3] rfl ?_
      refine Lk.trans (l_Mo_stateOf_150 _ _ _ _ _ _ hl) ?_
      intro pc' lo' st' s' mc' ms' hx
      obtain ⟨rfl, rfl, rfl, rfl, rfl, rfl⟩ := hx
      refine lk_iload_n d_Mo_stateOf_174 rfl ?_
      cases h
      exact Lk.stop ⟨rfl, Or.inr (Or.inl ⟨_, _, d_Mo_stateOf_175, rfl, rfl, rfl, rfl⟩)⟩
    · replace h := x_ifp hc h
      refine lk_aload_n d_Mo_stateOf_38 rfl ?_
      refine lk_iconst (v := 0) d_Mo_stateOf_39 rfl ?_
      replace h := x_nm h
      refine lk_putI (k := 27) d_Mo_stateOf_40 ha4 (by decide) rfl (by decide) lf_Mo_151 rfl rfl ?_
      refine lk_aload_n d_Mo_stateOf_43 rfl ?_
      refine lk_dup d_Mo_stateOf_44 rfl ?_
      refine lk_getI (k := 28) d_Mo_stateOf_45 ha4 (by decide) rfl (by decide) lf_Mo_154 rfl ?_
      refine lk_iconst (v := 1) d_Mo_stateOf_48 rfl ?_
      refine lk_iadd d_Mo_stateOf_49 ?_
      replace h := x_nm h
      refine lk_putI (k := 28) d_Mo_stateOf_50 ha4 (by decide) rfl (by decide) lf_Mo_154 rfl rfl ?_
      refine lk_aload_n d_Mo_stateOf_53 rfl ?_
      refine lk_dup d_Mo_stateOf_54 rfl ?_
      refine lk_getI (k := 29) d_Mo_stateOf_55 ha4 (by decide) rfl (by decide) lf_Mo_225 rfl ?_
      refine lk_iconst (v := 1) d_Mo_stateOf_58 rfl ?_
      refine lk_iadd d_Mo_stateOf_59 ?_
      replace h := x_nm h
      refine lk_putI (k := 29) d_Mo_stateOf_60 ha4 (by decide) rfl (by decide) lf_Mo_225 rfl rfl ?_
      refine lk_aload_n d_Mo_stateOf_63 rfl ?_
      refine lk_getI (k := 29) d_Mo_stateOf_64 ha4 (by decide) rfl (by decide) lf_Mo_225 rfl ?_
      refine lk_iconst (v := 3) d_Mo_stateOf_67 rfl ?_
      refine lk_icmp_ne (tgt := 73) d_Mo_stateOf_68 (by decide) (fun hc => ?_) (fun hc => ?_)
      · replace h := x_ifn hc h
        refine lk_aload_n d_Mo_stateOf_73 rfl ?_
        refine lk_getI (k := 27) d_Mo_stateOf_74 ha4 (by decide) rfl (by decide) lf_Mo_151 rfl ?_
        replace h := x_nm h
        refine lk_istore_n d_Mo_stateOf_77 (by decide) rfl ?_
        refine lk_aload_n d_Mo_stateOf_78 rfl ?_
        refine lk_dup d_Mo_stateOf_79 rfl ?_
        refine lk_getI (k := 27) d_Mo_stateOf_80 ha4 (by decide) rfl (by decide) lf_Mo_151 rfl ?_
        refine lk_iconst (v := 1) d_Mo_stateOf_83 rfl ?_
        refine lk_iadd d_Mo_stateOf_84 ?_
        replace h := x_nm h
        refine lk_putI (k := 27) d_Mo_stateOf_85 ha4 (by decide) rfl (by decide) lf_Mo_151 rfl rfl ?_
        refine lk_aload_n d_Mo_stateOf_88 rfl ?_
        refine lk_dup d_Mo_stateOf_89 rfl ?_
        refine lk_getI (k := 36) d_Mo_stateOf_90 ha4 (by decide) rfl (by decide) lf_Mo_189 rfl ?_
        refine lk_iconst (v := 1) d_Mo_stateOf_93 rfl ?_
        refine lk_iadd d_Mo_stateOf_94 ?_
        replace h := x_nm h
        refine lk_putI (k := 36) d_Mo_stateOf_95 ha4 (by decide) rfl (by decide) lf_Mo_189 rfl rfl ?_
        refine lk_aload_n d_Mo_stateOf_98 rfl ?_
        refine lk_getR (k := 30) d_Mo_stateOf_99 ha4 (by decide) rfl (by decide) lf_Mo_62 rfl ?_
        refine lk_iload_n d_Mo_stateOf_102 rfl ?_
        refine lk_aload_n d_Mo_stateOf_103 rfl ?_
        refine lk_getI (k := 34) d_Mo_stateOf_104 ha4 (by decide) rfl (by decide) lf_Mo_214 rfl ?_
        obtain ⟨q31, hq31, h⟩ := x_b h
        obtain ⟨k32, hk32, h⟩ := x_b h
        replace h := x_nm h
        refine lk_iast d_Mo_stateOf_107 hq31 hk32 ?_
        refine lk_aload_n d_Mo_stateOf_108 rfl ?_
        refine lk_getR (k := 32) d_Mo_stateOf_109 ha4 (by decide) rfl (by decide) lf_Mo_68 rfl ?_
        refine lk_iload_n d_Mo_stateOf_112 rfl ?_
        refine lk_iload_n d_Mo_stateOf_113 rfl ?_
        obtain ⟨q34, hq34, h⟩ := x_b h
        obtain ⟨k35, hk35, h⟩ := x_b h
        replace h := x_nm h
        refine lk_zast d_Mo_stateOf_114 hq34 hk35 ?_
        refine lk_iconst (v := 0) d_Mo_stateOf_115 rfl ?_
        refine lk_istore_n d_Mo_stateOf_116 (by decide) rfl ?_
        obtain ⟨e37, hl, h⟩ := x_b h
        refine Lk.sel [0, 2, 3] rfl ?_
        refine Lk.trans (l_Mo_stateOf_117 _ _ _ _ _ _ hl) ?_
        intro pc' lo' st' s' mc' ms' hx
        obtain ⟨rfl, rfl, rfl, rfl, rfl, rfl⟩ := hx
        refine lk_iconst (v := 0) d_Mo_stateOf_148 rfl ?_
        refine lk_istore_n d_Mo_stateOf_149 (by decide) rfl ?_
        obtain ⟨e38, hl, h⟩ := x_b h
        refine Lk.sel [0, 2, 3] rfl ?_
        refine Lk.trans (l_Mo_stateOf_150 _ _ _ _ _ _ hl) ?_
        intro pc' lo' st' s' mc' ms' hx
        obtain ⟨rfl, rfl, rfl, rfl, rfl, rfl⟩ := hx
        refine lk_iload_n d_Mo_stateOf_174 rfl ?_
        cases h
        exact Lk.stop ⟨rfl, Or.inr (Or.inl ⟨_, _, d_Mo_stateOf_175, rfl, rfl, rfl, rfl⟩)⟩
      · replace h := x_ifp hc h
        refine lk_iconst (v := (-1)) d_Mo_stateOf_71 rfl ?_
        cases h
        exact Lk.stop ⟨rfl, Or.inr (Or.inl ⟨_, _, d_Mo_stateOf_72, rfl, rfl, rfl, rfl⟩)⟩
  | inr w =>
    cases h
    exact Lk.stop hx
def f_Mo_firstState (z0 : Nat) (s : hv_S) : Option (Int32 × hv_S) :=
  (x_ob s 11 ((some z0))).bind fun a1 =>
  (some (hv_setI s a1 16 ((hv_I s a1 16) + (1 : Int32)))).bind fun s2 =>
  (some (hv_setI s2 a1 34 0)).bind fun s3 =>
  (f_Mo_followRow a1 0 1 s3).bind fun p4 =>
  (x_ob p4 11 ((some z0))).bind fun a5 =>
  (f_Mo_stateOf a5 1 p4).bind fun p6 =>
  some ((p6.1, p6.2))
set_option maxRecDepth 4000 in
set_option maxHeartbeats 2000000 in
theorem c_Mo_firstState {G : lt_G} {z0 : Nat} {s : hv_S} {p : Int32 × hv_S} (h : f_Mo_firstState z0 s = some p) : Ck G m_Mo_firstState 4 0 0 [vR (some z0)] s (some (vI p.1)) p.2 := by
  refine Ck.of (by decide) (Nat.le_of_ble_eq_true rfl) ?_
  unfold f_Mo_firstState at h
  refine lk_aload_n d_Mo_firstState_0 rfl ?_
  refine lk_dup d_Mo_firstState_1 rfl ?_
  obtain ⟨a1, ha1, h⟩ := x_b h
  refine lk_getI (k := 16) d_Mo_firstState_2 ha1 (by decide) rfl (by decide) lf_Mo_166 rfl ?_
  refine lk_iconst (v := 1) d_Mo_firstState_5 rfl ?_
  refine lk_iadd d_Mo_firstState_6 ?_
  replace h := x_nm h
  refine lk_putI (k := 16) d_Mo_firstState_7 ha1 (by decide) rfl (by decide) lf_Mo_166 rfl rfl ?_
  refine lk_aload_n d_Mo_firstState_10 rfl ?_
  refine lk_iconst (v := 0) d_Mo_firstState_11 rfl ?_
  replace h := x_nm h
  refine lk_putI (k := 34) d_Mo_firstState_12 ha1 (by decide) rfl (by decide) lf_Mo_214 rfl rfl ?_
  refine lk_aload_n d_Mo_firstState_15 rfl ?_
  refine lk_iconst (v := 0) d_Mo_firstState_16 rfl ?_
  refine lk_iconst (v := 1) d_Mo_firstState_17 rfl ?_
  obtain ⟨p4, hp4, h⟩ := x_b h
  refine lk_callV0 d_Mo_firstState_18 (x_obm ha1 rfl) (c_Mo_followRow hp4) (Nat.le_of_ble_eq_true rfl) rfl M_Mo_followRow lm_Mo_228 in_Mo_followRow se_Mo_followRow (by decide) rfl (Nat.le_of_ble_eq_true rfl) ?_
  refine lk_aload_n d_Mo_firstState_21 rfl ?_
  refine lk_iconst (v := 1) d_Mo_firstState_22 rfl ?_
  obtain ⟨a5, ha5, h⟩ := x_b h
  obtain ⟨p6, hp6, h⟩ := x_b h
  refine lk_callV0 d_Mo_firstState_23 (x_obm ha5 rfl) (c_Mo_stateOf hp6) (Nat.le_of_ble_eq_true rfl) rfl M_Mo_stateOf lm_Mo_232 in_Mo_stateOf se_Mo_stateOf (by decide) rfl (Nat.le_of_ble_eq_true rfl) ?_
  cases h
  exact Lk.stop ⟨rfl, Or.inr (Or.inl ⟨_, _, d_Mo_firstState_26, rfl, rfl, rfl, rfl⟩)⟩
def L_Mo_nextState_44 : Nat → Option Nat → Int32 → Int32 → Int32 → hv_S → Option (hv_S)
  | 0, _, _, _, _, _ => none
  | n + 1, x0, x1, x2, x3, s =>
    (x_ob s 11 x0).bind fun a6 =>
    (x_ar s 0 (hv_R s a6 30)).bind fun q7 =>
    (x_ix q7.2 x1).bind fun k8 =>
    if (hv_I s q7.1 k8) ≤ x3 then
      some s
    else
      (x_ar s 0 (hv_R s a6 31)).bind fun q9 =>
      (x_ix q9.2 (((64 : Int32) * x1) + x3)).bind fun k10 =>
      (some (hv_I s q9.1 k10)).bind fun y11 =>
      (x_ar s 0 (hv_R s a6 7)).bind fun q12 =>
      (x_ix q12.2 y11).bind fun k13 =>
      ((
        if (hv_I s q12.1 k13) = 1 then
          (f_Mo_followRow a6 (y11 + (1 : Int32)) 0 s).bind fun p14 =>
          some p14
        else
          (x_ix q12.2 y11).bind fun k15 =>
          if (hv_I s q12.1 k15) = 0 then
            (x_ar s 0 (hv_R s a6 8)).bind fun q16 =>
            (x_ix q16.2 y11).bind fun k17 =>
            if (hv_I s q16.1 k17) = x2 then
              (f_Mo_followRow a6 (y11 + (1 : Int32)) 0 s).bind fun p18 =>
              some p18
            else
              some s
          else
            some s
      ) : Option (hv_S)).bind fun t19 =>
      L_Mo_nextState_44 n x0 x1 x2 (x3 + 1) t19
set_option maxRecDepth 4000 in
set_option maxHeartbeats 2000000 in
theorem l_Mo_nextState_44 {G : lt_G} : ∀ (n : Nat) (x0 : Option Nat) (x1 : Int32) (x2 : Int32) (x3 : Int32) (s : hv_S) (e0 : hv_S), L_Mo_nextState_44 n x0 x1 x2 x3 s = some e0 → Lk G m_Mo_nextState 4 44 [(0, vR x0), (1, vI x1), (2, vI x2), (3, vI x3)] [] s 0 0 (lk_at 114 [(0, vR x0), (1, vI x1), (2, vI x2)] [] e0 0 0) := by
  intro n
  induction n with
  | zero => intro x0 x1 x2 x3 s e0 h; cases h
  | succ n ih =>
    intro x0 x1 x2 x3 s e0 h
    unfold L_Mo_nextState_44 at h
    refine lk_iload_n d_Mo_nextState_44 rfl ?_
    refine lk_aload_n d_Mo_nextState_45 rfl ?_
    obtain ⟨a6, ha6, h⟩ := x_b h
    refine lk_getR (k := 30) d_Mo_nextState_46 ha6 (by decide) rfl (by decide) lf_Mo_62 rfl ?_
    refine lk_iload_n d_Mo_nextState_49 rfl ?_
    obtain ⟨q7, hq7, h⟩ := x_b h
    obtain ⟨k8, hk8, h⟩ := x_b h
    refine lk_iald d_Mo_nextState_50 hq7 hk8 ?_
    refine lk_icmp_ge (tgt := 114) d_Mo_nextState_51 (by decide) (fun hc => ?_) (fun hc => ?_)
    · replace h := x_ifp hc h
      cases h
      refine Lk.sel [0, 1, 2] rfl ?_
      exact Lk.stop ⟨rfl, rfl, rfl, rfl, rfl, rfl⟩
    · replace h := x_ifn hc h
      refine lk_aload_n d_Mo_nextState_54 rfl ?_
      refine lk_getR (k := 31) d_Mo_nextState_55 ha6 (by decide) rfl (by decide) lf_Mo_65 rfl ?_
      refine lk_bipush (v := 64) d_Mo_nextState_58 rfl ?_
      refine lk_iload_n d_Mo_nextState_60 rfl ?_
      refine lk_imul d_Mo_nextState_61 ?_
      refine lk_iload_n d_Mo_nextState_62 rfl ?_
      refine lk_iadd d_Mo_nextState_63 ?_
      obtain ⟨q9, hq9, h⟩ := x_b h
      obtain ⟨k10, hk10, h⟩ := x_b h
      refine lk_iald d_Mo_nextState_64 hq9 hk10 ?_
      replace h := x_nm h
      refine lk_istore d_Mo_nextState_65 (by decide) rfl ?_
      refine lk_aload_n d_Mo_nextState_67 rfl ?_
      refine lk_getR (k := 7) d_Mo_nextState_68 ha6 (by decide) rfl (by decide) lf_Mo_16 rfl ?_
      refine lk_iload d_Mo_nextState_71 rfl ?_
      obtain ⟨q12, hq12, h⟩ := x_b h
      obtain ⟨k13, hk13, h⟩ := x_b h
      refine lk_iald d_Mo_nextState_73 hq12 hk13 ?_
      refine lk_iconst (v := 1) d_Mo_nextState_74 rfl ?_
      obtain ⟨t19, hj, h⟩ := x_b h
      refine Lk.joinS 108 [0, 1, 2, 3] [] rfl 2 [] t19 ?_ ?_
      · replace h := hj
        refine lk_icmp_eq (tgt := 99) d_Mo_nextState_75 (by decide) (fun hc => ?_) (fun hc => ?_)
        · replace h := x_ifp hc h
          refine lk_aload_n d_Mo_nextState_99 rfl ?_
          refine lk_iload d_Mo_nextState_100 rfl ?_
          refine lk_iconst (v := 1) d_Mo_nextState_102 rfl ?_
          refine lk_iadd d_Mo_nextState_103 ?_
          refine lk_iconst (v := 0) d_Mo_nextState_104 rfl ?_
          obtain ⟨p14, hp14, h⟩ := x_b h
          refine lk_callV0 d_Mo_nextState_105 (x_obm ha6 rfl) (c_Mo_followRow hp14) (Nat.le_of_ble_eq_true rfl) rfl M_Mo_followRow lm_Mo_228 in_Mo_followRow se_Mo_followRow (by decide) rfl (Nat.le_of_ble_eq_true rfl) ?_
          cases h
          refine Lk.sel [0, 1, 2, 3] rfl ?_
          exact Lk.stop ⟨rfl, rfl, rfl, rfl, rfl, rfl⟩
        · replace h := x_ifn hc h
          refine lk_aload_n d_Mo_nextState_78 rfl ?_
          refine lk_getR (k := 7) d_Mo_nextState_79 ha6 (by decide) rfl (by decide) lf_Mo_16 rfl ?_
          refine lk_iload d_Mo_nextState_82 rfl ?_
          obtain ⟨k15, hk15, h⟩ := x_b h
          refine lk_iald d_Mo_nextState_84 hq12 hk15 ?_
          refine lk_if_ne (tgt := 108) d_Mo_nextState_85 (by decide) (fun hc => ?_) (fun hc => ?_)
          · replace h := x_ifn hc h
            cases h
            refine Lk.sel [0, 1, 2, 3] rfl ?_
            exact Lk.stop ⟨rfl, rfl, rfl, rfl, rfl, rfl⟩
          · replace h := x_ifp hc h
            refine lk_aload_n d_Mo_nextState_88 rfl ?_
            refine lk_getR (k := 8) d_Mo_nextState_89 ha6 (by decide) rfl (by decide) lf_Mo_19 rfl ?_
            refine lk_iload d_Mo_nextState_92 rfl ?_
            obtain ⟨q16, hq16, h⟩ := x_b h
            obtain ⟨k17, hk17, h⟩ := x_b h
            refine lk_iald d_Mo_nextState_94 hq16 hk17 ?_
            refine lk_iload_n d_Mo_nextState_95 rfl ?_
            refine lk_icmp_ne (tgt := 108) d_Mo_nextState_96 (by decide) (fun hc => ?_) (fun hc => ?_)
            · replace h := x_ifn hc h
              cases h
              refine Lk.sel [0, 1, 2, 3] rfl ?_
              exact Lk.stop ⟨rfl, rfl, rfl, rfl, rfl, rfl⟩
            · replace h := x_ifp hc h
              refine lk_aload_n d_Mo_nextState_99 rfl ?_
              refine lk_iload d_Mo_nextState_100 rfl ?_
              refine lk_iconst (v := 1) d_Mo_nextState_102 rfl ?_
              refine lk_iadd d_Mo_nextState_103 ?_
              refine lk_iconst (v := 0) d_Mo_nextState_104 rfl ?_
              obtain ⟨p18, hp18, h⟩ := x_b h
              refine lk_callV0 d_Mo_nextState_105 (x_obm ha6 rfl) (c_Mo_followRow hp18) (Nat.le_of_ble_eq_true rfl) rfl M_Mo_followRow lm_Mo_228 in_Mo_followRow se_Mo_followRow (by decide) rfl (Nat.le_of_ble_eq_true rfl) ?_
              cases h
              refine Lk.sel [0, 1, 2, 3] rfl ?_
              exact Lk.stop ⟨rfl, rfl, rfl, rfl, rfl, rfl⟩
      · clear hj
        refine lk_iinc (v := _ + 1) d_Mo_nextState_108 rfl rfl (by decide) rfl ?_
        refine lk_goto (tgt := 44) d_Mo_nextState_111 (by decide) ?_
        refine Lk.sel [0, 1, 2, 3] rfl ?_
        exact ih _ _ _ _ _ _ h
def f_Mo_nextState (z0 : Nat) (x1 : Int32) (x2 : Int32) (s : hv_S) : Option (Int32 × hv_S) :=
  (x_ob s 11 ((some z0))).bind fun a1 =>
  (x_ar s 0 (hv_R s a1 33)).bind fun q2 =>
  (x_ix q2.2 (((8 : Int32) * x1) + x2)).bind fun k3 =>
  if (hv_I s q2.1 k3) = ((-1)) then
    (some (hv_setI s a1 16 ((hv_I s a1 16) + (1 : Int32)))).bind fun s4 =>
    (some (hv_setI s4 a1 34 0)).bind fun s5 =>
    (L_Mo_nextState_44 100000 ((some z0)) x1 x2 0 s5).bind fun e20 =>
    (x_ob e20 11 ((some z0))).bind fun a21 =>
    (x_ar e20 3 (hv_R e20 a21 32)).bind fun q22 =>
    (x_ix q22.2 x1).bind fun k23 =>
    ((
      if (hv_I e20 q22.1 k23) = 0 then
        some (0, e20)
      else
        (f_Mo_isFinal a21 x1 e20).bind fun p24 =>
        if p24.1 = 0 then
          some (1, p24.2)
        else
          some (0, p24.2)
    ) : Option (Int32 × hv_S)).bind fun t25 =>
    ((
      if t25.1 = 0 then
        some t25.2
      else
        (x_ob t25.2 11 ((some z0))).bind fun a26 =>
        (f_Mo_followRow a26 0 0 t25.2).bind fun p27 =>
        some p27
    ) : Option (hv_S)).bind fun t28 =>
    (x_ob t28 11 ((some z0))).bind fun a29 =>
    (some (hv_I t28 a29 28)).bind fun y30 =>
    (f_Mo_stateOf a29 t25.1 t28).bind fun p31 =>
    (x_ob p31.2 11 ((some z0))).bind fun a32 =>
    ((
      if (hv_I p31.2 a32 28) = y30 then
        (x_ar p31.2 0 (hv_R p31.2 a32 33)).bind fun q33 =>
        (x_ix q33.2 (((8 : Int32) * x1) + x2)).bind fun k34 =>
        (some (hv_setI p31.2 q33.1 k34 p31.1)).bind fun s35 =>
        some s35
      else
        some p31.2
    ) : Option (hv_S)).bind fun t36 =>
    some ((p31.1, t36))
  else
    (x_ix q2.2 (((8 : Int32) * x1) + x2)).bind fun k37 =>
    some ((hv_I s q2.1 k37, s))
set_option maxRecDepth 4000 in
set_option maxHeartbeats 2000000 in
theorem c_Mo_nextState {G : lt_G} {z0 : Nat} {x1 : Int32} {x2 : Int32} {s : hv_S} {p : Int32 × hv_S} (h : f_Mo_nextState z0 x1 x2 s = some p) : Ck G m_Mo_nextState 4 0 0 [vR (some z0), vI x1, vI x2] s (some (vI p.1)) p.2 := by
  refine Ck.of (by decide) (Nat.le_of_ble_eq_true rfl) ?_
  unfold f_Mo_nextState at h
  refine lk_aload_n d_Mo_nextState_0 rfl ?_
  obtain ⟨a1, ha1, h⟩ := x_b h
  refine lk_getR (k := 33) d_Mo_nextState_1 ha1 (by decide) rfl (by decide) lf_Mo_71 rfl ?_
  refine lk_bipush (v := 8) d_Mo_nextState_4 rfl ?_
  refine lk_iload_n d_Mo_nextState_6 rfl ?_
  refine lk_imul d_Mo_nextState_7 ?_
  refine lk_iload_n d_Mo_nextState_8 rfl ?_
  refine lk_iadd d_Mo_nextState_9 ?_
  obtain ⟨q2, hq2, h⟩ := x_b h
  obtain ⟨k3, hk3, h⟩ := x_b h
  refine lk_iald d_Mo_nextState_10 hq2 hk3 ?_
  refine lk_iconst (v := (-1)) d_Mo_nextState_11 rfl ?_
  refine lk_icmp_eq (tgt := 27) d_Mo_nextState_12 (by decide) (fun hc => ?_) (fun hc => ?_)
  · replace h := x_ifp hc h
    refine lk_aload_n d_Mo_nextState_27 rfl ?_
    refine lk_dup d_Mo_nextState_28 rfl ?_
    refine lk_getI (k := 16) d_Mo_nextState_29 ha1 (by decide) rfl (by decide) lf_Mo_166 rfl ?_
    refine lk_iconst (v := 1) d_Mo_nextState_32 rfl ?_
    refine lk_iadd d_Mo_nextState_33 ?_
    replace h := x_nm h
    refine lk_putI (k := 16) d_Mo_nextState_34 ha1 (by decide) rfl (by decide) lf_Mo_166 rfl rfl ?_
    refine lk_aload_n d_Mo_nextState_37 rfl ?_
    refine lk_iconst (v := 0) d_Mo_nextState_38 rfl ?_
    replace h := x_nm h
    refine lk_putI (k := 34) d_Mo_nextState_39 ha1 (by decide) rfl (by decide) lf_Mo_214 rfl rfl ?_
    refine lk_iconst (v := 0) d_Mo_nextState_42 rfl ?_
    refine lk_istore_n d_Mo_nextState_43 (by decide) rfl ?_
    obtain ⟨e20, hl, h⟩ := x_b h
    refine Lk.sel [0, 1, 2, 3] rfl ?_
    refine Lk.trans (l_Mo_nextState_44 _ _ _ _ _ _ _ hl) ?_
    intro pc' lo' st' s' mc' ms' hx
    obtain ⟨rfl, rfl, rfl, rfl, rfl, rfl⟩ := hx
    refine lk_aload_n d_Mo_nextState_114 rfl ?_
    obtain ⟨a21, ha21, h⟩ := x_b h
    refine lk_getR (k := 32) d_Mo_nextState_115 ha21 (by decide) rfl (by decide) lf_Mo_68 rfl ?_
    refine lk_iload_n d_Mo_nextState_118 rfl ?_
    obtain ⟨q22, hq22, h⟩ := x_b h
    obtain ⟨k23, hk23, h⟩ := x_b h
    refine lk_zald d_Mo_nextState_119 hq22 hk23 ?_
    obtain ⟨t25, hj, h⟩ := x_b h
    refine Lk.joinS 136 [0, 1, 2] [] rfl 1 [vI t25.1] t25.2 ?_ ?_
    · replace h := hj
      refine lk_if_eq (tgt := 135) d_Mo_nextState_120 (by decide) (fun hc => ?_) (fun hc => ?_)
      · replace h := x_ifp hc h
        refine lk_iconst (v := 0) d_Mo_nextState_135 rfl ?_
        cases h
        refine Lk.sel [0, 1, 2] rfl ?_
        exact Lk.stop ⟨rfl, rfl, rfl, rfl, rfl, rfl⟩
      · replace h := x_ifn hc h
        refine lk_aload_n d_Mo_nextState_123 rfl ?_
        refine lk_iload_n d_Mo_nextState_124 rfl ?_
        obtain ⟨p24, hp24, h⟩ := x_b h
        refine lk_callV0 d_Mo_nextState_125 (x_obm ha21 rfl) (c_Mo_isFinal hp24) (Nat.le_of_ble_eq_true rfl) rfl M_Mo_isFinal lm_Mo_236 in_Mo_isFinal se_Mo_isFinal (by decide) rfl (Nat.le_of_ble_eq_true rfl) ?_
        refine lk_if_ne (tgt := 135) d_Mo_nextState_128 (by decide) (fun hc => ?_) (fun hc => ?_)
        · replace h := x_ifn hc h
          refine lk_iconst (v := 0) d_Mo_nextState_135 rfl ?_
          cases h
          refine Lk.sel [0, 1, 2] rfl ?_
          exact Lk.stop ⟨rfl, rfl, rfl, rfl, rfl, rfl⟩
        · replace h := x_ifp hc h
          refine lk_iconst (v := 1) d_Mo_nextState_131 rfl ?_
          refine lk_goto (tgt := 136) d_Mo_nextState_132 (by decide) ?_
          cases h
          refine Lk.sel [0, 1, 2] rfl ?_
          exact Lk.stop ⟨rfl, rfl, rfl, rfl, rfl, rfl⟩
    · clear hj
      refine lk_istore_n d_Mo_nextState_136 (by decide) rfl ?_
      refine lk_iload_n d_Mo_nextState_137 rfl ?_
      obtain ⟨t28, hj, h⟩ := x_b h
      refine Lk.joinS 147 [0, 1, 2, 3] [] rfl 1 [] t28 ?_ ?_
      · replace h := hj
        refine lk_if_eq (tgt := 147) d_Mo_nextState_138 (by decide) (fun hc => ?_) (fun hc => ?_)
        · replace h := x_ifp hc h
          cases h
          refine Lk.sel [0, 1, 2, 3] rfl ?_
          exact Lk.stop ⟨rfl, rfl, rfl, rfl, rfl, rfl⟩
        · replace h := x_ifn hc h
          refine lk_aload_n d_Mo_nextState_141 rfl ?_
          refine lk_iconst (v := 0) d_Mo_nextState_142 rfl ?_
          refine lk_iconst (v := 0) d_Mo_nextState_143 rfl ?_
          obtain ⟨a26, ha26, h⟩ := x_b h
          obtain ⟨p27, hp27, h⟩ := x_b h
          refine lk_callV0 d_Mo_nextState_144 (x_obm ha26 rfl) (c_Mo_followRow hp27) (Nat.le_of_ble_eq_true rfl) rfl M_Mo_followRow lm_Mo_228 in_Mo_followRow se_Mo_followRow (by decide) rfl (Nat.le_of_ble_eq_true rfl) ?_
          cases h
          refine Lk.sel [0, 1, 2, 3] rfl ?_
          exact Lk.stop ⟨rfl, rfl, rfl, rfl, rfl, rfl⟩
      · clear hj
        refine lk_aload_n d_Mo_nextState_147 rfl ?_
        obtain ⟨a29, ha29, h⟩ := x_b h
        refine lk_getI (k := 28) d_Mo_nextState_148 ha29 (by decide) rfl (by decide) lf_Mo_154 rfl ?_
        replace h := x_nm h
        refine lk_istore d_Mo_nextState_151 (by decide) rfl ?_
        refine lk_aload_n d_Mo_nextState_153 rfl ?_
        refine lk_iload_n d_Mo_nextState_154 rfl ?_
        obtain ⟨p31, hp31, h⟩ := x_b h
        refine lk_callV0 d_Mo_nextState_155 (x_obm ha29 rfl) (c_Mo_stateOf hp31) (Nat.le_of_ble_eq_true rfl) rfl M_Mo_stateOf lm_Mo_232 in_Mo_stateOf se_Mo_stateOf (by decide) rfl (Nat.le_of_ble_eq_true rfl) ?_
        refine lk_istore d_Mo_nextState_158 (by decide) rfl ?_
        refine lk_aload_n d_Mo_nextState_160 rfl ?_
        obtain ⟨a32, ha32, h⟩ := x_b h
        refine lk_getI (k := 28) d_Mo_nextState_161 ha32 (by decide) rfl (by decide) lf_Mo_154 rfl ?_
        refine lk_iload d_Mo_nextState_164 rfl ?_
        obtain ⟨t36, hj, h⟩ := x_b h
        refine Lk.joinS 182 [5] [] rfl 2 [] t36 ?_ ?_
        · replace h := hj
          refine lk_icmp_ne (tgt := 182) d_Mo_nextState_166 (by decide) (fun hc => ?_) (fun hc => ?_)
          · replace h := x_ifn hc h
            cases h
            refine Lk.sel [5] rfl ?_
            exact Lk.stop ⟨rfl, rfl, rfl, rfl, rfl, rfl⟩
          · replace h := x_ifp hc h
            refine lk_aload_n d_Mo_nextState_169 rfl ?_
            refine lk_getR (k := 33) d_Mo_nextState_170 ha32 (by decide) rfl (by decide) lf_Mo_71 rfl ?_
            refine lk_bipush (v := 8) d_Mo_nextState_173 rfl ?_
            refine lk_iload_n d_Mo_nextState_175 rfl ?_
            refine lk_imul d_Mo_nextState_176 ?_
            refine lk_iload_n d_Mo_nextState_177 rfl ?_
            refine lk_iadd d_Mo_nextState_178 ?_
            refine lk_iload d_Mo_nextState_179 rfl ?_
            obtain ⟨q33, hq33, h⟩ := x_b h
            obtain ⟨k34, hk34, h⟩ := x_b h
            replace h := x_nm h
            refine lk_iast d_Mo_nextState_181 hq33 hk34 ?_
            cases h
            refine Lk.sel [5] rfl ?_
            exact Lk.stop ⟨rfl, rfl, rfl, rfl, rfl, rfl⟩
        · clear hj
          refine lk_iload d_Mo_nextState_182 rfl ?_
          cases h
          exact Lk.stop ⟨rfl, Or.inr (Or.inl ⟨_, _, d_Mo_nextState_184, rfl, rfl, rfl, rfl⟩)⟩
  · replace h := x_ifn hc h
    refine lk_aload_n d_Mo_nextState_15 rfl ?_
    refine lk_getR (k := 33) d_Mo_nextState_16 ha1 (by decide) rfl (by decide) lf_Mo_71 rfl ?_
    refine lk_bipush (v := 8) d_Mo_nextState_19 rfl ?_
    refine lk_iload_n d_Mo_nextState_21 rfl ?_
    refine lk_imul d_Mo_nextState_22 ?_
    refine lk_iload_n d_Mo_nextState_23 rfl ?_
    refine lk_iadd d_Mo_nextState_24 ?_
    obtain ⟨k37, hk37, h⟩ := x_b h
    refine lk_iald d_Mo_nextState_25 hq2 hk37 ?_
    cases h
    exact Lk.stop ⟨rfl, Or.inr (Or.inl ⟨_, _, d_Mo_nextState_26, rfl, rfl, rfl, rfl⟩)⟩
def L_Mo_endsBehind_80 : Nat → Option Nat → Int32 → Int32 → Int32 → Int32 → hv_S → Option (Int32 × hv_S)
  | 0, _, _, _, _, _, _ => none
  | n + 1, x0, x1, x2, x3, x4, s =>
    (x_ob s 11 x0).bind fun a16 =>
    (x_ar s 0 (hv_R s a16 23)).bind fun q17 =>
    (x_ix q17.2 0).bind fun k18 =>
    if (hv_I s q17.1 k18) ≤ x4 then
      some (x2, s)
    else
      ((
        if x2 = 0 then
          (x_ar s 0 (hv_R s a16 24)).bind fun q19 =>
          (x_ix q19.2 x4).bind fun k20 =>
          (x_ar s 0 (hv_R s a16 7)).bind fun q21 =>
          (x_ix q21.2 (hv_I s q19.1 k20)).bind fun k22 =>
          if (hv_I s q21.1 k22) = 7 then
            some 1
          else
            some 0
        else
          some 1
      ) : Option (Int32)).bind fun t23 =>
      L_Mo_endsBehind_80 n x0 x1 t23 x3 (x4 + 1) s
set_option maxRecDepth 4000 in
set_option maxHeartbeats 2000000 in
theorem l_Mo_endsBehind_80 {G : lt_G} : ∀ (n : Nat) (x0 : Option Nat) (x1 : Int32) (x2 : Int32) (x3 : Int32) (x4 : Int32) (s : hv_S) (e0 : Int32 × hv_S), L_Mo_endsBehind_80 n x0 x1 x2 x3 x4 s = some e0 → Lk G m_Mo_endsBehind 4 80 [(0, vR x0), (1, vI x1), (2, vI x2), (3, vI x3), (4, vI x4)] [] s 0 0 (lk_at 124 [(0, vR x0), (1, vI x1), (2, vI e0.1), (3, vI x3)] [] e0.2 0 0) := by
  intro n
  induction n with
  | zero => intro x0 x1 x2 x3 x4 s e0 h; cases h
  | succ n ih =>
    intro x0 x1 x2 x3 x4 s e0 h
    unfold L_Mo_endsBehind_80 at h
    refine lk_iload d_Mo_endsBehind_80 rfl ?_
    refine lk_aload_n d_Mo_endsBehind_82 rfl ?_
    obtain ⟨a16, ha16, h⟩ := x_b h
    refine lk_getR (k := 23) d_Mo_endsBehind_83 ha16 (by decide) rfl (by decide) lf_Mo_49 rfl ?_
    refine lk_iconst (v := 0) d_Mo_endsBehind_86 rfl ?_
    obtain ⟨q17, hq17, h⟩ := x_b h
    obtain ⟨k18, hk18, h⟩ := x_b h
    refine lk_iald d_Mo_endsBehind_87 hq17 hk18 ?_
    refine lk_icmp_ge (tgt := 124) d_Mo_endsBehind_88 (by decide) (fun hc => ?_) (fun hc => ?_)
    · replace h := x_ifp hc h
      cases h
      refine Lk.sel [0, 1, 2, 3] rfl ?_
      exact Lk.stop ⟨rfl, rfl, rfl, rfl, rfl, rfl⟩
    · replace h := x_ifn hc h
      refine lk_iload_n d_Mo_endsBehind_91 rfl ?_
      obtain ⟨t23, hj, h⟩ := x_b h
      refine Lk.joinA 117 [0, 1, 3, 4] [] rfl 1 [vI t23] ?_ ?_
      · replace h := hj
        refine lk_if_ne (tgt := 112) d_Mo_endsBehind_92 (by decide) (fun hc => ?_) (fun hc => ?_)
        · replace h := x_ifn hc h
          refine lk_iconst (v := 1) d_Mo_endsBehind_112 rfl ?_
          refine lk_goto (tgt := 117) d_Mo_endsBehind_113 (by decide) ?_
          cases h
          refine Lk.sel [0, 1, 3, 4] rfl ?_
          exact Lk.stop ⟨rfl, rfl, rfl, rfl, rfl, rfl⟩
        · replace h := x_ifp hc h
          refine lk_aload_n d_Mo_endsBehind_95 rfl ?_
          refine lk_getR (k := 7) d_Mo_endsBehind_96 ha16 (by decide) rfl (by decide) lf_Mo_16 rfl ?_
          refine lk_aload_n d_Mo_endsBehind_99 rfl ?_
          refine lk_getR (k := 24) d_Mo_endsBehind_100 ha16 (by decide) rfl (by decide) lf_Mo_52 rfl ?_
          refine lk_iload d_Mo_endsBehind_103 rfl ?_
          obtain ⟨q19, hq19, h⟩ := x_b h
          obtain ⟨k20, hk20, h⟩ := x_b h
          refine lk_iald d_Mo_endsBehind_105 hq19 hk20 ?_
          obtain ⟨q21, hq21, h⟩ := x_b h
          obtain ⟨k22, hk22, h⟩ := x_b h
          refine lk_iald d_Mo_endsBehind_106 hq21 hk22 ?_
          refine lk_bipush (v := 7) d_Mo_endsBehind_107 rfl ?_
          refine lk_icmp_ne (tgt := 116) d_Mo_endsBehind_109 (by decide) (fun hc => ?_) (fun hc => ?_)
          · replace h := x_ifn hc h
            refine lk_iconst (v := 0) d_Mo_endsBehind_116 rfl ?_
            cases h
            refine Lk.sel [0, 1, 3, 4] rfl ?_
            exact Lk.stop ⟨rfl, rfl, rfl, rfl, rfl, rfl⟩
          · replace h := x_ifp hc h
            refine lk_iconst (v := 1) d_Mo_endsBehind_112 rfl ?_
            refine lk_goto (tgt := 117) d_Mo_endsBehind_113 (by decide) ?_
            cases h
            refine Lk.sel [0, 1, 3, 4] rfl ?_
            exact Lk.stop ⟨rfl, rfl, rfl, rfl, rfl, rfl⟩
      · clear hj
        refine lk_istore_n d_Mo_endsBehind_117 (by decide) rfl ?_
        refine lk_iinc (v := _ + 1) d_Mo_endsBehind_118 rfl rfl (by decide) rfl ?_
        refine lk_goto (tgt := 80) d_Mo_endsBehind_121 (by decide) ?_
        refine Lk.sel [0, 1, 2, 3, 4] rfl ?_
        exact ih _ _ _ _ _ _ _ h
def L_Mo_endsBehind_14 : Nat → Option Nat → Int32 → Int32 → Int32 → hv_S → Option (Int32 × hv_S)
  | 0, _, _, _, _, _ => none
  | n + 1, x0, x1, x2, x3, s =>
    (x_ob s 11 x0).bind fun a3 =>
    (x_ar s 0 (hv_R s a3 30)).bind fun q4 =>
    (x_ix q4.2 x1).bind fun k5 =>
    if (hv_I s q4.1 k5) ≤ x3 then
      some (x2, s)
    else
      (x_ar s 0 (hv_R s a3 31)).bind fun q6 =>
      (x_ix q6.2 (((64 : Int32) * x1) + x3)).bind fun k7 =>
      (x_ar s 0 (hv_R s a3 7)).bind fun q8 =>
      (x_ix q8.2 (hv_I s q6.1 k7)).bind fun k9 =>
      ((
        if (hv_I s q8.1 k9) = 6 then
          (x_ar s 0 (hv_R s a3 23)).bind fun q10 =>
          (x_ix q10.2 0).bind fun k11 =>
          (some (hv_setI s q10.1 k11 0)).bind fun s12 =>
          (x_ar s12 0 (hv_R s12 a3 31)).bind fun q13 =>
          (x_ix q13.2 (((64 : Int32) * x1) + x3)).bind fun k14 =>
          (f_Mo_follow a3 ((hv_I s12 q13.1 k14) + (1 : Int32)) (hv_I s12 a3 4) 0 s12).bind fun p15 =>
          (L_Mo_endsBehind_80 100000 x0 x1 x2 x3 0 p15).bind fun e24 =>
          some (e24.1, e24.2)
        else
          some (x2, s)
      ) : Option (Int32 × hv_S)).bind fun t25 =>
      L_Mo_endsBehind_14 n x0 x1 t25.1 (x3 + 1) t25.2
set_option maxRecDepth 4000 in
set_option maxHeartbeats 2000000 in
theorem l_Mo_endsBehind_14 {G : lt_G} : ∀ (n : Nat) (x0 : Option Nat) (x1 : Int32) (x2 : Int32) (x3 : Int32) (s : hv_S) (e0 : Int32 × hv_S), L_Mo_endsBehind_14 n x0 x1 x2 x3 s = some e0 → Lk G m_Mo_endsBehind 4 14 [(0, vR x0), (1, vI x1), (2, vI x2), (3, vI x3)] [] s 0 0 (lk_at 130 [(2, vI e0.1)] [] e0.2 0 0) := by
  intro n
  induction n with
  | zero => intro x0 x1 x2 x3 s e0 h; cases h
  | succ n ih =>
    intro x0 x1 x2 x3 s e0 h
    unfold L_Mo_endsBehind_14 at h
    refine lk_iload_n d_Mo_endsBehind_14 rfl ?_
    refine lk_aload_n d_Mo_endsBehind_15 rfl ?_
    obtain ⟨a3, ha3, h⟩ := x_b h
    refine lk_getR (k := 30) d_Mo_endsBehind_16 ha3 (by decide) rfl (by decide) lf_Mo_62 rfl ?_
    refine lk_iload_n d_Mo_endsBehind_19 rfl ?_
    obtain ⟨q4, hq4, h⟩ := x_b h
    obtain ⟨k5, hk5, h⟩ := x_b h
    refine lk_iald d_Mo_endsBehind_20 hq4 hk5 ?_
    refine lk_icmp_ge (tgt := 130) d_Mo_endsBehind_21 (by decide) (fun hc => ?_) (fun hc => ?_)
    · replace h := x_ifp hc h
      cases h
      refine Lk.sel [2] rfl ?_
      exact Lk.stop ⟨rfl, rfl, rfl, rfl, rfl, rfl⟩
    · replace h := x_ifn hc h
      refine lk_aload_n d_Mo_endsBehind_24 rfl ?_
      refine lk_getR (k := 7) d_Mo_endsBehind_25 ha3 (by decide) rfl (by decide) lf_Mo_16 rfl ?_
      refine lk_aload_n d_Mo_endsBehind_28 rfl ?_
      refine lk_getR (k := 31) d_Mo_endsBehind_29 ha3 (by decide) rfl (by decide) lf_Mo_65 rfl ?_
      refine lk_bipush (v := 64) d_Mo_endsBehind_32 rfl ?_
      refine lk_iload_n d_Mo_endsBehind_34 rfl ?_
      refine lk_imul d_Mo_endsBehind_35 ?_
      refine lk_iload_n d_Mo_endsBehind_36 rfl ?_
      refine lk_iadd d_Mo_endsBehind_37 ?_
      obtain ⟨q6, hq6, h⟩ := x_b h
      obtain ⟨k7, hk7, h⟩ := x_b h
      refine lk_iald d_Mo_endsBehind_38 hq6 hk7 ?_
      obtain ⟨q8, hq8, h⟩ := x_b h
      obtain ⟨k9, hk9, h⟩ := x_b h
      refine lk_iald d_Mo_endsBehind_39 hq8 hk9 ?_
      refine lk_bipush (v := 6) d_Mo_endsBehind_40 rfl ?_
      obtain ⟨t25, hj, h⟩ := x_b h
      refine Lk.joinS 124 [0, 1, 2, 3] [(2, vI t25.1)] rfl 2 [] t25.2 ?_ ?_
      · replace h := hj
        refine lk_icmp_eq (tgt := 48) d_Mo_endsBehind_42 (by decide) (fun hc => ?_) (fun hc => ?_)
        · replace h := x_ifp hc h
          refine lk_aload_n d_Mo_endsBehind_48 rfl ?_
          refine lk_getR (k := 23) d_Mo_endsBehind_49 ha3 (by decide) rfl (by decide) lf_Mo_49 rfl ?_
          refine lk_iconst (v := 0) d_Mo_endsBehind_52 rfl ?_
          refine lk_iconst (v := 0) d_Mo_endsBehind_53 rfl ?_
          obtain ⟨q10, hq10, h⟩ := x_b h
          obtain ⟨k11, hk11, h⟩ := x_b h
          replace h := x_nm h
          refine lk_iast d_Mo_endsBehind_54 hq10 hk11 ?_
          refine lk_aload_n d_Mo_endsBehind_55 rfl ?_
          refine lk_aload_n d_Mo_endsBehind_56 rfl ?_
          refine lk_getR (k := 31) d_Mo_endsBehind_57 ha3 (by decide) rfl (by decide) lf_Mo_65 rfl ?_
          refine lk_bipush (v := 64) d_Mo_endsBehind_60 rfl ?_
          refine lk_iload_n d_Mo_endsBehind_62 rfl ?_
          refine lk_imul d_Mo_endsBehind_63 ?_
          refine lk_iload_n d_Mo_endsBehind_64 rfl ?_
          refine lk_iadd d_Mo_endsBehind_65 ?_
          obtain ⟨q13, hq13, h⟩ := x_b h
          obtain ⟨k14, hk14, h⟩ := x_b h
          refine lk_iald d_Mo_endsBehind_66 hq13 hk14 ?_
          refine lk_iconst (v := 1) d_Mo_endsBehind_67 rfl ?_
          refine lk_iadd d_Mo_endsBehind_68 ?_
          refine lk_aload_n d_Mo_endsBehind_69 rfl ?_
          refine lk_getI (k := 4) d_Mo_endsBehind_70 ha3 (by decide) rfl (by decide) lf_Mo_172 rfl ?_
          refine lk_iconst (v := 0) d_Mo_endsBehind_73 rfl ?_
          obtain ⟨p15, hp15, h⟩ := x_b h
          refine lk_callV0 d_Mo_endsBehind_74 (x_obm ha3 rfl) (c_Mo_follow hp15) (Nat.le_of_ble_eq_true rfl) rfl M_Mo_follow lm_Mo_202 in_Mo_follow se_Mo_follow (by decide) rfl (Nat.le_of_ble_eq_true rfl) ?_
          refine lk_iconst (v := 0) d_Mo_endsBehind_77 rfl ?_
          refine lk_istore d_Mo_endsBehind_78 (by decide) rfl ?_
          obtain ⟨e24, hl, h⟩ := x_b h
          refine Lk.sel [0, 1, 2, 3, 4] rfl ?_
          refine Lk.trans (l_Mo_endsBehind_80 _ _ _ _ _ _ _ _ hl) ?_
          intro pc' lo' st' s' mc' ms' hx
          obtain ⟨rfl, rfl, rfl, rfl, rfl, rfl⟩ := hx
          cases h
          refine Lk.sel [0, 1, 2, 3] rfl ?_
          exact Lk.stop ⟨rfl, rfl, rfl, rfl, rfl, rfl⟩
        · replace h := x_ifn hc h
          refine lk_goto (tgt := 124) d_Mo_endsBehind_45 (by decide) ?_
          cases h
          refine Lk.sel [0, 1, 2, 3] rfl ?_
          exact Lk.stop ⟨rfl, rfl, rfl, rfl, rfl, rfl⟩
      · clear hj
        refine lk_iinc (v := _ + 1) d_Mo_endsBehind_124 rfl rfl (by decide) rfl ?_
        refine lk_goto (tgt := 14) d_Mo_endsBehind_127 (by decide) ?_
        refine Lk.sel [0, 1, 2, 3] rfl ?_
        exact ih _ _ _ _ _ _ h
def f_Mo_endsBehind (z0 : Nat) (x1 : Int32) (s : hv_S) : Option (Int32 × hv_S) :=
  (x_ob s 11 ((some z0))).bind fun a1 =>
  (some (hv_setI s a1 16 ((hv_I s a1 16) + (1 : Int32)))).bind fun s2 =>
  (L_Mo_endsBehind_14 100000 ((some z0)) x1 0 0 s2).bind fun e26 =>
  (x_z e26.1).bind fun z27 =>
  some ((z27, e26.2))
set_option maxRecDepth 4000 in
set_option maxHeartbeats 2000000 in
theorem c_Mo_endsBehind {G : lt_G} {z0 : Nat} {x1 : Int32} {s : hv_S} {p : Int32 × hv_S} (h : f_Mo_endsBehind z0 x1 s = some p) : Ck G m_Mo_endsBehind 4 0 0 [vR (some z0), vI x1] s (some (vI p.1)) p.2 := by
  refine Ck.of (by decide) (Nat.le_of_ble_eq_true rfl) ?_
  unfold f_Mo_endsBehind at h
  refine lk_iconst (v := 0) d_Mo_endsBehind_0 rfl ?_
  refine lk_istore_n d_Mo_endsBehind_1 (by decide) rfl ?_
  refine lk_aload_n d_Mo_endsBehind_2 rfl ?_
  refine lk_dup d_Mo_endsBehind_3 rfl ?_
  obtain ⟨a1, ha1, h⟩ := x_b h
  refine lk_getI (k := 16) d_Mo_endsBehind_4 ha1 (by decide) rfl (by decide) lf_Mo_166 rfl ?_
  refine lk_iconst (v := 1) d_Mo_endsBehind_7 rfl ?_
  refine lk_iadd d_Mo_endsBehind_8 ?_
  replace h := x_nm h
  refine lk_putI (k := 16) d_Mo_endsBehind_9 ha1 (by decide) rfl (by decide) lf_Mo_166 rfl rfl ?_
  refine lk_iconst (v := 0) d_Mo_endsBehind_12 rfl ?_
  refine lk_istore_n d_Mo_endsBehind_13 (by decide) rfl ?_
  obtain ⟨e26, hl, h⟩ := x_b h
  refine Lk.sel [0, 1, 2, 3] rfl ?_
  refine Lk.trans (l_Mo_endsBehind_14 _ _ _ _ _ _ _ hl) ?_
  intro pc' lo' st' s' mc' ms' hx
  obtain ⟨rfl, rfl, rfl, rfl, rfl, rfl⟩ := hx
  refine lk_iload_n d_Mo_endsBehind_130 rfl ?_
  obtain ⟨z27, hz270, h⟩ := x_b h
  obtain ⟨rfl, hz27⟩ := x_z_some hz270
  cases h
  exact Lk.stop ⟨rfl, Or.inr (Or.inl ⟨_, _, d_Mo_endsBehind_131, rfl, x_zn hz27, rfl, rfl⟩)⟩
def L_Mo_endByStates_14 : Nat → Option Nat → Int32 → Int32 → Int32 → hv_S → Option ((hv_S) ⊕ (Int32 × hv_S))
  | 0, _, _, _, _, _ => none
  | n + 1, x0, x1, x2, x3, s =>
    (x_ob s 11 x0).bind fun a4 =>
    if (hv_I s a4 4) < x3 then
      some (.inl s)
    else
      if x2 = ((-1)) then
        some (.inl s)
      else
        (f_Mo_isFinal a4 x2 s).bind fun p5 =>
        ((
          if p5.1 = 0 then
            (x_ob p5.2 11 x0).bind fun a6 =>
            if x3 = (hv_I p5.2 a6 4) then
              (f_Mo_endsBehind a6 x2 p5.2).bind fun p7 =>
              if p7.1 = 0 then
                some (x1, p7.2)
              else
                some (x3, p7.2)
            else
              some (x1, p5.2)
          else
            some (x3, p5.2)
        ) : Option (Int32 × hv_S)).bind fun t8 =>
        (x_ob t8.2 11 x0).bind fun a9 =>
        if x3 = (hv_I t8.2 a9 4) then
          some (.inr ((t8.1, t8.2)))
        else
          (x_ar t8.2 3 (hv_R t8.2 a9 32)).bind fun q10 =>
          (x_ix q10.2 x2).bind fun k11 =>
          if (hv_I t8.2 q10.1 k11) = 0 then
            (x_ar t8.2 0 (hv_R t8.2 a9 30)).bind fun q15 =>
            (x_ix q15.2 x2).bind fun k16 =>
            if (hv_I t8.2 q15.1 k16) = 0 then
              some (.inr ((t8.1, t8.2)))
            else
              (x_ar t8.2 0 (hv_R t8.2 a9 5)).bind fun q17 =>
              (x_ix q17.2 x3).bind fun k18 =>
              (f_Mo_nextState a9 x2 (hv_I t8.2 q17.1 k18) t8.2).bind fun p19 =>
              L_Mo_endByStates_14 n x0 t8.1 p19.1 (x3 + 1) p19.2
          else
            (x_ar t8.2 0 (hv_R t8.2 a9 5)).bind fun q12 =>
            (x_ix q12.2 x3).bind fun k13 =>
            (f_Mo_nextState a9 x2 (hv_I t8.2 q12.1 k13) t8.2).bind fun p14 =>
            L_Mo_endByStates_14 n x0 t8.1 p14.1 (x3 + 1) p14.2
set_option maxRecDepth 4000 in
set_option maxHeartbeats 2000000 in
theorem l_Mo_endByStates_14 {G : lt_G} : ∀ (n : Nat) (x0 : Option Nat) (x1 : Int32) (x2 : Int32) (x3 : Int32) (s : hv_S) (e0 : (hv_S) ⊕ (Int32 × hv_S)), L_Mo_endByStates_14 n x0 x1 x2 x3 s = some e0 → Lk G m_Mo_endByStates 5 14 [(0, vR x0), (1, vI x1), (2, vI x2), (3, vI x3)] [] s 0 0 (fun a b c d e f => match e0 with | .inl t => lk_at 99 [] [] t 0 0 a b c d e f | .inr w => lk_end m_Mo_endByStates (some (vI w.1)) w.2 a b c d e f) := by
  intro n
  induction n with
  | zero => intro x0 x1 x2 x3 s e0 h; cases h
  | succ n ih =>
    intro x0 x1 x2 x3 s e0 h
    unfold L_Mo_endByStates_14 at h
    refine lk_iload_n d_Mo_endByStates_14 rfl ?_
    refine lk_aload_n d_Mo_endByStates_15 rfl ?_
    obtain ⟨a4, ha4, h⟩ := x_b h
    refine lk_getI (k := 4) d_Mo_endByStates_16 ha4 (by decide) rfl (by decide) lf_Mo_172 rfl ?_
    refine lk_icmp_gt (tgt := 99) d_Mo_endByStates_19 (by decide) (fun hc => ?_) (fun hc => ?_)
    · replace h := x_ifp hc h
      cases h
      refine Lk.sel [] rfl ?_
      exact Lk.stop ⟨rfl, rfl, rfl, rfl, rfl, rfl⟩
    · replace h := x_ifn hc h
      refine lk_iload_n d_Mo_endByStates_22 rfl ?_
      refine lk_iconst (v := (-1)) d_Mo_endByStates_23 rfl ?_
      refine lk_icmp_eq (tgt := 99) d_Mo_endByStates_24 (by decide) (fun hc => ?_) (fun hc => ?_)
      · replace h := x_ifp hc h
        cases h
        refine Lk.sel [] rfl ?_
        exact Lk.stop ⟨rfl, rfl, rfl, rfl, rfl, rfl⟩
      · replace h := x_ifn hc h
        refine lk_aload_n d_Mo_endByStates_27 rfl ?_
        refine lk_iload_n d_Mo_endByStates_28 rfl ?_
        obtain ⟨p5, hp5, h⟩ := x_b h
        refine lk_callV0 d_Mo_endByStates_29 (x_obm ha4 rfl) (c_Mo_isFinal hp5) (Nat.le_of_ble_eq_true rfl) rfl M_Mo_isFinal lm_Mo_236 in_Mo_isFinal se_Mo_isFinal (by decide) rfl (Nat.le_of_ble_eq_true rfl) ?_
        obtain ⟨t8, hj, h⟩ := x_b h
        refine Lk.joinS 53 [0, 1, 2, 3] [(1, vI t8.1)] rfl 1 [] t8.2 ?_ ?_
        · replace h := hj
          refine lk_if_ne (tgt := 51) d_Mo_endByStates_32 (by decide) (fun hc => ?_) (fun hc => ?_)
          · replace h := x_ifn hc h
            refine lk_iload_n d_Mo_endByStates_51 rfl ?_
            refine lk_istore_n d_Mo_endByStates_52 (by decide) rfl ?_
            cases h
            refine Lk.sel [0, 1, 2, 3] rfl ?_
            exact Lk.stop ⟨rfl, rfl, rfl, rfl, rfl, rfl⟩
          · replace h := x_ifp hc h
            refine lk_iload_n d_Mo_endByStates_35 rfl ?_
            refine lk_aload_n d_Mo_endByStates_36 rfl ?_
            obtain ⟨a6, ha6, h⟩ := x_b h
            refine lk_getI (k := 4) d_Mo_endByStates_37 ha6 (by decide) rfl (by decide) lf_Mo_172 rfl ?_
            refine lk_icmp_ne (tgt := 53) d_Mo_endByStates_40 (by decide) (fun hc => ?_) (fun hc => ?_)
            · replace h := x_ifn hc h
              cases h
              refine Lk.sel [0, 1, 2, 3] rfl ?_
              exact Lk.stop ⟨rfl, rfl, rfl, rfl, rfl, rfl⟩
            · replace h := x_ifp hc h
              refine lk_aload_n d_Mo_endByStates_43 rfl ?_
              refine lk_iload_n d_Mo_endByStates_44 rfl ?_
              obtain ⟨p7, hp7, h⟩ := x_b h
              refine lk_callV0 d_Mo_endByStates_45 (x_obm ha6 rfl) (c_Mo_endsBehind hp7) (Nat.le_of_ble_eq_true rfl) rfl M_Mo_endsBehind lm_Mo_242 in_Mo_endsBehind se_Mo_endsBehind (by decide) rfl (Nat.le_of_ble_eq_true rfl) ?_
              refine lk_if_eq (tgt := 53) d_Mo_endByStates_48 (by decide) (fun hc => ?_) (fun hc => ?_)
              · replace h := x_ifp hc h
                cases h
                refine Lk.sel [0, 1, 2, 3] rfl ?_
                exact Lk.stop ⟨rfl, rfl, rfl, rfl, rfl, rfl⟩
              · replace h := x_ifn hc h
                refine lk_iload_n d_Mo_endByStates_51 rfl ?_
                refine lk_istore_n d_Mo_endByStates_52 (by decide) rfl ?_
                cases h
                refine Lk.sel [0, 1, 2, 3] rfl ?_
                exact Lk.stop ⟨rfl, rfl, rfl, rfl, rfl, rfl⟩
        · clear hj
          refine lk_iload_n d_Mo_endByStates_53 rfl ?_
          refine lk_aload_n d_Mo_endByStates_54 rfl ?_
          obtain ⟨a9, ha9, h⟩ := x_b h
          refine lk_getI (k := 4) d_Mo_endByStates_55 ha9 (by decide) rfl (by decide) lf_Mo_172 rfl ?_
          refine lk_icmp_eq (tgt := 79) d_Mo_endByStates_58 (by decide) (fun hc => ?_) (fun hc => ?_)
          · replace h := x_ifp hc h
            refine lk_iload_n d_Mo_endByStates_79 rfl ?_
            cases h
            exact Lk.stop ⟨rfl, Or.inr (Or.inl ⟨_, _, d_Mo_endByStates_80, rfl, rfl, rfl, rfl⟩)⟩
          · replace h := x_ifn hc h
            refine lk_aload_n d_Mo_endByStates_61 rfl ?_
            refine lk_getR (k := 32) d_Mo_endByStates_62 ha9 (by decide) rfl (by decide) lf_Mo_68 rfl ?_
            refine lk_iload_n d_Mo_endByStates_65 rfl ?_
            obtain ⟨q10, hq10, h⟩ := x_b h
            obtain ⟨k11, hk11, h⟩ := x_b h
            refine lk_zald d_Mo_endByStates_66 hq10 hk11 ?_
            refine lk_if_ne (tgt := 81) d_Mo_endByStates_67 (by decide) (fun hc => ?_) (fun hc => ?_)
            · replace h := x_ifn hc h
              refine lk_aload_n d_Mo_endByStates_81 rfl ?_
              refine lk_iload_n d_Mo_endByStates_82 rfl ?_
              refine lk_aload_n d_Mo_endByStates_83 rfl ?_
              refine lk_getR (k := 5) d_Mo_endByStates_84 ha9 (by decide) rfl (by decide) lf_Mo_13 rfl ?_
              refine lk_iload_n d_Mo_endByStates_87 rfl ?_
              obtain ⟨q12, hq12, h⟩ := x_b h
              obtain ⟨k13, hk13, h⟩ := x_b h
              refine lk_iald d_Mo_endByStates_88 hq12 hk13 ?_
              obtain ⟨p14, hp14, h⟩ := x_b h
              refine lk_callV0 d_Mo_endByStates_89 (x_obm ha9 rfl) (c_Mo_nextState hp14) (Nat.le_of_ble_eq_true rfl) rfl M_Mo_nextState lm_Mo_245 in_Mo_nextState se_Mo_nextState (by decide) rfl (Nat.le_of_ble_eq_true rfl) ?_
              refine lk_istore_n d_Mo_endByStates_92 (by decide) rfl ?_
              refine lk_iinc (v := _ + 1) d_Mo_endByStates_93 rfl rfl (by decide) rfl ?_
              refine lk_goto (tgt := 14) d_Mo_endByStates_96 (by decide) ?_
              refine Lk.sel [0, 1, 2, 3] rfl ?_
              exact ih _ _ _ _ _ _ h
            · replace h := x_ifp hc h
              refine lk_aload_n d_Mo_endByStates_70 rfl ?_
              refine lk_getR (k := 30) d_Mo_endByStates_71 ha9 (by decide) rfl (by decide) lf_Mo_62 rfl ?_
              refine lk_iload_n d_Mo_endByStates_74 rfl ?_
              obtain ⟨q15, hq15, h⟩ := x_b h
              obtain ⟨k16, hk16, h⟩ := x_b h
              refine lk_iald d_Mo_endByStates_75 hq15 hk16 ?_
              refine lk_if_ne (tgt := 81) d_Mo_endByStates_76 (by decide) (fun hc => ?_) (fun hc => ?_)
              · replace h := x_ifn hc h
                refine lk_aload_n d_Mo_endByStates_81 rfl ?_
                refine lk_iload_n d_Mo_endByStates_82 rfl ?_
                refine lk_aload_n d_Mo_endByStates_83 rfl ?_
                refine lk_getR (k := 5) d_Mo_endByStates_84 ha9 (by decide) rfl (by decide) lf_Mo_13 rfl ?_
                refine lk_iload_n d_Mo_endByStates_87 rfl ?_
                obtain ⟨q17, hq17, h⟩ := x_b h
                obtain ⟨k18, hk18, h⟩ := x_b h
                refine lk_iald d_Mo_endByStates_88 hq17 hk18 ?_
                obtain ⟨p19, hp19, h⟩ := x_b h
                refine lk_callV0 d_Mo_endByStates_89 (x_obm ha9 rfl) (c_Mo_nextState hp19) (Nat.le_of_ble_eq_true rfl) rfl M_Mo_nextState lm_Mo_245 in_Mo_nextState se_Mo_nextState (by decide) rfl (Nat.le_of_ble_eq_true rfl) ?_
                refine lk_istore_n d_Mo_endByStates_92 (by decide) rfl ?_
                refine lk_iinc (v := _ + 1) d_Mo_endByStates_93 rfl rfl (by decide) rfl ?_
                refine lk_goto (tgt := 14) d_Mo_endByStates_96 (by decide) ?_
                refine Lk.sel [0, 1, 2, 3] rfl ?_
                exact ih _ _ _ _ _ _ h
              · replace h := x_ifp hc h
                refine lk_iload_n d_Mo_endByStates_79 rfl ?_
                cases h
                exact Lk.stop ⟨rfl, Or.inr (Or.inl ⟨_, _, d_Mo_endByStates_80, rfl, rfl, rfl, rfl⟩)⟩
def f_Mo_endByStates (z0 : Nat) (s : hv_S) : Option (Int32 × hv_S) :=
  (x_ob s 11 ((some z0))).bind fun a1 =>
  (some (hv_setI s a1 29 0)).bind fun s2 =>
  (f_Mo_firstState a1 s2).bind fun p3 =>
  (L_Mo_endByStates_14 100000 ((some z0)) ((-1)) p3.1 0 p3.2).bind fun e20r => e20r.elim (fun e20 =>
    some (((-2), e20))
  ) (fun w => some w)
set_option maxRecDepth 4000 in
set_option maxHeartbeats 2000000 in
theorem c_Mo_endByStates {G : lt_G} {z0 : Nat} {s : hv_S} {p : Int32 × hv_S} (h : f_Mo_endByStates z0 s = some p) : Ck G m_Mo_endByStates 5 0 0 [vR (some z0)] s (some (vI p.1)) p.2 := by
  refine Ck.of (by decide) (Nat.le_of_ble_eq_true rfl) ?_
  unfold f_Mo_endByStates at h
  refine lk_aload_n d_Mo_endByStates_0 rfl ?_
  refine lk_iconst (v := 0) d_Mo_endByStates_1 rfl ?_
  obtain ⟨a1, ha1, h⟩ := x_b h
  replace h := x_nm h
  refine lk_putI (k := 29) d_Mo_endByStates_2 ha1 (by decide) rfl (by decide) lf_Mo_225 rfl rfl ?_
  refine lk_iconst (v := (-1)) d_Mo_endByStates_5 rfl ?_
  refine lk_istore_n d_Mo_endByStates_6 (by decide) rfl ?_
  refine lk_aload_n d_Mo_endByStates_7 rfl ?_
  obtain ⟨p3, hp3, h⟩ := x_b h
  refine lk_callV0 d_Mo_endByStates_8 (x_obm ha1 rfl) (c_Mo_firstState hp3) (Nat.le_of_ble_eq_true rfl) rfl M_Mo_firstState lm_Mo_239 in_Mo_firstState se_Mo_firstState (by decide) rfl (Nat.le_of_ble_eq_true rfl) ?_
  refine lk_istore_n d_Mo_endByStates_11 (by decide) rfl ?_
  refine lk_iconst (v := 0) d_Mo_endByStates_12 rfl ?_
  refine lk_istore_n d_Mo_endByStates_13 (by decide) rfl ?_
  obtain ⟨e20r, hl, h⟩ := x_b h
  refine Lk.sel [0, 1, 2, 3] rfl ?_
  refine Lk.trans (l_Mo_endByStates_14 _ _ _ _ _ _ _ hl) ?_
  intro pc' lo' st' s' mc' ms' hx
  cases e20r with
  | inl e20 =>
    obtain ⟨rfl, rfl, rfl, rfl, rfl, rfl⟩ := hx
    refine lk_bipush (v := (-2)) d_Mo_endByStates_99 rfl ?_
    cases h
    exact Lk.stop ⟨rfl, Or.inr (Or.inl ⟨_, _, d_Mo_endByStates_101, rfl, rfl, rfl, rfl⟩)⟩
  | inr w =>
    cases h
    exact Lk.stop hx
def L_Mo_runStates_40 : Nat → Option Nat → Int32 → Int32 → Int32 → hv_S → Option (hv_S)
  | 0, _, _, _, _, _ => none
  | n + 1, x0, x1, x2, x3, s =>
    if x1 < x3 then
      some s
    else
      (x_ob s 11 x0).bind fun a5 =>
      if (hv_I s a5 39) = 0 then
        (f_Mo_runLists a5 x3 1 s).bind fun p6 =>
        L_Mo_runStates_40 n x0 x1 x2 (x3 + 1) p6
      else
        (x_ar s 0 (hv_R s a5 40)).bind fun q7 =>
        (x_ix q7.2 1).bind fun k8 =>
        if (hv_I s q7.1 k8) = x1 then
          some s
        else
          (f_Mo_runLists a5 x3 1 s).bind fun p9 =>
          L_Mo_runStates_40 n x0 x1 x2 (x3 + 1) p9
set_option maxRecDepth 4000 in
set_option maxHeartbeats 2000000 in
theorem l_Mo_runStates_40 {G : lt_G} : ∀ (n : Nat) (x0 : Option Nat) (x1 : Int32) (x2 : Int32) (x3 : Int32) (s : hv_S) (e0 : hv_S), L_Mo_runStates_40 n x0 x1 x2 x3 s = some e0 → Lk G m_Mo_runStates 6 40 [(0, vR x0), (1, vI x1), (2, vI x2), (3, vI x3)] [] s 0 0 (lk_at 74 [(0, vR x0), (2, vI x2)] [] e0 0 0) := by
  intro n
  induction n with
  | zero => intro x0 x1 x2 x3 s e0 h; cases h
  | succ n ih =>
    intro x0 x1 x2 x3 s e0 h
    unfold L_Mo_runStates_40 at h
    refine lk_iload_n d_Mo_runStates_40 rfl ?_
    refine lk_iload_n d_Mo_runStates_41 rfl ?_
    refine lk_icmp_gt (tgt := 74) d_Mo_runStates_42 (by decide) (fun hc => ?_) (fun hc => ?_)
    · replace h := x_ifp hc h
      cases h
      refine Lk.sel [0, 2] rfl ?_
      exact Lk.stop ⟨rfl, rfl, rfl, rfl, rfl, rfl⟩
    · replace h := x_ifn hc h
      refine lk_aload_n d_Mo_runStates_45 rfl ?_
      obtain ⟨a5, ha5, h⟩ := x_b h
      refine lk_getI (k := 39) d_Mo_runStates_46 ha5 (by decide) rfl (by decide) lf_Mo_105 rfl ?_
      refine lk_if_eq (tgt := 62) d_Mo_runStates_49 (by decide) (fun hc => ?_) (fun hc => ?_)
      · replace h := x_ifp hc h
        refine lk_aload_n d_Mo_runStates_62 rfl ?_
        refine lk_iload_n d_Mo_runStates_63 rfl ?_
        refine lk_iconst (v := 1) d_Mo_runStates_64 rfl ?_
        obtain ⟨p6, hp6, h⟩ := x_b h
        refine lk_callV0 d_Mo_runStates_65 (x_obm ha5 rfl) (c_Mo_runLists hp6) (Nat.le_of_ble_eq_true rfl) rfl M_Mo_runLists lm_Mo_251 in_Mo_runLists se_Mo_runLists (by decide) rfl (Nat.le_of_ble_eq_true rfl) ?_
        refine lk_iinc (v := _ + 1) d_Mo_runStates_68 rfl rfl (by decide) rfl ?_
        refine lk_goto (tgt := 40) d_Mo_runStates_71 (by decide) ?_
        refine Lk.sel [0, 1, 2, 3] rfl ?_
        exact ih _ _ _ _ _ _ h
      · replace h := x_ifn hc h
        refine lk_aload_n d_Mo_runStates_52 rfl ?_
        refine lk_getR (k := 40) d_Mo_runStates_53 ha5 (by decide) rfl (by decide) lf_Mo_84 rfl ?_
        refine lk_iconst (v := 1) d_Mo_runStates_56 rfl ?_
        obtain ⟨q7, hq7, h⟩ := x_b h
        obtain ⟨k8, hk8, h⟩ := x_b h
        refine lk_iald d_Mo_runStates_57 hq7 hk8 ?_
        refine lk_iload_n d_Mo_runStates_58 rfl ?_
        refine lk_icmp_eq (tgt := 74) d_Mo_runStates_59 (by decide) (fun hc => ?_) (fun hc => ?_)
        · replace h := x_ifp hc h
          cases h
          refine Lk.sel [0, 2] rfl ?_
          exact Lk.stop ⟨rfl, rfl, rfl, rfl, rfl, rfl⟩
        · replace h := x_ifn hc h
          refine lk_aload_n d_Mo_runStates_62 rfl ?_
          refine lk_iload_n d_Mo_runStates_63 rfl ?_
          refine lk_iconst (v := 1) d_Mo_runStates_64 rfl ?_
          obtain ⟨p9, hp9, h⟩ := x_b h
          refine lk_callV0 d_Mo_runStates_65 (x_obm ha5 rfl) (c_Mo_runLists hp9) (Nat.le_of_ble_eq_true rfl) rfl M_Mo_runLists lm_Mo_251 in_Mo_runLists se_Mo_runLists (by decide) rfl (Nat.le_of_ble_eq_true rfl) ?_
          refine lk_iinc (v := _ + 1) d_Mo_runStates_68 rfl rfl (by decide) rfl ?_
          refine lk_goto (tgt := 40) d_Mo_runStates_71 (by decide) ?_
          refine Lk.sel [0, 1, 2, 3] rfl ?_
          exact ih _ _ _ _ _ _ h
def f_Mo_runStates (z0 : Nat) (s : hv_S) : Option (hv_S) :=
  (x_ob s 11 ((some z0))).bind fun a1 =>
  (f_Mo_endByStates a1 s).bind fun p2 =>
  (x_ob p2.2 11 ((some z0))).bind fun a3 =>
  (some (hv_setI p2.2 a3 39 0)).bind fun s4 =>
  if p2.1 = ((-2)) then
    (some (hv_setI s4 a3 36 0)).bind fun s13 =>
    (some (hv_setI s13 a3 37 0)).bind fun s14 =>
    (f_Mo_runLists a3 0 0 s14).bind fun p15 =>
    some p15
  else
    (L_Mo_runStates_40 100000 ((some z0)) p2.1 (hv_I s4 a3 36) 0 s4).bind fun e10 =>
    (x_ob e10 11 ((some z0))).bind fun a11 =>
    (some (hv_setI e10 a11 36 (hv_I s4 a3 36))).bind fun s12 =>
    some s12
set_option maxRecDepth 4000 in
set_option maxHeartbeats 2000000 in
theorem c_Mo_runStates {G : lt_G} {z0 : Nat} {s : hv_S} {p : hv_S} (h : f_Mo_runStates z0 s = some p) : Ck G m_Mo_runStates 6 0 0 [vR (some z0)] s none p := by
  refine Ck.of (by decide) (Nat.le_of_ble_eq_true rfl) ?_
  unfold f_Mo_runStates at h
  refine lk_aload_n d_Mo_runStates_0 rfl ?_
  obtain ⟨a1, ha1, h⟩ := x_b h
  obtain ⟨p2, hp2, h⟩ := x_b h
  refine lk_callV0 d_Mo_runStates_1 (x_obm ha1 rfl) (c_Mo_endByStates hp2) (Nat.le_of_ble_eq_true rfl) rfl M_Mo_endByStates lm_Mo_248 in_Mo_endByStates se_Mo_endByStates (by decide) rfl (Nat.le_of_ble_eq_true rfl) ?_
  refine lk_istore_n d_Mo_runStates_4 (by decide) rfl ?_
  refine lk_aload_n d_Mo_runStates_5 rfl ?_
  refine lk_iconst (v := 0) d_Mo_runStates_6 rfl ?_
  obtain ⟨a3, ha3, h⟩ := x_b h
  replace h := x_nm h
  refine lk_putZ (k := 39) d_Mo_runStates_7 ha3 (by decide) (by decide) rfl (by decide) lf_Mo_105 rfl rfl ?_
  refine lk_iload_n d_Mo_runStates_10 rfl ?_
  refine lk_bipush (v := (-2)) d_Mo_runStates_11 rfl ?_
  refine lk_icmp_ne (tgt := 33) d_Mo_runStates_13 (by decide) (fun hc => ?_) (fun hc => ?_)
  · replace h := x_ifn hc h
    refine lk_aload_n d_Mo_runStates_33 rfl ?_
    refine lk_getI (k := 36) d_Mo_runStates_34 ha3 (by decide) rfl (by decide) lf_Mo_189 rfl ?_
    refine lk_istore_n d_Mo_runStates_37 (by decide) rfl ?_
    refine lk_iconst (v := 0) d_Mo_runStates_38 rfl ?_
    refine lk_istore_n d_Mo_runStates_39 (by decide) rfl ?_
    obtain ⟨e10, hl, h⟩ := x_b h
    refine Lk.sel [0, 1, 2, 3] rfl ?_
    refine Lk.trans (l_Mo_runStates_40 _ _ _ _ _ _ _ hl) ?_
    intro pc' lo' st' s' mc' ms' hx
    obtain ⟨rfl, rfl, rfl, rfl, rfl, rfl⟩ := hx
    refine lk_aload_n d_Mo_runStates_74 rfl ?_
    refine lk_iload_n d_Mo_runStates_75 rfl ?_
    obtain ⟨a11, ha11, h⟩ := x_b h
    replace h := x_nm h
    refine lk_putI (k := 36) d_Mo_runStates_76 ha11 (by decide) rfl (by decide) lf_Mo_189 rfl rfl ?_
    cases h
    exact Lk.stop ⟨rfl, Or.inl ⟨d_Mo_runStates_79, rfl, rfl, rfl⟩⟩
  · replace h := x_ifp hc h
    refine lk_aload_n d_Mo_runStates_16 rfl ?_
    refine lk_iconst (v := 0) d_Mo_runStates_17 rfl ?_
    replace h := x_nm h
    refine lk_putI (k := 36) d_Mo_runStates_18 ha3 (by decide) rfl (by decide) lf_Mo_189 rfl rfl ?_
    refine lk_aload_n d_Mo_runStates_21 rfl ?_
    refine lk_iconst (v := 0) d_Mo_runStates_22 rfl ?_
    replace h := x_nm h
    refine lk_putI (k := 37) d_Mo_runStates_23 ha3 (by decide) rfl (by decide) lf_Mo_77 rfl rfl ?_
    refine lk_aload_n d_Mo_runStates_26 rfl ?_
    refine lk_iconst (v := 0) d_Mo_runStates_27 rfl ?_
    refine lk_iconst (v := 0) d_Mo_runStates_28 rfl ?_
    obtain ⟨p15, hp15, h⟩ := x_b h
    refine lk_callV0 d_Mo_runStates_29 (x_obm ha3 rfl) (c_Mo_runLists hp15) (Nat.le_of_ble_eq_true rfl) rfl M_Mo_runLists lm_Mo_251 in_Mo_runLists se_Mo_runLists (by decide) rfl (Nat.le_of_ble_eq_true rfl) ?_
    cases h
    exact Lk.stop ⟨rfl, Or.inl ⟨d_Mo_runStates_32, rfl, rfl, rfl⟩⟩
def L_Mo_runSingle_63 : Nat → Option Nat → Int32 → Int32 → Int32 → Int32 → hv_S → Option (Int32 × hv_S)
  | 0, _, _, _, _, _, _ => none
  | n + 1, x0, x1, x2, x3, x4, s =>
    (x_ob s 11 x0).bind fun a11 =>
    (x_ar s 0 (hv_R s a11 23)).bind fun q12 =>
    (x_ix q12.2 0).bind fun k13 =>
    if (hv_I s q12.1 k13) ≤ x4 then
      some (x3, s)
    else
      if x4 < 0 then
        some (x3, s)
      else
        (x_ar s 0 (hv_R s a11 24)).bind fun q14 =>
        (x_ix q14.2 x4).bind fun k15 =>
        (x_ar s 0 (hv_R s a11 7)).bind fun q16 =>
        (x_ix q16.2 (hv_I s q14.1 k15)).bind fun k17 =>
        ((
          if (hv_I s q16.1 k17) = 7 then
            (f_Mo_take a11 x4 s).bind fun p20 =>
            (x_ob p20 11 x0).bind fun a21 =>
            (f_Mo_note a21 x2 p20).bind fun p22 =>
            (x_ob p22 11 x0).bind fun a23 =>
            (x_ar p22 0 (hv_R p22 a23 23)).bind fun q24 =>
            (x_ix q24.2 0).bind fun k25 =>
            (some (hv_setI p22 q24.1 k25 0)).bind fun s26 =>
            some (x3, s26)
          else
            (x_ix q14.2 x4).bind fun k18 =>
            (f_Mo_isRight a11 (hv_I s q14.1 k18) x2 s).bind fun p19 =>
            if p19.1 = 0 then
              some (x3, p19.2)
            else
              some (x4, p19.2)
        ) : Option (Int32 × hv_S)).bind fun t27 =>
        L_Mo_runSingle_63 n x0 x1 x2 t27.1 (x4 + 1) t27.2
set_option maxRecDepth 4000 in
set_option maxHeartbeats 2000000 in
theorem l_Mo_runSingle_63 {G : lt_G} : ∀ (n : Nat) (x0 : Option Nat) (x1 : Int32) (x2 : Int32) (x3 : Int32) (x4 : Int32) (s : hv_S) (e0 : Int32 × hv_S), L_Mo_runSingle_63 n x0 x1 x2 x3 x4 s = some e0 → Lk G m_Mo_runSingle 4 63 [(0, vR x0), (1, vI x1), (2, vI x2), (3, vI x3), (4, vI x4)] [] s 0 0 (lk_at 141 [(0, vR x0), (1, vI x1), (2, vI x2), (3, vI e0.1)] [] e0.2 0 0) := by
  intro n
  induction n with
  | zero => intro x0 x1 x2 x3 x4 s e0 h; cases h
  | succ n ih =>
    intro x0 x1 x2 x3 x4 s e0 h
    unfold L_Mo_runSingle_63 at h
    refine lk_iload d_Mo_runSingle_63 rfl ?_
    refine lk_aload_n d_Mo_runSingle_65 rfl ?_
    obtain ⟨a11, ha11, h⟩ := x_b h
    refine lk_getR (k := 23) d_Mo_runSingle_66 ha11 (by decide) rfl (by decide) lf_Mo_49 rfl ?_
    refine lk_iconst (v := 0) d_Mo_runSingle_69 rfl ?_
    obtain ⟨q12, hq12, h⟩ := x_b h
    obtain ⟨k13, hk13, h⟩ := x_b h
    refine lk_iald d_Mo_runSingle_70 hq12 hk13 ?_
    refine lk_icmp_ge (tgt := 141) d_Mo_runSingle_71 (by decide) (fun hc => ?_) (fun hc => ?_)
    · replace h := x_ifp hc h
      cases h
      refine Lk.sel [0, 1, 2, 3] rfl ?_
      exact Lk.stop ⟨rfl, rfl, rfl, rfl, rfl, rfl⟩
    · replace h := x_ifn hc h
      refine lk_iload d_Mo_runSingle_74 rfl ?_
      refine lk_if_lt (tgt := 141) d_Mo_runSingle_76 (by decide) (fun hc => ?_) (fun hc => ?_)
      · replace h := x_ifp hc h
        cases h
        refine Lk.sel [0, 1, 2, 3] rfl ?_
        exact Lk.stop ⟨rfl, rfl, rfl, rfl, rfl, rfl⟩
      · replace h := x_ifn hc h
        refine lk_aload_n d_Mo_runSingle_79 rfl ?_
        refine lk_getR (k := 7) d_Mo_runSingle_80 ha11 (by decide) rfl (by decide) lf_Mo_16 rfl ?_
        refine lk_aload_n d_Mo_runSingle_83 rfl ?_
        refine lk_getR (k := 24) d_Mo_runSingle_84 ha11 (by decide) rfl (by decide) lf_Mo_52 rfl ?_
        refine lk_iload d_Mo_runSingle_87 rfl ?_
        obtain ⟨q14, hq14, h⟩ := x_b h
        obtain ⟨k15, hk15, h⟩ := x_b h
        refine lk_iald d_Mo_runSingle_89 hq14 hk15 ?_
        obtain ⟨q16, hq16, h⟩ := x_b h
        obtain ⟨k17, hk17, h⟩ := x_b h
        refine lk_iald d_Mo_runSingle_90 hq16 hk17 ?_
        refine lk_bipush (v := 7) d_Mo_runSingle_91 rfl ?_
        obtain ⟨t27, hj, h⟩ := x_b h
        refine Lk.joinS 135 [0, 1, 2, 3, 4] [(3, vI t27.1)] rfl 2 [] t27.2 ?_ ?_
        · replace h := hj
          refine lk_icmp_ne (tgt := 117) d_Mo_runSingle_93 (by decide) (fun hc => ?_) (fun hc => ?_)
          · replace h := x_ifn hc h
            refine lk_aload_n d_Mo_runSingle_117 rfl ?_
            refine lk_aload_n d_Mo_runSingle_118 rfl ?_
            refine lk_getR (k := 24) d_Mo_runSingle_119 ha11 (by decide) rfl (by decide) lf_Mo_52 rfl ?_
            refine lk_iload d_Mo_runSingle_122 rfl ?_
            obtain ⟨k18, hk18, h⟩ := x_b h
            refine lk_iald d_Mo_runSingle_124 hq14 hk18 ?_
            refine lk_iload_n d_Mo_runSingle_125 rfl ?_
            obtain ⟨p19, hp19, h⟩ := x_b h
            refine lk_callV0 d_Mo_runSingle_126 (x_obm ha11 rfl) (c_Mo_isRight hp19) (Nat.le_of_ble_eq_true rfl) rfl M_Mo_isRight lm_Mo_198 in_Mo_isRight se_Mo_isRight (by decide) rfl (Nat.le_of_ble_eq_true rfl) ?_
            refine lk_if_eq (tgt := 135) d_Mo_runSingle_129 (by decide) (fun hc => ?_) (fun hc => ?_)
            · replace h := x_ifp hc h
              cases h
              refine Lk.sel [0, 1, 2, 3, 4] rfl ?_
              exact Lk.stop ⟨rfl, rfl, rfl, rfl, rfl, rfl⟩
            · replace h := x_ifn hc h
              refine lk_iload d_Mo_runSingle_132 rfl ?_
              refine lk_istore_n d_Mo_runSingle_134 (by decide) rfl ?_
              cases h
              refine Lk.sel [0, 1, 2, 3, 4] rfl ?_
              exact Lk.stop ⟨rfl, rfl, rfl, rfl, rfl, rfl⟩
          · replace h := x_ifp hc h
            refine lk_aload_n d_Mo_runSingle_96 rfl ?_
            refine lk_iload d_Mo_runSingle_97 rfl ?_
            obtain ⟨p20, hp20, h⟩ := x_b h
            refine lk_callV0 d_Mo_runSingle_99 (x_obm ha11 rfl) (c_Mo_take hp20) (Nat.le_of_ble_eq_true rfl) rfl M_Mo_take lm_Mo_192 in_Mo_take se_Mo_take (by decide) rfl (Nat.le_of_ble_eq_true rfl) ?_
            refine lk_aload_n d_Mo_runSingle_102 rfl ?_
            refine lk_iload_n d_Mo_runSingle_103 rfl ?_
            obtain ⟨a21, ha21, h⟩ := x_b h
            obtain ⟨p22, hp22, h⟩ := x_b h
            refine lk_callV0 d_Mo_runSingle_104 (x_obm ha21 rfl) (c_Mo_note hp22) (Nat.le_of_ble_eq_true rfl) rfl M_Mo_note lm_Mo_195 in_Mo_note se_Mo_note (by decide) rfl (Nat.le_of_ble_eq_true rfl) ?_
            refine lk_aload_n d_Mo_runSingle_107 rfl ?_
            obtain ⟨a23, ha23, h⟩ := x_b h
            refine lk_getR (k := 23) d_Mo_runSingle_108 ha23 (by decide) rfl (by decide) lf_Mo_49 rfl ?_
            refine lk_iconst (v := 0) d_Mo_runSingle_111 rfl ?_
            refine lk_iconst (v := 0) d_Mo_runSingle_112 rfl ?_
            obtain ⟨q24, hq24, h⟩ := x_b h
            obtain ⟨k25, hk25, h⟩ := x_b h
            replace h := x_nm h
            refine lk_iast d_Mo_runSingle_113 hq24 hk25 ?_
            refine lk_goto (tgt := 135) d_Mo_runSingle_114 (by decide) ?_
            cases h
            refine Lk.sel [0, 1, 2, 3, 4] rfl ?_
            exact Lk.stop ⟨rfl, rfl, rfl, rfl, rfl, rfl⟩
        · clear hj
          refine lk_iinc (v := _ + 1) d_Mo_runSingle_135 rfl rfl (by decide) rfl ?_
          refine lk_goto (tgt := 63) d_Mo_runSingle_138 (by decide) ?_
          refine Lk.sel [0, 1, 2, 3, 4] rfl ?_
          exact ih _ _ _ _ _ _ _ h
def L_Mo_runSingle_19 : Nat → Option Nat → Int32 → Int32 → hv_S → Option (hv_S)
  | 0, _, _, _, _ => none
  | n + 1, x0, x1, x2, s =>
    (x_ob s 11 x0).bind fun a5 =>
    if (hv_I s a5 4) < x2 then
      some s
    else
      if x1 = ((-1)) then
        some s
      else
        (some (hv_setI s a5 16 ((hv_I s a5 16) + (1 : Int32)))).bind fun s6 =>
        (x_ar s6 0 (hv_R s6 a5 23)).bind fun q7 =>
        (x_ix q7.2 0).bind fun k8 =>
        (some (hv_setI s6 q7.1 k8 0)).bind fun s9 =>
        (f_Mo_follow a5 x1 x2 0 s9).bind fun p10 =>
        (L_Mo_runSingle_63 100000 x0 ((-1)) x2 ((-1)) 0 p10).bind fun e28 =>
        ((
          if e28.1 = ((-1)) then
            some ((-1), e28.2)
          else
            (x_ob e28.2 11 x0).bind fun a29 =>
            (f_Mo_take a29 e28.1 e28.2).bind fun p30 =>
            (x_ob p30 11 x0).bind fun a31 =>
            (x_ar p30 0 (hv_R p30 a31 24)).bind fun q32 =>
            (x_ix q32.2 e28.1).bind fun k33 =>
            (some ((hv_I p30 q32.1 k33) + (1 : Int32))).bind fun y34 =>
            (some (hv_setI p30 a31 36 ((hv_I p30 a31 36) + (1 : Int32)))).bind fun s35 =>
            some (y34, s35)
        ) : Option (Int32 × hv_S)).bind fun t36 =>
        L_Mo_runSingle_19 n x0 t36.1 (x2 + 1) t36.2
set_option maxRecDepth 4000 in
set_option maxHeartbeats 2000000 in
theorem l_Mo_runSingle_19 {G : lt_G} : ∀ (n : Nat) (x0 : Option Nat) (x1 : Int32) (x2 : Int32) (s : hv_S) (e0 : hv_S), L_Mo_runSingle_19 n x0 x1 x2 s = some e0 → Lk G m_Mo_runSingle 4 19 [(0, vR x0), (1, vI x1), (2, vI x2)] [] s 0 0 (lk_at 179 [] [] e0 0 0) := by
  intro n
  induction n with
  | zero => intro x0 x1 x2 s e0 h; cases h
  | succ n ih =>
    intro x0 x1 x2 s e0 h
    unfold L_Mo_runSingle_19 at h
    refine lk_iload_n d_Mo_runSingle_19 rfl ?_
    refine lk_aload_n d_Mo_runSingle_20 rfl ?_
    obtain ⟨a5, ha5, h⟩ := x_b h
    refine lk_getI (k := 4) d_Mo_runSingle_21 ha5 (by decide) rfl (by decide) lf_Mo_172 rfl ?_
    refine lk_icmp_gt (tgt := 179) d_Mo_runSingle_24 (by decide) (fun hc => ?_) (fun hc => ?_)
    · replace h := x_ifp hc h
      cases h
      refine Lk.sel [] rfl ?_
      exact Lk.stop ⟨rfl, rfl, rfl, rfl, rfl, rfl⟩
    · replace h := x_ifn hc h
      refine lk_iload_n d_Mo_runSingle_27 rfl ?_
      refine lk_iconst (v := (-1)) d_Mo_runSingle_28 rfl ?_
      refine lk_icmp_eq (tgt := 179) d_Mo_runSingle_29 (by decide) (fun hc => ?_) (fun hc => ?_)
      · replace h := x_ifp hc h
        cases h
        refine Lk.sel [] rfl ?_
        exact Lk.stop ⟨rfl, rfl, rfl, rfl, rfl, rfl⟩
      · replace h := x_ifn hc h
        refine lk_aload_n d_Mo_runSingle_32 rfl ?_
        refine lk_dup d_Mo_runSingle_33 rfl ?_
        refine lk_getI (k := 16) d_Mo_runSingle_34 ha5 (by decide) rfl (by decide) lf_Mo_166 rfl ?_
        refine lk_iconst (v := 1) d_Mo_runSingle_37 rfl ?_
        refine lk_iadd d_Mo_runSingle_38 ?_
        replace h := x_nm h
        refine lk_putI (k := 16) d_Mo_runSingle_39 ha5 (by decide) rfl (by decide) lf_Mo_166 rfl rfl ?_
        refine lk_aload_n d_Mo_runSingle_42 rfl ?_
        refine lk_getR (k := 23) d_Mo_runSingle_43 ha5 (by decide) rfl (by decide) lf_Mo_49 rfl ?_
        refine lk_iconst (v := 0) d_Mo_runSingle_46 rfl ?_
        refine lk_iconst (v := 0) d_Mo_runSingle_47 rfl ?_
        obtain ⟨q7, hq7, h⟩ := x_b h
        obtain ⟨k8, hk8, h⟩ := x_b h
        replace h := x_nm h
        refine lk_iast d_Mo_runSingle_48 hq7 hk8 ?_
        refine lk_aload_n d_Mo_runSingle_49 rfl ?_
        refine lk_iload_n d_Mo_runSingle_50 rfl ?_
        refine lk_iload_n d_Mo_runSingle_51 rfl ?_
        refine lk_iconst (v := 0) d_Mo_runSingle_52 rfl ?_
        obtain ⟨p10, hp10, h⟩ := x_b h
        refine lk_callV0 d_Mo_runSingle_53 (x_obm ha5 rfl) (c_Mo_follow hp10) (Nat.le_of_ble_eq_true rfl) rfl M_Mo_follow lm_Mo_202 in_Mo_follow se_Mo_follow (by decide) rfl (Nat.le_of_ble_eq_true rfl) ?_
        refine lk_iconst (v := (-1)) d_Mo_runSingle_56 rfl ?_
        refine lk_istore_n d_Mo_runSingle_57 (by decide) rfl ?_
        refine lk_iconst (v := (-1)) d_Mo_runSingle_58 rfl ?_
        refine lk_istore_n d_Mo_runSingle_59 (by decide) rfl ?_
        refine lk_iconst (v := 0) d_Mo_runSingle_60 rfl ?_
        refine lk_istore d_Mo_runSingle_61 (by decide) rfl ?_
        obtain ⟨e28, hl, h⟩ := x_b h
        refine Lk.sel [0, 1, 2, 3, 4] rfl ?_
        refine Lk.trans (l_Mo_runSingle_63 _ _ _ _ _ _ _ _ hl) ?_
        intro pc' lo' st' s' mc' ms' hx
        obtain ⟨rfl, rfl, rfl, rfl, rfl, rfl⟩ := hx
        refine lk_iload_n d_Mo_runSingle_141 rfl ?_
        refine lk_iconst (v := (-1)) d_Mo_runSingle_142 rfl ?_
        obtain ⟨t36, hj, h⟩ := x_b h
        refine Lk.joinS 173 [0, 1, 2] [(1, vI t36.1)] rfl 2 [] t36.2 ?_ ?_
        · replace h := hj
          refine lk_icmp_ne (tgt := 149) d_Mo_runSingle_143 (by decide) (fun hc => ?_) (fun hc => ?_)
          · replace h := x_ifn hc h
            refine lk_aload_n d_Mo_runSingle_149 rfl ?_
            refine lk_iload_n d_Mo_runSingle_150 rfl ?_
            obtain ⟨a29, ha29, h⟩ := x_b h
            obtain ⟨p30, hp30, h⟩ := x_b h
            refine lk_callV0 d_Mo_runSingle_151 (x_obm ha29 rfl) (c_Mo_take hp30) (Nat.le_of_ble_eq_true rfl) rfl M_Mo_take lm_Mo_192 in_Mo_take se_Mo_take (by decide) rfl (Nat.le_of_ble_eq_true rfl) ?_
            refine lk_aload_n d_Mo_runSingle_154 rfl ?_
            obtain ⟨a31, ha31, h⟩ := x_b h
            refine lk_getR (k := 24) d_Mo_runSingle_155 ha31 (by decide) rfl (by decide) lf_Mo_52 rfl ?_
            refine lk_iload_n d_Mo_runSingle_158 rfl ?_
            obtain ⟨q32, hq32, h⟩ := x_b h
            obtain ⟨k33, hk33, h⟩ := x_b h
            refine lk_iald d_Mo_runSingle_159 hq32 hk33 ?_
            refine lk_iconst (v := 1) d_Mo_runSingle_160 rfl ?_
            refine lk_iadd d_Mo_runSingle_161 ?_
            replace h := x_nm h
            refine lk_istore_n d_Mo_runSingle_162 (by decide) rfl ?_
            refine lk_aload_n d_Mo_runSingle_163 rfl ?_
            refine lk_dup d_Mo_runSingle_164 rfl ?_
            refine lk_getI (k := 36) d_Mo_runSingle_165 ha31 (by decide) rfl (by decide) lf_Mo_189 rfl ?_
            refine lk_iconst (v := 1) d_Mo_runSingle_168 rfl ?_
            refine lk_iadd d_Mo_runSingle_169 ?_
            replace h := x_nm h
            refine lk_putI (k := 36) d_Mo_runSingle_170 ha31 (by decide) rfl (by decide) lf_Mo_189 rfl rfl ?_
            cases h
            refine Lk.sel [0, 1, 2] rfl ?_
            exact Lk.stop ⟨rfl, rfl, rfl, rfl, rfl, rfl⟩
          · replace h := x_ifp hc h
            refine lk_goto (tgt := 173) d_Mo_runSingle_146 (by decide) ?_
            cases h
            refine Lk.sel [0, 1, 2] rfl ?_
            exact Lk.stop ⟨rfl, rfl, rfl, rfl, rfl, rfl⟩
        · clear hj
          refine lk_iinc (v := _ + 1) d_Mo_runSingle_173 rfl rfl (by decide) rfl ?_
          refine lk_goto (tgt := 19) d_Mo_runSingle_176 (by decide) ?_
          refine Lk.sel [0, 1, 2] rfl ?_
          exact ih _ _ _ _ _ h
def f_Mo_runSingle (z0 : Nat) (s : hv_S) : Option (hv_S) :=
  (x_ob s 11 ((some z0))).bind fun a1 =>
  (some (hv_setI s a1 39 0)).bind fun s2 =>
  (some (hv_setI s2 a1 36 1)).bind fun s3 =>
  (f_Mo_begin a1 0 s3).bind fun p4 =>
  (L_Mo_runSingle_19 100000 ((some z0)) 0 0 p4).bind fun e37 =>
  some e37
set_option maxRecDepth 4000 in
set_option maxHeartbeats 2000000 in
theorem c_Mo_runSingle {G : lt_G} {z0 : Nat} {s : hv_S} {p : hv_S} (h : f_Mo_runSingle z0 s = some p) : Ck G m_Mo_runSingle 4 0 0 [vR (some z0)] s none p := by
  refine Ck.of (by decide) (Nat.le_of_ble_eq_true rfl) ?_
  unfold f_Mo_runSingle at h
  refine lk_aload_n d_Mo_runSingle_0 rfl ?_
  refine lk_iconst (v := 0) d_Mo_runSingle_1 rfl ?_
  obtain ⟨a1, ha1, h⟩ := x_b h
  replace h := x_nm h
  refine lk_putZ (k := 39) d_Mo_runSingle_2 ha1 (by decide) (by decide) rfl (by decide) lf_Mo_105 rfl rfl ?_
  refine lk_aload_n d_Mo_runSingle_5 rfl ?_
  refine lk_iconst (v := 1) d_Mo_runSingle_6 rfl ?_
  replace h := x_nm h
  refine lk_putI (k := 36) d_Mo_runSingle_7 ha1 (by decide) rfl (by decide) lf_Mo_189 rfl rfl ?_
  refine lk_aload_n d_Mo_runSingle_10 rfl ?_
  refine lk_iconst (v := 0) d_Mo_runSingle_11 rfl ?_
  obtain ⟨p4, hp4, h⟩ := x_b h
  refine lk_callV0 d_Mo_runSingle_12 (x_obm ha1 rfl) (c_Mo_begin hp4) (Nat.le_of_ble_eq_true rfl) rfl M_Mo_begin lm_Mo_205 in_Mo_begin se_Mo_begin (by decide) rfl (Nat.le_of_ble_eq_true rfl) ?_
  refine lk_iconst (v := 0) d_Mo_runSingle_15 rfl ?_
  refine lk_istore_n d_Mo_runSingle_16 (by decide) rfl ?_
  refine lk_iconst (v := 0) d_Mo_runSingle_17 rfl ?_
  refine lk_istore_n d_Mo_runSingle_18 (by decide) rfl ?_
  obtain ⟨e37, hl, h⟩ := x_b h
  refine Lk.sel [0, 1, 2] rfl ?_
  refine Lk.trans (l_Mo_runSingle_19 _ _ _ _ _ _ hl) ?_
  intro pc' lo' st' s' mc' ms' hx
  obtain ⟨rfl, rfl, rfl, rfl, rfl, rfl⟩ := hx
  cases h
  exact Lk.stop ⟨rfl, Or.inl ⟨d_Mo_runSingle_179, rfl, rfl, rfl⟩⟩
def f_Mo_search (z0 : Nat) (x1 : Int32) (s : hv_S) : Option (Int32 × hv_S) :=
  ((
    if x1 < 0 then
      some 1
    else
      if x1 ≤ 4 then
        (x_ob s 11 ((some z0))).bind fun a1 =>
        if (hv_I s a1 6) = 0 then
          some 2
        else
          if x1 = 3 then
            if (hv_I s a1 15) = 0 then
              some 2
            else
              some 0
          else
            some 0
      else
        some 1
  ) : Option (Int32)).bind fun t2 =>
  (x_ob s 11 ((some z0))).bind fun a3 =>
  (some (hv_setI s a3 0 t2)).bind fun s4 =>
  if (hv_I s4 a3 0) ≤ 0 then
    ((
      if 4 ≤ x1 then
        if (hv_I s4 a3 15) = 0 then
          if 128 < ((hv_I s4 a3 6) * ((hv_I s4 a3 4) + (1 : Int32))) then
            some 2
          else
            some 1
        else
          some 3
      else
        some x1
    ) : Option (Int32)).bind fun t5 =>
    (some (hv_setI s4 a3 37 t5)).bind fun s6 =>
    (some (hv_setI s6 a3 36 0)).bind fun s7 =>
    ((
      if (hv_I s7 a3 37) = 0 then
        (f_Mo_runLists a3 0 0 s7).bind fun p8 =>
        some p8
      else if (hv_I s7 a3 37) = 1 then
        (f_Mo_runMarks a3 s7).bind fun p9 =>
        some p9
      else if (hv_I s7 a3 37) = 2 then
        (f_Mo_runStates a3 s7).bind fun p10 =>
        some p10
      else
        (f_Mo_runSingle a3 s7).bind fun p11 =>
        some p11
    ) : Option (hv_S)).bind fun t12 =>
    (x_ob t12 11 ((some z0))).bind fun a13 =>
    (some (hv_setI t12 a13 38 (hv_I t12 a13 36))).bind fun s14 =>
    ((
      if (hv_I s14 a13 39) = 0 then
        some ((-1))
      else
        (x_ar s14 0 (hv_R s14 a13 40)).bind fun q15 =>
        (x_ix q15.2 0).bind fun k16 =>
        some (hv_I s14 q15.1 k16)
    ) : Option (Int32)).bind fun t17 =>
    some ((t17, s14))
  else
    some ((0, s4))
set_option maxRecDepth 4000 in
set_option maxHeartbeats 2000000 in
theorem c_Mo_search {G : lt_G} {z0 : Nat} {x1 : Int32} {s : hv_S} {p : Int32 × hv_S} (h : f_Mo_search z0 x1 s = some p) : Ck G m_Mo_search 7 0 0 [vR (some z0), vI x1] s (some (vI p.1)) p.2 := by
  refine Ck.of (by decide) (Nat.le_of_ble_eq_true rfl) ?_
  unfold f_Mo_search at h
  refine lk_aload_n d_Mo_search_0 rfl ?_
  refine lk_iload_n d_Mo_search_1 rfl ?_
  obtain ⟨t2, hj, h⟩ := x_b h
  refine Lk.joinA 38 [0, 1] [] rfl 1 [vI t2] ?_ ?_
  · replace h := hj
    refine lk_if_lt (tgt := 10) d_Mo_search_2 (by decide) (fun hc => ?_) (fun hc => ?_)
    · replace h := x_ifp hc h
      refine lk_iconst (v := 1) d_Mo_search_10 rfl ?_
      refine lk_goto (tgt := 38) d_Mo_search_11 (by decide) ?_
      cases h
      refine Lk.sel [0, 1] rfl ?_
      exact Lk.stop ⟨rfl, rfl, rfl, rfl, rfl, rfl⟩
    · replace h := x_ifn hc h
      refine lk_iload_n d_Mo_search_5 rfl ?_
      refine lk_iconst (v := 4) d_Mo_search_6 rfl ?_
      refine lk_icmp_le (tgt := 14) d_Mo_search_7 (by decide) (fun hc => ?_) (fun hc => ?_)
      · replace h := x_ifp hc h
        refine lk_aload_n d_Mo_search_14 rfl ?_
        obtain ⟨a1, ha1, h⟩ := x_b h
        refine lk_getI (k := 6) d_Mo_search_15 ha1 (by decide) rfl (by decide) lf_Mo_148 rfl ?_
        refine lk_if_eq (tgt := 33) d_Mo_search_18 (by decide) (fun hc => ?_) (fun hc => ?_)
        · replace h := x_ifp hc h
          refine lk_iconst (v := 2) d_Mo_search_33 rfl ?_
          refine lk_goto (tgt := 38) d_Mo_search_34 (by decide) ?_
          cases h
          refine Lk.sel [0, 1] rfl ?_
          exact Lk.stop ⟨rfl, rfl, rfl, rfl, rfl, rfl⟩
        · replace h := x_ifn hc h
          refine lk_iload_n d_Mo_search_21 rfl ?_
          refine lk_iconst (v := 3) d_Mo_search_22 rfl ?_
          refine lk_icmp_ne (tgt := 37) d_Mo_search_23 (by decide) (fun hc => ?_) (fun hc => ?_)
          · replace h := x_ifn hc h
            refine lk_iconst (v := 0) d_Mo_search_37 rfl ?_
            cases h
            refine Lk.sel [0, 1] rfl ?_
            exact Lk.stop ⟨rfl, rfl, rfl, rfl, rfl, rfl⟩
          · replace h := x_ifp hc h
            refine lk_aload_n d_Mo_search_26 rfl ?_
            refine lk_getI (k := 15) d_Mo_search_27 ha1 (by decide) rfl (by decide) lf_Mo_163 rfl ?_
            refine lk_if_ne (tgt := 37) d_Mo_search_30 (by decide) (fun hc => ?_) (fun hc => ?_)
            · replace h := x_ifn hc h
              refine lk_iconst (v := 0) d_Mo_search_37 rfl ?_
              cases h
              refine Lk.sel [0, 1] rfl ?_
              exact Lk.stop ⟨rfl, rfl, rfl, rfl, rfl, rfl⟩
            · replace h := x_ifp hc h
              refine lk_iconst (v := 2) d_Mo_search_33 rfl ?_
              refine lk_goto (tgt := 38) d_Mo_search_34 (by decide) ?_
              cases h
              refine Lk.sel [0, 1] rfl ?_
              exact Lk.stop ⟨rfl, rfl, rfl, rfl, rfl, rfl⟩
      · replace h := x_ifn hc h
        refine lk_iconst (v := 1) d_Mo_search_10 rfl ?_
        refine lk_goto (tgt := 38) d_Mo_search_11 (by decide) ?_
        cases h
        refine Lk.sel [0, 1] rfl ?_
        exact Lk.stop ⟨rfl, rfl, rfl, rfl, rfl, rfl⟩
  · clear hj
    obtain ⟨a3, ha3, h⟩ := x_b h
    replace h := x_nm h
    refine lk_putI (k := 0) d_Mo_search_38 ha3 (by decide) rfl (by decide) lf_Mo_102 rfl rfl ?_
    refine lk_aload_n d_Mo_search_41 rfl ?_
    refine lk_getI (k := 0) d_Mo_search_42 ha3 (by decide) rfl (by decide) lf_Mo_102 rfl ?_
    refine lk_if_le (tgt := 50) d_Mo_search_45 (by decide) (fun hc => ?_) (fun hc => ?_)
    · replace h := x_ifp hc h
      refine lk_aload_n d_Mo_search_50 rfl ?_
      refine lk_iload_n d_Mo_search_51 rfl ?_
      refine lk_iconst (v := 4) d_Mo_search_52 rfl ?_
      obtain ⟨t5, hj, h⟩ := x_b h
      refine Lk.joinA 93 [0] [] rfl 2 [vI t5] ?_ ?_
      · replace h := hj
        refine lk_icmp_ge (tgt := 60) d_Mo_search_53 (by decide) (fun hc => ?_) (fun hc => ?_)
        · replace h := x_ifp hc h
          refine lk_aload_n d_Mo_search_60 rfl ?_
          refine lk_getI (k := 15) d_Mo_search_61 ha3 (by decide) rfl (by decide) lf_Mo_163 rfl ?_
          refine lk_if_eq (tgt := 71) d_Mo_search_64 (by decide) (fun hc => ?_) (fun hc => ?_)
          · replace h := x_ifp hc h
            refine lk_aload_n d_Mo_search_71 rfl ?_
            refine lk_getI (k := 6) d_Mo_search_72 ha3 (by decide) rfl (by decide) lf_Mo_148 rfl ?_
            refine lk_aload_n d_Mo_search_75 rfl ?_
            refine lk_getI (k := 4) d_Mo_search_76 ha3 (by decide) rfl (by decide) lf_Mo_172 rfl ?_
            refine lk_iconst (v := 1) d_Mo_search_79 rfl ?_
            refine lk_iadd d_Mo_search_80 ?_
            refine lk_imul d_Mo_search_81 ?_
            refine lk_sipush (v := 128) d_Mo_search_82 rfl ?_
            refine lk_icmp_gt (tgt := 92) d_Mo_search_85 (by decide) (fun hc => ?_) (fun hc => ?_)
            · replace h := x_ifp hc h
              refine lk_iconst (v := 2) d_Mo_search_92 rfl ?_
              cases h
              refine Lk.sel [0] rfl ?_
              exact Lk.stop ⟨rfl, rfl, rfl, rfl, rfl, rfl⟩
            · replace h := x_ifn hc h
              refine lk_iconst (v := 1) d_Mo_search_88 rfl ?_
              refine lk_goto (tgt := 93) d_Mo_search_89 (by decide) ?_
              cases h
              refine Lk.sel [0] rfl ?_
              exact Lk.stop ⟨rfl, rfl, rfl, rfl, rfl, rfl⟩
          · replace h := x_ifn hc h
            refine lk_iconst (v := 3) d_Mo_search_67 rfl ?_
            refine lk_goto (tgt := 93) d_Mo_search_68 (by decide) ?_
            cases h
            refine Lk.sel [0] rfl ?_
            exact Lk.stop ⟨rfl, rfl, rfl, rfl, rfl, rfl⟩
        · replace h := x_ifn hc h
          refine lk_iload_n d_Mo_search_56 rfl ?_
          refine lk_goto (tgt := 93) d_Mo_search_57 (by decide) ?_
          cases h
          refine Lk.sel [0] rfl ?_
          exact Lk.stop ⟨rfl, rfl, rfl, rfl, rfl, rfl⟩
      · clear hj
        replace h := x_nm h
        refine lk_putI (k := 37) d_Mo_search_93 ha3 (by decide) rfl (by decide) lf_Mo_77 rfl rfl ?_
        refine lk_aload_n d_Mo_search_96 rfl ?_
        refine lk_iconst (v := 0) d_Mo_search_97 rfl ?_
        replace h := x_nm h
        refine lk_putI (k := 36) d_Mo_search_98 ha3 (by decide) rfl (by decide) lf_Mo_189 rfl rfl ?_
        refine lk_aload_n d_Mo_search_101 rfl ?_
        refine lk_getI (k := 37) d_Mo_search_102 ha3 (by decide) rfl (by decide) lf_Mo_77 rfl ?_
        obtain ⟨t12, hj, h⟩ := x_b h
        refine Lk.joinS 159 [0] [] rfl 1 [] t12 ?_ ?_
        · replace h := hj
          rcases x_ifc h with ⟨g0, h⟩ | ⟨g0, h⟩
          · refine lk_tableIn (tgt := 132) d_Mo_search_105 (by rw [g0]; decide) (by rw [g0]; decide) (by rw [g0]; rfl) (by decide) ?_
            refine lk_aload_n d_Mo_search_132 rfl ?_
            refine lk_iconst (v := 0) d_Mo_search_133 rfl ?_
            refine lk_iconst (v := 0) d_Mo_search_134 rfl ?_
            obtain ⟨p8, hp8, h⟩ := x_b h
            refine lk_callV0 d_Mo_search_135 (x_obm ha3 rfl) (c_Mo_runLists hp8) (Nat.le_of_ble_eq_true rfl) rfl M_Mo_runLists lm_Mo_251 in_Mo_runLists se_Mo_runLists (by decide) rfl (Nat.le_of_ble_eq_true rfl) ?_
            refine lk_goto (tgt := 159) d_Mo_search_138 (by decide) ?_
            cases h
            refine Lk.sel [0] rfl ?_
            exact Lk.stop ⟨rfl, rfl, rfl, rfl, rfl, rfl⟩
          · rcases x_ifc h with ⟨g1, h⟩ | ⟨g1, h⟩
            · refine lk_tableIn (tgt := 141) d_Mo_search_105 (by rw [g1]; decide) (by rw [g1]; decide) (by rw [g1]; rfl) (by decide) ?_
              refine lk_aload_n d_Mo_search_141 rfl ?_
              obtain ⟨p9, hp9, h⟩ := x_b h
              refine lk_callV0 d_Mo_search_142 (x_obm ha3 rfl) (c_Mo_runMarks hp9) (Nat.le_of_ble_eq_true rfl) rfl M_Mo_runMarks lm_Mo_254 in_Mo_runMarks se_Mo_runMarks (by decide) rfl (Nat.le_of_ble_eq_true rfl) ?_
              refine lk_goto (tgt := 159) d_Mo_search_145 (by decide) ?_
              cases h
              refine Lk.sel [0] rfl ?_
              exact Lk.stop ⟨rfl, rfl, rfl, rfl, rfl, rfl⟩
            · rcases x_ifc h with ⟨g2, h⟩ | ⟨g2, h⟩
              · refine lk_tableIn (tgt := 148) d_Mo_search_105 (by rw [g2]; decide) (by rw [g2]; decide) (by rw [g2]; rfl) (by decide) ?_
                refine lk_aload_n d_Mo_search_148 rfl ?_
                obtain ⟨p10, hp10, h⟩ := x_b h
                refine lk_callV0 d_Mo_search_149 (x_obm ha3 rfl) (c_Mo_runStates hp10) (Nat.le_of_ble_eq_true rfl) rfl M_Mo_runStates lm_Mo_257 in_Mo_runStates se_Mo_runStates (by decide) rfl (Nat.le_of_ble_eq_true rfl) ?_
                refine lk_goto (tgt := 159) d_Mo_search_152 (by decide) ?_
                cases h
                refine Lk.sel [0] rfl ?_
                exact Lk.stop ⟨rfl, rfl, rfl, rfl, rfl, rfl⟩
              · have e0 := lv_neT g0 (a := 0) rfl
                have e1 := lv_neT g1 (a := 1) rfl
                have e2 := lv_neT g2 (a := 2) rfl
                refine lk_tableOut (tgt := 155) d_Mo_search_105 (by omega) (by decide) ?_
                refine lk_aload_n d_Mo_search_155 rfl ?_
                obtain ⟨p11, hp11, h⟩ := x_b h
                refine lk_callV0 d_Mo_search_156 (x_obm ha3 rfl) (c_Mo_runSingle hp11) (Nat.le_of_ble_eq_true rfl) rfl M_Mo_runSingle lm_Mo_260 in_Mo_runSingle se_Mo_runSingle (by decide) rfl (Nat.le_of_ble_eq_true rfl) ?_
                cases h
                refine Lk.sel [0] rfl ?_
                exact Lk.stop ⟨rfl, rfl, rfl, rfl, rfl, rfl⟩
        · clear hj
          refine lk_aload_n d_Mo_search_159 rfl ?_
          refine lk_aload_n d_Mo_search_160 rfl ?_
          obtain ⟨a13, ha13, h⟩ := x_b h
          refine lk_getI (k := 36) d_Mo_search_161 ha13 (by decide) rfl (by decide) lf_Mo_189 rfl ?_
          replace h := x_nm h
          refine lk_putI (k := 38) d_Mo_search_164 ha13 (by decide) rfl (by decide) lf_Mo_81 rfl rfl ?_
          refine lk_aload_n d_Mo_search_167 rfl ?_
          refine lk_getI (k := 39) d_Mo_search_168 ha13 (by decide) rfl (by decide) lf_Mo_105 rfl ?_
          obtain ⟨t17, hj, h⟩ := x_b h
          refine Lk.joinA 184 [] [] rfl 1 [vI t17] ?_ ?_
          · replace h := hj
            refine lk_if_eq (tgt := 183) d_Mo_search_171 (by decide) (fun hc => ?_) (fun hc => ?_)
            · replace h := x_ifp hc h
              refine lk_iconst (v := (-1)) d_Mo_search_183 rfl ?_
              cases h
              refine Lk.sel [] rfl ?_
              exact Lk.stop ⟨rfl, rfl, rfl, rfl, rfl, rfl⟩
            · replace h := x_ifn hc h
              refine lk_aload_n d_Mo_search_174 rfl ?_
              refine lk_getR (k := 40) d_Mo_search_175 ha13 (by decide) rfl (by decide) lf_Mo_84 rfl ?_
              refine lk_iconst (v := 0) d_Mo_search_178 rfl ?_
              obtain ⟨q15, hq15, h⟩ := x_b h
              obtain ⟨k16, hk16, h⟩ := x_b h
              refine lk_iald d_Mo_search_179 hq15 hk16 ?_
              refine lk_goto (tgt := 184) d_Mo_search_180 (by decide) ?_
              cases h
              refine Lk.sel [] rfl ?_
              exact Lk.stop ⟨rfl, rfl, rfl, rfl, rfl, rfl⟩
          · clear hj
            cases h
            exact Lk.stop ⟨rfl, Or.inr (Or.inl ⟨_, _, d_Mo_search_184, rfl, rfl, rfl, rfl⟩)⟩
    · replace h := x_ifn hc h
      refine lk_iconst (v := 0) d_Mo_search_48 rfl ?_
      cases h
      exact Lk.stop ⟨rfl, Or.inr (Or.inl ⟨_, _, d_Mo_search_49, rfl, rfl, rfl, rfl⟩)⟩
def f_Mo_slot (z0 : Nat) (x1 : Int32) (x2 : Int32) (s : hv_S) : Option (Int32 × hv_S) :=
  ((
    if x1 < 0 then
      some 1
    else
      if x1 ≤ 3 then
        some 0
      else
        some 1
  ) : Option (Int32)).bind fun t1 =>
  (x_ob s 11 ((some z0))).bind fun a2 =>
  (some (hv_setI s a2 0 t1)).bind fun s3 =>
  if (hv_I s3 a2 0) ≤ 0 then
    ((
      if (hv_I s3 a2 39) = 0 then
        some ((-1))
      else
        ((
          if x2 = 0 then
            some 0
          else
            some 1
        ) : Option (Int32)).bind fun t4 =>
        (x_ar s3 0 (hv_R s3 a2 40)).bind fun q5 =>
        (x_ix q5.2 (((2 : Int32) * x1) + t4)).bind fun k6 =>
        some (hv_I s3 q5.1 k6)
    ) : Option (Int32)).bind fun t7 =>
    some ((t7, s3))
  else
    some ((0, s3))
set_option maxRecDepth 4000 in
set_option maxHeartbeats 2000000 in
theorem c_Mo_slot {G : lt_G} {z0 : Nat} {x1 : Int32} {x2 : Int32} {s : hv_S} {p : Int32 × hv_S} (h : f_Mo_slot z0 x1 x2 s = some p) : Ck G m_Mo_slot 1 0 0 [vR (some z0), vI x1, vI x2] s (some (vI p.1)) p.2 := by
  refine Ck.of (by decide) (Nat.le_of_ble_eq_true rfl) ?_
  unfold f_Mo_slot at h
  refine lk_aload_n d_Mo_slot_0 rfl ?_
  refine lk_iload_n d_Mo_slot_1 rfl ?_
  obtain ⟨t1, hj, h⟩ := x_b h
  refine Lk.joinA 15 [0, 1, 2] [] rfl 1 [vI t1] ?_ ?_
  · replace h := hj
    refine lk_if_lt (tgt := 10) d_Mo_slot_2 (by decide) (fun hc => ?_) (fun hc => ?_)
    · replace h := x_ifp hc h
      refine lk_iconst (v := 1) d_Mo_slot_10 rfl ?_
      refine lk_goto (tgt := 15) d_Mo_slot_11 (by decide) ?_
      cases h
      refine Lk.sel [0, 1, 2] rfl ?_
      exact Lk.stop ⟨rfl, rfl, rfl, rfl, rfl, rfl⟩
    · replace h := x_ifn hc h
      refine lk_iload_n d_Mo_slot_5 rfl ?_
      refine lk_iconst (v := 3) d_Mo_slot_6 rfl ?_
      refine lk_icmp_le (tgt := 14) d_Mo_slot_7 (by decide) (fun hc => ?_) (fun hc => ?_)
      · replace h := x_ifp hc h
        refine lk_iconst (v := 0) d_Mo_slot_14 rfl ?_
        cases h
        refine Lk.sel [0, 1, 2] rfl ?_
        exact Lk.stop ⟨rfl, rfl, rfl, rfl, rfl, rfl⟩
      · replace h := x_ifn hc h
        refine lk_iconst (v := 1) d_Mo_slot_10 rfl ?_
        refine lk_goto (tgt := 15) d_Mo_slot_11 (by decide) ?_
        cases h
        refine Lk.sel [0, 1, 2] rfl ?_
        exact Lk.stop ⟨rfl, rfl, rfl, rfl, rfl, rfl⟩
  · clear hj
    obtain ⟨a2, ha2, h⟩ := x_b h
    replace h := x_nm h
    refine lk_putI (k := 0) d_Mo_slot_15 ha2 (by decide) rfl (by decide) lf_Mo_102 rfl rfl ?_
    refine lk_aload_n d_Mo_slot_18 rfl ?_
    refine lk_getI (k := 0) d_Mo_slot_19 ha2 (by decide) rfl (by decide) lf_Mo_102 rfl ?_
    refine lk_if_le (tgt := 27) d_Mo_slot_22 (by decide) (fun hc => ?_) (fun hc => ?_)
    · replace h := x_ifp hc h
      refine lk_aload_n d_Mo_slot_27 rfl ?_
      refine lk_getI (k := 39) d_Mo_slot_28 ha2 (by decide) rfl (by decide) lf_Mo_105 rfl ?_
      obtain ⟨t7, hj, h⟩ := x_b h
      refine Lk.joinA 56 [] [] rfl 1 [vI t7] ?_ ?_
      · replace h := hj
        refine lk_if_eq (tgt := 55) d_Mo_slot_31 (by decide) (fun hc => ?_) (fun hc => ?_)
        · replace h := x_ifp hc h
          refine lk_iconst (v := (-1)) d_Mo_slot_55 rfl ?_
          cases h
          refine Lk.sel [] rfl ?_
          exact Lk.stop ⟨rfl, rfl, rfl, rfl, rfl, rfl⟩
        · replace h := x_ifn hc h
          refine lk_aload_n d_Mo_slot_34 rfl ?_
          refine lk_getR (k := 40) d_Mo_slot_35 ha2 (by decide) rfl (by decide) lf_Mo_84 rfl ?_
          refine lk_iconst (v := 2) d_Mo_slot_38 rfl ?_
          refine lk_iload_n d_Mo_slot_39 rfl ?_
          refine lk_imul d_Mo_slot_40 ?_
          refine lk_iload_n d_Mo_slot_41 rfl ?_
          obtain ⟨t4, hj, h⟩ := x_b h
          refine Lk.joinA 50 [] [] rfl 1 [vI t4] ?_ ?_
          · replace h := hj
            refine lk_if_eq (tgt := 49) d_Mo_slot_42 (by decide) (fun hc => ?_) (fun hc => ?_)
            · replace h := x_ifp hc h
              refine lk_iconst (v := 0) d_Mo_slot_49 rfl ?_
              cases h
              refine Lk.sel [] rfl ?_
              exact Lk.stop ⟨rfl, rfl, rfl, rfl, rfl, rfl⟩
            · replace h := x_ifn hc h
              refine lk_iconst (v := 1) d_Mo_slot_45 rfl ?_
              refine lk_goto (tgt := 50) d_Mo_slot_46 (by decide) ?_
              cases h
              refine Lk.sel [] rfl ?_
              exact Lk.stop ⟨rfl, rfl, rfl, rfl, rfl, rfl⟩
          · clear hj
            refine lk_iadd d_Mo_slot_50 ?_
            obtain ⟨q5, hq5, h⟩ := x_b h
            obtain ⟨k6, hk6, h⟩ := x_b h
            refine lk_iald d_Mo_slot_51 hq5 hk6 ?_
            refine lk_goto (tgt := 56) d_Mo_slot_52 (by decide) ?_
            cases h
            refine Lk.sel [] rfl ?_
            exact Lk.stop ⟨rfl, rfl, rfl, rfl, rfl, rfl⟩
      · clear hj
        cases h
        exact Lk.stop ⟨rfl, Or.inr (Or.inl ⟨_, _, d_Mo_slot_56, rfl, rfl, rfl, rfl⟩)⟩
    · replace h := x_ifn hc h
      refine lk_iconst (v := 0) d_Mo_slot_25 rfl ?_
      cases h
      exact Lk.stop ⟨rfl, Or.inr (Or.inl ⟨_, _, d_Mo_slot_26, rfl, rfl, rfl, rfl⟩)⟩
def f_Mo_work (z0 : Nat) (s : hv_S) : Option (Int32 × hv_S) :=
  (x_ob s 11 ((some z0))).bind fun a1 =>
  (some (hv_setI s a1 0 0)).bind fun s2 =>
  some ((hv_I s2 a1 38, s2))
set_option maxRecDepth 4000 in
set_option maxHeartbeats 2000000 in
theorem c_Mo_work {G : lt_G} {z0 : Nat} {s : hv_S} {p : Int32 × hv_S} (h : f_Mo_work z0 s = some p) : Ck G m_Mo_work 1 0 0 [vR (some z0)] s (some (vI p.1)) p.2 := by
  refine Ck.of (by decide) (Nat.le_of_ble_eq_true rfl) ?_
  unfold f_Mo_work at h
  refine lk_aload_n d_Mo_work_0 rfl ?_
  refine lk_iconst (v := 0) d_Mo_work_1 rfl ?_
  obtain ⟨a1, ha1, h⟩ := x_b h
  replace h := x_nm h
  refine lk_putI (k := 0) d_Mo_work_2 ha1 (by decide) rfl (by decide) lf_Mo_102 rfl rfl ?_
  refine lk_aload_n d_Mo_work_5 rfl ?_
  refine lk_getI (k := 38) d_Mo_work_6 ha1 (by decide) rfl (by decide) lf_Mo_81 rfl ?_
  cases h
  exact Lk.stop ⟨rfl, Or.inr (Or.inl ⟨_, _, d_Mo_work_9, rfl, rfl, rfl, rfl⟩)⟩
def f_Mo_matcher (z0 : Nat) (s : hv_S) : Option (Int32 × hv_S) :=
  (x_ob s 11 ((some z0))).bind fun a1 =>
  (some (hv_setI s a1 0 0)).bind fun s2 =>
  some ((hv_I s2 a1 37, s2))
set_option maxRecDepth 4000 in
set_option maxHeartbeats 2000000 in
theorem c_Mo_matcher {G : lt_G} {z0 : Nat} {s : hv_S} {p : Int32 × hv_S} (h : f_Mo_matcher z0 s = some p) : Ck G m_Mo_matcher 1 0 0 [vR (some z0)] s (some (vI p.1)) p.2 := by
  refine Ck.of (by decide) (Nat.le_of_ble_eq_true rfl) ?_
  unfold f_Mo_matcher at h
  refine lk_aload_n d_Mo_matcher_0 rfl ?_
  refine lk_iconst (v := 0) d_Mo_matcher_1 rfl ?_
  obtain ⟨a1, ha1, h⟩ := x_b h
  replace h := x_nm h
  refine lk_putI (k := 0) d_Mo_matcher_2 ha1 (by decide) rfl (by decide) lf_Mo_102 rfl rfl ?_
  refine lk_aload_n d_Mo_matcher_5 rfl ?_
  refine lk_getI (k := 37) d_Mo_matcher_6 ha1 (by decide) rfl (by decide) lf_Mo_77 rfl ?_
  cases h
  exact Lk.stop ⟨rfl, Or.inr (Or.inl ⟨_, _, d_Mo_matcher_9, rfl, rfl, rfl, rfl⟩)⟩
def f_Mo_states (z0 : Nat) (s : hv_S) : Option (Int32 × hv_S) :=
  (x_ob s 11 ((some z0))).bind fun a1 =>
  (some (hv_setI s a1 0 0)).bind fun s2 =>
  some ((hv_I s2 a1 27, s2))
set_option maxRecDepth 4000 in
set_option maxHeartbeats 2000000 in
theorem c_Mo_states {G : lt_G} {z0 : Nat} {s : hv_S} {p : Int32 × hv_S} (h : f_Mo_states z0 s = some p) : Ck G m_Mo_states 1 0 0 [vR (some z0)] s (some (vI p.1)) p.2 := by
  refine Ck.of (by decide) (Nat.le_of_ble_eq_true rfl) ?_
  unfold f_Mo_states at h
  refine lk_aload_n d_Mo_states_0 rfl ?_
  refine lk_iconst (v := 0) d_Mo_states_1 rfl ?_
  obtain ⟨a1, ha1, h⟩ := x_b h
  replace h := x_nm h
  refine lk_putI (k := 0) d_Mo_states_2 ha1 (by decide) rfl (by decide) lf_Mo_102 rfl rfl ?_
  refine lk_aload_n d_Mo_states_5 rfl ?_
  refine lk_getI (k := 27) d_Mo_states_6 ha1 (by decide) rfl (by decide) lf_Mo_151 rfl ?_
  cases h
  exact Lk.stop ⟨rfl, Or.inr (Or.inl ⟨_, _, d_Mo_states_9, rfl, rfl, rfl, rfl⟩)⟩
def f_Mo_flushes (z0 : Nat) (s : hv_S) : Option (Int32 × hv_S) :=
  (x_ob s 11 ((some z0))).bind fun a1 =>
  (some (hv_setI s a1 0 0)).bind fun s2 =>
  some ((hv_I s2 a1 28, s2))
set_option maxRecDepth 4000 in
set_option maxHeartbeats 2000000 in
theorem c_Mo_flushes {G : lt_G} {z0 : Nat} {s : hv_S} {p : Int32 × hv_S} (h : f_Mo_flushes z0 s = some p) : Ck G m_Mo_flushes 1 0 0 [vR (some z0)] s (some (vI p.1)) p.2 := by
  refine Ck.of (by decide) (Nat.le_of_ble_eq_true rfl) ?_
  unfold f_Mo_flushes at h
  refine lk_aload_n d_Mo_flushes_0 rfl ?_
  refine lk_iconst (v := 0) d_Mo_flushes_1 rfl ?_
  obtain ⟨a1, ha1, h⟩ := x_b h
  replace h := x_nm h
  refine lk_putI (k := 0) d_Mo_flushes_2 ha1 (by decide) rfl (by decide) lf_Mo_102 rfl rfl ?_
  refine lk_aload_n d_Mo_flushes_5 rfl ?_
  refine lk_getI (k := 28) d_Mo_flushes_6 ha1 (by decide) rfl (by decide) lf_Mo_154 rfl ?_
  cases h
  exact Lk.stop ⟨rfl, Or.inr (Or.inl ⟨_, _, d_Mo_flushes_9, rfl, rfl, rfl, rfl⟩)⟩
def L_Mo_breaks_179 : Nat → Option Nat → Int32 → Int32 → hv_S → Option (hv_S)
  | 0, _, _, _, _ => none
  | n + 1, x0, x2, x5, s =>
    if 8 ≤ x5 then
      some s
    else
      (x_ob s 11 x0).bind fun a30 =>
      (x_ar s 0 (hv_R s a30 44)).bind fun q31 =>
      (x_ix q31.2 x5).bind fun k32 =>
      (x_ar s 0 (hv_R s a30 40)).bind fun q33 =>
      (x_ix q33.2 x5).bind fun k34 =>
      (some (hv_setI s q33.1 k34 (hv_I s q31.1 k32))).bind fun s35 =>
      L_Mo_breaks_179 n x0 x2 (x5 + 1) s35
set_option maxRecDepth 4000 in
set_option maxHeartbeats 2000000 in
theorem l_Mo_breaks_179 {G : lt_G} : ∀ (n : Nat) (x0 : Option Nat) (x2 : Int32) (x5 : Int32) (s : hv_S) (e0 : hv_S), L_Mo_breaks_179 n x0 x2 x5 s = some e0 → Lk G m_Mo_breaks 6 179 [(0, vR x0), (2, vI x2), (5, vI x5)] [] s 0 0 (lk_at 206 [(2, vI x2)] [] e0 0 0) := by
  intro n
  induction n with
  | zero => intro x0 x2 x5 s e0 h; cases h
  | succ n ih =>
    intro x0 x2 x5 s e0 h
    unfold L_Mo_breaks_179 at h
    refine lk_iload d_Mo_breaks_179 rfl ?_
    refine lk_bipush (v := 8) d_Mo_breaks_181 rfl ?_
    refine lk_icmp_ge (tgt := 206) d_Mo_breaks_183 (by decide) (fun hc => ?_) (fun hc => ?_)
    · replace h := x_ifp hc h
      cases h
      refine Lk.sel [2] rfl ?_
      exact Lk.stop ⟨rfl, rfl, rfl, rfl, rfl, rfl⟩
    · replace h := x_ifn hc h
      refine lk_aload_n d_Mo_breaks_186 rfl ?_
      obtain ⟨a30, ha30, h⟩ := x_b h
      refine lk_getR (k := 40) d_Mo_breaks_187 ha30 (by decide) rfl (by decide) lf_Mo_84 rfl ?_
      refine lk_iload d_Mo_breaks_190 rfl ?_
      refine lk_aload_n d_Mo_breaks_192 rfl ?_
      refine lk_getR (k := 44) d_Mo_breaks_193 ha30 (by decide) rfl (by decide) lf_Mo_96 rfl ?_
      refine lk_iload d_Mo_breaks_196 rfl ?_
      obtain ⟨q31, hq31, h⟩ := x_b h
      obtain ⟨k32, hk32, h⟩ := x_b h
      refine lk_iald d_Mo_breaks_198 hq31 hk32 ?_
      obtain ⟨q33, hq33, h⟩ := x_b h
      obtain ⟨k34, hk34, h⟩ := x_b h
      replace h := x_nm h
      refine lk_iast d_Mo_breaks_199 hq33 hk34 ?_
      refine lk_iinc (v := _ + 1) d_Mo_breaks_200 rfl rfl (by decide) rfl ?_
      refine lk_goto (tgt := 179) d_Mo_breaks_203 (by decide) ?_
      refine Lk.sel [0, 2, 5] rfl ?_
      exact ih _ _ _ _ _ h
def L_Mo_breaks_63 : Nat → Option Nat → Int32 → Int32 → Int32 → Int32 → hv_S → Option (Int32 × hv_S)
  | 0, _, _, _, _, _, _ => none
  | n + 1, x0, x1, x2, x3, x4, s =>
    (x_ob s 11 x0).bind fun a11 =>
    if (hv_I s a11 4) < x4 then
      some (x2, s)
    else
      (f_Mo_runLists a11 x4 0 s).bind fun p12 =>
      (x_ob p12 11 x0).bind fun a13 =>
      if (hv_I p12 a13 39) = 0 then
        (some ((hv_I p12 a13 4) + (1 : Int32))).bind fun y25 =>
        L_Mo_breaks_63 n x0 x1 x2 x3 y25 p12
      else
        (x_ar p12 0 (hv_R p12 a13 40)).bind fun q14 =>
        (x_ix q14.2 0).bind fun k15 =>
        (x_ix q14.2 1).bind fun k16 =>
        ((
          if (hv_I p12 q14.1 k15) = (hv_I p12 q14.1 k16) then
            some 1
          else
            some 0
        ) : Option (Int32)).bind fun t17 =>
        ((
          if t17 = 0 then
            some 1
          else
            (x_ix q14.2 0).bind fun k18 =>
            if (hv_I p12 q14.1 k18) = x3 then
              some 0
            else
              some 1
        ) : Option (Int32)).bind fun t19 =>
        (x_ix q14.2 1).bind fun k20 =>
        (some (hv_I p12 q14.1 k20)).bind fun y21 =>
        (x_ix q14.2 1).bind fun k22 =>
        ((
          if t17 = 0 then
            some 0
          else
            some 1
        ) : Option (Int32)).bind fun t23 =>
        (some ((hv_I p12 q14.1 k22) + t23)).bind fun y24 =>
        L_Mo_breaks_63 n x0 x1 (x2 + t19) y21 y24 p12
set_option maxRecDepth 4000 in
set_option maxHeartbeats 2000000 in
theorem l_Mo_breaks_63 {G : lt_G} : ∀ (n : Nat) (x0 : Option Nat) (x1 : Int32) (x2 : Int32) (x3 : Int32) (x4 : Int32) (s : hv_S) (e0 : Int32 × hv_S), L_Mo_breaks_63 n x0 x1 x2 x3 x4 s = some e0 → Lk G m_Mo_breaks 6 63 [(0, vR x0), (1, vI x1), (2, vI x2), (3, vI x3), (4, vI x4)] [] s 0 0 (lk_at 171 [(0, vR x0), (1, vI x1), (2, vI e0.1)] [] e0.2 0 0) := by
  intro n
  induction n with
  | zero => intro x0 x1 x2 x3 x4 s e0 h; cases h
  | succ n ih =>
    intro x0 x1 x2 x3 x4 s e0 h
    unfold L_Mo_breaks_63 at h
    refine lk_iload d_Mo_breaks_63 rfl ?_
    refine lk_aload_n d_Mo_breaks_65 rfl ?_
    obtain ⟨a11, ha11, h⟩ := x_b h
    refine lk_getI (k := 4) d_Mo_breaks_66 ha11 (by decide) rfl (by decide) lf_Mo_172 rfl ?_
    refine lk_icmp_gt (tgt := 171) d_Mo_breaks_69 (by decide) (fun hc => ?_) (fun hc => ?_)
    · replace h := x_ifp hc h
      cases h
      refine Lk.sel [0, 1, 2] rfl ?_
      exact Lk.stop ⟨rfl, rfl, rfl, rfl, rfl, rfl⟩
    · replace h := x_ifn hc h
      refine lk_aload_n d_Mo_breaks_72 rfl ?_
      refine lk_iload d_Mo_breaks_73 rfl ?_
      refine lk_iconst (v := 0) d_Mo_breaks_75 rfl ?_
      obtain ⟨p12, hp12, h⟩ := x_b h
      refine lk_callV0 d_Mo_breaks_76 (x_obm ha11 rfl) (c_Mo_runLists hp12) (Nat.le_of_ble_eq_true rfl) rfl M_Mo_runLists lm_Mo_251 in_Mo_runLists se_Mo_runLists (by decide) rfl (Nat.le_of_ble_eq_true rfl) ?_
      refine lk_aload_n d_Mo_breaks_79 rfl ?_
      obtain ⟨a13, ha13, h⟩ := x_b h
      refine lk_getI (k := 39) d_Mo_breaks_80 ha13 (by decide) rfl (by decide) lf_Mo_105 rfl ?_
      refine lk_if_ne (tgt := 97) d_Mo_breaks_83 (by decide) (fun hc => ?_) (fun hc => ?_)
      · replace h := x_ifn hc h
        refine lk_aload_n d_Mo_breaks_97 rfl ?_
        refine lk_getR (k := 40) d_Mo_breaks_98 ha13 (by decide) rfl (by decide) lf_Mo_84 rfl ?_
        refine lk_iconst (v := 0) d_Mo_breaks_101 rfl ?_
        obtain ⟨q14, hq14, h⟩ := x_b h
        obtain ⟨k15, hk15, h⟩ := x_b h
        refine lk_iald d_Mo_breaks_102 hq14 hk15 ?_
        refine lk_aload_n d_Mo_breaks_103 rfl ?_
        refine lk_getR (k := 40) d_Mo_breaks_104 ha13 (by decide) rfl (by decide) lf_Mo_84 rfl ?_
        refine lk_iconst (v := 1) d_Mo_breaks_107 rfl ?_
        obtain ⟨k16, hk16, h⟩ := x_b h
        refine lk_iald d_Mo_breaks_108 hq14 hk16 ?_
        obtain ⟨t17, hj, h⟩ := x_b h
        refine Lk.joinA 117 [0, 1, 2, 3] [] rfl 2 [vI t17] ?_ ?_
        · replace h := hj
          refine lk_icmp_ne (tgt := 116) d_Mo_breaks_109 (by decide) (fun hc => ?_) (fun hc => ?_)
          · replace h := x_ifn hc h
            refine lk_iconst (v := 0) d_Mo_breaks_116 rfl ?_
            cases h
            refine Lk.sel [0, 1, 2, 3] rfl ?_
            exact Lk.stop ⟨rfl, rfl, rfl, rfl, rfl, rfl⟩
          · replace h := x_ifp hc h
            refine lk_iconst (v := 1) d_Mo_breaks_112 rfl ?_
            refine lk_goto (tgt := 117) d_Mo_breaks_113 (by decide) ?_
            cases h
            refine Lk.sel [0, 1, 2, 3] rfl ?_
            exact Lk.stop ⟨rfl, rfl, rfl, rfl, rfl, rfl⟩
        · clear hj
          refine lk_istore d_Mo_breaks_117 (by decide) rfl ?_
          refine lk_iload_n d_Mo_breaks_119 rfl ?_
          refine lk_iload d_Mo_breaks_120 rfl ?_
          obtain ⟨t19, hj, h⟩ := x_b h
          refine Lk.joinA 140 [0, 1, 5] [] rfl 1 [vI t19] ?_ ?_
          · replace h := hj
            refine lk_if_eq (tgt := 139) d_Mo_breaks_122 (by decide) (fun hc => ?_) (fun hc => ?_)
            · replace h := x_ifp hc h
              refine lk_iconst (v := 1) d_Mo_breaks_139 rfl ?_
              cases h
              refine Lk.sel [0, 1, 5] rfl ?_
              exact Lk.stop ⟨rfl, rfl, rfl, rfl, rfl, rfl⟩
            · replace h := x_ifn hc h
              refine lk_aload_n d_Mo_breaks_125 rfl ?_
              refine lk_getR (k := 40) d_Mo_breaks_126 ha13 (by decide) rfl (by decide) lf_Mo_84 rfl ?_
              refine lk_iconst (v := 0) d_Mo_breaks_129 rfl ?_
              obtain ⟨k18, hk18, h⟩ := x_b h
              refine lk_iald d_Mo_breaks_130 hq14 hk18 ?_
              refine lk_iload_n d_Mo_breaks_131 rfl ?_
              refine lk_icmp_ne (tgt := 139) d_Mo_breaks_132 (by decide) (fun hc => ?_) (fun hc => ?_)
              · replace h := x_ifn hc h
                refine lk_iconst (v := 1) d_Mo_breaks_139 rfl ?_
                cases h
                refine Lk.sel [0, 1, 5] rfl ?_
                exact Lk.stop ⟨rfl, rfl, rfl, rfl, rfl, rfl⟩
              · replace h := x_ifp hc h
                refine lk_iconst (v := 0) d_Mo_breaks_135 rfl ?_
                refine lk_goto (tgt := 140) d_Mo_breaks_136 (by decide) ?_
                cases h
                refine Lk.sel [0, 1, 5] rfl ?_
                exact Lk.stop ⟨rfl, rfl, rfl, rfl, rfl, rfl⟩
          · clear hj
            refine lk_iadd d_Mo_breaks_140 ?_
            refine lk_istore_n d_Mo_breaks_141 (by decide) rfl ?_
            refine lk_aload_n d_Mo_breaks_142 rfl ?_
            refine lk_getR (k := 40) d_Mo_breaks_143 ha13 (by decide) rfl (by decide) lf_Mo_84 rfl ?_
            refine lk_iconst (v := 1) d_Mo_breaks_146 rfl ?_
            obtain ⟨k20, hk20, h⟩ := x_b h
            refine lk_iald d_Mo_breaks_147 hq14 hk20 ?_
            replace h := x_nm h
            refine lk_istore_n d_Mo_breaks_148 (by decide) rfl ?_
            refine lk_aload_n d_Mo_breaks_149 rfl ?_
            refine lk_getR (k := 40) d_Mo_breaks_150 ha13 (by decide) rfl (by decide) lf_Mo_84 rfl ?_
            refine lk_iconst (v := 1) d_Mo_breaks_153 rfl ?_
            obtain ⟨k22, hk22, h⟩ := x_b h
            refine lk_iald d_Mo_breaks_154 hq14 hk22 ?_
            refine lk_iload d_Mo_breaks_155 rfl ?_
            obtain ⟨t23, hj, h⟩ := x_b h
            refine Lk.joinA 165 [0, 1, 2, 3] [] rfl 1 [vI t23] ?_ ?_
            · replace h := hj
              refine lk_if_eq (tgt := 164) d_Mo_breaks_157 (by decide) (fun hc => ?_) (fun hc => ?_)
              · replace h := x_ifp hc h
                refine lk_iconst (v := 0) d_Mo_breaks_164 rfl ?_
                cases h
                refine Lk.sel [0, 1, 2, 3] rfl ?_
                exact Lk.stop ⟨rfl, rfl, rfl, rfl, rfl, rfl⟩
              · replace h := x_ifn hc h
                refine lk_iconst (v := 1) d_Mo_breaks_160 rfl ?_
                refine lk_goto (tgt := 165) d_Mo_breaks_161 (by decide) ?_
                cases h
                refine Lk.sel [0, 1, 2, 3] rfl ?_
                exact Lk.stop ⟨rfl, rfl, rfl, rfl, rfl, rfl⟩
            · clear hj
              refine lk_iadd d_Mo_breaks_165 ?_
              replace h := x_nm h
              refine lk_istore d_Mo_breaks_166 (by decide) rfl ?_
              refine lk_goto (tgt := 63) d_Mo_breaks_168 (by decide) ?_
              refine Lk.sel [0, 1, 2, 3, 4] rfl ?_
              exact ih _ _ _ _ _ _ _ h
      · replace h := x_ifp hc h
        refine lk_aload_n d_Mo_breaks_86 rfl ?_
        refine lk_getI (k := 4) d_Mo_breaks_87 ha13 (by decide) rfl (by decide) lf_Mo_172 rfl ?_
        refine lk_iconst (v := 1) d_Mo_breaks_90 rfl ?_
        refine lk_iadd d_Mo_breaks_91 ?_
        replace h := x_nm h
        refine lk_istore d_Mo_breaks_92 (by decide) rfl ?_
        refine lk_goto (tgt := 63) d_Mo_breaks_94 (by decide) ?_
        refine Lk.sel [0, 1, 2, 3, 4] rfl ?_
        exact ih _ _ _ _ _ _ _ h
def L_Mo_breaks_32 : Nat → Option Nat → Int32 → Int32 → hv_S → Option (hv_S)
  | 0, _, _, _, _ => none
  | n + 1, x0, x1, x2, s =>
    if 8 ≤ x2 then
      some s
    else
      (x_ob s 11 x0).bind fun a4 =>
      (x_ar s 0 (hv_R s a4 40)).bind fun q5 =>
      (x_ix q5.2 x2).bind fun k6 =>
      (x_ar s 0 (hv_R s a4 44)).bind fun q7 =>
      (x_ix q7.2 x2).bind fun k8 =>
      (some (hv_setI s q7.1 k8 (hv_I s q5.1 k6))).bind fun s9 =>
      L_Mo_breaks_32 n x0 x1 (x2 + 1) s9
set_option maxRecDepth 4000 in
set_option maxHeartbeats 2000000 in
theorem l_Mo_breaks_32 {G : lt_G} : ∀ (n : Nat) (x0 : Option Nat) (x1 : Int32) (x2 : Int32) (s : hv_S) (e0 : hv_S), L_Mo_breaks_32 n x0 x1 x2 s = some e0 → Lk G m_Mo_breaks 6 32 [(0, vR x0), (1, vI x1), (2, vI x2)] [] s 0 0 (lk_at 56 [(0, vR x0), (1, vI x1)] [] e0 0 0) := by
  intro n
  induction n with
  | zero => intro x0 x1 x2 s e0 h; cases h
  | succ n ih =>
    intro x0 x1 x2 s e0 h
    unfold L_Mo_breaks_32 at h
    refine lk_iload_n d_Mo_breaks_32 rfl ?_
    refine lk_bipush (v := 8) d_Mo_breaks_33 rfl ?_
    refine lk_icmp_ge (tgt := 56) d_Mo_breaks_35 (by decide) (fun hc => ?_) (fun hc => ?_)
    · replace h := x_ifp hc h
      cases h
      refine Lk.sel [0, 1] rfl ?_
      exact Lk.stop ⟨rfl, rfl, rfl, rfl, rfl, rfl⟩
    · replace h := x_ifn hc h
      refine lk_aload_n d_Mo_breaks_38 rfl ?_
      obtain ⟨a4, ha4, h⟩ := x_b h
      refine lk_getR (k := 44) d_Mo_breaks_39 ha4 (by decide) rfl (by decide) lf_Mo_96 rfl ?_
      refine lk_iload_n d_Mo_breaks_42 rfl ?_
      refine lk_aload_n d_Mo_breaks_43 rfl ?_
      refine lk_getR (k := 40) d_Mo_breaks_44 ha4 (by decide) rfl (by decide) lf_Mo_84 rfl ?_
      refine lk_iload_n d_Mo_breaks_47 rfl ?_
      obtain ⟨q5, hq5, h⟩ := x_b h
      obtain ⟨k6, hk6, h⟩ := x_b h
      refine lk_iald d_Mo_breaks_48 hq5 hk6 ?_
      obtain ⟨q7, hq7, h⟩ := x_b h
      obtain ⟨k8, hk8, h⟩ := x_b h
      replace h := x_nm h
      refine lk_iast d_Mo_breaks_49 hq7 hk8 ?_
      refine lk_iinc (v := _ + 1) d_Mo_breaks_50 rfl rfl (by decide) rfl ?_
      refine lk_goto (tgt := 32) d_Mo_breaks_53 (by decide) ?_
      refine Lk.sel [0, 1, 2] rfl ?_
      exact ih _ _ _ _ _ h
def f_Mo_breaks (z0 : Nat) (s : hv_S) : Option (Int32 × hv_S) :=
  (x_ob s 11 ((some z0))).bind fun a1 =>
  ((
    if (hv_I s a1 6) = 0 then
      some 1
    else
      some 0
  ) : Option (Int32)).bind fun t2 =>
  (some (hv_setI s a1 0 t2)).bind fun s3 =>
  if (hv_I s3 a1 0) ≤ 0 then
    (L_Mo_breaks_32 100000 ((some z0)) (hv_I s3 a1 39) 0 s3).bind fun e10 =>
    (L_Mo_breaks_63 100000 ((some z0)) (hv_I s3 a1 39) 0 ((-1)) 0 e10).bind fun e26 =>
    (x_ob e26.2 11 ((some z0))).bind fun a27 =>
    (x_z (hv_I s3 a1 39)).bind fun z28 =>
    (some (hv_setI e26.2 a27 39 z28)).bind fun s29 =>
    (L_Mo_breaks_179 100000 ((some z0)) e26.1 0 s29).bind fun e36 =>
    some ((e26.1, e36))
  else
    some ((0, s3))
set_option maxRecDepth 4000 in
set_option maxHeartbeats 2000000 in
theorem c_Mo_breaks {G : lt_G} {z0 : Nat} {s : hv_S} {p : Int32 × hv_S} (h : f_Mo_breaks z0 s = some p) : Ck G m_Mo_breaks 6 0 0 [vR (some z0)] s (some (vI p.1)) p.2 := by
  refine Ck.of (by decide) (Nat.le_of_ble_eq_true rfl) ?_
  unfold f_Mo_breaks at h
  refine lk_aload_n d_Mo_breaks_0 rfl ?_
  refine lk_aload_n d_Mo_breaks_1 rfl ?_
  obtain ⟨a1, ha1, h⟩ := x_b h
  refine lk_getI (k := 6) d_Mo_breaks_2 ha1 (by decide) rfl (by decide) lf_Mo_148 rfl ?_
  obtain ⟨t2, hj, h⟩ := x_b h
  refine Lk.joinA 13 [0] [] rfl 1 [vI t2] ?_ ?_
  · replace h := hj
    refine lk_if_ne (tgt := 12) d_Mo_breaks_5 (by decide) (fun hc => ?_) (fun hc => ?_)
    · replace h := x_ifn hc h
      refine lk_iconst (v := 0) d_Mo_breaks_12 rfl ?_
      cases h
      refine Lk.sel [0] rfl ?_
      exact Lk.stop ⟨rfl, rfl, rfl, rfl, rfl, rfl⟩
    · replace h := x_ifp hc h
      refine lk_iconst (v := 1) d_Mo_breaks_8 rfl ?_
      refine lk_goto (tgt := 13) d_Mo_breaks_9 (by decide) ?_
      cases h
      refine Lk.sel [0] rfl ?_
      exact Lk.stop ⟨rfl, rfl, rfl, rfl, rfl, rfl⟩
  · clear hj
    replace h := x_nm h
    refine lk_putI (k := 0) d_Mo_breaks_13 ha1 (by decide) rfl (by decide) lf_Mo_102 rfl rfl ?_
    refine lk_aload_n d_Mo_breaks_16 rfl ?_
    refine lk_getI (k := 0) d_Mo_breaks_17 ha1 (by decide) rfl (by decide) lf_Mo_102 rfl ?_
    refine lk_if_le (tgt := 25) d_Mo_breaks_20 (by decide) (fun hc => ?_) (fun hc => ?_)
    · replace h := x_ifp hc h
      refine lk_aload_n d_Mo_breaks_25 rfl ?_
      refine lk_getI (k := 39) d_Mo_breaks_26 ha1 (by decide) rfl (by decide) lf_Mo_105 rfl ?_
      refine lk_istore_n d_Mo_breaks_29 (by decide) rfl ?_
      refine lk_iconst (v := 0) d_Mo_breaks_30 rfl ?_
      refine lk_istore_n d_Mo_breaks_31 (by decide) rfl ?_
      obtain ⟨e10, hl, h⟩ := x_b h
      refine Lk.sel [0, 1, 2] rfl ?_
      refine Lk.trans (l_Mo_breaks_32 _ _ _ _ _ _ hl) ?_
      intro pc' lo' st' s' mc' ms' hx
      obtain ⟨rfl, rfl, rfl, rfl, rfl, rfl⟩ := hx
      refine lk_iconst (v := 0) d_Mo_breaks_56 rfl ?_
      refine lk_istore_n d_Mo_breaks_57 (by decide) rfl ?_
      refine lk_iconst (v := (-1)) d_Mo_breaks_58 rfl ?_
      refine lk_istore_n d_Mo_breaks_59 (by decide) rfl ?_
      refine lk_iconst (v := 0) d_Mo_breaks_60 rfl ?_
      refine lk_istore d_Mo_breaks_61 (by decide) rfl ?_
      obtain ⟨e26, hl, h⟩ := x_b h
      refine Lk.sel [0, 1, 2, 3, 4] rfl ?_
      refine Lk.trans (l_Mo_breaks_63 _ _ _ _ _ _ _ _ hl) ?_
      intro pc' lo' st' s' mc' ms' hx
      obtain ⟨rfl, rfl, rfl, rfl, rfl, rfl⟩ := hx
      refine lk_aload_n d_Mo_breaks_171 rfl ?_
      refine lk_iload_n d_Mo_breaks_172 rfl ?_
      obtain ⟨a27, ha27, h⟩ := x_b h
      obtain ⟨z28, hz280, h⟩ := x_b h
      obtain ⟨rfl, hz28⟩ := x_z_some hz280
      replace h := x_nm h
      refine lk_putZ (k := 39) d_Mo_breaks_173 ha27 hz28 (by decide) rfl (by decide) lf_Mo_105 rfl rfl ?_
      refine lk_iconst (v := 0) d_Mo_breaks_176 rfl ?_
      refine lk_istore d_Mo_breaks_177 (by decide) rfl ?_
      obtain ⟨e36, hl, h⟩ := x_b h
      refine Lk.sel [0, 2, 5] rfl ?_
      refine Lk.trans (l_Mo_breaks_179 _ _ _ _ _ _ hl) ?_
      intro pc' lo' st' s' mc' ms' hx
      obtain ⟨rfl, rfl, rfl, rfl, rfl, rfl⟩ := hx
      refine lk_iload_n d_Mo_breaks_206 rfl ?_
      cases h
      exact Lk.stop ⟨rfl, Or.inr (Or.inl ⟨_, _, d_Mo_breaks_207, rfl, rfl, rfl, rfl⟩)⟩
    · replace h := x_ifn hc h
      refine lk_iconst (v := 0) d_Mo_breaks_23 rfl ?_
      cases h
      exact Lk.stop ⟨rfl, Or.inr (Or.inl ⟨_, _, d_Mo_breaks_24, rfl, rfl, rfl, rfl⟩)⟩
