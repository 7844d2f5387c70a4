/-! WHAT THE METHODS DO: partial functions f_ over the view, loops L_, and the proofs c_, l_ that the bytecode does so; printed by wip/whole/gen_dec.py -/
def f_Ls_entriesPassed (z0 : Nat) (s : hv_S) : Option (Int32 × hv_S) :=
  (x_ob s 3 ((some z0))).bind fun a1 =>
  some ((hv_I s a1 3, s))
set_option maxRecDepth 4000 in
set_option maxHeartbeats 2000000 in
theorem c_Ls_entriesPassed {G : lt_G} {z0 : Nat} {s : hv_S} {p : Int32 × hv_S} (h : f_Ls_entriesPassed z0 s = some p) : Ck G m_Ls_entriesPassed 1 0 0 [vR (some z0)] s (some (vI p.1)) p.2 := by
  refine Ck.of (by decide) (Nat.le_of_ble_eq_true rfl) ?_
  unfold f_Ls_entriesPassed at h
  refine lk_aload_n d_Ls_entriesPassed_0 rfl ?_
  obtain ⟨a1, ha1, h⟩ := x_b h
  refine lk_getI (k := 3) d_Ls_entriesPassed_1 ha1 (by decide) rfl (by decide) lf_Ls_28 rfl ?_
  cases h
  exact Lk.stop ⟨rfl, Or.inr (Or.inl ⟨_, _, d_Ls_entriesPassed_4, rfl, rfl, rfl, rfl⟩)⟩
def f_Ls_swapLists (z0 : Nat) (s : hv_S) : Option (hv_S) :=
  (x_ob s 3 ((some z0))).bind fun a1 =>
  (some (hv_setR s a1 1 (hv_R s a1 2))).bind fun s2 =>
  (some (hv_setR s2 a1 2 (hv_R s a1 1))).bind fun s3 =>
  some s3
set_option maxRecDepth 4000 in
set_option maxHeartbeats 2000000 in
theorem c_Ls_swapLists {G : lt_G} {z0 : Nat} {s : hv_S} {p : hv_S} (h : f_Ls_swapLists z0 s = some p) : Ck G m_Ls_swapLists 1 0 0 [vR (some z0)] s none p := by
  refine Ck.of (by decide) (Nat.le_of_ble_eq_true rfl) ?_
  unfold f_Ls_swapLists at h
  refine lk_aload_n d_Ls_swapLists_0 rfl ?_
  obtain ⟨a1, ha1, h⟩ := x_b h
  refine lk_getR (k := 1) d_Ls_swapLists_1 ha1 (by decide) rfl (by decide) lf_Ls_21 rfl ?_
  refine lk_astore_n d_Ls_swapLists_4 (by decide) rfl ?_
  refine lk_aload_n d_Ls_swapLists_5 rfl ?_
  refine lk_aload_n d_Ls_swapLists_6 rfl ?_
  refine lk_getR (k := 2) d_Ls_swapLists_7 ha1 (by decide) rfl (by decide) lf_Ls_25 rfl ?_
  replace h := x_nm h
  refine lk_putR (k := 1) d_Ls_swapLists_10 ha1 (by decide) rfl (by decide) lf_Ls_21 rfl rfl ?_
  refine lk_aload_n d_Ls_swapLists_13 rfl ?_
  refine lk_aload_n d_Ls_swapLists_14 rfl ?_
  replace h := x_nm h
  refine lk_putR (k := 2) d_Ls_swapLists_15 ha1 (by decide) rfl (by decide) lf_Ls_25 rfl rfl ?_
  cases h
  exact Lk.stop ⟨rfl, Or.inl ⟨d_Ls_swapLists_18, rfl, rfl, rfl⟩⟩
def L_Ls_goThrough_2 : Nat → Option Nat → Option Nat → Int32 → Int32 → hv_S → Option ((hv_S) ⊕ (Int64 × hv_S))
  | 0, _, _, _, _, _ => none
  | n + 1, x0, x1, x2, x3, s =>
    (x_ob s 3 x0).bind fun a1 =>
    (x_ob s 5 (hv_R s a1 1)).bind fun a2 =>
    (f_TL_size a2 s).bind fun p3 =>
    if p3.1 ≤ x3 then
      some (.inl p3.2)
    else
      (x_ob p3.2 3 x0).bind fun a4 =>
      (some (hv_setI p3.2 a4 3 ((hv_I p3.2 a4 3) + (1 : Int32)))).bind fun s5 =>
      (x_ob s5 5 (hv_R s5 a4 1)).bind fun a6 =>
      (f_TL_instructionAt a6 x3 s5).bind fun p7 =>
      (x_ob p7.2 8 x1).bind fun a8 =>
      (f_Pr_kindAt a8 p7.1 p7.2).bind fun p9 =>
      if p9.1 = 7 then
        (x_ob p9.2 3 x0).bind fun a18 =>
        (x_ob p9.2 5 (hv_R p9.2 a18 1)).bind fun a19 =>
        (f_TL_slotsAt a19 x3 p9.2).bind fun p20 =>
        some (.inr ((p20.1, p20.2)))
      else
        (x_ob p9.2 8 x1).bind fun a10 =>
        (f_Pr_takes a10 p7.1 x2 p9.2).bind fun p11 =>
        ((
          if p11.1 = 0 then
            some p11.2
          else
            (x_ob p11.2 3 x0).bind fun a12 =>
            (x_ob p11.2 5 (hv_R p11.2 a12 1)).bind fun a13 =>
            (f_TL_slotsAt a13 x3 p11.2).bind fun p14 =>
            (x_ob p14.2 4 (hv_R p11.2 a12 0)).bind fun a15 =>
            (f_Fo_follow a15 (p7.1 + (1 : Int32)) p14.1 p14.2).bind fun p16 =>
            some p16
        ) : Option (hv_S)).bind fun t17 =>
        L_Ls_goThrough_2 n x0 x1 x2 (x3 + 1) t17
set_option maxRecDepth 4000 in
set_option maxHeartbeats 2000000 in
theorem l_Ls_goThrough_2 {G : lt_G} : ∀ (n : Nat) (x0 : Option Nat) (x1 : Option Nat) (x2 : Int32) (x3 : Int32) (s : hv_S) (e0 : (hv_S) ⊕ (Int64 × hv_S)), L_Ls_goThrough_2 n x0 x1 x2 x3 s = some e0 → Lk G m_Ls_goThrough 4 2 [(0, vR x0), (1, vR x1), (2, vI x2), (3, vI x3)] [] s 0 0 (fun a b c d e f => match e0 with | .inl t => lk_at 88 [] [] t 0 0 a b c d e f | .inr w => lk_end m_Ls_goThrough (some (vJ w.1)) w.2 a b c d e f) := by
  intro n
  induction n with
  | zero => intro x0 x1 x2 x3 s e0 h; cases h
  | succ n ih =>
    intro x0 x1 x2 x3 s e0 h
    unfold L_Ls_goThrough_2 at h
    refine lk_iload_n d_Ls_goThrough_2 rfl ?_
    refine lk_aload_n d_Ls_goThrough_3 rfl ?_
    obtain ⟨a1, ha1, h⟩ := x_b h
    refine lk_getR (k := 1) d_Ls_goThrough_4 ha1 (by decide) rfl (by decide) lf_Ls_21 rfl ?_
    obtain ⟨a2, ha2, h⟩ := x_b h
    obtain ⟨p3, hp3, h⟩ := x_b h
    refine lk_callV0 d_Ls_goThrough_7 (x_obm ha2 rfl) (c_TL_size hp3) (Nat.le_of_ble_eq_true rfl) rfl M_TL_size lm_Ls_69 in_TL_size se_TL_size (by decide) rfl (Nat.le_of_ble_eq_true rfl) ?_
    refine lk_icmp_ge (tgt := 88) d_Ls_goThrough_10 (by decide) (fun hc => ?_) (fun hc => ?_)
    · replace h := x_ifp hc h
      cases h
      refine Lk.sel [] rfl ?_
      exact Lk.stop ⟨rfl, rfl, rfl, rfl, rfl, rfl⟩
    · replace h := x_ifn hc h
      refine lk_aload_n d_Ls_goThrough_13 rfl ?_
      refine lk_dup d_Ls_goThrough_14 rfl ?_
      obtain ⟨a4, ha4, h⟩ := x_b h
      refine lk_getI (k := 3) d_Ls_goThrough_15 ha4 (by decide) rfl (by decide) lf_Ls_28 rfl ?_
      refine lk_iconst (v := 1) d_Ls_goThrough_18 rfl ?_
      refine lk_iadd d_Ls_goThrough_19 ?_
      replace h := x_nm h
      refine lk_putI (k := 3) d_Ls_goThrough_20 ha4 (by decide) rfl (by decide) lf_Ls_28 rfl rfl ?_
      refine lk_aload_n d_Ls_goThrough_23 rfl ?_
      refine lk_getR (k := 1) d_Ls_goThrough_24 ha4 (by decide) rfl (by decide) lf_Ls_21 rfl ?_
      refine lk_iload_n d_Ls_goThrough_27 rfl ?_
      obtain ⟨a6, ha6, h⟩ := x_b h
      obtain ⟨p7, hp7, h⟩ := x_b h
      refine lk_callV0 d_Ls_goThrough_28 (x_obm ha6 rfl) (c_TL_instructionAt hp7) (Nat.le_of_ble_eq_true rfl) rfl M_TL_instructionAt lm_Ls_72 in_TL_instructionAt se_TL_instructionAt (by decide) rfl (Nat.le_of_ble_eq_true rfl) ?_
      refine lk_istore d_Ls_goThrough_31 (by decide) rfl ?_
      refine lk_aload_n d_Ls_goThrough_33 rfl ?_
      refine lk_iload d_Ls_goThrough_34 rfl ?_
      obtain ⟨a8, ha8, h⟩ := x_b h
      obtain ⟨p9, hp9, h⟩ := x_b h
      refine lk_callV0 d_Ls_goThrough_36 (x_obm ha8 rfl) (c_Pr_kindAt hp9) (Nat.le_of_ble_eq_true rfl) rfl M_Pr_kindAt lm_Ls_75 in_Pr_kindAt se_Pr_kindAt (by decide) rfl (Nat.le_of_ble_eq_true rfl) ?_
      refine lk_bipush (v := 7) d_Ls_goThrough_39 rfl ?_
      refine lk_icmp_ne (tgt := 53) d_Ls_goThrough_41 (by decide) (fun hc => ?_) (fun hc => ?_)
      · replace h := x_ifn hc h
        refine lk_aload_n d_Ls_goThrough_53 rfl ?_
        refine lk_iload d_Ls_goThrough_54 rfl ?_
        refine lk_iload_n d_Ls_goThrough_56 rfl ?_
        obtain ⟨a10, ha10, h⟩ := x_b h
        obtain ⟨p11, hp11, h⟩ := x_b h
        refine lk_callV0 d_Ls_goThrough_57 (x_obm ha10 rfl) (c_Pr_takes hp11) (Nat.le_of_ble_eq_true rfl) rfl M_Pr_takes lm_Ls_83 in_Pr_takes se_Pr_takes (by decide) rfl (Nat.le_of_ble_eq_true rfl) ?_
        obtain ⟨t17, hj, h⟩ := x_b h
        refine Lk.joinS 82 [0, 1, 2, 3] [] rfl 1 [] t17 ?_ ?_
        · replace h := hj
          refine lk_if_eq (tgt := 82) d_Ls_goThrough_60 (by decide) (fun hc => ?_) (fun hc => ?_)
          · replace h := x_ifp hc h
            cases h
            refine Lk.sel [0, 1, 2, 3] rfl ?_
            exact Lk.stop ⟨rfl, rfl, rfl, rfl, rfl, rfl⟩
          · replace h := x_ifn hc h
            refine lk_aload_n d_Ls_goThrough_63 rfl ?_
            obtain ⟨a12, ha12, h⟩ := x_b h
            refine lk_getR (k := 0) d_Ls_goThrough_64 ha12 (by decide) rfl (by decide) lf_Ls_12 rfl ?_
            refine lk_iload d_Ls_goThrough_67 rfl ?_
            refine lk_iconst (v := 1) d_Ls_goThrough_69 rfl ?_
            refine lk_iadd d_Ls_goThrough_70 ?_
            refine lk_aload_n d_Ls_goThrough_71 rfl ?_
            refine lk_getR (k := 1) d_Ls_goThrough_72 ha12 (by decide) rfl (by decide) lf_Ls_21 rfl ?_
            refine lk_iload_n d_Ls_goThrough_75 rfl ?_
            obtain ⟨a13, ha13, h⟩ := x_b h
            obtain ⟨p14, hp14, h⟩ := x_b h
            refine lk_callV0 d_Ls_goThrough_76 (x_obm ha13 rfl) (c_TL_slotsAt hp14) (Nat.le_of_ble_eq_true rfl) rfl M_TL_slotsAt lm_Ls_80 in_TL_slotsAt se_TL_slotsAt (by decide) rfl (Nat.le_of_ble_eq_true rfl) ?_
            obtain ⟨a15, ha15, h⟩ := x_b h
            obtain ⟨p16, hp16, h⟩ := x_b h
            refine lk_callV0 d_Ls_goThrough_79 (x_obm ha15 rfl) (c_Fo_follow hp16) (Nat.le_of_ble_eq_true rfl) rfl M_Fo_follow lm_Ls_44 in_Fo_follow se_Fo_follow (by decide) rfl (Nat.le_of_ble_eq_true rfl) ?_
            cases h
            refine Lk.sel [0, 1, 2, 3] rfl ?_
            exact Lk.stop ⟨rfl, rfl, rfl, rfl, rfl, rfl⟩
        · clear hj
          refine lk_iinc (v := _ + 1) d_Ls_goThrough_82 rfl rfl (by decide) rfl ?_
          refine lk_goto (tgt := 2) d_Ls_goThrough_85 (by decide) ?_
          refine Lk.sel [0, 1, 2, 3] rfl ?_
          exact ih _ _ _ _ _ _ h
      · replace h := x_ifp hc h
        refine lk_aload_n d_Ls_goThrough_44 rfl ?_
        obtain ⟨a18, ha18, h⟩ := x_b h
        refine lk_getR (k := 1) d_Ls_goThrough_45 ha18 (by decide) rfl (by decide) lf_Ls_21 rfl ?_
        refine lk_iload_n d_Ls_goThrough_48 rfl ?_
        obtain ⟨a19, ha19, h⟩ := x_b h
        obtain ⟨p20, hp20, h⟩ := x_b h
        refine lk_callV0 d_Ls_goThrough_49 (x_obm ha19 rfl) (c_TL_slotsAt hp20) (Nat.le_of_ble_eq_true rfl) rfl M_TL_slotsAt lm_Ls_80 in_TL_slotsAt se_TL_slotsAt (by decide) rfl (Nat.le_of_ble_eq_true rfl) ?_
        cases h
        exact Lk.stop ⟨rfl, Or.inr (Or.inr (Or.inl ⟨_, d_Ls_goThrough_52, rfl, rfl, rfl⟩))⟩
def f_Ls_goThrough (z0 : Nat) (r1 : Option Nat) (x2 : Int32) (s : hv_S) : Option (Int64 × hv_S) :=
  (L_Ls_goThrough_2 100000 ((some z0)) r1 x2 0 s).bind fun e21r => e21r.elim (fun e21 =>
    some ((0, e21))
  ) (fun w => some w)
set_option maxRecDepth 4000 in
set_option maxHeartbeats 2000000 in
theorem c_Ls_goThrough {G : lt_G} {z0 : Nat} {r1 : Option Nat} {x2 : Int32} {s : hv_S} {p : Int64 × hv_S} (h : f_Ls_goThrough z0 r1 x2 s = some p) : Ck G m_Ls_goThrough 4 0 0 [vR (some z0), vR r1, vI x2] s (some (vJ p.1)) p.2 := by
  refine Ck.of (by decide) (Nat.le_of_ble_eq_true rfl) ?_
  unfold f_Ls_goThrough at h
  refine lk_iconst (v := 0) d_Ls_goThrough_0 rfl ?_
  refine lk_istore_n d_Ls_goThrough_1 (by decide) rfl ?_
  obtain ⟨e21r, hl, h⟩ := x_b h
  refine Lk.sel [0, 1, 2, 3] rfl ?_
  refine Lk.trans (l_Ls_goThrough_2 _ _ _ _ _ _ _ hl) ?_
  intro pc' lo' st' s' mc' ms' hx
  cases e21r with
  | inl e21 =>
    obtain ⟨rfl, rfl, rfl, rfl, rfl, rfl⟩ := hx
    refine lk_lconst (v := 0) d_Ls_goThrough_88 rfl ?_
    cases h
    exact Lk.stop ⟨rfl, Or.inr (Or.inr (Or.inl ⟨_, d_Ls_goThrough_89, rfl, rfl, rfl⟩))⟩
  | inr w =>
    cases h
    exact Lk.stop hx
def L_Ls_find_41 : Nat → Option Nat → Option Nat → Option Nat → Int32 → Int64 → Int32 → hv_S → Option (Int64 × hv_S)
  | 0, _, _, _, _, _, _, _ => none
  | n + 1, x0, x1, x2, x4, x5, x7, s =>
    (x_ob s 2 x2).bind fun a10 =>
    (f_Tx_length a10 s).bind fun p11 =>
    if p11.1 < x7 then
      some (x5, p11.2)
    else
      (x_ob p11.2 3 x0).bind fun a12 =>
      (f_Fo_ruleAt (x7 + (1 : Int32)) x2 p11.2).bind fun p13 =>
      (x_ob p13.2 4 (hv_R p11.2 a12 0)).bind fun a14 =>
      (f_Fo_begin a14 x1 (hv_R p11.2 a12 2) (x7 + (1 : Int32)) p13.1 p13.2).bind fun p15 =>
      (x_ob p15 2 x2).bind fun a16 =>
      (f_Tx_letterAt a16 x7 p15).bind fun p17 =>
      (x_ob p17.2 3 x0).bind fun a18 =>
      (f_Ls_goThrough a18 x1 p17.1 p17.2).bind fun p19 =>
      ((
        if (lg_cmp p19.1 0) = 0 then
          some (x5, p19.2)
        else
          (f_C_withSlot p19.1 1 x7 p19.2).bind fun p20 =>
          some (p20.1, p20.2)
      ) : Option (Int64 × hv_S)).bind fun t21 =>
      ((
        if x4 = 0 then
          some 0
        else
          if (lg_cmp t21.1 0) = 0 then
            some 1
          else
            some 0
      ) : Option (Int32)).bind fun t22 =>
      ((
        if t22 = 0 then
          some t21.2
        else
          (x_ob t21.2 2 x2).bind fun a23 =>
          (f_Tx_length a23 t21.2).bind fun p24 =>
          if p24.1 ≤ x7 then
            some p24.2
          else
            (x_ob p24.2 3 x0).bind fun a25 =>
            (f_C_slotsFrom (x7 + (1 : Int32)) p24.2).bind fun p26 =>
            (x_ob p26.2 4 (hv_R p24.2 a25 0)).bind fun a27 =>
            (f_Fo_follow a27 0 p26.1 p26.2).bind fun p28 =>
            some p28
      ) : Option (hv_S)).bind fun t29 =>
      (x_ob t29 3 x0).bind fun a30 =>
      (f_Ls_swapLists a30 t29).bind fun p31 =>
      if t22 = 0 then
        (x_ob p31 3 x0).bind fun a32 =>
        (x_ob p31 5 (hv_R p31 a32 1)).bind fun a33 =>
        (f_TL_size a33 p31).bind fun p34 =>
        if p34.1 = 0 then
          some (t21.1, p34.2)
        else
          L_Ls_find_41 n x0 x1 x2 x4 t21.1 (x7 + 1) p34.2
      else
        L_Ls_find_41 n x0 x1 x2 x4 t21.1 (x7 + 1) p31
set_option maxRecDepth 4000 in
set_option maxHeartbeats 2000000 in
theorem l_Ls_find_41 {G : lt_G} : ∀ (n : Nat) (x0 : Option Nat) (x1 : Option Nat) (x2 : Option Nat) (x4 : Int32) (x5 : Int64) (x7 : Int32) (s : hv_S) (e0 : Int64 × hv_S), L_Ls_find_41 n x0 x1 x2 x4 x5 x7 s = some e0 → Lk G m_Ls_find 5 41 [(0, vR x0), (1, vR x1), (2, vR x2), (4, vI x4), (5, vJ x5), (7, vI x7)] [] s 0 0 (lk_at 180 [(5, vJ e0.1)] [] e0.2 0 0) := by
  intro n
  induction n with
  | zero => intro x0 x1 x2 x4 x5 x7 s e0 h; cases h
  | succ n ih =>
    intro x0 x1 x2 x4 x5 x7 s e0 h
    unfold L_Ls_find_41 at h
    refine lk_iload d_Ls_find_41 rfl ?_
    refine lk_aload_n d_Ls_find_43 rfl ?_
    obtain ⟨a10, ha10, h⟩ := x_b h
    obtain ⟨p11, hp11, h⟩ := x_b h
    refine lk_callV0 d_Ls_find_44 (x_obm ha10 rfl) (c_Tx_length hp11) (Nat.le_of_ble_eq_true rfl) rfl M_Tx_length lm_Ls_48 in_Tx_length se_Tx_length (by decide) rfl (Nat.le_of_ble_eq_true rfl) ?_
    refine lk_icmp_gt (tgt := 180) d_Ls_find_47 (by decide) (fun hc => ?_) (fun hc => ?_)
    · replace h := x_ifp hc h
      cases h
      refine Lk.sel [5] rfl ?_
      exact Lk.stop ⟨rfl, rfl, rfl, rfl, rfl, rfl⟩
    · replace h := x_ifn hc h
      refine lk_aload_n d_Ls_find_50 rfl ?_
      obtain ⟨a12, ha12, h⟩ := x_b h
      refine lk_getR (k := 0) d_Ls_find_51 ha12 (by decide) rfl (by decide) lf_Ls_12 rfl ?_
      refine lk_aload_n d_Ls_find_54 rfl ?_
      refine lk_aload_n d_Ls_find_55 rfl ?_
      refine lk_getR (k := 2) d_Ls_find_56 ha12 (by decide) rfl (by decide) lf_Ls_25 rfl ?_
      refine lk_iload d_Ls_find_59 rfl ?_
      refine lk_iconst (v := 1) d_Ls_find_61 rfl ?_
      refine lk_iadd d_Ls_find_62 ?_
      refine lk_iload d_Ls_find_63 rfl ?_
      refine lk_iconst (v := 1) d_Ls_find_65 rfl ?_
      refine lk_iadd d_Ls_find_66 ?_
      refine lk_aload_n d_Ls_find_67 rfl ?_
      obtain ⟨p13, hp13, h⟩ := x_b h
      refine lk_callS0 d_Ls_find_68 (c_Fo_ruleAt hp13) (Nat.le_of_ble_eq_true rfl) rfl M_Fo_ruleAt lm_Ls_32 st_Fo_ruleAt (Nat.le_of_ble_eq_true rfl) ?_
      obtain ⟨a14, ha14, h⟩ := x_b h
      obtain ⟨p15, hp15, h⟩ := x_b h
      refine lk_callV0 d_Ls_find_71 (x_obm ha14 rfl) (c_Fo_begin hp15) (Nat.le_of_ble_eq_true rfl) rfl M_Fo_begin lm_Ls_36 in_Fo_begin se_Fo_begin (by decide) rfl (Nat.le_of_ble_eq_true rfl) ?_
      refine lk_aload_n d_Ls_find_74 rfl ?_
      refine lk_aload_n d_Ls_find_75 rfl ?_
      refine lk_aload_n d_Ls_find_76 rfl ?_
      refine lk_iload d_Ls_find_77 rfl ?_
      obtain ⟨a16, ha16, h⟩ := x_b h
      obtain ⟨p17, hp17, h⟩ := x_b h
      refine lk_callV0 d_Ls_find_79 (x_obm ha16 rfl) (c_Tx_letterAt hp17) (Nat.le_of_ble_eq_true rfl) rfl M_Tx_letterAt lm_Ls_54 in_Tx_letterAt se_Tx_letterAt (by decide) rfl (Nat.le_of_ble_eq_true rfl) ?_
      obtain ⟨a18, ha18, h⟩ := x_b h
      obtain ⟨p19, hp19, h⟩ := x_b h
      refine lk_callV0 d_Ls_find_82 (x_obm ha18 rfl) (c_Ls_goThrough hp19) (Nat.le_of_ble_eq_true rfl) rfl M_Ls_goThrough lm_Ls_58 in_Ls_goThrough se_Ls_goThrough (by decide) rfl (Nat.le_of_ble_eq_true rfl) ?_
      refine lk_lstore d_Ls_find_85 (by decide) rfl ?_
      refine lk_lload d_Ls_find_87 rfl ?_
      refine lk_lconst (v := 0) d_Ls_find_89 rfl ?_
      refine lk_lcmp d_Ls_find_90 ?_
      obtain ⟨t21, hj, h⟩ := x_b h
      refine Lk.joinS 104 [0, 1, 2, 4, 5, 7] [(5, vJ t21.1)] rfl 1 [] t21.2 ?_ ?_
      · replace h := hj
        refine lk_if_eq (tgt := 104) d_Ls_find_91 (by decide) (fun hc => ?_) (fun hc => ?_)
        · replace h := x_ifp hc h
          cases h
          refine Lk.sel [0, 1, 2, 4, 5, 7] rfl ?_
          exact Lk.stop ⟨rfl, rfl, rfl, rfl, rfl, rfl⟩
        · replace h := x_ifn hc h
          refine lk_lload d_Ls_find_94 rfl ?_
          refine lk_iconst (v := 1) d_Ls_find_96 rfl ?_
          refine lk_iload d_Ls_find_97 rfl ?_
          obtain ⟨p20, hp20, h⟩ := x_b h
          refine lk_callS0 d_Ls_find_99 (c_C_withSlot hp20) (Nat.le_of_ble_eq_true rfl) rfl M_C_withSlot lm_Ls_62 st_C_withSlot (Nat.le_of_ble_eq_true rfl) ?_
          refine lk_lstore d_Ls_find_102 (by decide) rfl ?_
          cases h
          refine Lk.sel [0, 1, 2, 4, 5, 7] rfl ?_
          exact Lk.stop ⟨rfl, rfl, rfl, rfl, rfl, rfl⟩
      · clear hj
        refine lk_iload d_Ls_find_104 rfl ?_
        obtain ⟨t22, hj, h⟩ := x_b h
        refine Lk.joinA 121 [0, 1, 2, 4, 5, 7] [] rfl 1 [vI t22] ?_ ?_
        · replace h := hj
          refine lk_if_eq (tgt := 120) d_Ls_find_106 (by decide) (fun hc => ?_) (fun hc => ?_)
          · replace h := x_ifp hc h
            refine lk_iconst (v := 0) d_Ls_find_120 rfl ?_
            cases h
            refine Lk.sel [0, 1, 2, 4, 5, 7] rfl ?_
            exact Lk.stop ⟨rfl, rfl, rfl, rfl, rfl, rfl⟩
          · replace h := x_ifn hc h
            refine lk_lload d_Ls_find_109 rfl ?_
            refine lk_lconst (v := 0) d_Ls_find_111 rfl ?_
            refine lk_lcmp d_Ls_find_112 ?_
            refine lk_if_ne (tgt := 120) d_Ls_find_113 (by decide) (fun hc => ?_) (fun hc => ?_)
            · replace h := x_ifn hc h
              refine lk_iconst (v := 0) d_Ls_find_120 rfl ?_
              cases h
              refine Lk.sel [0, 1, 2, 4, 5, 7] rfl ?_
              exact Lk.stop ⟨rfl, rfl, rfl, rfl, rfl, rfl⟩
            · replace h := x_ifp hc h
              refine lk_iconst (v := 1) d_Ls_find_116 rfl ?_
              refine lk_goto (tgt := 121) d_Ls_find_117 (by decide) ?_
              cases h
              refine Lk.sel [0, 1, 2, 4, 5, 7] rfl ?_
              exact Lk.stop ⟨rfl, rfl, rfl, rfl, rfl, rfl⟩
        · clear hj
          refine lk_istore d_Ls_find_121 (by decide) rfl ?_
          refine lk_iload d_Ls_find_123 rfl ?_
          obtain ⟨t29, hj, h⟩ := x_b h
          refine Lk.joinS 152 [0, 1, 2, 4, 5, 7, 10] [] rfl 1 [] t29 ?_ ?_
          · replace h := hj
            refine lk_if_eq (tgt := 152) d_Ls_find_125 (by decide) (fun hc => ?_) (fun hc => ?_)
            · replace h := x_ifp hc h
              cases h
              refine Lk.sel [0, 1, 2, 4, 5, 7, 10] rfl ?_
              exact Lk.stop ⟨rfl, rfl, rfl, rfl, rfl, rfl⟩
            · replace h := x_ifn hc h
              refine lk_iload d_Ls_find_128 rfl ?_
              refine lk_aload_n d_Ls_find_130 rfl ?_
              obtain ⟨a23, ha23, h⟩ := x_b h
              obtain ⟨p24, hp24, h⟩ := x_b h
              refine lk_callV0 d_Ls_find_131 (x_obm ha23 rfl) (c_Tx_length hp24) (Nat.le_of_ble_eq_true rfl) rfl M_Tx_length lm_Ls_48 in_Tx_length se_Tx_length (by decide) rfl (Nat.le_of_ble_eq_true rfl) ?_
              refine lk_icmp_ge (tgt := 152) d_Ls_find_134 (by decide) (fun hc => ?_) (fun hc => ?_)
              · replace h := x_ifp hc h
                cases h
                refine Lk.sel [0, 1, 2, 4, 5, 7, 10] rfl ?_
                exact Lk.stop ⟨rfl, rfl, rfl, rfl, rfl, rfl⟩
              · replace h := x_ifn hc h
                refine lk_aload_n d_Ls_find_137 rfl ?_
                obtain ⟨a25, ha25, h⟩ := x_b h
                refine lk_getR (k := 0) d_Ls_find_138 ha25 (by decide) rfl (by decide) lf_Ls_12 rfl ?_
                refine lk_iconst (v := 0) d_Ls_find_141 rfl ?_
                refine lk_iload d_Ls_find_142 rfl ?_
                refine lk_iconst (v := 1) d_Ls_find_144 rfl ?_
                refine lk_iadd d_Ls_find_145 ?_
                obtain ⟨p26, hp26, h⟩ := x_b h
                refine lk_callS0 d_Ls_find_146 (c_C_slotsFrom hp26) (Nat.le_of_ble_eq_true rfl) rfl M_C_slotsFrom lm_Ls_40 st_C_slotsFrom (Nat.le_of_ble_eq_true rfl) ?_
                obtain ⟨a27, ha27, h⟩ := x_b h
                obtain ⟨p28, hp28, h⟩ := x_b h
                refine lk_callV0 d_Ls_find_149 (x_obm ha27 rfl) (c_Fo_follow hp28) (Nat.le_of_ble_eq_true rfl) rfl M_Fo_follow lm_Ls_44 in_Fo_follow se_Fo_follow (by decide) rfl (Nat.le_of_ble_eq_true rfl) ?_
                cases h
                refine Lk.sel [0, 1, 2, 4, 5, 7, 10] rfl ?_
                exact Lk.stop ⟨rfl, rfl, rfl, rfl, rfl, rfl⟩
          · clear hj
            refine lk_aload_n d_Ls_find_152 rfl ?_
            obtain ⟨a30, ha30, h⟩ := x_b h
            obtain ⟨p31, hp31, h⟩ := x_b h
            refine lk_callV0 d_Ls_find_153 (x_obm ha30 rfl) (c_Ls_swapLists hp31) (Nat.le_of_ble_eq_true rfl) rfl M_Ls_swapLists lm_Ls_66 in_Ls_swapLists se_Ls_swapLists (by decide) rfl (Nat.le_of_ble_eq_true rfl) ?_
            refine lk_iload d_Ls_find_156 rfl ?_
            refine lk_if_ne (tgt := 174) d_Ls_find_158 (by decide) (fun hc => ?_) (fun hc => ?_)
            · replace h := x_ifn hc h
              refine lk_iinc (v := _ + 1) d_Ls_find_174 rfl rfl (by decide) rfl ?_
              refine lk_goto (tgt := 41) d_Ls_find_177 (by decide) ?_
              refine Lk.sel [0, 1, 2, 4, 5, 7] rfl ?_
              exact ih _ _ _ _ _ _ _ _ h
            · replace h := x_ifp hc h
              refine lk_aload_n d_Ls_find_161 rfl ?_
              obtain ⟨a32, ha32, h⟩ := x_b h
              refine lk_getR (k := 1) d_Ls_find_162 ha32 (by decide) rfl (by decide) lf_Ls_21 rfl ?_
              obtain ⟨a33, ha33, h⟩ := x_b h
              obtain ⟨p34, hp34, h⟩ := x_b h
              refine lk_callV0 d_Ls_find_165 (x_obm ha33 rfl) (c_TL_size hp34) (Nat.le_of_ble_eq_true rfl) rfl M_TL_size lm_Ls_69 in_TL_size se_TL_size (by decide) rfl (Nat.le_of_ble_eq_true rfl) ?_
              refine lk_if_ne (tgt := 174) d_Ls_find_168 (by decide) (fun hc => ?_) (fun hc => ?_)
              · replace h := x_ifn hc h
                refine lk_iinc (v := _ + 1) d_Ls_find_174 rfl rfl (by decide) rfl ?_
                refine lk_goto (tgt := 41) d_Ls_find_177 (by decide) ?_
                refine Lk.sel [0, 1, 2, 4, 5, 7] rfl ?_
                exact ih _ _ _ _ _ _ _ _ h
              · replace h := x_ifp hc h
                refine lk_goto (tgt := 180) d_Ls_find_171 (by decide) ?_
                cases h
                refine Lk.sel [5] rfl ?_
                exact Lk.stop ⟨rfl, rfl, rfl, rfl, rfl, rfl⟩
def f_Ls_find (z0 : Nat) (r1 : Option Nat) (r2 : Option Nat) (x3 : Int32) (x4 : Int32) (s : hv_S) : Option (Int64 × hv_S) :=
  (x_ob s 3 ((some z0))).bind fun a1 =>
  (some (hv_setI s a1 3 0)).bind fun s2 =>
  (f_Fo_ruleAt x3 r2 s2).bind fun p3 =>
  (x_ob p3.2 4 (hv_R s2 a1 0)).bind fun a4 =>
  (f_Fo_begin a4 r1 (hv_R s2 a1 1) x3 p3.1 p3.2).bind fun p5 =>
  (x_ob p5 3 ((some z0))).bind fun a6 =>
  (f_C_slotsFrom x3 p5).bind fun p7 =>
  (x_ob p7.2 4 (hv_R p5 a6 0)).bind fun a8 =>
  (f_Fo_follow a8 0 p7.1 p7.2).bind fun p9 =>
  (L_Ls_find_41 100000 ((some z0)) r1 r2 x4 0 x3 p9).bind fun e35 =>
  some ((e35.1, e35.2))
set_option maxRecDepth 4000 in
set_option maxHeartbeats 2000000 in
theorem c_Ls_find {G : lt_G} {z0 : Nat} {r1 : Option Nat} {r2 : Option Nat} {x3 : Int32} {x4 : Int32} {s : hv_S} {p : Int64 × hv_S} (h : f_Ls_find z0 r1 r2 x3 x4 s = some p) : Ck G m_Ls_find 5 0 0 [vR (some z0), vR r1, vR r2, vI x3, vI x4] s (some (vJ p.1)) p.2 := by
  refine Ck.of (by decide) (Nat.le_of_ble_eq_true rfl) ?_
  unfold f_Ls_find at h
  refine lk_aload_n d_Ls_find_0 rfl ?_
  refine lk_iconst (v := 0) d_Ls_find_1 rfl ?_
  obtain ⟨a1, ha1, h⟩ := x_b h
  replace h := x_nm h
  refine lk_putI (k := 3) d_Ls_find_2 ha1 (by decide) rfl (by decide) lf_Ls_28 rfl rfl ?_
  refine lk_lconst (v := 0) d_Ls_find_5 rfl ?_
  refine lk_lstore d_Ls_find_6 (by decide) rfl ?_
  refine lk_aload_n d_Ls_find_8 rfl ?_
  refine lk_getR (k := 0) d_Ls_find_9 ha1 (by decide) rfl (by decide) lf_Ls_12 rfl ?_
  refine lk_aload_n d_Ls_find_12 rfl ?_
  refine lk_aload_n d_Ls_find_13 rfl ?_
  refine lk_getR (k := 1) d_Ls_find_14 ha1 (by decide) rfl (by decide) lf_Ls_21 rfl ?_
  refine lk_iload_n d_Ls_find_17 rfl ?_
  refine lk_iload_n d_Ls_find_18 rfl ?_
  refine lk_aload_n d_Ls_find_19 rfl ?_
  obtain ⟨p3, hp3, h⟩ := x_b h
  refine lk_callS0 d_Ls_find_20 (c_Fo_ruleAt hp3) (Nat.le_of_ble_eq_true rfl) rfl M_Fo_ruleAt lm_Ls_32 st_Fo_ruleAt (Nat.le_of_ble_eq_true rfl) ?_
  obtain ⟨a4, ha4, h⟩ := x_b h
  obtain ⟨p5, hp5, h⟩ := x_b h
  refine lk_callV0 d_Ls_find_23 (x_obm ha4 rfl) (c_Fo_begin hp5) (Nat.le_of_ble_eq_true rfl) rfl M_Fo_begin lm_Ls_36 in_Fo_begin se_Fo_begin (by decide) rfl (Nat.le_of_ble_eq_true rfl) ?_
  refine lk_aload_n d_Ls_find_26 rfl ?_
  obtain ⟨a6, ha6, h⟩ := x_b h
  refine lk_getR (k := 0) d_Ls_find_27 ha6 (by decide) rfl (by decide) lf_Ls_12 rfl ?_
  refine lk_iconst (v := 0) d_Ls_find_30 rfl ?_
  refine lk_iload_n d_Ls_find_31 rfl ?_
  obtain ⟨p7, hp7, h⟩ := x_b h
  refine lk_callS0 d_Ls_find_32 (c_C_slotsFrom hp7) (Nat.le_of_ble_eq_true rfl) rfl M_C_slotsFrom lm_Ls_40 st_C_slotsFrom (Nat.le_of_ble_eq_true rfl) ?_
  obtain ⟨a8, ha8, h⟩ := x_b h
  obtain ⟨p9, hp9, h⟩ := x_b h
  refine lk_callV0 d_Ls_find_35 (x_obm ha8 rfl) (c_Fo_follow hp9) (Nat.le_of_ble_eq_true rfl) rfl M_Fo_follow lm_Ls_44 in_Fo_follow se_Fo_follow (by decide) rfl (Nat.le_of_ble_eq_true rfl) ?_
  refine lk_iload_n d_Ls_find_38 rfl ?_
  refine lk_istore d_Ls_find_39 (by decide) rfl ?_
  obtain ⟨e35, hl, h⟩ := x_b h
  refine Lk.sel [0, 1, 2, 4, 5, 7] rfl ?_
  refine Lk.trans (l_Ls_find_41 _ _ _ _ _ _ _ _ _ hl) ?_
  intro pc' lo' st' s' mc' ms' hx
  obtain ⟨rfl, rfl, rfl, rfl, rfl, rfl⟩ := hx
  refine lk_lload d_Ls_find_180 rfl ?_
  cases h
  exact Lk.stop ⟨rfl, Or.inr (Or.inr (Or.inl ⟨_, d_Ls_find_182, rfl, rfl, rfl⟩))⟩
def f_Ma_marksSet (z0 : Nat) (s : hv_S) : Option (Int32 × hv_S) :=
  (x_ob s 6 ((some z0))).bind fun a1 =>
  some ((hv_I s a1 5, s))
set_option maxRecDepth 4000 in
set_option maxHeartbeats 2000000 in
theorem c_Ma_marksSet {G : lt_G} {z0 : Nat} {s : hv_S} {p : Int32 × hv_S} (h : f_Ma_marksSet z0 s = some p) : Ck G m_Ma_marksSet 1 0 0 [vR (some z0)] s (some (vI p.1)) p.2 := by
  refine Ck.of (by decide) (Nat.le_of_ble_eq_true rfl) ?_
  unfold f_Ma_marksSet at h
  refine lk_aload_n d_Ma_marksSet_0 rfl ?_
  obtain ⟨a1, ha1, h⟩ := x_b h
  refine lk_getI (k := 5) d_Ma_marksSet_1 ha1 (by decide) rfl (by decide) lf_Ma_25 rfl ?_
  cases h
  exact Lk.stop ⟨rfl, Or.inr (Or.inl ⟨_, _, d_Ma_marksSet_4, rfl, rfl, rfl, rfl⟩)⟩
def f_Ma_push (z0 : Nat) (x1 : Int32) (x2 : Int32) (w3 : Int64) (s : hv_S) : Option (hv_S) :=
  (x_ob s 6 ((some z0))).bind fun a1 =>
  ((
    if (hv_I s a1 4) < 0 then
      some s
    else
      if 505 ≤ (hv_I s a1 4) then
        some s
      else
        (x_ar s 0 (hv_R s a1 1)).bind fun q2 =>
        (x_ix q2.2 (hv_I s a1 4)).bind fun k3 =>
        (some (hv_setI s q2.1 k3 x1)).bind fun s4 =>
        (x_ar s4 0 (hv_R s4 a1 2)).bind fun q5 =>
        (x_ix q5.2 (hv_I s4 a1 4)).bind fun k6 =>
        (some (hv_setI s4 q5.1 k6 x2)).bind fun s7 =>
        (x_ar s7 1 (hv_R s7 a1 3)).bind fun q8 =>
        (x_ix q8.2 (hv_I s7 a1 4)).bind fun k9 =>
        (some (hv_setJ s7 q8.1 k9 w3)).bind fun s10 =>
        (some (hv_setI s10 a1 4 ((hv_I s10 a1 4) + (1 : Int32)))).bind fun s11 =>
        some s11
  ) : Option (hv_S)).bind fun t12 =>
  some t12
set_option maxRecDepth 4000 in
set_option maxHeartbeats 2000000 in
theorem c_Ma_push {G : lt_G} {z0 : Nat} {x1 : Int32} {x2 : Int32} {w3 : Int64} {s : hv_S} {p : hv_S} (h : f_Ma_push z0 x1 x2 w3 s = some p) : Ck G m_Ma_push 1 0 0 [vR (some z0), vI x1, vI x2, vJ w3] s none p := by
  refine Ck.of (by decide) (Nat.le_of_ble_eq_true rfl) ?_
  unfold f_Ma_push at h
  refine lk_aload_n d_Ma_push_0 rfl ?_
  obtain ⟨a1, ha1, h⟩ := x_b h
  refine lk_getI (k := 4) d_Ma_push_1 ha1 (by decide) rfl (by decide) lf_Ma_53 rfl ?_
  obtain ⟨t12, hj, h⟩ := x_b h
  refine Lk.joinS 57 [] [] rfl 1 [] t12 ?_ ?_
  · replace h := hj
    refine lk_if_lt (tgt := 57) d_Ma_push_4 (by decide) (fun hc => ?_) (fun hc => ?_)
    · replace h := x_ifp hc h
      cases h
      refine Lk.sel [] rfl ?_
      exact Lk.stop ⟨rfl, rfl, rfl, rfl, rfl, rfl⟩
    · replace h := x_ifn hc h
      refine lk_aload_n d_Ma_push_7 rfl ?_
      refine lk_getI (k := 4) d_Ma_push_8 ha1 (by decide) rfl (by decide) lf_Ma_53 rfl ?_
      refine lk_sipush (v := 505) d_Ma_push_11 rfl ?_
      refine lk_icmp_ge (tgt := 57) d_Ma_push_14 (by decide) (fun hc => ?_) (fun hc => ?_)
      · replace h := x_ifp hc h
        cases h
        refine Lk.sel [] rfl ?_
        exact Lk.stop ⟨rfl, rfl, rfl, rfl, rfl, rfl⟩
      · replace h := x_ifn hc h
        refine lk_aload_n d_Ma_push_17 rfl ?_
        refine lk_getR (k := 1) d_Ma_push_18 ha1 (by decide) rfl (by decide) lf_Ma_15 rfl ?_
        refine lk_aload_n d_Ma_push_21 rfl ?_
        refine lk_getI (k := 4) d_Ma_push_22 ha1 (by decide) rfl (by decide) lf_Ma_53 rfl ?_
        refine lk_iload_n d_Ma_push_25 rfl ?_
        obtain ⟨q2, hq2, h⟩ := x_b h
        obtain ⟨k3, hk3, h⟩ := x_b h
        replace h := x_nm h
        refine lk_iast d_Ma_push_26 hq2 hk3 ?_
        refine lk_aload_n d_Ma_push_27 rfl ?_
        refine lk_getR (k := 2) d_Ma_push_28 ha1 (by decide) rfl (by decide) lf_Ma_19 rfl ?_
        refine lk_aload_n d_Ma_push_31 rfl ?_
        refine lk_getI (k := 4) d_Ma_push_32 ha1 (by decide) rfl (by decide) lf_Ma_53 rfl ?_
        refine lk_iload_n d_Ma_push_35 rfl ?_
        obtain ⟨q5, hq5, h⟩ := x_b h
        obtain ⟨k6, hk6, h⟩ := x_b h
        replace h := x_nm h
        refine lk_iast d_Ma_push_36 hq5 hk6 ?_
        refine lk_aload_n d_Ma_push_37 rfl ?_
        refine lk_getR (k := 3) d_Ma_push_38 ha1 (by decide) rfl (by decide) lf_Ma_22 rfl ?_
        refine lk_aload_n d_Ma_push_41 rfl ?_
        refine lk_getI (k := 4) d_Ma_push_42 ha1 (by decide) rfl (by decide) lf_Ma_53 rfl ?_
        refine lk_lload_n d_Ma_push_45 rfl ?_
        obtain ⟨q8, hq8, h⟩ := x_b h
        obtain ⟨k9, hk9, h⟩ := x_b h
        replace h := x_nm h
        refine lk_last d_Ma_push_46 hq8 hk9 ?_
        refine lk_aload_n d_Ma_push_47 rfl ?_
        refine lk_dup d_Ma_push_48 rfl ?_
        refine lk_getI (k := 4) d_Ma_push_49 ha1 (by decide) rfl (by decide) lf_Ma_53 rfl ?_
        refine lk_iconst (v := 1) d_Ma_push_52 rfl ?_
        refine lk_iadd d_Ma_push_53 ?_
        replace h := x_nm h
        refine lk_putI (k := 4) d_Ma_push_54 ha1 (by decide) rfl (by decide) lf_Ma_53 rfl rfl ?_
        cases h
        refine Lk.sel [] rfl ?_
        exact Lk.stop ⟨rfl, rfl, rfl, rfl, rfl, rfl⟩
  · clear hj
    cases h
    exact Lk.stop ⟨rfl, Or.inl ⟨d_Ma_push_57, rfl, rfl, rfl⟩⟩
def f_Ma_mark (z0 : Nat) (x1 : Int32) (x2 : Int32) (s : hv_S) : Option (Int32 × hv_S) :=
  if x2 < 0 then
    some ((0, s))
  else
    if x2 ≤ 20 then
      (some ((1 : Int64) <<< (x1.toInt64 &&& 63))).bind fun y1 =>
      (x_ob s 6 ((some z0))).bind fun a2 =>
      (x_ar s 1 (hv_R s a2 0)).bind fun q3 =>
      (x_ix q3.2 x2).bind fun k4 =>
      if (lg_cmp ((hv_J s q3.1 k4) &&& y1) 0) = 0 then
        (x_ix q3.2 x2).bind fun k5 =>
        (x_ix q3.2 x2).bind fun k6 =>
        (some (hv_setJ s q3.1 k6 ((hv_J s q3.1 k5) ||| y1))).bind fun s7 =>
        (some (hv_setI s7 a2 5 ((hv_I s7 a2 5) + (1 : Int32)))).bind fun s8 =>
        some ((1, s8))
      else
        some ((0, s))
    else
      some ((0, s))
set_option maxRecDepth 4000 in
set_option maxHeartbeats 2000000 in
theorem c_Ma_mark {G : lt_G} {z0 : Nat} {x1 : Int32} {x2 : Int32} {s : hv_S} {p : Int32 × hv_S} (h : f_Ma_mark z0 x1 x2 s = some p) : Ck G m_Ma_mark 1 0 0 [vR (some z0), vI x1, vI x2] s (some (vI p.1)) p.2 := by
  refine Ck.of (by decide) (Nat.le_of_ble_eq_true rfl) ?_
  unfold f_Ma_mark at h
  refine lk_iload_n d_Ma_mark_0 rfl ?_
  refine lk_if_lt (tgt := 10) d_Ma_mark_1 (by decide) (fun hc => ?_) (fun hc => ?_)
  · replace h := x_ifp hc h
    refine lk_iconst (v := 0) d_Ma_mark_10 rfl ?_
    cases h
    exact Lk.stop ⟨rfl, Or.inr (Or.inl ⟨_, _, d_Ma_mark_11, rfl, rfl, rfl, rfl⟩)⟩
  · replace h := x_ifn hc h
    refine lk_iload_n d_Ma_mark_4 rfl ?_
    refine lk_bipush (v := 20) d_Ma_mark_5 rfl ?_
    refine lk_icmp_le (tgt := 12) d_Ma_mark_7 (by decide) (fun hc => ?_) (fun hc => ?_)
    · replace h := x_ifp hc h
      refine lk_lconst (v := 1) d_Ma_mark_12 rfl ?_
      refine lk_iload_n d_Ma_mark_13 rfl ?_
      refine lk_lshl d_Ma_mark_14 ?_
      replace h := x_nm h
      refine lk_lstore_n d_Ma_mark_15 (by decide) rfl ?_
      refine lk_aload_n d_Ma_mark_16 rfl ?_
      obtain ⟨a2, ha2, h⟩ := x_b h
      refine lk_getR (k := 0) d_Ma_mark_17 ha2 (by decide) rfl (by decide) lf_Ma_9 rfl ?_
      refine lk_iload_n d_Ma_mark_20 rfl ?_
      obtain ⟨q3, hq3, h⟩ := x_b h
      obtain ⟨k4, hk4, h⟩ := x_b h
      refine lk_lald d_Ma_mark_21 hq3 hk4 ?_
      refine lk_lload_n d_Ma_mark_22 rfl ?_
      refine lk_land d_Ma_mark_23 ?_
      refine lk_lconst (v := 0) d_Ma_mark_24 rfl ?_
      refine lk_lcmp d_Ma_mark_25 ?_
      refine lk_if_eq (tgt := 31) d_Ma_mark_26 (by decide) (fun hc => ?_) (fun hc => ?_)
      · replace h := x_ifp hc h
        refine lk_aload_n d_Ma_mark_31 rfl ?_
        refine lk_getR (k := 0) d_Ma_mark_32 ha2 (by decide) rfl (by decide) lf_Ma_9 rfl ?_
        refine lk_iload_n d_Ma_mark_35 rfl ?_
        refine lk_dup2_11 d_Ma_mark_36 rfl rfl ?_
        obtain ⟨k5, hk5, h⟩ := x_b h
        refine lk_lald d_Ma_mark_37 hq3 hk5 ?_
        refine lk_lload_n d_Ma_mark_38 rfl ?_
        refine lk_lor d_Ma_mark_39 ?_
        obtain ⟨k6, hk6, h⟩ := x_b h
        replace h := x_nm h
        refine lk_last d_Ma_mark_40 hq3 hk6 ?_
        refine lk_aload_n d_Ma_mark_41 rfl ?_
        refine lk_dup d_Ma_mark_42 rfl ?_
        refine lk_getI (k := 5) d_Ma_mark_43 ha2 (by decide) rfl (by decide) lf_Ma_25 rfl ?_
        refine lk_iconst (v := 1) d_Ma_mark_46 rfl ?_
        refine lk_iadd d_Ma_mark_47 ?_
        replace h := x_nm h
        refine lk_putI (k := 5) d_Ma_mark_48 ha2 (by decide) rfl (by decide) lf_Ma_25 rfl rfl ?_
        refine lk_iconst (v := 1) d_Ma_mark_51 rfl ?_
        cases h
        exact Lk.stop ⟨rfl, Or.inr (Or.inl ⟨_, _, d_Ma_mark_52, rfl, rfl, rfl, rfl⟩)⟩
      · replace h := x_ifn hc h
        refine lk_iconst (v := 0) d_Ma_mark_29 rfl ?_
        cases h
        exact Lk.stop ⟨rfl, Or.inr (Or.inl ⟨_, _, d_Ma_mark_30, rfl, rfl, rfl, rfl⟩)⟩
    · replace h := x_ifn hc h
      refine lk_iconst (v := 0) d_Ma_mark_10 rfl ?_
      cases h
      exact Lk.stop ⟨rfl, Or.inr (Or.inl ⟨_, _, d_Ma_mark_11, rfl, rfl, rfl, rfl⟩)⟩
def f_Ma_step (z0 : Nat) (x1 : Int32) (x2 : Int32) (w3 : Int64) (s : hv_S) : Option (hv_S) :=
  (x_ob s 6 ((some z0))).bind fun a1 =>
  (x_ob s 8 (hv_R s a1 6)).bind fun a2 =>
  (f_Pr_kindAt a2 x1 s).bind fun p3 =>
  ((
    if p3.1 = 2 then
      (x_ob p3.2 6 ((some z0))).bind fun a4 =>
      (x_ob p3.2 8 (hv_R p3.2 a4 6)).bind fun a5 =>
      (f_Pr_yAt a5 x1 p3.2).bind fun p6 =>
      (x_ob p6.2 6 ((some z0))).bind fun a7 =>
      (f_Ma_push a7 p6.1 x2 w3 p6.2).bind fun p8 =>
      (x_ob p8 6 ((some z0))).bind fun a9 =>
      (x_ob p8 8 (hv_R p8 a9 6)).bind fun a10 =>
      (f_Pr_xAt a10 x1 p8).bind fun p11 =>
      (x_ob p11.2 6 ((some z0))).bind fun a12 =>
      (f_Ma_push a12 p11.1 x2 w3 p11.2).bind fun p13 =>
      some p13
    else if p3.1 = 3 then
      (x_ob p3.2 6 ((some z0))).bind fun a14 =>
      (x_ob p3.2 8 (hv_R p3.2 a14 6)).bind fun a15 =>
      (f_Pr_xAt a15 x1 p3.2).bind fun p16 =>
      (x_ob p16.2 6 ((some z0))).bind fun a17 =>
      (f_Ma_push a17 p16.1 x2 w3 p16.2).bind fun p18 =>
      some p18
    else if p3.1 = 4 then
      (x_ob p3.2 6 ((some z0))).bind fun a19 =>
      (x_ob p3.2 8 (hv_R p3.2 a19 6)).bind fun a20 =>
      (f_Pr_xAt a20 x1 p3.2).bind fun p21 =>
      (f_C_withSlot w3 p21.1 x2 p21.2).bind fun p22 =>
      (x_ob p22.2 6 ((some z0))).bind fun a23 =>
      (f_Ma_push a23 (x1 + (1 : Int32)) x2 p22.1 p22.2).bind fun p24 =>
      some p24
    else if p3.1 = 5 then
      if x2 = 0 then
        (x_ob p3.2 6 ((some z0))).bind fun a25 =>
        (f_Ma_push a25 (x1 + (1 : Int32)) x2 w3 p3.2).bind fun p26 =>
        some p26
      else
        some p3.2
    else if p3.1 = 6 then
      (x_ob p3.2 6 ((some z0))).bind fun a27 =>
      (x_ob p3.2 2 (hv_R p3.2 a27 7)).bind fun a28 =>
      (f_Tx_length a28 p3.2).bind fun p29 =>
      if x2 = p29.1 then
        (x_ob p29.2 6 ((some z0))).bind fun a30 =>
        (f_Ma_push a30 (x1 + (1 : Int32)) x2 w3 p29.2).bind fun p31 =>
        some p31
      else
        some p29.2
    else
      (x_ob p3.2 6 ((some z0))).bind fun a32 =>
      (x_ob p3.2 2 (hv_R p3.2 a32 7)).bind fun a33 =>
      (f_Tx_letterAt a33 x2 p3.2).bind fun p34 =>
      (x_ob p34.2 8 (hv_R p3.2 a32 6)).bind fun a35 =>
      (f_Pr_takes a35 x1 p34.1 p34.2).bind fun p36 =>
      if p36.1 = 0 then
        some p36.2
      else
        (x_ob p36.2 6 ((some z0))).bind fun a37 =>
        (f_Ma_push a37 (x1 + (1 : Int32)) (x2 + (1 : Int32)) w3 p36.2).bind fun p38 =>
        some p38
  ) : Option (hv_S)).bind fun t39 =>
  some t39
set_option maxRecDepth 4000 in
set_option maxHeartbeats 2000000 in
theorem c_Ma_step {G : lt_G} {z0 : Nat} {x1 : Int32} {x2 : Int32} {w3 : Int64} {s : hv_S} {p : hv_S} (h : f_Ma_step z0 x1 x2 w3 s = some p) : Ck G m_Ma_step 3 0 0 [vR (some z0), vI x1, vI x2, vJ w3] s none p := by
  refine Ck.of (by decide) (Nat.le_of_ble_eq_true rfl) ?_
  unfold f_Ma_step at h
  refine lk_aload_n d_Ma_step_0 rfl ?_
  obtain ⟨a1, ha1, h⟩ := x_b h
  refine lk_getR (k := 6) d_Ma_step_1 ha1 (by decide) rfl (by decide) lf_Ma_29 rfl ?_
  refine lk_iload_n d_Ma_step_4 rfl ?_
  obtain ⟨a2, ha2, h⟩ := x_b h
  obtain ⟨p3, hp3, h⟩ := x_b h
  refine lk_callV0 d_Ma_step_5 (x_obm ha2 rfl) (c_Pr_kindAt hp3) (Nat.le_of_ble_eq_true rfl) rfl M_Pr_kindAt lm_Ma_67 in_Pr_kindAt se_Pr_kindAt (by decide) rfl (Nat.le_of_ble_eq_true rfl) ?_
  obtain ⟨t39, hj, h⟩ := x_b h
  refine Lk.joinS 185 [] [] rfl 1 [] t39 ?_ ?_
  · replace h := hj
    rcases x_ifc h with ⟨g0, h⟩ | ⟨g0, h⟩
    · refine lk_tableIn (tgt := 44) d_Ma_step_8 (by rw [g0]; decide) (by rw [g0]; decide) (by rw [g0]; rfl) (by decide) ?_
      refine lk_aload_n d_Ma_step_44 rfl ?_
      refine lk_aload_n d_Ma_step_45 rfl ?_
      obtain ⟨a4, ha4, h⟩ := x_b h
      refine lk_getR (k := 6) d_Ma_step_46 ha4 (by decide) rfl (by decide) lf_Ma_29 rfl ?_
      refine lk_iload_n d_Ma_step_49 rfl ?_
      obtain ⟨a5, ha5, h⟩ := x_b h
      obtain ⟨p6, hp6, h⟩ := x_b h
      refine lk_callV0 d_Ma_step_50 (x_obm ha5 rfl) (c_Pr_yAt hp6) (Nat.le_of_ble_eq_true rfl) rfl M_Pr_yAt lm_Ma_80 in_Pr_yAt se_Pr_yAt (by decide) rfl (Nat.le_of_ble_eq_true rfl) ?_
      refine lk_iload_n d_Ma_step_53 rfl ?_
      refine lk_lload_n d_Ma_step_54 rfl ?_
      obtain ⟨a7, ha7, h⟩ := x_b h
      obtain ⟨p8, hp8, h⟩ := x_b h
      refine lk_callV0 d_Ma_step_55 (x_obm ha7 rfl) (c_Ma_push hp8) (Nat.le_of_ble_eq_true rfl) rfl M_Ma_push lm_Ma_59 in_Ma_push se_Ma_push (by decide) rfl (Nat.le_of_ble_eq_true rfl) ?_
      refine lk_aload_n d_Ma_step_58 rfl ?_
      refine lk_aload_n d_Ma_step_59 rfl ?_
      obtain ⟨a9, ha9, h⟩ := x_b h
      refine lk_getR (k := 6) d_Ma_step_60 ha9 (by decide) rfl (by decide) lf_Ma_29 rfl ?_
      refine lk_iload_n d_Ma_step_63 rfl ?_
      obtain ⟨a10, ha10, h⟩ := x_b h
      obtain ⟨p11, hp11, h⟩ := x_b h
      refine lk_callV0 d_Ma_step_64 (x_obm ha10 rfl) (c_Pr_xAt hp11) (Nat.le_of_ble_eq_true rfl) rfl M_Pr_xAt lm_Ma_83 in_Pr_xAt se_Pr_xAt (by decide) rfl (Nat.le_of_ble_eq_true rfl) ?_
      refine lk_iload_n d_Ma_step_67 rfl ?_
      refine lk_lload_n d_Ma_step_68 rfl ?_
      obtain ⟨a12, ha12, h⟩ := x_b h
      obtain ⟨p13, hp13, h⟩ := x_b h
      refine lk_callV0 d_Ma_step_69 (x_obm ha12 rfl) (c_Ma_push hp13) (Nat.le_of_ble_eq_true rfl) rfl M_Ma_push lm_Ma_59 in_Ma_push se_Ma_push (by decide) rfl (Nat.le_of_ble_eq_true rfl) ?_
      refine lk_goto (tgt := 185) d_Ma_step_72 (by decide) ?_
      cases h
      refine Lk.sel [] rfl ?_
      exact Lk.stop ⟨rfl, rfl, rfl, rfl, rfl, rfl⟩
    · rcases x_ifc h with ⟨g1, h⟩ | ⟨g1, h⟩
      · refine lk_tableIn (tgt := 75) d_Ma_step_8 (by rw [g1]; decide) (by rw [g1]; decide) (by rw [g1]; rfl) (by decide) ?_
        refine lk_aload_n d_Ma_step_75 rfl ?_
        refine lk_aload_n d_Ma_step_76 rfl ?_
        obtain ⟨a14, ha14, h⟩ := x_b h
        refine lk_getR (k := 6) d_Ma_step_77 ha14 (by decide) rfl (by decide) lf_Ma_29 rfl ?_
        refine lk_iload_n d_Ma_step_80 rfl ?_
        obtain ⟨a15, ha15, h⟩ := x_b h
        obtain ⟨p16, hp16, h⟩ := x_b h
        refine lk_callV0 d_Ma_step_81 (x_obm ha15 rfl) (c_Pr_xAt hp16) (Nat.le_of_ble_eq_true rfl) rfl M_Pr_xAt lm_Ma_83 in_Pr_xAt se_Pr_xAt (by decide) rfl (Nat.le_of_ble_eq_true rfl) ?_
        refine lk_iload_n d_Ma_step_84 rfl ?_
        refine lk_lload_n d_Ma_step_85 rfl ?_
        obtain ⟨a17, ha17, h⟩ := x_b h
        obtain ⟨p18, hp18, h⟩ := x_b h
        refine lk_callV0 d_Ma_step_86 (x_obm ha17 rfl) (c_Ma_push hp18) (Nat.le_of_ble_eq_true rfl) rfl M_Ma_push lm_Ma_59 in_Ma_push se_Ma_push (by decide) rfl (Nat.le_of_ble_eq_true rfl) ?_
        refine lk_goto (tgt := 185) d_Ma_step_89 (by decide) ?_
        cases h
        refine Lk.sel [] rfl ?_
        exact Lk.stop ⟨rfl, rfl, rfl, rfl, rfl, rfl⟩
      · rcases x_ifc h with ⟨g2, h⟩ | ⟨g2, h⟩
        · refine lk_tableIn (tgt := 92) d_Ma_step_8 (by rw [g2]; decide) (by rw [g2]; decide) (by rw [g2]; rfl) (by decide) ?_
          refine lk_aload_n d_Ma_step_92 rfl ?_
          refine lk_iload_n d_Ma_step_93 rfl ?_
          refine lk_iconst (v := 1) d_Ma_step_94 rfl ?_
          refine lk_iadd d_Ma_step_95 ?_
          refine lk_iload_n d_Ma_step_96 rfl ?_
          refine lk_lload_n d_Ma_step_97 rfl ?_
          refine lk_aload_n d_Ma_step_98 rfl ?_
          obtain ⟨a19, ha19, h⟩ := x_b h
          refine lk_getR (k := 6) d_Ma_step_99 ha19 (by decide) rfl (by decide) lf_Ma_29 rfl ?_
          refine lk_iload_n d_Ma_step_102 rfl ?_
          obtain ⟨a20, ha20, h⟩ := x_b h
          obtain ⟨p21, hp21, h⟩ := x_b h
          refine lk_callV0 d_Ma_step_103 (x_obm ha20 rfl) (c_Pr_xAt hp21) (Nat.le_of_ble_eq_true rfl) rfl M_Pr_xAt lm_Ma_83 in_Pr_xAt se_Pr_xAt (by decide) rfl (Nat.le_of_ble_eq_true rfl) ?_
          refine lk_iload_n d_Ma_step_106 rfl ?_
          obtain ⟨p22, hp22, h⟩ := x_b h
          refine lk_callS0 d_Ma_step_107 (c_C_withSlot hp22) (Nat.le_of_ble_eq_true rfl) rfl M_C_withSlot lm_Ma_73 st_C_withSlot (Nat.le_of_ble_eq_true rfl) ?_
          obtain ⟨a23, ha23, h⟩ := x_b h
          obtain ⟨p24, hp24, h⟩ := x_b h
          refine lk_callV0 d_Ma_step_110 (x_obm ha23 rfl) (c_Ma_push hp24) (Nat.le_of_ble_eq_true rfl) rfl M_Ma_push lm_Ma_59 in_Ma_push se_Ma_push (by decide) rfl (Nat.le_of_ble_eq_true rfl) ?_
          refine lk_goto (tgt := 185) d_Ma_step_113 (by decide) ?_
          cases h
          refine Lk.sel [] rfl ?_
          exact Lk.stop ⟨rfl, rfl, rfl, rfl, rfl, rfl⟩
        · rcases x_ifc h with ⟨g3, h⟩ | ⟨g3, h⟩
          · refine lk_tableIn (tgt := 116) d_Ma_step_8 (by rw [g3]; decide) (by rw [g3]; decide) (by rw [g3]; rfl) (by decide) ?_
            refine lk_iload_n d_Ma_step_116 rfl ?_
            refine lk_if_ne (tgt := 185) d_Ma_step_117 (by decide) (fun hc => ?_) (fun hc => ?_)
            · replace h := x_ifn hc h
              cases h
              refine Lk.sel [] rfl ?_
              exact Lk.stop ⟨rfl, rfl, rfl, rfl, rfl, rfl⟩
            · replace h := x_ifp hc h
              refine lk_aload_n d_Ma_step_120 rfl ?_
              refine lk_iload_n d_Ma_step_121 rfl ?_
              refine lk_iconst (v := 1) d_Ma_step_122 rfl ?_
              refine lk_iadd d_Ma_step_123 ?_
              refine lk_iload_n d_Ma_step_124 rfl ?_
              refine lk_lload_n d_Ma_step_125 rfl ?_
              obtain ⟨a25, ha25, h⟩ := x_b h
              obtain ⟨p26, hp26, h⟩ := x_b h
              refine lk_callV0 d_Ma_step_126 (x_obm ha25 rfl) (c_Ma_push hp26) (Nat.le_of_ble_eq_true rfl) rfl M_Ma_push lm_Ma_59 in_Ma_push se_Ma_push (by decide) rfl (Nat.le_of_ble_eq_true rfl) ?_
              refine lk_goto (tgt := 185) d_Ma_step_129 (by decide) ?_
              cases h
              refine Lk.sel [] rfl ?_
              exact Lk.stop ⟨rfl, rfl, rfl, rfl, rfl, rfl⟩
          · rcases x_ifc h with ⟨g4, h⟩ | ⟨g4, h⟩
            · refine lk_tableIn (tgt := 132) d_Ma_step_8 (by rw [g4]; decide) (by rw [g4]; decide) (by rw [g4]; rfl) (by decide) ?_
              refine lk_iload_n d_Ma_step_132 rfl ?_
              refine lk_aload_n d_Ma_step_133 rfl ?_
              obtain ⟨a27, ha27, h⟩ := x_b h
              refine lk_getR (k := 7) d_Ma_step_134 ha27 (by decide) rfl (by decide) lf_Ma_33 rfl ?_
              obtain ⟨a28, ha28, h⟩ := x_b h
              obtain ⟨p29, hp29, h⟩ := x_b h
              refine lk_callV0 d_Ma_step_137 (x_obm ha28 rfl) (c_Tx_length hp29) (Nat.le_of_ble_eq_true rfl) rfl M_Tx_length lm_Ma_43 in_Tx_length se_Tx_length (by decide) rfl (Nat.le_of_ble_eq_true rfl) ?_
              refine lk_icmp_ne (tgt := 185) d_Ma_step_140 (by decide) (fun hc => ?_) (fun hc => ?_)
              · replace h := x_ifn hc h
                cases h
                refine Lk.sel [] rfl ?_
                exact Lk.stop ⟨rfl, rfl, rfl, rfl, rfl, rfl⟩
              · replace h := x_ifp hc h
                refine lk_aload_n d_Ma_step_143 rfl ?_
                refine lk_iload_n d_Ma_step_144 rfl ?_
                refine lk_iconst (v := 1) d_Ma_step_145 rfl ?_
                refine lk_iadd d_Ma_step_146 ?_
                refine lk_iload_n d_Ma_step_147 rfl ?_
                refine lk_lload_n d_Ma_step_148 rfl ?_
                obtain ⟨a30, ha30, h⟩ := x_b h
                obtain ⟨p31, hp31, h⟩ := x_b h
                refine lk_callV0 d_Ma_step_149 (x_obm ha30 rfl) (c_Ma_push hp31) (Nat.le_of_ble_eq_true rfl) rfl M_Ma_push lm_Ma_59 in_Ma_push se_Ma_push (by decide) rfl (Nat.le_of_ble_eq_true rfl) ?_
                refine lk_goto (tgt := 185) d_Ma_step_152 (by decide) ?_
                cases h
                refine Lk.sel [] rfl ?_
                exact Lk.stop ⟨rfl, rfl, rfl, rfl, rfl, rfl⟩
            · have e0 := lv_neT g0 (a := 2) rfl
              have e1 := lv_neT g1 (a := 3) rfl
              have e2 := lv_neT g2 (a := 4) rfl
              have e3 := lv_neT g3 (a := 5) rfl
              have e4 := lv_neT g4 (a := 6) rfl
              refine lk_tableOut (tgt := 155) d_Ma_step_8 (by omega) (by decide) ?_
              refine lk_aload_n d_Ma_step_155 rfl ?_
              obtain ⟨a32, ha32, h⟩ := x_b h
              refine lk_getR (k := 6) d_Ma_step_156 ha32 (by decide) rfl (by decide) lf_Ma_29 rfl ?_
              refine lk_iload_n d_Ma_step_159 rfl ?_
              refine lk_aload_n d_Ma_step_160 rfl ?_
              refine lk_getR (k := 7) d_Ma_step_161 ha32 (by decide) rfl (by decide) lf_Ma_33 rfl ?_
              refine lk_iload_n d_Ma_step_164 rfl ?_
              obtain ⟨a33, ha33, h⟩ := x_b h
              obtain ⟨p34, hp34, h⟩ := x_b h
              refine lk_callV0 d_Ma_step_165 (x_obm ha33 rfl) (c_Tx_letterAt hp34) (Nat.le_of_ble_eq_true rfl) rfl M_Tx_letterAt lm_Ma_86 in_Tx_letterAt se_Tx_letterAt (by decide) rfl (Nat.le_of_ble_eq_true rfl) ?_
              obtain ⟨a35, ha35, h⟩ := x_b h
              obtain ⟨p36, hp36, h⟩ := x_b h
              refine lk_callV0 d_Ma_step_168 (x_obm ha35 rfl) (c_Pr_takes hp36) (Nat.le_of_ble_eq_true rfl) rfl M_Pr_takes lm_Ma_89 in_Pr_takes se_Pr_takes (by decide) rfl (Nat.le_of_ble_eq_true rfl) ?_
              refine lk_if_eq (tgt := 185) d_Ma_step_171 (by decide) (fun hc => ?_) (fun hc => ?_)
              · replace h := x_ifp hc h
                cases h
                refine Lk.sel [] rfl ?_
                exact Lk.stop ⟨rfl, rfl, rfl, rfl, rfl, rfl⟩
              · replace h := x_ifn hc h
                refine lk_aload_n d_Ma_step_174 rfl ?_
                refine lk_iload_n d_Ma_step_175 rfl ?_
                refine lk_iconst (v := 1) d_Ma_step_176 rfl ?_
                refine lk_iadd d_Ma_step_177 ?_
                refine lk_iload_n d_Ma_step_178 rfl ?_
                refine lk_iconst (v := 1) d_Ma_step_179 rfl ?_
                refine lk_iadd d_Ma_step_180 ?_
                refine lk_lload_n d_Ma_step_181 rfl ?_
                obtain ⟨a37, ha37, h⟩ := x_b h
                obtain ⟨p38, hp38, h⟩ := x_b h
                refine lk_callV0 d_Ma_step_182 (x_obm ha37 rfl) (c_Ma_push hp38) (Nat.le_of_ble_eq_true rfl) rfl M_Ma_push lm_Ma_59 in_Ma_push se_Ma_push (by decide) rfl (Nat.le_of_ble_eq_true rfl) ?_
                cases h
                refine Lk.sel [] rfl ?_
                exact Lk.stop ⟨rfl, rfl, rfl, rfl, rfl, rfl⟩
  · clear hj
    cases h
    exact Lk.stop ⟨rfl, Or.inl ⟨d_Ma_step_185, rfl, rfl, rfl⟩⟩
def L_Ma_findFrom_17 : Nat → Option Nat → Int32 → hv_S → Option ((hv_S) ⊕ (Int64 × hv_S))
  | 0, _, _, _ => none
  | n + 1, x0, x2, s =>
    if 2059 ≤ x2 then
      some (.inl s)
    else
      (x_ob s 6 x0).bind fun a6 =>
      if (hv_I s a6 4) ≤ 0 then
        some (.inl s)
      else
        if 505 < (hv_I s a6 4) then
          some (.inl s)
        else
          (some (hv_setI s a6 4 ((hv_I s a6 4) - (1 : Int32)))).bind fun s7 =>
          (x_ar s7 0 (hv_R s7 a6 1)).bind fun q8 =>
          (x_ix q8.2 (hv_I s7 a6 4)).bind fun k9 =>
          (some (hv_I s7 q8.1 k9)).bind fun y10 =>
          (x_ar s7 0 (hv_R s7 a6 2)).bind fun q11 =>
          (x_ix q11.2 (hv_I s7 a6 4)).bind fun k12 =>
          (some (hv_I s7 q11.1 k12)).bind fun y13 =>
          (x_ar s7 1 (hv_R s7 a6 3)).bind fun q14 =>
          (x_ix q14.2 (hv_I s7 a6 4)).bind fun k15 =>
          (some (hv_J s7 q14.1 k15)).bind fun y16 =>
          (f_Ma_mark a6 y10 y13 s7).bind fun p17 =>
          if p17.1 = 0 then
            L_Ma_findFrom_17 n x0 (x2 + 1) p17.2
          else
            (x_ob p17.2 6 x0).bind fun a18 =>
            (x_ob p17.2 8 (hv_R p17.2 a18 6)).bind fun a19 =>
            (f_Pr_kindAt a19 y10 p17.2).bind fun p20 =>
            if p20.1 = 7 then
              (f_C_withSlot y16 1 y13 p20.2).bind fun p23 =>
              some (.inr ((p23.1, p23.2)))
            else
              (x_ob p20.2 6 x0).bind fun a21 =>
              (f_Ma_step a21 y10 y13 y16 p20.2).bind fun p22 =>
              L_Ma_findFrom_17 n x0 (x2 + 1) p22
set_option maxRecDepth 4000 in
set_option maxHeartbeats 2000000 in
theorem l_Ma_findFrom_17 {G : lt_G} : ∀ (n : Nat) (x0 : Option Nat) (x2 : Int32) (s : hv_S) (e0 : (hv_S) ⊕ (Int64 × hv_S)), L_Ma_findFrom_17 n x0 x2 s = some e0 → Lk G m_Ma_findFrom 4 17 [(0, vR x0), (2, vI x2)] [] s 0 0 (fun a b c d e f => match e0 with | .inl t => lk_at 133 [] [] t 0 0 a b c d e f | .inr w => lk_end m_Ma_findFrom (some (vJ w.1)) w.2 a b c d e f) := by
  intro n
  induction n with
  | zero => intro x0 x2 s e0 h; cases h
  | succ n ih =>
    intro x0 x2 s e0 h
    unfold L_Ma_findFrom_17 at h
    refine lk_iload_n d_Ma_findFrom_17 rfl ?_
    refine lk_sipush (v := 2059) d_Ma_findFrom_18 rfl ?_
    refine lk_icmp_ge (tgt := 133) d_Ma_findFrom_21 (by decide) (fun hc => ?_) (fun hc => ?_)
    · replace h := x_ifp hc h
      cases h
      refine Lk.sel [] rfl ?_
      exact Lk.stop ⟨rfl, rfl, rfl, rfl, rfl, rfl⟩
    · replace h := x_ifn hc h
      refine lk_aload_n d_Ma_findFrom_24 rfl ?_
      obtain ⟨a6, ha6, h⟩ := x_b h
      refine lk_getI (k := 4) d_Ma_findFrom_25 ha6 (by decide) rfl (by decide) lf_Ma_53 rfl ?_
      refine lk_if_le (tgt := 133) d_Ma_findFrom_28 (by decide) (fun hc => ?_) (fun hc => ?_)
      · replace h := x_ifp hc h
        cases h
        refine Lk.sel [] rfl ?_
        exact Lk.stop ⟨rfl, rfl, rfl, rfl, rfl, rfl⟩
      · replace h := x_ifn hc h
        refine lk_aload_n d_Ma_findFrom_31 rfl ?_
        refine lk_getI (k := 4) d_Ma_findFrom_32 ha6 (by decide) rfl (by decide) lf_Ma_53 rfl ?_
        refine lk_sipush (v := 505) d_Ma_findFrom_35 rfl ?_
        refine lk_icmp_gt (tgt := 133) d_Ma_findFrom_38 (by decide) (fun hc => ?_) (fun hc => ?_)
        · replace h := x_ifp hc h
          cases h
          refine Lk.sel [] rfl ?_
          exact Lk.stop ⟨rfl, rfl, rfl, rfl, rfl, rfl⟩
        · replace h := x_ifn hc h
          refine lk_aload_n d_Ma_findFrom_41 rfl ?_
          refine lk_dup d_Ma_findFrom_42 rfl ?_
          refine lk_getI (k := 4) d_Ma_findFrom_43 ha6 (by decide) rfl (by decide) lf_Ma_53 rfl ?_
          refine lk_iconst (v := 1) d_Ma_findFrom_46 rfl ?_
          refine lk_isub d_Ma_findFrom_47 ?_
          replace h := x_nm h
          refine lk_putI (k := 4) d_Ma_findFrom_48 ha6 (by decide) rfl (by decide) lf_Ma_53 rfl rfl ?_
          refine lk_aload_n d_Ma_findFrom_51 rfl ?_
          refine lk_getR (k := 1) d_Ma_findFrom_52 ha6 (by decide) rfl (by decide) lf_Ma_15 rfl ?_
          refine lk_aload_n d_Ma_findFrom_55 rfl ?_
          refine lk_getI (k := 4) d_Ma_findFrom_56 ha6 (by decide) rfl (by decide) lf_Ma_53 rfl ?_
          obtain ⟨q8, hq8, h⟩ := x_b h
          obtain ⟨k9, hk9, h⟩ := x_b h
          refine lk_iald d_Ma_findFrom_59 hq8 hk9 ?_
          replace h := x_nm h
          refine lk_istore_n d_Ma_findFrom_60 (by decide) rfl ?_
          refine lk_aload_n d_Ma_findFrom_61 rfl ?_
          refine lk_getR (k := 2) d_Ma_findFrom_62 ha6 (by decide) rfl (by decide) lf_Ma_19 rfl ?_
          refine lk_aload_n d_Ma_findFrom_65 rfl ?_
          refine lk_getI (k := 4) d_Ma_findFrom_66 ha6 (by decide) rfl (by decide) lf_Ma_53 rfl ?_
          obtain ⟨q11, hq11, h⟩ := x_b h
          obtain ⟨k12, hk12, h⟩ := x_b h
          refine lk_iald d_Ma_findFrom_69 hq11 hk12 ?_
          replace h := x_nm h
          refine lk_istore d_Ma_findFrom_70 (by decide) rfl ?_
          refine lk_aload_n d_Ma_findFrom_72 rfl ?_
          refine lk_getR (k := 3) d_Ma_findFrom_73 ha6 (by decide) rfl (by decide) lf_Ma_22 rfl ?_
          refine lk_aload_n d_Ma_findFrom_76 rfl ?_
          refine lk_getI (k := 4) d_Ma_findFrom_77 ha6 (by decide) rfl (by decide) lf_Ma_53 rfl ?_
          obtain ⟨q14, hq14, h⟩ := x_b h
          obtain ⟨k15, hk15, h⟩ := x_b h
          refine lk_lald d_Ma_findFrom_80 hq14 hk15 ?_
          replace h := x_nm h
          refine lk_lstore d_Ma_findFrom_81 (by decide) rfl ?_
          refine lk_aload_n d_Ma_findFrom_83 rfl ?_
          refine lk_iload_n d_Ma_findFrom_84 rfl ?_
          refine lk_iload d_Ma_findFrom_85 rfl ?_
          obtain ⟨p17, hp17, h⟩ := x_b h
          refine lk_callV0 d_Ma_findFrom_87 (x_obm ha6 rfl) (c_Ma_mark hp17) (Nat.le_of_ble_eq_true rfl) rfl M_Ma_mark lm_Ma_63 in_Ma_mark se_Ma_mark (by decide) rfl (Nat.le_of_ble_eq_true rfl) ?_
          refine lk_if_ne (tgt := 96) d_Ma_findFrom_90 (by decide) (fun hc => ?_) (fun hc => ?_)
          · replace h := x_ifn hc h
            refine lk_aload_n d_Ma_findFrom_96 rfl ?_
            obtain ⟨a18, ha18, h⟩ := x_b h
            refine lk_getR (k := 6) d_Ma_findFrom_97 ha18 (by decide) rfl (by decide) lf_Ma_29 rfl ?_
            refine lk_iload_n d_Ma_findFrom_100 rfl ?_
            obtain ⟨a19, ha19, h⟩ := x_b h
            obtain ⟨p20, hp20, h⟩ := x_b h
            refine lk_callV0 d_Ma_findFrom_101 (x_obm ha19 rfl) (c_Pr_kindAt hp20) (Nat.le_of_ble_eq_true rfl) rfl M_Pr_kindAt lm_Ma_67 in_Pr_kindAt se_Pr_kindAt (by decide) rfl (Nat.le_of_ble_eq_true rfl) ?_
            refine lk_bipush (v := 7) d_Ma_findFrom_104 rfl ?_
            refine lk_icmp_ne (tgt := 118) d_Ma_findFrom_106 (by decide) (fun hc => ?_) (fun hc => ?_)
            · replace h := x_ifn hc h
              refine lk_aload_n d_Ma_findFrom_118 rfl ?_
              refine lk_iload_n d_Ma_findFrom_119 rfl ?_
              refine lk_iload d_Ma_findFrom_120 rfl ?_
              refine lk_lload d_Ma_findFrom_122 rfl ?_
              obtain ⟨a21, ha21, h⟩ := x_b h
              obtain ⟨p22, hp22, h⟩ := x_b h
              refine lk_callV0 d_Ma_findFrom_124 (x_obm ha21 rfl) (c_Ma_step hp22) (Nat.le_of_ble_eq_true rfl) rfl M_Ma_step lm_Ma_77 in_Ma_step se_Ma_step (by decide) rfl (Nat.le_of_ble_eq_true rfl) ?_
              refine lk_iinc (v := _ + 1) d_Ma_findFrom_127 rfl rfl (by decide) rfl ?_
              refine lk_goto (tgt := 17) d_Ma_findFrom_130 (by decide) ?_
              refine Lk.sel [0, 2] rfl ?_
              exact ih _ _ _ _ h
            · replace h := x_ifp hc h
              refine lk_lload d_Ma_findFrom_109 rfl ?_
              refine lk_iconst (v := 1) d_Ma_findFrom_111 rfl ?_
              refine lk_iload d_Ma_findFrom_112 rfl ?_
              obtain ⟨p23, hp23, h⟩ := x_b h
              refine lk_callS0 d_Ma_findFrom_114 (c_C_withSlot hp23) (Nat.le_of_ble_eq_true rfl) rfl M_C_withSlot lm_Ma_73 st_C_withSlot (Nat.le_of_ble_eq_true rfl) ?_
              cases h
              exact Lk.stop ⟨rfl, Or.inr (Or.inr (Or.inl ⟨_, d_Ma_findFrom_117, rfl, rfl, rfl⟩))⟩
          · replace h := x_ifp hc h
            refine lk_goto (tgt := 127) d_Ma_findFrom_93 (by decide) ?_
            refine lk_iinc (v := _ + 1) d_Ma_findFrom_127 rfl rfl (by decide) rfl ?_
            refine lk_goto (tgt := 17) d_Ma_findFrom_130 (by decide) ?_
            refine Lk.sel [0, 2] rfl ?_
            exact ih _ _ _ _ h
def f_Ma_findFrom (z0 : Nat) (x1 : Int32) (s : hv_S) : Option (Int64 × hv_S) :=
  (x_ob s 6 ((some z0))).bind fun a1 =>
  (some (hv_setI s a1 4 0)).bind fun s2 =>
  (f_C_slotsFrom x1 s2).bind fun p3 =>
  (x_ob p3.2 6 ((some z0))).bind fun a4 =>
  (f_Ma_push a4 0 x1 p3.1 p3.2).bind fun p5 =>
  (L_Ma_findFrom_17 100000 ((some z0)) 0 p5).bind fun e24r => e24r.elim (fun e24 =>
    some ((0, e24))
  ) (fun w => some w)
set_option maxRecDepth 4000 in
set_option maxHeartbeats 2000000 in
theorem c_Ma_findFrom {G : lt_G} {z0 : Nat} {x1 : Int32} {s : hv_S} {p : Int64 × hv_S} (h : f_Ma_findFrom z0 x1 s = some p) : Ck G m_Ma_findFrom 4 0 0 [vR (some z0), vI x1] s (some (vJ p.1)) p.2 := by
  refine Ck.of (by decide) (Nat.le_of_ble_eq_true rfl) ?_
  unfold f_Ma_findFrom at h
  refine lk_aload_n d_Ma_findFrom_0 rfl ?_
  refine lk_iconst (v := 0) d_Ma_findFrom_1 rfl ?_
  obtain ⟨a1, ha1, h⟩ := x_b h
  replace h := x_nm h
  refine lk_putI (k := 4) d_Ma_findFrom_2 ha1 (by decide) rfl (by decide) lf_Ma_53 rfl rfl ?_
  refine lk_aload_n d_Ma_findFrom_5 rfl ?_
  refine lk_iconst (v := 0) d_Ma_findFrom_6 rfl ?_
  refine lk_iload_n d_Ma_findFrom_7 rfl ?_
  refine lk_iload_n d_Ma_findFrom_8 rfl ?_
  obtain ⟨p3, hp3, h⟩ := x_b h
  refine lk_callS0 d_Ma_findFrom_9 (c_C_slotsFrom hp3) (Nat.le_of_ble_eq_true rfl) rfl M_C_slotsFrom lm_Ma_56 st_C_slotsFrom (Nat.le_of_ble_eq_true rfl) ?_
  obtain ⟨a4, ha4, h⟩ := x_b h
  obtain ⟨p5, hp5, h⟩ := x_b h
  refine lk_callV0 d_Ma_findFrom_12 (x_obm ha4 rfl) (c_Ma_push hp5) (Nat.le_of_ble_eq_true rfl) rfl M_Ma_push lm_Ma_59 in_Ma_push se_Ma_push (by decide) rfl (Nat.le_of_ble_eq_true rfl) ?_
  refine lk_iconst (v := 0) d_Ma_findFrom_15 rfl ?_
  refine lk_istore_n d_Ma_findFrom_16 (by decide) rfl ?_
  obtain ⟨e24r, hl, h⟩ := x_b h
  refine Lk.sel [0, 2] rfl ?_
  refine Lk.trans (l_Ma_findFrom_17 _ _ _ _ _ hl) ?_
  intro pc' lo' st' s' mc' ms' hx
  cases e24r with
  | inl e24 =>
    obtain ⟨rfl, rfl, rfl, rfl, rfl, rfl⟩ := hx
    refine lk_lconst (v := 0) d_Ma_findFrom_133 rfl ?_
    cases h
    exact Lk.stop ⟨rfl, Or.inr (Or.inr (Or.inl ⟨_, d_Ma_findFrom_134, rfl, rfl, rfl⟩))⟩
  | inr w =>
    cases h
    exact Lk.stop hx
def L_Ma_find_25 : Nat → Option Nat → Int32 → hv_S → Option ((hv_S) ⊕ (Int64 × hv_S))
  | 0, _, _, _ => none
  | n + 1, x0, x3, s =>
    (x_ob s 6 x0).bind fun a6 =>
    (x_ob s 2 (hv_R s a6 7)).bind fun a7 =>
    (f_Tx_length a7 s).bind fun p8 =>
    if p8.1 < x3 then
      some (.inl p8.2)
    else
      (x_ob p8.2 6 x0).bind fun a9 =>
      (f_Ma_findFrom a9 x3 p8.2).bind fun p10 =>
      if (lg_cmp p10.1 0) = 0 then
        L_Ma_find_25 n x0 (x3 + 1) p10.2
      else
        some (.inr ((p10.1, p10.2)))
set_option maxRecDepth 4000 in
set_option maxHeartbeats 2000000 in
theorem l_Ma_find_25 {G : lt_G} : ∀ (n : Nat) (x0 : Option Nat) (x3 : Int32) (s : hv_S) (e0 : (hv_S) ⊕ (Int64 × hv_S)), L_Ma_find_25 n x0 x3 s = some e0 → Lk G m_Ma_find 5 25 [(0, vR x0), (3, vI x3)] [] s 0 0 (fun a b c d e f => match e0 with | .inl t => lk_at 59 [] [] t 0 0 a b c d e f | .inr w => lk_end m_Ma_find (some (vJ w.1)) w.2 a b c d e f) := by
  intro n
  induction n with
  | zero => intro x0 x3 s e0 h; cases h
  | succ n ih =>
    intro x0 x3 s e0 h
    unfold L_Ma_find_25 at h
    refine lk_iload_n d_Ma_find_25 rfl ?_
    refine lk_aload_n d_Ma_find_26 rfl ?_
    obtain ⟨a6, ha6, h⟩ := x_b h
    refine lk_getR (k := 7) d_Ma_find_27 ha6 (by decide) rfl (by decide) lf_Ma_33 rfl ?_
    obtain ⟨a7, ha7, h⟩ := x_b h
    obtain ⟨p8, hp8, h⟩ := x_b h
    refine lk_callV0 d_Ma_find_30 (x_obm ha7 rfl) (c_Tx_length hp8) (Nat.le_of_ble_eq_true rfl) rfl M_Tx_length lm_Ma_43 in_Tx_length se_Tx_length (by decide) rfl (Nat.le_of_ble_eq_true rfl) ?_
    refine lk_icmp_gt (tgt := 59) d_Ma_find_33 (by decide) (fun hc => ?_) (fun hc => ?_)
    · replace h := x_ifp hc h
      cases h
      refine Lk.sel [] rfl ?_
      exact Lk.stop ⟨rfl, rfl, rfl, rfl, rfl, rfl⟩
    · replace h := x_ifn hc h
      refine lk_aload_n d_Ma_find_36 rfl ?_
      refine lk_iload_n d_Ma_find_37 rfl ?_
      obtain ⟨a9, ha9, h⟩ := x_b h
      obtain ⟨p10, hp10, h⟩ := x_b h
      refine lk_callV0 d_Ma_find_38 (x_obm ha9 rfl) (c_Ma_findFrom hp10) (Nat.le_of_ble_eq_true rfl) rfl M_Ma_findFrom lm_Ma_49 in_Ma_findFrom se_Ma_findFrom (by decide) rfl (Nat.le_of_ble_eq_true rfl) ?_
      refine lk_lstore d_Ma_find_41 (by decide) rfl ?_
      refine lk_lload d_Ma_find_43 rfl ?_
      refine lk_lconst (v := 0) d_Ma_find_45 rfl ?_
      refine lk_lcmp d_Ma_find_46 ?_
      refine lk_if_eq (tgt := 53) d_Ma_find_47 (by decide) (fun hc => ?_) (fun hc => ?_)
      · replace h := x_ifp hc h
        refine lk_iinc (v := _ + 1) d_Ma_find_53 rfl rfl (by decide) rfl ?_
        refine lk_goto (tgt := 25) d_Ma_find_56 (by decide) ?_
        refine Lk.sel [0, 3] rfl ?_
        exact ih _ _ _ _ h
      · replace h := x_ifn hc h
        refine lk_lload d_Ma_find_50 rfl ?_
        cases h
        exact Lk.stop ⟨rfl, Or.inr (Or.inr (Or.inl ⟨_, d_Ma_find_52, rfl, rfl, rfl⟩))⟩
def f_Ma_find (z0 : Nat) (r1 : Option Nat) (r2 : Option Nat) (s : hv_S) : Option (Int64 × hv_S) :=
  (x_ob s 6 ((some z0))).bind fun a1 =>
  (some (hv_setR s a1 6 r1)).bind fun s2 =>
  (some (hv_setR s2 a1 7 r2)).bind fun s3 =>
  (some (hv_setI s3 a1 5 0)).bind fun s4 =>
  (f_Ar_fillJ (hv_R s4 a1 0) 0 s4).bind fun p5 =>
  (L_Ma_find_25 100000 ((some z0)) 0 p5).bind fun e11r => e11r.elim (fun e11 =>
    some ((0, e11))
  ) (fun w => some w)
set_option maxRecDepth 4000 in
set_option maxHeartbeats 2000000 in
theorem c_Ma_find {G : lt_G} {z0 : Nat} {r1 : Option Nat} {r2 : Option Nat} {s : hv_S} {p : Int64 × hv_S} (h : f_Ma_find z0 r1 r2 s = some p) : Ck G m_Ma_find 5 0 0 [vR (some z0), vR r1, vR r2] s (some (vJ p.1)) p.2 := by
  refine Ck.of (by decide) (Nat.le_of_ble_eq_true rfl) ?_
  unfold f_Ma_find at h
  refine lk_aload_n d_Ma_find_0 rfl ?_
  refine lk_aload_n d_Ma_find_1 rfl ?_
  obtain ⟨a1, ha1, h⟩ := x_b h
  replace h := x_nm h
  refine lk_putR (k := 6) d_Ma_find_2 ha1 (by decide) rfl (by decide) lf_Ma_29 rfl rfl ?_
  refine lk_aload_n d_Ma_find_5 rfl ?_
  refine lk_aload_n d_Ma_find_6 rfl ?_
  replace h := x_nm h
  refine lk_putR (k := 7) d_Ma_find_7 ha1 (by decide) rfl (by decide) lf_Ma_33 rfl rfl ?_
  refine lk_aload_n d_Ma_find_10 rfl ?_
  refine lk_iconst (v := 0) d_Ma_find_11 rfl ?_
  replace h := x_nm h
  refine lk_putI (k := 5) d_Ma_find_12 ha1 (by decide) rfl (by decide) lf_Ma_25 rfl rfl ?_
  refine lk_aload_n d_Ma_find_15 rfl ?_
  refine lk_getR (k := 0) d_Ma_find_16 ha1 (by decide) rfl (by decide) lf_Ma_9 rfl ?_
  refine lk_lconst (v := 0) d_Ma_find_19 rfl ?_
  obtain ⟨p5, hp5, h⟩ := x_b h
  refine lk_callS0 d_Ma_find_20 (c_Ar_fillJ hp5) (Nat.le_of_ble_eq_true rfl) rfl M_Ar_fillJ lm_Ma_37 st_Ar_fillJ (Nat.le_of_ble_eq_true rfl) ?_
  refine lk_iconst (v := 0) d_Ma_find_23 rfl ?_
  refine lk_istore_n d_Ma_find_24 (by decide) rfl ?_
  obtain ⟨e11r, hl, h⟩ := x_b h
  refine Lk.sel [0, 3] rfl ?_
  refine Lk.trans (l_Ma_find_25 _ _ _ _ _ hl) ?_
  intro pc' lo' st' s' mc' ms' hx
  cases e11r with
  | inl e11 =>
    obtain ⟨rfl, rfl, rfl, rfl, rfl, rfl⟩ := hx
    refine lk_lconst (v := 0) d_Ma_find_59 rfl ?_
    cases h
    exact Lk.stop ⟨rfl, Or.inr (Or.inr (Or.inl ⟨_, d_Ma_find_60, rfl, rfl, rfl⟩))⟩
  | inr w =>
    cases h
    exact Lk.stop hx
