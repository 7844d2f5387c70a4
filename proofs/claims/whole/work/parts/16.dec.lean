/-! WHAT THE METHODS DO: partial functions f_ over the view, loops L_, and the proofs c_, l_ that the bytecode does so; printed by wip/whole/gen_dec.py -/
def f_Au_reset (z0 : Nat) (s : hv_S) : Option (hv_S) :=
  (x_ob s 9 ((some z0))).bind fun a1 =>
  (some (hv_setI s a1 4 0)).bind fun s2 =>
  (some (hv_setI s2 a1 5 0)).bind fun s3 =>
  some s3
set_option maxRecDepth 4000 in
set_option maxHeartbeats 2000000 in
theorem c_Au_reset {G : lt_G} {z0 : Nat} {s : hv_S} {p : hv_S} (h : f_Au_reset z0 s = some p) : Ck G m_Au_reset 1 0 0 [vR (some z0)] s none p := by
  refine Ck.of (by decide) (Nat.le_of_ble_eq_true rfl) ?_
  unfold f_Au_reset at h
  refine lk_aload_n d_Au_reset_0 rfl ?_
  refine lk_iconst (v := 0) d_Au_reset_1 rfl ?_
  obtain ⟨a1, ha1, h⟩ := x_b h
  replace h := x_nm h
  refine lk_putI (k := 4) d_Au_reset_2 ha1 (by decide) rfl (by decide) lf_Au_42 rfl rfl ?_
  refine lk_aload_n d_Au_reset_5 rfl ?_
  refine lk_iconst (v := 0) d_Au_reset_6 rfl ?_
  replace h := x_nm h
  refine lk_putI (k := 5) d_Au_reset_7 ha1 (by decide) rfl (by decide) lf_Au_46 rfl rfl ?_
  cases h
  exact Lk.stop ⟨rfl, Or.inl ⟨d_Au_reset_10, rfl, rfl, rfl⟩⟩
def f_Au_keptCount (z0 : Nat) (s : hv_S) : Option (Int32 × hv_S) :=
  (x_ob s 9 ((some z0))).bind fun a1 =>
  some ((hv_I s a1 4, s))
set_option maxRecDepth 4000 in
set_option maxHeartbeats 2000000 in
theorem c_Au_keptCount {G : lt_G} {z0 : Nat} {s : hv_S} {p : Int32 × hv_S} (h : f_Au_keptCount z0 s = some p) : Ck G m_Au_keptCount 1 0 0 [vR (some z0)] s (some (vI p.1)) p.2 := by
  refine Ck.of (by decide) (Nat.le_of_ble_eq_true rfl) ?_
  unfold f_Au_keptCount at h
  refine lk_aload_n d_Au_keptCount_0 rfl ?_
  obtain ⟨a1, ha1, h⟩ := x_b h
  refine lk_getI (k := 4) d_Au_keptCount_1 ha1 (by decide) rfl (by decide) lf_Au_42 rfl ?_
  cases h
  exact Lk.stop ⟨rfl, Or.inr (Or.inl ⟨_, _, d_Au_keptCount_4, rfl, rfl, rfl, rfl⟩)⟩
def f_Au_flushCount (z0 : Nat) (s : hv_S) : Option (Int32 × hv_S) :=
  (x_ob s 9 ((some z0))).bind fun a1 =>
  some ((hv_I s a1 5, s))
set_option maxRecDepth 4000 in
set_option maxHeartbeats 2000000 in
theorem c_Au_flushCount {G : lt_G} {z0 : Nat} {s : hv_S} {p : Int32 × hv_S} (h : f_Au_flushCount z0 s = some p) : Ck G m_Au_flushCount 1 0 0 [vR (some z0)] s (some (vI p.1)) p.2 := by
  refine Ck.of (by decide) (Nat.le_of_ble_eq_true rfl) ?_
  unfold f_Au_flushCount at h
  refine lk_aload_n d_Au_flushCount_0 rfl ?_
  obtain ⟨a1, ha1, h⟩ := x_b h
  refine lk_getI (k := 5) d_Au_flushCount_1 ha1 (by decide) rfl (by decide) lf_Au_46 rfl ?_
  cases h
  exact Lk.stop ⟨rfl, Or.inr (Or.inl ⟨_, _, d_Au_flushCount_4, rfl, rfl, rfl, rfl⟩)⟩
def f_Au_statesMade (z0 : Nat) (s : hv_S) : Option (Int32 × hv_S) :=
  (x_ob s 9 ((some z0))).bind fun a1 =>
  some ((hv_I s a1 7, s))
set_option maxRecDepth 4000 in
set_option maxHeartbeats 2000000 in
theorem c_Au_statesMade {G : lt_G} {z0 : Nat} {s : hv_S} {p : Int32 × hv_S} (h : f_Au_statesMade z0 s = some p) : Ck G m_Au_statesMade 1 0 0 [vR (some z0)] s (some (vI p.1)) p.2 := by
  refine Ck.of (by decide) (Nat.le_of_ble_eq_true rfl) ?_
  unfold f_Au_statesMade at h
  refine lk_aload_n d_Au_statesMade_0 rfl ?_
  obtain ⟨a1, ha1, h⟩ := x_b h
  refine lk_getI (k := 7) d_Au_statesMade_1 ha1 (by decide) rfl (by decide) lf_Au_49 rfl ?_
  cases h
  exact Lk.stop ⟨rfl, Or.inr (Or.inl ⟨_, _, d_Au_statesMade_4, rfl, rfl, rfl, rfl⟩)⟩
def f_Au_gaveUp (z0 : Nat) (s : hv_S) : Option (Int32 × hv_S) :=
  (x_ob s 9 ((some z0))).bind fun a1 =>
  ((
    if (hv_I s a1 6) < 3 then
      some 0
    else
      some 1
  ) : Option (Int32)).bind fun t2 =>
  (x_z t2).bind fun z3 =>
  some ((z3, s))
set_option maxRecDepth 4000 in
set_option maxHeartbeats 2000000 in
theorem c_Au_gaveUp {G : lt_G} {z0 : Nat} {s : hv_S} {p : Int32 × hv_S} (h : f_Au_gaveUp z0 s = some p) : Ck G m_Au_gaveUp 1 0 0 [vR (some z0)] s (some (vI p.1)) p.2 := by
  refine Ck.of (by decide) (Nat.le_of_ble_eq_true rfl) ?_
  unfold f_Au_gaveUp at h
  refine lk_aload_n d_Au_gaveUp_0 rfl ?_
  obtain ⟨a1, ha1, h⟩ := x_b h
  refine lk_getI (k := 6) d_Au_gaveUp_1 ha1 (by decide) rfl (by decide) lf_Au_52 rfl ?_
  refine lk_iconst (v := 3) d_Au_gaveUp_4 rfl ?_
  obtain ⟨t2, hj, h⟩ := x_b h
  refine Lk.joinA 13 [] [] rfl 2 [vI t2] ?_ ?_
  · replace h := hj
    refine lk_icmp_lt (tgt := 12) d_Au_gaveUp_5 (by decide) (fun hc => ?_) (fun hc => ?_)
    · replace h := x_ifp hc h
      refine lk_iconst (v := 0) d_Au_gaveUp_12 rfl ?_
      cases h
      refine Lk.sel [] rfl ?_
      exact Lk.stop ⟨rfl, rfl, rfl, rfl, rfl, rfl⟩
    · replace h := x_ifn hc h
      refine lk_iconst (v := 1) d_Au_gaveUp_8 rfl ?_
      refine lk_goto (tgt := 13) d_Au_gaveUp_9 (by decide) ?_
      cases h
      refine Lk.sel [] rfl ?_
      exact Lk.stop ⟨rfl, rfl, rfl, rfl, rfl, rfl⟩
  · clear hj
    obtain ⟨z3, hz30, h⟩ := x_b h
    obtain ⟨rfl, hz3⟩ := x_z_some hz30
    cases h
    exact Lk.stop ⟨rfl, Or.inr (Or.inl ⟨_, _, d_Au_gaveUp_13, rfl, x_zn hz3, rfl, rfl⟩)⟩
def f_Au_stateAt (z0 : Nat) (x1 : Int32) (s : hv_S) : Option (Option Nat × hv_S) :=
  ((
    if x1 < 0 then
      some none
    else
      (x_ob s 9 ((some z0))).bind fun a1 =>
      if (hv_I s a1 4) ≤ x1 then
        some none
      else
        (x_ar s 20 (hv_R s a1 2)).bind fun q2 =>
        if (nI q2.2) ≤ x1 then
          some none
        else
          (x_ix q2.2 x1).bind fun k3 =>
          some (hv_R s q2.1 k3)
  ) : Option ((Option Nat))).bind fun t4 =>
  some ((t4, s))
set_option maxRecDepth 4000 in
set_option maxHeartbeats 2000000 in
theorem c_Au_stateAt {G : lt_G} {z0 : Nat} {x1 : Int32} {s : hv_S} {p : Option Nat × hv_S} (h : f_Au_stateAt z0 x1 s = some p) : Ck G m_Au_stateAt 1 0 0 [vR (some z0), vI x1] s (some (vR p.1)) p.2 := by
  refine Ck.of (by decide) (Nat.le_of_ble_eq_true rfl) ?_
  unfold f_Au_stateAt at h
  refine lk_iload_n d_Au_stateAt_0 rfl ?_
  obtain ⟨t4, hj, h⟩ := x_b h
  refine Lk.joinA 31 [] [] rfl 1 [vR t4] ?_ ?_
  · replace h := hj
    refine lk_if_lt (tgt := 30) d_Au_stateAt_1 (by decide) (fun hc => ?_) (fun hc => ?_)
    · replace h := x_ifp hc h
      refine lk_null d_Au_stateAt_30 ?_
      cases h
      refine Lk.sel [] rfl ?_
      exact Lk.stop ⟨rfl, rfl, rfl, rfl, rfl, rfl⟩
    · replace h := x_ifn hc h
      refine lk_iload_n d_Au_stateAt_4 rfl ?_
      refine lk_aload_n d_Au_stateAt_5 rfl ?_
      obtain ⟨a1, ha1, h⟩ := x_b h
      refine lk_getI (k := 4) d_Au_stateAt_6 ha1 (by decide) rfl (by decide) lf_Au_42 rfl ?_
      refine lk_icmp_ge (tgt := 30) d_Au_stateAt_9 (by decide) (fun hc => ?_) (fun hc => ?_)
      · replace h := x_ifp hc h
        refine lk_null d_Au_stateAt_30 ?_
        cases h
        refine Lk.sel [] rfl ?_
        exact Lk.stop ⟨rfl, rfl, rfl, rfl, rfl, rfl⟩
      · replace h := x_ifn hc h
        refine lk_iload_n d_Au_stateAt_12 rfl ?_
        refine lk_aload_n d_Au_stateAt_13 rfl ?_
        refine lk_getR (k := 2) d_Au_stateAt_14 ha1 (by decide) rfl (by decide) lf_Au_38 rfl ?_
        obtain ⟨q2, hq2, h⟩ := x_b h
        refine lk_alen d_Au_stateAt_17 hq2 (by decide) ?_
        refine lk_icmp_ge (tgt := 30) d_Au_stateAt_18 (by decide) (fun hc => ?_) (fun hc => ?_)
        · replace h := x_ifp hc h
          refine lk_null d_Au_stateAt_30 ?_
          cases h
          refine Lk.sel [] rfl ?_
          exact Lk.stop ⟨rfl, rfl, rfl, rfl, rfl, rfl⟩
        · replace h := x_ifn hc h
          refine lk_aload_n d_Au_stateAt_21 rfl ?_
          refine lk_getR (k := 2) d_Au_stateAt_22 ha1 (by decide) rfl (by decide) lf_Au_38 rfl ?_
          refine lk_iload_n d_Au_stateAt_25 rfl ?_
          obtain ⟨k3, hk3, h⟩ := x_b h
          refine lk_aald d_Au_stateAt_26 hq2 hk3 rfl (by decide) ?_
          refine lk_goto (tgt := 31) d_Au_stateAt_27 (by decide) ?_
          cases h
          refine Lk.sel [] rfl ?_
          exact Lk.stop ⟨rfl, rfl, rfl, rfl, rfl, rfl⟩
  · clear hj
    cases h
    exact Lk.stop ⟨rfl, Or.inr (Or.inr (Or.inr ⟨_, _, d_Au_stateAt_31, rfl, rfl, rfl⟩))⟩
def L_Au_keep_18 : Nat → Option Nat → Option Nat → Int32 → hv_S → Option ((hv_S) ⊕ (Int32 × hv_S))
  | 0, _, _, _, _ => none
  | n + 1, x0, x3, x4, s =>
    (x_ob s 9 x0).bind fun a4 =>
    if (hv_I s a4 4) ≤ x4 then
      some (.inl s)
    else
      (x_ar s 20 (hv_R s a4 2)).bind fun q5 =>
      if (nI q5.2) ≤ x4 then
        some (.inl s)
      else
        (x_ix q5.2 x4).bind fun k6 =>
        (x_ob s 10 (hv_R s q5.1 k6)).bind fun a7 =>
        (f_St_isSameAs a7 x3 s).bind fun p8 =>
        if p8.1 = 0 then
          L_Au_keep_18 n x0 x3 (x4 + 1) p8.2
        else
          some (.inr ((x4, p8.2)))
set_option maxRecDepth 4000 in
set_option maxHeartbeats 2000000 in
theorem l_Au_keep_18 {G : lt_G} : ∀ (n : Nat) (x0 : Option Nat) (x3 : Option Nat) (x4 : Int32) (s : hv_S) (e0 : (hv_S) ⊕ (Int32 × hv_S)), L_Au_keep_18 n x0 x3 x4 s = some e0 → Lk G m_Au_keep 3 18 [(0, vR x0), (3, vR x3), (4, vI x4)] [] s 0 0 (fun a b c d e f => match e0 with | .inl t => lk_at 60 [(0, vR x0), (3, vR x3)] [] t 0 0 a b c d e f | .inr w => lk_end m_Au_keep (some (vI w.1)) w.2 a b c d e f) := by
  intro n
  induction n with
  | zero => intro x0 x3 x4 s e0 h; cases h
  | succ n ih =>
    intro x0 x3 x4 s e0 h
    unfold L_Au_keep_18 at h
    refine lk_iload d_Au_keep_18 rfl ?_
    refine lk_aload_n d_Au_keep_20 rfl ?_
    obtain ⟨a4, ha4, h⟩ := x_b h
    refine lk_getI (k := 4) d_Au_keep_21 ha4 (by decide) rfl (by decide) lf_Au_42 rfl ?_
    refine lk_icmp_ge (tgt := 60) d_Au_keep_24 (by decide) (fun hc => ?_) (fun hc => ?_)
    · replace h := x_ifp hc h
      cases h
      refine Lk.sel [0, 3] rfl ?_
      exact Lk.stop ⟨rfl, rfl, rfl, rfl, rfl, rfl⟩
    · replace h := x_ifn hc h
      refine lk_iload d_Au_keep_27 rfl ?_
      refine lk_aload_n d_Au_keep_29 rfl ?_
      refine lk_getR (k := 2) d_Au_keep_30 ha4 (by decide) rfl (by decide) lf_Au_38 rfl ?_
      obtain ⟨q5, hq5, h⟩ := x_b h
      refine lk_alen d_Au_keep_33 hq5 (by decide) ?_
      refine lk_icmp_ge (tgt := 60) d_Au_keep_34 (by decide) (fun hc => ?_) (fun hc => ?_)
      · replace h := x_ifp hc h
        cases h
        refine Lk.sel [0, 3] rfl ?_
        exact Lk.stop ⟨rfl, rfl, rfl, rfl, rfl, rfl⟩
      · replace h := x_ifn hc h
        refine lk_aload_n d_Au_keep_37 rfl ?_
        refine lk_getR (k := 2) d_Au_keep_38 ha4 (by decide) rfl (by decide) lf_Au_38 rfl ?_
        refine lk_iload d_Au_keep_41 rfl ?_
        obtain ⟨k6, hk6, h⟩ := x_b h
        refine lk_aald d_Au_keep_43 hq5 hk6 rfl (by decide) ?_
        refine lk_aload_n d_Au_keep_44 rfl ?_
        obtain ⟨a7, ha7, h⟩ := x_b h
        obtain ⟨p8, hp8, h⟩ := x_b h
        refine lk_callV0 d_Au_keep_45 (x_obm ha7 rfl) (c_St_isSameAs hp8) (Nat.le_of_ble_eq_true rfl) rfl M_St_isSameAs lm_Au_127 in_St_isSameAs se_St_isSameAs (by decide) rfl (Nat.le_of_ble_eq_true rfl) ?_
        refine lk_if_eq (tgt := 54) d_Au_keep_48 (by decide) (fun hc => ?_) (fun hc => ?_)
        · replace h := x_ifp hc h
          refine lk_iinc (v := _ + 1) d_Au_keep_54 rfl rfl (by decide) rfl ?_
          refine lk_goto (tgt := 18) d_Au_keep_57 (by decide) ?_
          refine Lk.sel [0, 3, 4] rfl ?_
          exact ih _ _ _ _ _ h
        · replace h := x_ifn hc h
          refine lk_iload d_Au_keep_51 rfl ?_
          cases h
          exact Lk.stop ⟨rfl, Or.inr (Or.inl ⟨_, _, d_Au_keep_53, rfl, rfl, rfl, rfl⟩)⟩
def f_Au_keep (z0 : Nat) (r1 : Option Nat) (x2 : Int32) (s : hv_S) : Option (Int32 × hv_S) :=
  (x_ob s 9 ((some z0))).bind fun a1 =>
  (x_ob s 10 (hv_R s a1 3)).bind fun a2 =>
  (f_St_fill a2 r1 (hv_R s a1 1) x2 s).bind fun p3 =>
  (L_Au_keep_18 100000 ((some z0)) (hv_R s a1 3) 0 p3).bind fun e9r => e9r.elim (fun e9 =>
    (x_ob e9 9 ((some z0))).bind fun a10 =>
    if (hv_I e9 a10 4) < 0 then
      (some (hv_setI e9 a10 4 0)).bind fun s11 =>
      (some (hv_setI s11 a10 5 ((hv_I s11 a10 5) + (1 : Int32)))).bind fun s12 =>
      (some (hv_setI s12 a10 6 ((hv_I s12 a10 6) + (1 : Int32)))).bind fun s13 =>
      (f_Au_gaveUp a10 s13).bind fun p14 =>
      if p14.1 = 0 then
        (x_ob p14.2 9 ((some z0))).bind fun a15 =>
        (x_ar p14.2 20 (hv_R p14.2 a15 2)).bind fun q16 =>
        (x_ix q16.2 (hv_I p14.2 a15 4)).bind fun k17 =>
        (some (hv_setR p14.2 a15 3 (hv_R p14.2 q16.1 k17))).bind fun s18 =>
        (x_ar s18 20 (hv_R s18 a15 2)).bind fun q19 =>
        (x_ix q19.2 (hv_I s18 a15 4)).bind fun k20 =>
        (x_ob s18 10 (hv_R s a1 3)).bind fun a21 =>
        (some (hv_setR s18 q19.1 k20 (some a21))).bind fun s22 =>
        (some (hv_setI s22 a15 4 ((hv_I s22 a15 4) + (1 : Int32)))).bind fun s23 =>
        (some (hv_setI s23 a15 7 ((hv_I s23 a15 7) + (1 : Int32)))).bind fun s24 =>
        some (((hv_I s24 a15 4) - (1 : Int32), s24))
      else
        some (((-1), p14.2))
    else
      (x_ar e9 20 (hv_R e9 a10 2)).bind fun q25 =>
      if (hv_I e9 a10 4) < (nI q25.2) then
        (x_ix q25.2 (hv_I e9 a10 4)).bind fun k26 =>
        (some (hv_setR e9 a10 3 (hv_R e9 q25.1 k26))).bind fun s27 =>
        (x_ar s27 20 (hv_R s27 a10 2)).bind fun q28 =>
        (x_ix q28.2 (hv_I s27 a10 4)).bind fun k29 =>
        (x_ob s27 10 (hv_R s a1 3)).bind fun a30 =>
        (some (hv_setR s27 q28.1 k29 (some a30))).bind fun s31 =>
        (some (hv_setI s31 a10 4 ((hv_I s31 a10 4) + (1 : Int32)))).bind fun s32 =>
        (some (hv_setI s32 a10 7 ((hv_I s32 a10 7) + (1 : Int32)))).bind fun s33 =>
        some (((hv_I s33 a10 4) - (1 : Int32), s33))
      else
        (some (hv_setI e9 a10 4 0)).bind fun s34 =>
        (some (hv_setI s34 a10 5 ((hv_I s34 a10 5) + (1 : Int32)))).bind fun s35 =>
        (some (hv_setI s35 a10 6 ((hv_I s35 a10 6) + (1 : Int32)))).bind fun s36 =>
        (f_Au_gaveUp a10 s36).bind fun p37 =>
        if p37.1 = 0 then
          (x_ob p37.2 9 ((some z0))).bind fun a38 =>
          (x_ar p37.2 20 (hv_R p37.2 a38 2)).bind fun q39 =>
          (x_ix q39.2 (hv_I p37.2 a38 4)).bind fun k40 =>
          (some (hv_setR p37.2 a38 3 (hv_R p37.2 q39.1 k40))).bind fun s41 =>
          (x_ar s41 20 (hv_R s41 a38 2)).bind fun q42 =>
          (x_ix q42.2 (hv_I s41 a38 4)).bind fun k43 =>
          (x_ob s41 10 (hv_R s a1 3)).bind fun a44 =>
          (some (hv_setR s41 q42.1 k43 (some a44))).bind fun s45 =>
          (some (hv_setI s45 a38 4 ((hv_I s45 a38 4) + (1 : Int32)))).bind fun s46 =>
          (some (hv_setI s46 a38 7 ((hv_I s46 a38 7) + (1 : Int32)))).bind fun s47 =>
          some (((hv_I s47 a38 4) - (1 : Int32), s47))
        else
          some (((-1), p37.2))
  ) (fun w => some w)
set_option maxRecDepth 4000 in
set_option maxHeartbeats 2000000 in
theorem c_Au_keep {G : lt_G} {z0 : Nat} {r1 : Option Nat} {x2 : Int32} {s : hv_S} {p : Int32 × hv_S} (h : f_Au_keep z0 r1 x2 s = some p) : Ck G m_Au_keep 3 0 0 [vR (some z0), vR r1, vI x2] s (some (vI p.1)) p.2 := by
  refine Ck.of (by decide) (Nat.le_of_ble_eq_true rfl) ?_
  unfold f_Au_keep at h
  refine lk_aload_n d_Au_keep_0 rfl ?_
  obtain ⟨a1, ha1, h⟩ := x_b h
  refine lk_getR (k := 3) d_Au_keep_1 ha1 (by decide) rfl (by decide) lf_Au_28 rfl ?_
  refine lk_astore_n d_Au_keep_4 (by decide) rfl ?_
  refine lk_aload_n d_Au_keep_5 rfl ?_
  refine lk_aload_n d_Au_keep_6 rfl ?_
  refine lk_aload_n d_Au_keep_7 rfl ?_
  refine lk_getR (k := 1) d_Au_keep_8 ha1 (by decide) rfl (by decide) lf_Au_21 rfl ?_
  refine lk_iload_n d_Au_keep_11 rfl ?_
  obtain ⟨a2, ha2, h⟩ := x_b h
  obtain ⟨p3, hp3, h⟩ := x_b h
  refine lk_callV0 d_Au_keep_12 (x_obm ha2 rfl) (c_St_fill hp3) (Nat.le_of_ble_eq_true rfl) rfl M_St_fill lm_Au_123 in_St_fill se_St_fill (by decide) rfl (Nat.le_of_ble_eq_true rfl) ?_
  refine lk_iconst (v := 0) d_Au_keep_15 rfl ?_
  refine lk_istore d_Au_keep_16 (by decide) rfl ?_
  obtain ⟨e9r, hl, h⟩ := x_b h
  refine Lk.sel [0, 3, 4] rfl ?_
  refine Lk.trans (l_Au_keep_18 _ _ _ _ _ _ hl) ?_
  intro pc' lo' st' s' mc' ms' hx
  cases e9r with
  | inl e9 =>
    obtain ⟨rfl, rfl, rfl, rfl, rfl, rfl⟩ := hx
    refine lk_aload_n d_Au_keep_60 rfl ?_
    obtain ⟨a10, ha10, h⟩ := x_b h
    refine lk_getI (k := 4) d_Au_keep_61 ha10 (by decide) rfl (by decide) lf_Au_42 rfl ?_
    refine lk_if_lt (tgt := 79) d_Au_keep_64 (by decide) (fun hc => ?_) (fun hc => ?_)
    · replace h := x_ifp hc h
      refine lk_aload_n d_Au_keep_79 rfl ?_
      refine lk_iconst (v := 0) d_Au_keep_80 rfl ?_
      replace h := x_nm h
      refine lk_putI (k := 4) d_Au_keep_81 ha10 (by decide) rfl (by decide) lf_Au_42 rfl rfl ?_
      refine lk_aload_n d_Au_keep_84 rfl ?_
      refine lk_dup d_Au_keep_85 rfl ?_
      refine lk_getI (k := 5) d_Au_keep_86 ha10 (by decide) rfl (by decide) lf_Au_46 rfl ?_
      refine lk_iconst (v := 1) d_Au_keep_89 rfl ?_
      refine lk_iadd d_Au_keep_90 ?_
      replace h := x_nm h
      refine lk_putI (k := 5) d_Au_keep_91 ha10 (by decide) rfl (by decide) lf_Au_46 rfl rfl ?_
      refine lk_aload_n d_Au_keep_94 rfl ?_
      refine lk_dup d_Au_keep_95 rfl ?_
      refine lk_getI (k := 6) d_Au_keep_96 ha10 (by decide) rfl (by decide) lf_Au_52 rfl ?_
      refine lk_iconst (v := 1) d_Au_keep_99 rfl ?_
      refine lk_iadd d_Au_keep_100 ?_
      replace h := x_nm h
      refine lk_putI (k := 6) d_Au_keep_101 ha10 (by decide) rfl (by decide) lf_Au_52 rfl rfl ?_
      refine lk_aload_n d_Au_keep_104 rfl ?_
      obtain ⟨p14, hp14, h⟩ := x_b h
      refine lk_callV0 d_Au_keep_105 (x_obm ha10 rfl) (c_Au_gaveUp hp14) (Nat.le_of_ble_eq_true rfl) rfl M_Au_gaveUp lm_Au_131 in_Au_gaveUp se_Au_gaveUp (by decide) rfl (Nat.le_of_ble_eq_true rfl) ?_
      refine lk_if_eq (tgt := 113) d_Au_keep_108 (by decide) (fun hc => ?_) (fun hc => ?_)
      · replace h := x_ifp hc h
        refine lk_aload_n d_Au_keep_113 rfl ?_
        refine lk_aload_n d_Au_keep_114 rfl ?_
        obtain ⟨a15, ha15, h⟩ := x_b h
        refine lk_getR (k := 2) d_Au_keep_115 ha15 (by decide) rfl (by decide) lf_Au_38 rfl ?_
        refine lk_aload_n d_Au_keep_118 rfl ?_
        refine lk_getI (k := 4) d_Au_keep_119 ha15 (by decide) rfl (by decide) lf_Au_42 rfl ?_
        obtain ⟨q16, hq16, h⟩ := x_b h
        obtain ⟨k17, hk17, h⟩ := x_b h
        refine lk_aald d_Au_keep_122 hq16 hk17 rfl (by decide) ?_
        replace h := x_nm h
        refine lk_putR (k := 3) d_Au_keep_123 ha15 (by decide) rfl (by decide) lf_Au_28 rfl rfl ?_
        refine lk_aload_n d_Au_keep_126 rfl ?_
        refine lk_getR (k := 2) d_Au_keep_127 ha15 (by decide) rfl (by decide) lf_Au_38 rfl ?_
        refine lk_aload_n d_Au_keep_130 rfl ?_
        refine lk_getI (k := 4) d_Au_keep_131 ha15 (by decide) rfl (by decide) lf_Au_42 rfl ?_
        refine lk_aload_n d_Au_keep_134 rfl ?_
        obtain ⟨q19, hq19, h⟩ := x_b h
        obtain ⟨k20, hk20, h⟩ := x_b h
        obtain ⟨a21, ha21, h⟩ := x_b h
        replace h := x_nm h
        refine lk_aast d_Au_keep_135 hq19 hk20 ha21 rfl (by decide) (by decide) rfl ?_
        refine lk_aload_n d_Au_keep_136 rfl ?_
        refine lk_dup d_Au_keep_137 rfl ?_
        refine lk_getI (k := 4) d_Au_keep_138 ha15 (by decide) rfl (by decide) lf_Au_42 rfl ?_
        refine lk_iconst (v := 1) d_Au_keep_141 rfl ?_
        refine lk_iadd d_Au_keep_142 ?_
        replace h := x_nm h
        refine lk_putI (k := 4) d_Au_keep_143 ha15 (by decide) rfl (by decide) lf_Au_42 rfl rfl ?_
        refine lk_aload_n d_Au_keep_146 rfl ?_
        refine lk_dup d_Au_keep_147 rfl ?_
        refine lk_getI (k := 7) d_Au_keep_148 ha15 (by decide) rfl (by decide) lf_Au_49 rfl ?_
        refine lk_iconst (v := 1) d_Au_keep_151 rfl ?_
        refine lk_iadd d_Au_keep_152 ?_
        replace h := x_nm h
        refine lk_putI (k := 7) d_Au_keep_153 ha15 (by decide) rfl (by decide) lf_Au_49 rfl rfl ?_
        refine lk_aload_n d_Au_keep_156 rfl ?_
        refine lk_getI (k := 4) d_Au_keep_157 ha15 (by decide) rfl (by decide) lf_Au_42 rfl ?_
        refine lk_iconst (v := 1) d_Au_keep_160 rfl ?_
        refine lk_isub d_Au_keep_161 ?_
        cases h
        exact Lk.stop ⟨rfl, Or.inr (Or.inl ⟨_, _, d_Au_keep_162, rfl, rfl, rfl, rfl⟩)⟩
      · replace h := x_ifn hc h
        refine lk_iconst (v := (-1)) d_Au_keep_111 rfl ?_
        cases h
        exact Lk.stop ⟨rfl, Or.inr (Or.inl ⟨_, _, d_Au_keep_112, rfl, rfl, rfl, rfl⟩)⟩
    · replace h := x_ifn hc h
      refine lk_aload_n d_Au_keep_67 rfl ?_
      refine lk_getI (k := 4) d_Au_keep_68 ha10 (by decide) rfl (by decide) lf_Au_42 rfl ?_
      refine lk_aload_n d_Au_keep_71 rfl ?_
      refine lk_getR (k := 2) d_Au_keep_72 ha10 (by decide) rfl (by decide) lf_Au_38 rfl ?_
      obtain ⟨q25, hq25, h⟩ := x_b h
      refine lk_alen d_Au_keep_75 hq25 (by decide) ?_
      refine lk_icmp_lt (tgt := 113) d_Au_keep_76 (by decide) (fun hc => ?_) (fun hc => ?_)
      · replace h := x_ifp hc h
        refine lk_aload_n d_Au_keep_113 rfl ?_
        refine lk_aload_n d_Au_keep_114 rfl ?_
        refine lk_getR (k := 2) d_Au_keep_115 ha10 (by decide) rfl (by decide) lf_Au_38 rfl ?_
        refine lk_aload_n d_Au_keep_118 rfl ?_
        refine lk_getI (k := 4) d_Au_keep_119 ha10 (by decide) rfl (by decide) lf_Au_42 rfl ?_
        obtain ⟨k26, hk26, h⟩ := x_b h
        refine lk_aald d_Au_keep_122 hq25 hk26 rfl (by decide) ?_
        replace h := x_nm h
        refine lk_putR (k := 3) d_Au_keep_123 ha10 (by decide) rfl (by decide) lf_Au_28 rfl rfl ?_
        refine lk_aload_n d_Au_keep_126 rfl ?_
        refine lk_getR (k := 2) d_Au_keep_127 ha10 (by decide) rfl (by decide) lf_Au_38 rfl ?_
        refine lk_aload_n d_Au_keep_130 rfl ?_
        refine lk_getI (k := 4) d_Au_keep_131 ha10 (by decide) rfl (by decide) lf_Au_42 rfl ?_
        refine lk_aload_n d_Au_keep_134 rfl ?_
        obtain ⟨q28, hq28, h⟩ := x_b h
        obtain ⟨k29, hk29, h⟩ := x_b h
        obtain ⟨a30, ha30, h⟩ := x_b h
        replace h := x_nm h
        refine lk_aast d_Au_keep_135 hq28 hk29 ha30 rfl (by decide) (by decide) rfl ?_
        refine lk_aload_n d_Au_keep_136 rfl ?_
        refine lk_dup d_Au_keep_137 rfl ?_
        refine lk_getI (k := 4) d_Au_keep_138 ha10 (by decide) rfl (by decide) lf_Au_42 rfl ?_
        refine lk_iconst (v := 1) d_Au_keep_141 rfl ?_
        refine lk_iadd d_Au_keep_142 ?_
        replace h := x_nm h
        refine lk_putI (k := 4) d_Au_keep_143 ha10 (by decide) rfl (by decide) lf_Au_42 rfl rfl ?_
        refine lk_aload_n d_Au_keep_146 rfl ?_
        refine lk_dup d_Au_keep_147 rfl ?_
        refine lk_getI (k := 7) d_Au_keep_148 ha10 (by decide) rfl (by decide) lf_Au_49 rfl ?_
        refine lk_iconst (v := 1) d_Au_keep_151 rfl ?_
        refine lk_iadd d_Au_keep_152 ?_
        replace h := x_nm h
        refine lk_putI (k := 7) d_Au_keep_153 ha10 (by decide) rfl (by decide) lf_Au_49 rfl rfl ?_
        refine lk_aload_n d_Au_keep_156 rfl ?_
        refine lk_getI (k := 4) d_Au_keep_157 ha10 (by decide) rfl (by decide) lf_Au_42 rfl ?_
        refine lk_iconst (v := 1) d_Au_keep_160 rfl ?_
        refine lk_isub d_Au_keep_161 ?_
        cases h
        exact Lk.stop ⟨rfl, Or.inr (Or.inl ⟨_, _, d_Au_keep_162, rfl, rfl, rfl, rfl⟩)⟩
      · replace h := x_ifn hc h
        refine lk_aload_n d_Au_keep_79 rfl ?_
        refine lk_iconst (v := 0) d_Au_keep_80 rfl ?_
        replace h := x_nm h
        refine lk_putI (k := 4) d_Au_keep_81 ha10 (by decide) rfl (by decide) lf_Au_42 rfl rfl ?_
        refine lk_aload_n d_Au_keep_84 rfl ?_
        refine lk_dup d_Au_keep_85 rfl ?_
        refine lk_getI (k := 5) d_Au_keep_86 ha10 (by decide) rfl (by decide) lf_Au_46 rfl ?_
        refine lk_iconst (v := 1) d_Au_keep_89 rfl ?_
        refine lk_iadd d_Au_keep_90 ?_
        replace h := x_nm h
        refine lk_putI (k := 5) d_Au_keep_91 ha10 (by decide) rfl (by decide) lf_Au_46 rfl rfl ?_
        refine lk_aload_n d_Au_keep_94 rfl ?_
        refine lk_dup d_Au_keep_95 rfl ?_
        refine lk_getI (k := 6) d_Au_keep_96 ha10 (by decide) rfl (by decide) lf_Au_52 rfl ?_
        refine lk_iconst (v := 1) d_Au_keep_99 rfl ?_
        refine lk_iadd d_Au_keep_100 ?_
        replace h := x_nm h
        refine lk_putI (k := 6) d_Au_keep_101 ha10 (by decide) rfl (by decide) lf_Au_52 rfl rfl ?_
        refine lk_aload_n d_Au_keep_104 rfl ?_
        obtain ⟨p37, hp37, h⟩ := x_b h
        refine lk_callV0 d_Au_keep_105 (x_obm ha10 rfl) (c_Au_gaveUp hp37) (Nat.le_of_ble_eq_true rfl) rfl M_Au_gaveUp lm_Au_131 in_Au_gaveUp se_Au_gaveUp (by decide) rfl (Nat.le_of_ble_eq_true rfl) ?_
        refine lk_if_eq (tgt := 113) d_Au_keep_108 (by decide) (fun hc => ?_) (fun hc => ?_)
        · replace h := x_ifp hc h
          refine lk_aload_n d_Au_keep_113 rfl ?_
          refine lk_aload_n d_Au_keep_114 rfl ?_
          obtain ⟨a38, ha38, h⟩ := x_b h
          refine lk_getR (k := 2) d_Au_keep_115 ha38 (by decide) rfl (by decide) lf_Au_38 rfl ?_
          refine lk_aload_n d_Au_keep_118 rfl ?_
          refine lk_getI (k := 4) d_Au_keep_119 ha38 (by decide) rfl (by decide) lf_Au_42 rfl ?_
          obtain ⟨q39, hq39, h⟩ := x_b h
          obtain ⟨k40, hk40, h⟩ := x_b h
          refine lk_aald d_Au_keep_122 hq39 hk40 rfl (by decide) ?_
          replace h := x_nm h
          refine lk_putR (k := 3) d_Au_keep_123 ha38 (by decide) rfl (by decide) lf_Au_28 rfl rfl ?_
          refine lk_aload_n d_Au_keep_126 rfl ?_
          refine lk_getR (k := 2) d_Au_keep_127 ha38 (by decide) rfl (by decide) lf_Au_38 rfl ?_
          refine lk_aload_n d_Au_keep_130 rfl ?_
          refine lk_getI (k := 4) d_Au_keep_131 ha38 (by decide) rfl (by decide) lf_Au_42 rfl ?_
          refine lk_aload_n d_Au_keep_134 rfl ?_
          obtain ⟨q42, hq42, h⟩ := x_b h
          obtain ⟨k43, hk43, h⟩ := x_b h
          obtain ⟨a44, ha44, h⟩ := x_b h
          replace h := x_nm h
          refine lk_aast d_Au_keep_135 hq42 hk43 ha44 rfl (by decide) (by decide) rfl ?_
          refine lk_aload_n d_Au_keep_136 rfl ?_
          refine lk_dup d_Au_keep_137 rfl ?_
          refine lk_getI (k := 4) d_Au_keep_138 ha38 (by decide) rfl (by decide) lf_Au_42 rfl ?_
          refine lk_iconst (v := 1) d_Au_keep_141 rfl ?_
          refine lk_iadd d_Au_keep_142 ?_
          replace h := x_nm h
          refine lk_putI (k := 4) d_Au_keep_143 ha38 (by decide) rfl (by decide) lf_Au_42 rfl rfl ?_
          refine lk_aload_n d_Au_keep_146 rfl ?_
          refine lk_dup d_Au_keep_147 rfl ?_
          refine lk_getI (k := 7) d_Au_keep_148 ha38 (by decide) rfl (by decide) lf_Au_49 rfl ?_
          refine lk_iconst (v := 1) d_Au_keep_151 rfl ?_
          refine lk_iadd d_Au_keep_152 ?_
          replace h := x_nm h
          refine lk_putI (k := 7) d_Au_keep_153 ha38 (by decide) rfl (by decide) lf_Au_49 rfl rfl ?_
          refine lk_aload_n d_Au_keep_156 rfl ?_
          refine lk_getI (k := 4) d_Au_keep_157 ha38 (by decide) rfl (by decide) lf_Au_42 rfl ?_
          refine lk_iconst (v := 1) d_Au_keep_160 rfl ?_
          refine lk_isub d_Au_keep_161 ?_
          cases h
          exact Lk.stop ⟨rfl, Or.inr (Or.inl ⟨_, _, d_Au_keep_162, rfl, rfl, rfl, rfl⟩)⟩
        · replace h := x_ifn hc h
          refine lk_iconst (v := (-1)) d_Au_keep_111 rfl ?_
          cases h
          exact Lk.stop ⟨rfl, Or.inr (Or.inl ⟨_, _, d_Au_keep_112, rfl, rfl, rfl, rfl⟩)⟩
  | inr w =>
    cases h
    exact Lk.stop hx
def f_Au_firstState (z0 : Nat) (r1 : Option Nat) (s : hv_S) : Option (Int32 × hv_S) :=
  (x_ob s 9 ((some z0))).bind fun a1 =>
  (x_ob s 4 (hv_R s a1 0)).bind fun a2 =>
  (f_Fo_begin a2 r1 (hv_R s a1 1) 0 2 s).bind fun p3 =>
  (x_ob p3 9 ((some z0))).bind fun a4 =>
  (x_ob p3 4 (hv_R p3 a4 0)).bind fun a5 =>
  (f_Fo_follow a5 0 0 p3).bind fun p6 =>
  (x_ob p6 9 ((some z0))).bind fun a7 =>
  (f_Au_keep a7 r1 1 p6).bind fun p8 =>
  some ((p8.1, p8.2))
set_option maxRecDepth 4000 in
set_option maxHeartbeats 2000000 in
theorem c_Au_firstState {G : lt_G} {z0 : Nat} {r1 : Option Nat} {s : hv_S} {p : Int32 × hv_S} (h : f_Au_firstState z0 r1 s = some p) : Ck G m_Au_firstState 4 0 0 [vR (some z0), vR r1] s (some (vI p.1)) p.2 := by
  refine Ck.of (by decide) (Nat.le_of_ble_eq_true rfl) ?_
  unfold f_Au_firstState at h
  refine lk_aload_n d_Au_firstState_0 rfl ?_
  obtain ⟨a1, ha1, h⟩ := x_b h
  refine lk_getR (k := 0) d_Au_firstState_1 ha1 (by decide) rfl (by decide) lf_Au_12 rfl ?_
  refine lk_aload_n d_Au_firstState_4 rfl ?_
  refine lk_aload_n d_Au_firstState_5 rfl ?_
  refine lk_getR (k := 1) d_Au_firstState_6 ha1 (by decide) rfl (by decide) lf_Au_21 rfl ?_
  refine lk_iconst (v := 0) d_Au_firstState_9 rfl ?_
  refine lk_iconst (v := 2) d_Au_firstState_10 rfl ?_
  obtain ⟨a2, ha2, h⟩ := x_b h
  obtain ⟨p3, hp3, h⟩ := x_b h
  refine lk_callV0 d_Au_firstState_11 (x_obm ha2 rfl) (c_Fo_begin hp3) (Nat.le_of_ble_eq_true rfl) rfl M_Fo_begin lm_Au_89 in_Fo_begin se_Fo_begin (by decide) rfl (Nat.le_of_ble_eq_true rfl) ?_
  refine lk_aload_n d_Au_firstState_14 rfl ?_
  obtain ⟨a4, ha4, h⟩ := x_b h
  refine lk_getR (k := 0) d_Au_firstState_15 ha4 (by decide) rfl (by decide) lf_Au_12 rfl ?_
  refine lk_iconst (v := 0) d_Au_firstState_18 rfl ?_
  refine lk_lconst (v := 0) d_Au_firstState_19 rfl ?_
  obtain ⟨a5, ha5, h⟩ := x_b h
  obtain ⟨p6, hp6, h⟩ := x_b h
  refine lk_callV0 d_Au_firstState_20 (x_obm ha5 rfl) (c_Fo_follow hp6) (Nat.le_of_ble_eq_true rfl) rfl M_Fo_follow lm_Au_93 in_Fo_follow se_Fo_follow (by decide) rfl (Nat.le_of_ble_eq_true rfl) ?_
  refine lk_aload_n d_Au_firstState_23 rfl ?_
  refine lk_aload_n d_Au_firstState_24 rfl ?_
  refine lk_iconst (v := 1) d_Au_firstState_25 rfl ?_
  obtain ⟨a7, ha7, h⟩ := x_b h
  obtain ⟨p8, hp8, h⟩ := x_b h
  refine lk_callV0 d_Au_firstState_26 (x_obm ha7 rfl) (c_Au_keep hp8) (Nat.le_of_ble_eq_true rfl) rfl M_Au_keep lm_Au_97 in_Au_keep se_Au_keep (by decide) rfl (Nat.le_of_ble_eq_true rfl) ?_
  cases h
  exact Lk.stop ⟨rfl, Or.inr (Or.inl ⟨_, _, d_Au_firstState_29, rfl, rfl, rfl, rfl⟩)⟩
def L_Au_nextState_48 : Nat → Option Nat → Option Nat → Int32 → Option Nat → Int32 → hv_S → Option (hv_S)
  | 0, _, _, _, _, _, _ => none
  | n + 1, x0, x1, x3, x4, x6, s =>
    (x_ob s 10 x4).bind fun a8 =>
    if (hv_I s a8 2) ≤ x6 then
      some s
    else
      (f_St_entryAt a8 x6 s).bind fun p9 =>
      (x_ob p9.2 8 x1).bind fun a10 =>
      (f_Pr_takes a10 p9.1 x3 p9.2).bind fun p11 =>
      ((
        if p11.1 = 0 then
          some p11.2
        else
          (x_ob p11.2 9 x0).bind fun a12 =>
          (x_ob p11.2 10 x4).bind fun a13 =>
          (f_St_entryAt a13 x6 p11.2).bind fun p14 =>
          (x_ob p14.2 4 (hv_R p11.2 a12 0)).bind fun a15 =>
          (f_Fo_follow a15 (p14.1 + (1 : Int32)) 0 p14.2).bind fun p16 =>
          some p16
      ) : Option (hv_S)).bind fun t17 =>
      L_Au_nextState_48 n x0 x1 x3 x4 (x6 + 1) t17
set_option maxRecDepth 4000 in
set_option maxHeartbeats 2000000 in
theorem l_Au_nextState_48 {G : lt_G} : ∀ (n : Nat) (x0 : Option Nat) (x1 : Option Nat) (x3 : Int32) (x4 : Option Nat) (x6 : Int32) (s : hv_S) (e0 : hv_S), L_Au_nextState_48 n x0 x1 x3 x4 x6 s = some e0 → Lk G m_Au_nextState 4 48 [(0, vR x0), (1, vR x1), (3, vI x3), (4, vR x4), (6, vI x6)] [] s 0 0 (lk_at 96 [(0, vR x0), (1, vR x1), (3, vI x3), (4, vR x4)] [] e0 0 0) := by
  intro n
  induction n with
  | zero => intro x0 x1 x3 x4 x6 s e0 h; cases h
  | succ n ih =>
    intro x0 x1 x3 x4 x6 s e0 h
    unfold L_Au_nextState_48 at h
    refine lk_iload d_Au_nextState_48 rfl ?_
    refine lk_aload d_Au_nextState_50 rfl ?_
    obtain ⟨a8, ha8, h⟩ := x_b h
    refine lk_getI (k := 2) d_Au_nextState_52 ha8 (by decide) rfl (by decide) lf_Au_104 rfl ?_
    refine lk_icmp_ge (tgt := 96) d_Au_nextState_55 (by decide) (fun hc => ?_) (fun hc => ?_)
    · replace h := x_ifp hc h
      cases h
      refine Lk.sel [0, 1, 3, 4] rfl ?_
      exact Lk.stop ⟨rfl, rfl, rfl, rfl, rfl, rfl⟩
    · replace h := x_ifn hc h
      refine lk_aload_n d_Au_nextState_58 rfl ?_
      refine lk_aload d_Au_nextState_59 rfl ?_
      refine lk_iload d_Au_nextState_61 rfl ?_
      obtain ⟨p9, hp9, h⟩ := x_b h
      refine lk_callV0 d_Au_nextState_63 (x_obm ha8 rfl) (c_St_entryAt hp9) (Nat.le_of_ble_eq_true rfl) rfl M_St_entryAt lm_Au_107 in_St_entryAt se_St_entryAt (by decide) rfl (Nat.le_of_ble_eq_true rfl) ?_
      refine lk_iload_n d_Au_nextState_66 rfl ?_
      obtain ⟨a10, ha10, h⟩ := x_b h
      obtain ⟨p11, hp11, h⟩ := x_b h
      refine lk_callV0 d_Au_nextState_67 (x_obm ha10 rfl) (c_Pr_takes hp11) (Nat.le_of_ble_eq_true rfl) rfl M_Pr_takes lm_Au_110 in_Pr_takes se_Pr_takes (by decide) rfl (Nat.le_of_ble_eq_true rfl) ?_
      obtain ⟨t17, hj, h⟩ := x_b h
      refine Lk.joinS 90 [0, 1, 3, 4, 6] [] rfl 1 [] t17 ?_ ?_
      · replace h := hj
        refine lk_if_eq (tgt := 90) d_Au_nextState_70 (by decide) (fun hc => ?_) (fun hc => ?_)
        · replace h := x_ifp hc h
          cases h
          refine Lk.sel [0, 1, 3, 4, 6] rfl ?_
          exact Lk.stop ⟨rfl, rfl, rfl, rfl, rfl, rfl⟩
        · replace h := x_ifn hc h
          refine lk_aload_n d_Au_nextState_73 rfl ?_
          obtain ⟨a12, ha12, h⟩ := x_b h
          refine lk_getR (k := 0) d_Au_nextState_74 ha12 (by decide) rfl (by decide) lf_Au_12 rfl ?_
          refine lk_aload d_Au_nextState_77 rfl ?_
          refine lk_iload d_Au_nextState_79 rfl ?_
          obtain ⟨a13, ha13, h⟩ := x_b h
          obtain ⟨p14, hp14, h⟩ := x_b h
          refine lk_callV0 d_Au_nextState_81 (x_obm ha13 rfl) (c_St_entryAt hp14) (Nat.le_of_ble_eq_true rfl) rfl M_St_entryAt lm_Au_107 in_St_entryAt se_St_entryAt (by decide) rfl (Nat.le_of_ble_eq_true rfl) ?_
          refine lk_iconst (v := 1) d_Au_nextState_84 rfl ?_
          refine lk_iadd d_Au_nextState_85 ?_
          refine lk_lconst (v := 0) d_Au_nextState_86 rfl ?_
          obtain ⟨a15, ha15, h⟩ := x_b h
          obtain ⟨p16, hp16, h⟩ := x_b h
          refine lk_callV0 d_Au_nextState_87 (x_obm ha15 rfl) (c_Fo_follow hp16) (Nat.le_of_ble_eq_true rfl) rfl M_Fo_follow lm_Au_93 in_Fo_follow se_Fo_follow (by decide) rfl (Nat.le_of_ble_eq_true rfl) ?_
          cases h
          refine Lk.sel [0, 1, 3, 4, 6] rfl ?_
          exact Lk.stop ⟨rfl, rfl, rfl, rfl, rfl, rfl⟩
      · clear hj
        refine lk_iinc (v := _ + 1) d_Au_nextState_90 rfl rfl (by decide) rfl ?_
        refine lk_goto (tgt := 48) d_Au_nextState_93 (by decide) ?_
        refine Lk.sel [0, 1, 3, 4, 6] rfl ?_
        exact ih _ _ _ _ _ _ _ h
def f_Au_nextState (z0 : Nat) (r1 : Option Nat) (x2 : Int32) (x3 : Int32) (s : hv_S) : Option (Int32 × hv_S) :=
  (x_ob s 9 ((some z0))).bind fun a1 =>
  (f_Au_stateAt a1 x2 s).bind fun p2 =>
  if p2.1 = none then
    some (((-1), p2.2))
  else
    (x_ob p2.2 10 p2.1).bind fun a3 =>
    (f_St_leadBy a3 x3 p2.2).bind fun p4 =>
    if p4.1 = ((-1)) then
      (x_ob p4.2 9 ((some z0))).bind fun a5 =>
      (x_ob p4.2 4 (hv_R p4.2 a5 0)).bind fun a6 =>
      (f_Fo_begin a6 r1 (hv_R p4.2 a5 1) 1 2 p4.2).bind fun p7 =>
      (L_Au_nextState_48 100000 ((some z0)) r1 x3 p2.1 0 p7).bind fun e18 =>
      (x_ob e18 10 p2.1).bind fun a19 =>
      (f_St_opensNext a19 e18).bind fun p20 =>
      ((
        if p20.1 = 0 then
          some p20.2
        else
          (x_ob p20.2 9 ((some z0))).bind fun a21 =>
          (x_ob p20.2 4 (hv_R p20.2 a21 0)).bind fun a22 =>
          (f_Fo_follow a22 0 0 p20.2).bind fun p23 =>
          some p23
      ) : Option (hv_S)).bind fun t24 =>
      (x_ob t24 9 ((some z0))).bind fun a25 =>
      (some (hv_I t24 a25 5)).bind fun y26 =>
      (f_Au_keep a25 r1 p20.1 t24).bind fun p27 =>
      (x_ob p27.2 9 ((some z0))).bind fun a28 =>
      ((
        if (hv_I p27.2 a28 5) = y26 then
          (x_ob p27.2 10 p2.1).bind fun a29 =>
          (f_St_setLead a29 x3 p27.1 p27.2).bind fun p30 =>
          some p30
        else
          some p27.2
      ) : Option (hv_S)).bind fun t31 =>
      some ((p27.1, t31))
    else
      some ((p4.1, p4.2))
set_option maxRecDepth 4000 in
set_option maxHeartbeats 2000000 in
theorem c_Au_nextState {G : lt_G} {z0 : Nat} {r1 : Option Nat} {x2 : Int32} {x3 : Int32} {s : hv_S} {p : Int32 × hv_S} (h : f_Au_nextState z0 r1 x2 x3 s = some p) : Ck G m_Au_nextState 4 0 0 [vR (some z0), vR r1, vI x2, vI x3] s (some (vI p.1)) p.2 := by
  refine Ck.of (by decide) (Nat.le_of_ble_eq_true rfl) ?_
  unfold f_Au_nextState at h
  refine lk_aload_n d_Au_nextState_0 rfl ?_
  refine lk_iload_n d_Au_nextState_1 rfl ?_
  obtain ⟨a1, ha1, h⟩ := x_b h
  obtain ⟨p2, hp2, h⟩ := x_b h
  refine lk_callV0 d_Au_nextState_2 (x_obm ha1 rfl) (c_Au_stateAt hp2) (Nat.le_of_ble_eq_true rfl) rfl M_Au_stateAt lm_Au_65 in_Au_stateAt se_Au_stateAt (by decide) rfl (Nat.le_of_ble_eq_true rfl) ?_
  refine lk_astore d_Au_nextState_5 (by decide) rfl ?_
  refine lk_aload d_Au_nextState_7 rfl ?_
  refine lk_ifnonnull (tgt := 14) d_Au_nextState_9 (by decide) (fun hc => ?_) (fun hc => ?_)
  · replace h := x_ifn hc h
    refine lk_aload d_Au_nextState_14 rfl ?_
    refine lk_iload_n d_Au_nextState_16 rfl ?_
    obtain ⟨a3, ha3, h⟩ := x_b h
    obtain ⟨p4, hp4, h⟩ := x_b h
    refine lk_callV0 d_Au_nextState_17 (x_obm ha3 rfl) (c_St_leadBy hp4) (Nat.le_of_ble_eq_true rfl) rfl M_St_leadBy lm_Au_101 in_St_leadBy se_St_leadBy (by decide) rfl (Nat.le_of_ble_eq_true rfl) ?_
    refine lk_istore d_Au_nextState_20 (by decide) rfl ?_
    refine lk_iload d_Au_nextState_22 rfl ?_
    refine lk_iconst (v := (-1)) d_Au_nextState_24 rfl ?_
    refine lk_icmp_eq (tgt := 31) d_Au_nextState_25 (by decide) (fun hc => ?_) (fun hc => ?_)
    · replace h := x_ifp hc h
      refine lk_aload_n d_Au_nextState_31 rfl ?_
      obtain ⟨a5, ha5, h⟩ := x_b h
      refine lk_getR (k := 0) d_Au_nextState_32 ha5 (by decide) rfl (by decide) lf_Au_12 rfl ?_
      refine lk_aload_n d_Au_nextState_35 rfl ?_
      refine lk_aload_n d_Au_nextState_36 rfl ?_
      refine lk_getR (k := 1) d_Au_nextState_37 ha5 (by decide) rfl (by decide) lf_Au_21 rfl ?_
      refine lk_iconst (v := 1) d_Au_nextState_40 rfl ?_
      refine lk_iconst (v := 2) d_Au_nextState_41 rfl ?_
      obtain ⟨a6, ha6, h⟩ := x_b h
      obtain ⟨p7, hp7, h⟩ := x_b h
      refine lk_callV0 d_Au_nextState_42 (x_obm ha6 rfl) (c_Fo_begin hp7) (Nat.le_of_ble_eq_true rfl) rfl M_Fo_begin lm_Au_89 in_Fo_begin se_Fo_begin (by decide) rfl (Nat.le_of_ble_eq_true rfl) ?_
      refine lk_iconst (v := 0) d_Au_nextState_45 rfl ?_
      refine lk_istore d_Au_nextState_46 (by decide) rfl ?_
      obtain ⟨e18, hl, h⟩ := x_b h
      refine Lk.sel [0, 1, 3, 4, 6] rfl ?_
      refine Lk.trans (l_Au_nextState_48 _ _ _ _ _ _ _ _ hl) ?_
      intro pc' lo' st' s' mc' ms' hx
      obtain ⟨rfl, rfl, rfl, rfl, rfl, rfl⟩ := hx
      refine lk_aload d_Au_nextState_96 rfl ?_
      obtain ⟨a19, ha19, h⟩ := x_b h
      obtain ⟨p20, hp20, h⟩ := x_b h
      refine lk_callV0 d_Au_nextState_98 (x_obm ha19 rfl) (c_St_opensNext hp20) (Nat.le_of_ble_eq_true rfl) rfl M_St_opensNext lm_Au_116 in_St_opensNext se_St_opensNext (by decide) rfl (Nat.le_of_ble_eq_true rfl) ?_
      refine lk_istore d_Au_nextState_101 (by decide) rfl ?_
      refine lk_iload d_Au_nextState_103 rfl ?_
      obtain ⟨t24, hj, h⟩ := x_b h
      refine Lk.joinS 117 [0, 1, 3, 4, 6] [] rfl 1 [] t24 ?_ ?_
      · replace h := hj
        refine lk_if_eq (tgt := 117) d_Au_nextState_105 (by decide) (fun hc => ?_) (fun hc => ?_)
        · replace h := x_ifp hc h
          cases h
          refine Lk.sel [0, 1, 3, 4, 6] rfl ?_
          exact Lk.stop ⟨rfl, rfl, rfl, rfl, rfl, rfl⟩
        · replace h := x_ifn hc h
          refine lk_aload_n d_Au_nextState_108 rfl ?_
          obtain ⟨a21, ha21, h⟩ := x_b h
          refine lk_getR (k := 0) d_Au_nextState_109 ha21 (by decide) rfl (by decide) lf_Au_12 rfl ?_
          refine lk_iconst (v := 0) d_Au_nextState_112 rfl ?_
          refine lk_lconst (v := 0) d_Au_nextState_113 rfl ?_
          obtain ⟨a22, ha22, h⟩ := x_b h
          obtain ⟨p23, hp23, h⟩ := x_b h
          refine lk_callV0 d_Au_nextState_114 (x_obm ha22 rfl) (c_Fo_follow hp23) (Nat.le_of_ble_eq_true rfl) rfl M_Fo_follow lm_Au_93 in_Fo_follow se_Fo_follow (by decide) rfl (Nat.le_of_ble_eq_true rfl) ?_
          cases h
          refine Lk.sel [0, 1, 3, 4, 6] rfl ?_
          exact Lk.stop ⟨rfl, rfl, rfl, rfl, rfl, rfl⟩
      · clear hj
        refine lk_aload_n d_Au_nextState_117 rfl ?_
        obtain ⟨a25, ha25, h⟩ := x_b h
        refine lk_getI (k := 5) d_Au_nextState_118 ha25 (by decide) rfl (by decide) lf_Au_46 rfl ?_
        replace h := x_nm h
        refine lk_istore d_Au_nextState_121 (by decide) rfl ?_
        refine lk_aload_n d_Au_nextState_123 rfl ?_
        refine lk_aload_n d_Au_nextState_124 rfl ?_
        refine lk_iload d_Au_nextState_125 rfl ?_
        obtain ⟨p27, hp27, h⟩ := x_b h
        refine lk_callV0 d_Au_nextState_127 (x_obm ha25 rfl) (c_Au_keep hp27) (Nat.le_of_ble_eq_true rfl) rfl M_Au_keep lm_Au_97 in_Au_keep se_Au_keep (by decide) rfl (Nat.le_of_ble_eq_true rfl) ?_
        refine lk_istore d_Au_nextState_130 (by decide) rfl ?_
        refine lk_aload_n d_Au_nextState_132 rfl ?_
        obtain ⟨a28, ha28, h⟩ := x_b h
        refine lk_getI (k := 5) d_Au_nextState_133 ha28 (by decide) rfl (by decide) lf_Au_46 rfl ?_
        refine lk_iload d_Au_nextState_136 rfl ?_
        obtain ⟨t31, hj, h⟩ := x_b h
        refine Lk.joinS 149 [8] [] rfl 2 [] t31 ?_ ?_
        · replace h := hj
          refine lk_icmp_ne (tgt := 149) d_Au_nextState_138 (by decide) (fun hc => ?_) (fun hc => ?_)
          · replace h := x_ifn hc h
            cases h
            refine Lk.sel [8] rfl ?_
            exact Lk.stop ⟨rfl, rfl, rfl, rfl, rfl, rfl⟩
          · replace h := x_ifp hc h
            refine lk_aload d_Au_nextState_141 rfl ?_
            refine lk_iload_n d_Au_nextState_143 rfl ?_
            refine lk_iload d_Au_nextState_144 rfl ?_
            obtain ⟨a29, ha29, h⟩ := x_b h
            obtain ⟨p30, hp30, h⟩ := x_b h
            refine lk_callV0 d_Au_nextState_146 (x_obm ha29 rfl) (c_St_setLead hp30) (Nat.le_of_ble_eq_true rfl) rfl M_St_setLead lm_Au_119 in_St_setLead se_St_setLead (by decide) rfl (Nat.le_of_ble_eq_true rfl) ?_
            cases h
            refine Lk.sel [8] rfl ?_
            exact Lk.stop ⟨rfl, rfl, rfl, rfl, rfl, rfl⟩
        · clear hj
          refine lk_iload d_Au_nextState_149 rfl ?_
          cases h
          exact Lk.stop ⟨rfl, Or.inr (Or.inl ⟨_, _, d_Au_nextState_151, rfl, rfl, rfl, rfl⟩)⟩
    · replace h := x_ifn hc h
      refine lk_iload d_Au_nextState_28 rfl ?_
      cases h
      exact Lk.stop ⟨rfl, Or.inr (Or.inl ⟨_, _, d_Au_nextState_30, rfl, rfl, rfl, rfl⟩)⟩
  · replace h := x_ifp hc h
    refine lk_iconst (v := (-1)) d_Au_nextState_12 rfl ?_
    cases h
    exact Lk.stop ⟨rfl, Or.inr (Or.inl ⟨_, _, d_Au_nextState_13, rfl, rfl, rfl, rfl⟩)⟩
def L_Au_foundBehindLasts_66 : Nat → Option Nat → Option Nat → Int32 → hv_S → Option ((hv_S) ⊕ (Int32 × hv_S))
  | 0, _, _, _, _ => none
  | n + 1, x0, x1, x4, s =>
    (x_ob s 9 x0).bind fun a15 =>
    (x_ob s 5 (hv_R s a15 1)).bind fun a16 =>
    (f_TL_size a16 s).bind fun p17 =>
    if p17.1 ≤ x4 then
      some (.inl p17.2)
    else
      (x_ob p17.2 9 x0).bind fun a18 =>
      (x_ob p17.2 5 (hv_R p17.2 a18 1)).bind fun a19 =>
      (f_TL_instructionAt a19 x4 p17.2).bind fun p20 =>
      (x_ob p20.2 8 x1).bind fun a21 =>
      (f_Pr_kindAt a21 p20.1 p20.2).bind fun p22 =>
      if p22.1 = 7 then
        some (.inr ((1, p22.2)))
      else
        L_Au_foundBehindLasts_66 n x0 x1 (x4 + 1) p22.2
set_option maxRecDepth 4000 in
set_option maxHeartbeats 2000000 in
theorem l_Au_foundBehindLasts_66 {G : lt_G} : ∀ (n : Nat) (x0 : Option Nat) (x1 : Option Nat) (x4 : Int32) (s : hv_S) (e0 : (hv_S) ⊕ (Int32 × hv_S)), L_Au_foundBehindLasts_66 n x0 x1 x4 s = some e0 → Lk G m_Au_foundBehindLasts 4 66 [(0, vR x0), (1, vR x1), (4, vI x4)] [] s 0 0 (fun a b c d e f => match e0 with | .inl t => lk_at 104 [] [] t 0 0 a b c d e f | .inr w => lk_end m_Au_foundBehindLasts (some (vI w.1)) w.2 a b c d e f) := by
  intro n
  induction n with
  | zero => intro x0 x1 x4 s e0 h; cases h
  | succ n ih =>
    intro x0 x1 x4 s e0 h
    unfold L_Au_foundBehindLasts_66 at h
    refine lk_iload d_Au_foundBehindLasts_66 rfl ?_
    refine lk_aload_n d_Au_foundBehindLasts_68 rfl ?_
    obtain ⟨a15, ha15, h⟩ := x_b h
    refine lk_getR (k := 1) d_Au_foundBehindLasts_69 ha15 (by decide) rfl (by decide) lf_Au_21 rfl ?_
    obtain ⟨a16, ha16, h⟩ := x_b h
    obtain ⟨p17, hp17, h⟩ := x_b h
    refine lk_callV0 d_Au_foundBehindLasts_72 (x_obm ha16 rfl) (c_TL_size hp17) (Nat.le_of_ble_eq_true rfl) rfl M_TL_size lm_Au_137 in_TL_size se_TL_size (by decide) rfl (Nat.le_of_ble_eq_true rfl) ?_
    refine lk_icmp_ge (tgt := 104) d_Au_foundBehindLasts_75 (by decide) (fun hc => ?_) (fun hc => ?_)
    · replace h := x_ifp hc h
      cases h
      refine Lk.sel [] rfl ?_
      exact Lk.stop ⟨rfl, rfl, rfl, rfl, rfl, rfl⟩
    · replace h := x_ifn hc h
      refine lk_aload_n d_Au_foundBehindLasts_78 rfl ?_
      refine lk_aload_n d_Au_foundBehindLasts_79 rfl ?_
      obtain ⟨a18, ha18, h⟩ := x_b h
      refine lk_getR (k := 1) d_Au_foundBehindLasts_80 ha18 (by decide) rfl (by decide) lf_Au_21 rfl ?_
      refine lk_iload d_Au_foundBehindLasts_83 rfl ?_
      obtain ⟨a19, ha19, h⟩ := x_b h
      obtain ⟨p20, hp20, h⟩ := x_b h
      refine lk_callV0 d_Au_foundBehindLasts_85 (x_obm ha19 rfl) (c_TL_instructionAt hp20) (Nat.le_of_ble_eq_true rfl) rfl M_TL_instructionAt lm_Au_139 in_TL_instructionAt se_TL_instructionAt (by decide) rfl (Nat.le_of_ble_eq_true rfl) ?_
      obtain ⟨a21, ha21, h⟩ := x_b h
      obtain ⟨p22, hp22, h⟩ := x_b h
      refine lk_callV0 d_Au_foundBehindLasts_88 (x_obm ha21 rfl) (c_Pr_kindAt hp22) (Nat.le_of_ble_eq_true rfl) rfl M_Pr_kindAt lm_Au_134 in_Pr_kindAt se_Pr_kindAt (by decide) rfl (Nat.le_of_ble_eq_true rfl) ?_
      refine lk_bipush (v := 7) d_Au_foundBehindLasts_91 rfl ?_
      refine lk_icmp_ne (tgt := 98) d_Au_foundBehindLasts_93 (by decide) (fun hc => ?_) (fun hc => ?_)
      · replace h := x_ifn hc h
        refine lk_iinc (v := _ + 1) d_Au_foundBehindLasts_98 rfl rfl (by decide) rfl ?_
        refine lk_goto (tgt := 66) d_Au_foundBehindLasts_101 (by decide) ?_
        refine Lk.sel [0, 1, 4] rfl ?_
        exact ih _ _ _ _ _ h
      · replace h := x_ifp hc h
        refine lk_iconst (v := 1) d_Au_foundBehindLasts_96 rfl ?_
        cases h
        exact Lk.stop ⟨rfl, Or.inr (Or.inl ⟨_, _, d_Au_foundBehindLasts_97, rfl, rfl, rfl, rfl⟩)⟩
def L_Au_foundBehindLasts_17 : Nat → Option Nat → Option Nat → Option Nat → Int32 → hv_S → Option (hv_S)
  | 0, _, _, _, _, _ => none
  | n + 1, x0, x1, x2, x4, s =>
    (x_ob s 10 x2).bind fun a4 =>
    if (hv_I s a4 2) ≤ x4 then
      some s
    else
      (f_St_entryAt a4 x4 s).bind fun p5 =>
      (x_ob p5.2 8 x1).bind fun a6 =>
      (f_Pr_kindAt a6 p5.1 p5.2).bind fun p7 =>
      ((
        if p7.1 = 6 then
          (x_ob p7.2 9 x0).bind fun a8 =>
          (x_ob p7.2 10 x2).bind fun a9 =>
          (f_St_entryAt a9 x4 p7.2).bind fun p10 =>
          (x_ob p10.2 4 (hv_R p7.2 a8 0)).bind fun a11 =>
          (f_Fo_follow a11 (p10.1 + (1 : Int32)) 0 p10.2).bind fun p12 =>
          some p12
        else
          some p7.2
      ) : Option (hv_S)).bind fun t13 =>
      L_Au_foundBehindLasts_17 n x0 x1 x2 (x4 + 1) t13
set_option maxRecDepth 4000 in
set_option maxHeartbeats 2000000 in
theorem l_Au_foundBehindLasts_17 {G : lt_G} : ∀ (n : Nat) (x0 : Option Nat) (x1 : Option Nat) (x2 : Option Nat) (x4 : Int32) (s : hv_S) (e0 : hv_S), L_Au_foundBehindLasts_17 n x0 x1 x2 x4 s = some e0 → Lk G m_Au_foundBehindLasts 4 17 [(0, vR x0), (1, vR x1), (2, vR x2), (4, vI x4)] [] s 0 0 (lk_at 63 [(0, vR x0), (1, vR x1)] [] e0 0 0) := by
  intro n
  induction n with
  | zero => intro x0 x1 x2 x4 s e0 h; cases h
  | succ n ih =>
    intro x0 x1 x2 x4 s e0 h
    unfold L_Au_foundBehindLasts_17 at h
    refine lk_iload d_Au_foundBehindLasts_17 rfl ?_
    refine lk_aload_n d_Au_foundBehindLasts_19 rfl ?_
    obtain ⟨a4, ha4, h⟩ := x_b h
    refine lk_getI (k := 2) d_Au_foundBehindLasts_20 ha4 (by decide) rfl (by decide) lf_Au_104 rfl ?_
    refine lk_icmp_ge (tgt := 63) d_Au_foundBehindLasts_23 (by decide) (fun hc => ?_) (fun hc => ?_)
    · replace h := x_ifp hc h
      cases h
      refine Lk.sel [0, 1] rfl ?_
      exact Lk.stop ⟨rfl, rfl, rfl, rfl, rfl, rfl⟩
    · replace h := x_ifn hc h
      refine lk_aload_n d_Au_foundBehindLasts_26 rfl ?_
      refine lk_aload_n d_Au_foundBehindLasts_27 rfl ?_
      refine lk_iload d_Au_foundBehindLasts_28 rfl ?_
      obtain ⟨p5, hp5, h⟩ := x_b h
      refine lk_callV0 d_Au_foundBehindLasts_30 (x_obm ha4 rfl) (c_St_entryAt hp5) (Nat.le_of_ble_eq_true rfl) rfl M_St_entryAt lm_Au_107 in_St_entryAt se_St_entryAt (by decide) rfl (Nat.le_of_ble_eq_true rfl) ?_
      obtain ⟨a6, ha6, h⟩ := x_b h
      obtain ⟨p7, hp7, h⟩ := x_b h
      refine lk_callV0 d_Au_foundBehindLasts_33 (x_obm ha6 rfl) (c_Pr_kindAt hp7) (Nat.le_of_ble_eq_true rfl) rfl M_Pr_kindAt lm_Au_134 in_Pr_kindAt se_Pr_kindAt (by decide) rfl (Nat.le_of_ble_eq_true rfl) ?_
      refine lk_bipush (v := 6) d_Au_foundBehindLasts_36 rfl ?_
      obtain ⟨t13, hj, h⟩ := x_b h
      refine Lk.joinS 57 [0, 1, 2, 4] [] rfl 2 [] t13 ?_ ?_
      · replace h := hj
        refine lk_icmp_ne (tgt := 57) d_Au_foundBehindLasts_38 (by decide) (fun hc => ?_) (fun hc => ?_)
        · replace h := x_ifn hc h
          cases h
          refine Lk.sel [0, 1, 2, 4] rfl ?_
          exact Lk.stop ⟨rfl, rfl, rfl, rfl, rfl, rfl⟩
        · replace h := x_ifp hc h
          refine lk_aload_n d_Au_foundBehindLasts_41 rfl ?_
          obtain ⟨a8, ha8, h⟩ := x_b h
          refine lk_getR (k := 0) d_Au_foundBehindLasts_42 ha8 (by decide) rfl (by decide) lf_Au_12 rfl ?_
          refine lk_aload_n d_Au_foundBehindLasts_45 rfl ?_
          refine lk_iload d_Au_foundBehindLasts_46 rfl ?_
          obtain ⟨a9, ha9, h⟩ := x_b h
          obtain ⟨p10, hp10, h⟩ := x_b h
          refine lk_callV0 d_Au_foundBehindLasts_48 (x_obm ha9 rfl) (c_St_entryAt hp10) (Nat.le_of_ble_eq_true rfl) rfl M_St_entryAt lm_Au_107 in_St_entryAt se_St_entryAt (by decide) rfl (Nat.le_of_ble_eq_true rfl) ?_
          refine lk_iconst (v := 1) d_Au_foundBehindLasts_51 rfl ?_
          refine lk_iadd d_Au_foundBehindLasts_52 ?_
          refine lk_lconst (v := 0) d_Au_foundBehindLasts_53 rfl ?_
          obtain ⟨a11, ha11, h⟩ := x_b h
          obtain ⟨p12, hp12, h⟩ := x_b h
          refine lk_callV0 d_Au_foundBehindLasts_54 (x_obm ha11 rfl) (c_Fo_follow hp12) (Nat.le_of_ble_eq_true rfl) rfl M_Fo_follow lm_Au_93 in_Fo_follow se_Fo_follow (by decide) rfl (Nat.le_of_ble_eq_true rfl) ?_
          cases h
          refine Lk.sel [0, 1, 2, 4] rfl ?_
          exact Lk.stop ⟨rfl, rfl, rfl, rfl, rfl, rfl⟩
      · clear hj
        refine lk_iinc (v := _ + 1) d_Au_foundBehindLasts_57 rfl rfl (by decide) rfl ?_
        refine lk_goto (tgt := 17) d_Au_foundBehindLasts_60 (by decide) ?_
        refine Lk.sel [0, 1, 2, 4] rfl ?_
        exact ih _ _ _ _ _ _ h
def f_Au_foundBehindLasts (z0 : Nat) (r1 : Option Nat) (r2 : Option Nat) (x3 : Int32) (s : hv_S) : Option (Int32 × hv_S) :=
  (x_ob s 9 ((some z0))).bind fun a1 =>
  (x_ob s 4 (hv_R s a1 0)).bind fun a2 =>
  (f_Fo_begin a2 r1 (hv_R s a1 1) x3 1 s).bind fun p3 =>
  (L_Au_foundBehindLasts_17 100000 ((some z0)) r1 r2 0 p3).bind fun e14 =>
  (L_Au_foundBehindLasts_66 100000 ((some z0)) r1 0 e14).bind fun e23r => e23r.elim (fun e23 =>
    some ((0, e23))
  ) (fun w => some w)
set_option maxRecDepth 4000 in
set_option maxHeartbeats 2000000 in
theorem c_Au_foundBehindLasts {G : lt_G} {z0 : Nat} {r1 : Option Nat} {r2 : Option Nat} {x3 : Int32} {s : hv_S} {p : Int32 × hv_S} (h : f_Au_foundBehindLasts z0 r1 r2 x3 s = some p) : Ck G m_Au_foundBehindLasts 4 0 0 [vR (some z0), vR r1, vR r2, vI x3] s (some (vI p.1)) p.2 := by
  refine Ck.of (by decide) (Nat.le_of_ble_eq_true rfl) ?_
  unfold f_Au_foundBehindLasts at h
  refine lk_aload_n d_Au_foundBehindLasts_0 rfl ?_
  obtain ⟨a1, ha1, h⟩ := x_b h
  refine lk_getR (k := 0) d_Au_foundBehindLasts_1 ha1 (by decide) rfl (by decide) lf_Au_12 rfl ?_
  refine lk_aload_n d_Au_foundBehindLasts_4 rfl ?_
  refine lk_aload_n d_Au_foundBehindLasts_5 rfl ?_
  refine lk_getR (k := 1) d_Au_foundBehindLasts_6 ha1 (by decide) rfl (by decide) lf_Au_21 rfl ?_
  refine lk_iload_n d_Au_foundBehindLasts_9 rfl ?_
  refine lk_iconst (v := 1) d_Au_foundBehindLasts_10 rfl ?_
  obtain ⟨a2, ha2, h⟩ := x_b h
  obtain ⟨p3, hp3, h⟩ := x_b h
  refine lk_callV0 d_Au_foundBehindLasts_11 (x_obm ha2 rfl) (c_Fo_begin hp3) (Nat.le_of_ble_eq_true rfl) rfl M_Fo_begin lm_Au_89 in_Fo_begin se_Fo_begin (by decide) rfl (Nat.le_of_ble_eq_true rfl) ?_
  refine lk_iconst (v := 0) d_Au_foundBehindLasts_14 rfl ?_
  refine lk_istore d_Au_foundBehindLasts_15 (by decide) rfl ?_
  obtain ⟨e14, hl, h⟩ := x_b h
  refine Lk.sel [0, 1, 2, 4] rfl ?_
  refine Lk.trans (l_Au_foundBehindLasts_17 _ _ _ _ _ _ _ hl) ?_
  intro pc' lo' st' s' mc' ms' hx
  obtain ⟨rfl, rfl, rfl, rfl, rfl, rfl⟩ := hx
  refine lk_iconst (v := 0) d_Au_foundBehindLasts_63 rfl ?_
  refine lk_istore d_Au_foundBehindLasts_64 (by decide) rfl ?_
  obtain ⟨e23r, hl, h⟩ := x_b h
  refine Lk.sel [0, 1, 4] rfl ?_
  refine Lk.trans (l_Au_foundBehindLasts_66 _ _ _ _ _ _ hl) ?_
  intro pc' lo' st' s' mc' ms' hx
  cases e23r with
  | inl e23 =>
    obtain ⟨rfl, rfl, rfl, rfl, rfl, rfl⟩ := hx
    refine lk_iconst (v := 0) d_Au_foundBehindLasts_104 rfl ?_
    cases h
    exact Lk.stop ⟨rfl, Or.inr (Or.inl ⟨_, _, d_Au_foundBehindLasts_105, rfl, rfl, rfl, rfl⟩)⟩
  | inr w =>
    cases h
    exact Lk.stop hx
def L_Au_lastEnd_22 : Nat → Option Nat → Option Nat → Option Nat → Int32 → Int32 → Int32 → hv_S → Option ((Int32 × hv_S) ⊕ (Int32 × hv_S))
  | 0, _, _, _, _, _, _, _ => none
  | n + 1, x0, x1, x2, x3, x4, x5, s =>
    (x_ob s 2 x2).bind fun a5 =>
    (f_Tx_length a5 s).bind fun p6 =>
    if p6.1 < x5 then
      some (.inl (x3, p6.2))
    else
      (x_ob p6.2 9 x0).bind fun a7 =>
      (f_Au_stateAt a7 x4 p6.2).bind fun p8 =>
      if p8.1 = none then
        some (.inr (((-1), p8.2)))
      else
        (x_ob p8.2 10 p8.1).bind fun a9 =>
        ((
          if (hv_I p8.2 a9 4) = 0 then
            (x_ob p8.2 2 x2).bind fun a10 =>
            (f_Tx_length a10 p8.2).bind fun p11 =>
            if x5 = p11.1 then
              (x_ob p11.2 9 x0).bind fun a12 =>
              (f_Au_foundBehindLasts a12 x1 p8.1 x5 p11.2).bind fun p13 =>
              if p13.1 = 0 then
                some (x3, p13.2)
              else
                some (x5, p13.2)
            else
              some (x3, p11.2)
          else
            some (x5, p8.2)
        ) : Option (Int32 × hv_S)).bind fun t14 =>
        (x_ob t14.2 2 x2).bind fun a15 =>
        (f_Tx_length a15 t14.2).bind fun p16 =>
        if x5 = p16.1 then
          some (.inl (t14.1, p16.2))
        else
          (x_ob p16.2 10 p8.1).bind fun a17 =>
          (f_St_isOver a17 p16.2).bind fun p18 =>
          if p18.1 = 0 then
            (x_ob p18.2 2 x2).bind fun a19 =>
            (f_Tx_letterAt a19 x5 p18.2).bind fun p20 =>
            (x_ob p20.2 9 x0).bind fun a21 =>
            (f_Au_nextState a21 x1 x4 p20.1 p20.2).bind fun p22 =>
            L_Au_lastEnd_22 n x0 x1 x2 t14.1 p22.1 (x5 + 1) p22.2
          else
            some (.inl (t14.1, p18.2))
set_option maxRecDepth 4000 in
set_option maxHeartbeats 2000000 in
theorem l_Au_lastEnd_22 {G : lt_G} : ∀ (n : Nat) (x0 : Option Nat) (x1 : Option Nat) (x2 : Option Nat) (x3 : Int32) (x4 : Int32) (x5 : Int32) (s : hv_S) (e0 : (Int32 × hv_S) ⊕ (Int32 × hv_S)), L_Au_lastEnd_22 n x0 x1 x2 x3 x4 x5 s = some e0 → Lk G m_Au_lastEnd 5 22 [(0, vR x0), (1, vR x1), (2, vR x2), (3, vI x3), (4, vI x4), (5, vI x5)] [] s 0 0 (fun a b c d e f => match e0 with | .inl t => lk_at 119 [(3, vI t.1)] [] t.2 0 0 a b c d e f | .inr w => lk_end m_Au_lastEnd (some (vI w.1)) w.2 a b c d e f) := by
  intro n
  induction n with
  | zero => intro x0 x1 x2 x3 x4 x5 s e0 h; cases h
  | succ n ih =>
    intro x0 x1 x2 x3 x4 x5 s e0 h
    unfold L_Au_lastEnd_22 at h
    refine lk_iload d_Au_lastEnd_22 rfl ?_
    refine lk_aload_n d_Au_lastEnd_24 rfl ?_
    obtain ⟨a5, ha5, h⟩ := x_b h
    obtain ⟨p6, hp6, h⟩ := x_b h
    refine lk_callV0 d_Au_lastEnd_25 (x_obm ha5 rfl) (c_Tx_length hp6) (Nat.le_of_ble_eq_true rfl) rfl M_Tx_length lm_Au_59 in_Tx_length se_Tx_length (by decide) rfl (Nat.le_of_ble_eq_true rfl) ?_
    refine lk_icmp_gt (tgt := 119) d_Au_lastEnd_28 (by decide) (fun hc => ?_) (fun hc => ?_)
    · replace h := x_ifp hc h
      cases h
      refine Lk.sel [3] rfl ?_
      exact Lk.stop ⟨rfl, rfl, rfl, rfl, rfl, rfl⟩
    · replace h := x_ifn hc h
      refine lk_aload_n d_Au_lastEnd_31 rfl ?_
      refine lk_iload d_Au_lastEnd_32 rfl ?_
      obtain ⟨a7, ha7, h⟩ := x_b h
      obtain ⟨p8, hp8, h⟩ := x_b h
      refine lk_callV0 d_Au_lastEnd_34 (x_obm ha7 rfl) (c_Au_stateAt hp8) (Nat.le_of_ble_eq_true rfl) rfl M_Au_stateAt lm_Au_65 in_Au_stateAt se_Au_stateAt (by decide) rfl (Nat.le_of_ble_eq_true rfl) ?_
      refine lk_astore d_Au_lastEnd_37 (by decide) rfl ?_
      refine lk_aload d_Au_lastEnd_39 rfl ?_
      refine lk_ifnonnull (tgt := 46) d_Au_lastEnd_41 (by decide) (fun hc => ?_) (fun hc => ?_)
      · replace h := x_ifn hc h
        refine lk_aload d_Au_lastEnd_46 rfl ?_
        obtain ⟨a9, ha9, h⟩ := x_b h
        refine lk_getI (k := 4) d_Au_lastEnd_48 ha9 (by decide) rfl (by decide) lf_Au_69 rfl ?_
        obtain ⟨t14, hj, h⟩ := x_b h
        refine Lk.joinS 78 [0, 1, 2, 3, 4, 5, 6] [(3, vI t14.1)] rfl 1 [] t14.2 ?_ ?_
        · replace h := hj
          refine lk_if_ne (tgt := 75) d_Au_lastEnd_51 (by decide) (fun hc => ?_) (fun hc => ?_)
          · replace h := x_ifn hc h
            refine lk_iload d_Au_lastEnd_75 rfl ?_
            refine lk_istore_n d_Au_lastEnd_77 (by decide) rfl ?_
            cases h
            refine Lk.sel [0, 1, 2, 3, 4, 5, 6] rfl ?_
            exact Lk.stop ⟨rfl, rfl, rfl, rfl, rfl, rfl⟩
          · replace h := x_ifp hc h
            refine lk_iload d_Au_lastEnd_54 rfl ?_
            refine lk_aload_n d_Au_lastEnd_56 rfl ?_
            obtain ⟨a10, ha10, h⟩ := x_b h
            obtain ⟨p11, hp11, h⟩ := x_b h
            refine lk_callV0 d_Au_lastEnd_57 (x_obm ha10 rfl) (c_Tx_length hp11) (Nat.le_of_ble_eq_true rfl) rfl M_Tx_length lm_Au_59 in_Tx_length se_Tx_length (by decide) rfl (Nat.le_of_ble_eq_true rfl) ?_
            refine lk_icmp_ne (tgt := 78) d_Au_lastEnd_60 (by decide) (fun hc => ?_) (fun hc => ?_)
            · replace h := x_ifn hc h
              cases h
              refine Lk.sel [0, 1, 2, 3, 4, 5, 6] rfl ?_
              exact Lk.stop ⟨rfl, rfl, rfl, rfl, rfl, rfl⟩
            · replace h := x_ifp hc h
              refine lk_aload_n d_Au_lastEnd_63 rfl ?_
              refine lk_aload_n d_Au_lastEnd_64 rfl ?_
              refine lk_aload d_Au_lastEnd_65 rfl ?_
              refine lk_iload d_Au_lastEnd_67 rfl ?_
              obtain ⟨a12, ha12, h⟩ := x_b h
              obtain ⟨p13, hp13, h⟩ := x_b h
              refine lk_callV0 d_Au_lastEnd_69 (x_obm ha12 rfl) (c_Au_foundBehindLasts hp13) (Nat.le_of_ble_eq_true rfl) rfl M_Au_foundBehindLasts lm_Au_73 in_Au_foundBehindLasts se_Au_foundBehindLasts (by decide) rfl (Nat.le_of_ble_eq_true rfl) ?_
              refine lk_if_eq (tgt := 78) d_Au_lastEnd_72 (by decide) (fun hc => ?_) (fun hc => ?_)
              · replace h := x_ifp hc h
                cases h
                refine Lk.sel [0, 1, 2, 3, 4, 5, 6] rfl ?_
                exact Lk.stop ⟨rfl, rfl, rfl, rfl, rfl, rfl⟩
              · replace h := x_ifn hc h
                refine lk_iload d_Au_lastEnd_75 rfl ?_
                refine lk_istore_n d_Au_lastEnd_77 (by decide) rfl ?_
                cases h
                refine Lk.sel [0, 1, 2, 3, 4, 5, 6] rfl ?_
                exact Lk.stop ⟨rfl, rfl, rfl, rfl, rfl, rfl⟩
        · clear hj
          refine lk_iload d_Au_lastEnd_78 rfl ?_
          refine lk_aload_n d_Au_lastEnd_80 rfl ?_
          obtain ⟨a15, ha15, h⟩ := x_b h
          obtain ⟨p16, hp16, h⟩ := x_b h
          refine lk_callV0 d_Au_lastEnd_81 (x_obm ha15 rfl) (c_Tx_length hp16) (Nat.le_of_ble_eq_true rfl) rfl M_Tx_length lm_Au_59 in_Tx_length se_Tx_length (by decide) rfl (Nat.le_of_ble_eq_true rfl) ?_
          refine lk_icmp_eq (tgt := 119) d_Au_lastEnd_84 (by decide) (fun hc => ?_) (fun hc => ?_)
          · replace h := x_ifp hc h
            cases h
            refine Lk.sel [3] rfl ?_
            exact Lk.stop ⟨rfl, rfl, rfl, rfl, rfl, rfl⟩
          · replace h := x_ifn hc h
            refine lk_aload d_Au_lastEnd_87 rfl ?_
            obtain ⟨a17, ha17, h⟩ := x_b h
            obtain ⟨p18, hp18, h⟩ := x_b h
            refine lk_callV0 d_Au_lastEnd_89 (x_obm ha17 rfl) (c_St_isOver hp18) (Nat.le_of_ble_eq_true rfl) rfl M_St_isOver lm_Au_77 in_St_isOver se_St_isOver (by decide) rfl (Nat.le_of_ble_eq_true rfl) ?_
            refine lk_if_eq (tgt := 98) d_Au_lastEnd_92 (by decide) (fun hc => ?_) (fun hc => ?_)
            · replace h := x_ifp hc h
              refine lk_aload_n d_Au_lastEnd_98 rfl ?_
              refine lk_aload_n d_Au_lastEnd_99 rfl ?_
              refine lk_iload d_Au_lastEnd_100 rfl ?_
              refine lk_aload_n d_Au_lastEnd_102 rfl ?_
              refine lk_iload d_Au_lastEnd_103 rfl ?_
              obtain ⟨a19, ha19, h⟩ := x_b h
              obtain ⟨p20, hp20, h⟩ := x_b h
              refine lk_callV0 d_Au_lastEnd_105 (x_obm ha19 rfl) (c_Tx_letterAt hp20) (Nat.le_of_ble_eq_true rfl) rfl M_Tx_letterAt lm_Au_81 in_Tx_letterAt se_Tx_letterAt (by decide) rfl (Nat.le_of_ble_eq_true rfl) ?_
              obtain ⟨a21, ha21, h⟩ := x_b h
              obtain ⟨p22, hp22, h⟩ := x_b h
              refine lk_callV0 d_Au_lastEnd_108 (x_obm ha21 rfl) (c_Au_nextState hp22) (Nat.le_of_ble_eq_true rfl) rfl M_Au_nextState lm_Au_85 in_Au_nextState se_Au_nextState (by decide) rfl (Nat.le_of_ble_eq_true rfl) ?_
              refine lk_istore d_Au_lastEnd_111 (by decide) rfl ?_
              refine lk_iinc (v := _ + 1) d_Au_lastEnd_113 rfl rfl (by decide) rfl ?_
              refine lk_goto (tgt := 22) d_Au_lastEnd_116 (by decide) ?_
              refine Lk.sel [0, 1, 2, 3, 4, 5] rfl ?_
              exact ih _ _ _ _ _ _ _ _ h
            · replace h := x_ifn hc h
              refine lk_goto (tgt := 119) d_Au_lastEnd_95 (by decide) ?_
              cases h
              refine Lk.sel [3] rfl ?_
              exact Lk.stop ⟨rfl, rfl, rfl, rfl, rfl, rfl⟩
      · replace h := x_ifp hc h
        refine lk_iconst (v := (-1)) d_Au_lastEnd_44 rfl ?_
        cases h
        exact Lk.stop ⟨rfl, Or.inr (Or.inl ⟨_, _, d_Au_lastEnd_45, rfl, rfl, rfl, rfl⟩)⟩
def f_Au_lastEnd (z0 : Nat) (r1 : Option Nat) (r2 : Option Nat) (s : hv_S) : Option (Int32 × hv_S) :=
  (x_ob s 9 ((some z0))).bind fun a1 =>
  (some (hv_setI s a1 7 0)).bind fun s2 =>
  (some (hv_setI s2 a1 6 0)).bind fun s3 =>
  (f_Au_firstState a1 r1 s3).bind fun p4 =>
  (L_Au_lastEnd_22 100000 ((some z0)) r1 r2 ((-1)) p4.1 0 p4.2).bind fun e23r => e23r.elim (fun e23 =>
    some ((e23.1, e23.2))
  ) (fun w => some w)
set_option maxRecDepth 4000 in
set_option maxHeartbeats 2000000 in
theorem c_Au_lastEnd {G : lt_G} {z0 : Nat} {r1 : Option Nat} {r2 : Option Nat} {s : hv_S} {p : Int32 × hv_S} (h : f_Au_lastEnd z0 r1 r2 s = some p) : Ck G m_Au_lastEnd 5 0 0 [vR (some z0), vR r1, vR r2] s (some (vI p.1)) p.2 := by
  refine Ck.of (by decide) (Nat.le_of_ble_eq_true rfl) ?_
  unfold f_Au_lastEnd at h
  refine lk_aload_n d_Au_lastEnd_0 rfl ?_
  refine lk_iconst (v := 0) d_Au_lastEnd_1 rfl ?_
  obtain ⟨a1, ha1, h⟩ := x_b h
  replace h := x_nm h
  refine lk_putI (k := 7) d_Au_lastEnd_2 ha1 (by decide) rfl (by decide) lf_Au_49 rfl rfl ?_
  refine lk_aload_n d_Au_lastEnd_5 rfl ?_
  refine lk_iconst (v := 0) d_Au_lastEnd_6 rfl ?_
  replace h := x_nm h
  refine lk_putI (k := 6) d_Au_lastEnd_7 ha1 (by decide) rfl (by decide) lf_Au_52 rfl rfl ?_
  refine lk_iconst (v := (-1)) d_Au_lastEnd_10 rfl ?_
  refine lk_istore_n d_Au_lastEnd_11 (by decide) rfl ?_
  refine lk_aload_n d_Au_lastEnd_12 rfl ?_
  refine lk_aload_n d_Au_lastEnd_13 rfl ?_
  obtain ⟨p4, hp4, h⟩ := x_b h
  refine lk_callV0 d_Au_lastEnd_14 (x_obm ha1 rfl) (c_Au_firstState hp4) (Nat.le_of_ble_eq_true rfl) rfl M_Au_firstState lm_Au_55 in_Au_firstState se_Au_firstState (by decide) rfl (Nat.le_of_ble_eq_true rfl) ?_
  refine lk_istore d_Au_lastEnd_17 (by decide) rfl ?_
  refine lk_iconst (v := 0) d_Au_lastEnd_19 rfl ?_
  refine lk_istore d_Au_lastEnd_20 (by decide) rfl ?_
  obtain ⟨e23r, hl, h⟩ := x_b h
  refine Lk.sel [0, 1, 2, 3, 4, 5] rfl ?_
  refine Lk.trans (l_Au_lastEnd_22 _ _ _ _ _ _ _ _ _ hl) ?_
  intro pc' lo' st' s' mc' ms' hx
  cases e23r with
  | inl e23 =>
    obtain ⟨rfl, rfl, rfl, rfl, rfl, rfl⟩ := hx
    refine lk_iload_n d_Au_lastEnd_119 rfl ?_
    cases h
    exact Lk.stop ⟨rfl, Or.inr (Or.inl ⟨_, _, d_Au_lastEnd_120, rfl, rfl, rfl, rfl⟩)⟩
  | inr w =>
    cases h
    exact Lk.stop hx
def f_Si_lettersPassed (z0 : Nat) (s : hv_S) : Option (Int32 × hv_S) :=
  (x_ob s 7 ((some z0))).bind fun a1 =>
  some ((hv_I s a1 2, s))
set_option maxRecDepth 4000 in
set_option maxHeartbeats 2000000 in
theorem c_Si_lettersPassed {G : lt_G} {z0 : Nat} {s : hv_S} {p : Int32 × hv_S} (h : f_Si_lettersPassed z0 s = some p) : Ck G m_Si_lettersPassed 1 0 0 [vR (some z0)] s (some (vI p.1)) p.2 := by
  refine Ck.of (by decide) (Nat.le_of_ble_eq_true rfl) ?_
  unfold f_Si_lettersPassed at h
  refine lk_aload_n d_Si_lettersPassed_0 rfl ?_
  obtain ⟨a1, ha1, h⟩ := x_b h
  refine lk_getI (k := 2) d_Si_lettersPassed_1 ha1 (by decide) rfl (by decide) lf_Si_25 rfl ?_
  cases h
  exact Lk.stop ⟨rfl, Or.inr (Or.inl ⟨_, _, d_Si_lettersPassed_4, rfl, rfl, rfl, rfl⟩)⟩
def L_Si_isPlainFrom_46 : Nat → Option Nat → Option Nat → Int32 → Int32 → Int32 → Int32 → hv_S → Option ((Int32 × Int32 × hv_S) ⊕ (Int32 × hv_S))
  | 0, _, _, _, _, _, _, _ => none
  | n + 1, x0, x1, x3, x4, x5, x6, s =>
    (x_ob s 7 x0).bind fun a10 =>
    (x_ob s 5 (hv_R s a10 1)).bind fun a11 =>
    (f_TL_size a11 s).bind fun p12 =>
    if p12.1 ≤ x6 then
      some (.inl (x3, x4, p12.2))
    else
      (x_ob p12.2 7 x0).bind fun a13 =>
      (x_ob p12.2 5 (hv_R p12.2 a13 1)).bind fun a14 =>
      (f_TL_instructionAt a14 x6 p12.2).bind fun p15 =>
      (x_ob p15.2 8 x1).bind fun a16 =>
      (f_Pr_readsLetter a16 p15.1 p15.2).bind fun p17 =>
      if p17.1 = 0 then
        L_Si_isPlainFrom_46 n x0 x1 x3 x4 x5 (x6 + 1) p17.2
      else
        (x_ob p17.2 8 x1).bind fun a18 =>
        (f_Pr_kindAt a18 p15.1 p17.2).bind fun p19 =>
        if p19.1 = 1 then
          L_Si_isPlainFrom_46 n x0 x1 (x3 + 1) (x4 + 1) x5 (x6 + 1) p19.2
        else
          (x_ob p19.2 8 x1).bind fun a20 =>
          (f_Pr_xAt a20 p15.1 p19.2).bind fun p21 =>
          (some ((1 : Int32) <<< (p21.1 &&& 31))).bind fun y22 =>
          if (x5 &&& y22) = 0 then
            L_Si_isPlainFrom_46 n x0 x1 (x3 + 1) x4 (x5 ||| y22) (x6 + 1) p21.2
          else
            some (.inr ((0, p21.2)))
set_option maxRecDepth 4000 in
set_option maxHeartbeats 2000000 in
theorem l_Si_isPlainFrom_46 {G : lt_G} : ∀ (n : Nat) (x0 : Option Nat) (x1 : Option Nat) (x3 : Int32) (x4 : Int32) (x5 : Int32) (x6 : Int32) (s : hv_S) (e0 : (Int32 × Int32 × hv_S) ⊕ (Int32 × hv_S)), L_Si_isPlainFrom_46 n x0 x1 x3 x4 x5 x6 s = some e0 → Lk G m_Si_isPlainFrom 4 46 [(0, vR x0), (1, vR x1), (3, vI x3), (4, vI x4), (5, vI x5), (6, vI x6)] [] s 0 0 (fun a b c d e f => match e0 with | .inl t => lk_at 133 [(3, vI t.1), (4, vI t.2.1)] [] t.2.2 0 0 a b c d e f | .inr w => lk_end m_Si_isPlainFrom (some (vI w.1)) w.2 a b c d e f) := by
  intro n
  induction n with
  | zero => intro x0 x1 x3 x4 x5 x6 s e0 h; cases h
  | succ n ih =>
    intro x0 x1 x3 x4 x5 x6 s e0 h
    unfold L_Si_isPlainFrom_46 at h
    refine lk_iload d_Si_isPlainFrom_46 rfl ?_
    refine lk_aload_n d_Si_isPlainFrom_48 rfl ?_
    obtain ⟨a10, ha10, h⟩ := x_b h
    refine lk_getR (k := 1) d_Si_isPlainFrom_49 ha10 (by decide) rfl (by decide) lf_Si_21 rfl ?_
    obtain ⟨a11, ha11, h⟩ := x_b h
    obtain ⟨p12, hp12, h⟩ := x_b h
    refine lk_callV0 d_Si_isPlainFrom_52 (x_obm ha11 rfl) (c_TL_size hp12) (Nat.le_of_ble_eq_true rfl) rfl M_TL_size lm_Si_59 in_TL_size se_TL_size (by decide) rfl (Nat.le_of_ble_eq_true rfl) ?_
    refine lk_icmp_ge (tgt := 133) d_Si_isPlainFrom_55 (by decide) (fun hc => ?_) (fun hc => ?_)
    · replace h := x_ifp hc h
      cases h
      refine Lk.sel [3, 4] rfl ?_
      exact Lk.stop ⟨rfl, rfl, rfl, rfl, rfl, rfl⟩
    · replace h := x_ifn hc h
      refine lk_aload_n d_Si_isPlainFrom_58 rfl ?_
      obtain ⟨a13, ha13, h⟩ := x_b h
      refine lk_getR (k := 1) d_Si_isPlainFrom_59 ha13 (by decide) rfl (by decide) lf_Si_21 rfl ?_
      refine lk_iload d_Si_isPlainFrom_62 rfl ?_
      obtain ⟨a14, ha14, h⟩ := x_b h
      obtain ⟨p15, hp15, h⟩ := x_b h
      refine lk_callV0 d_Si_isPlainFrom_64 (x_obm ha14 rfl) (c_TL_instructionAt hp15) (Nat.le_of_ble_eq_true rfl) rfl M_TL_instructionAt lm_Si_60 in_TL_instructionAt se_TL_instructionAt (by decide) rfl (Nat.le_of_ble_eq_true rfl) ?_
      refine lk_istore d_Si_isPlainFrom_67 (by decide) rfl ?_
      refine lk_aload_n d_Si_isPlainFrom_69 rfl ?_
      refine lk_iload d_Si_isPlainFrom_70 rfl ?_
      obtain ⟨a16, ha16, h⟩ := x_b h
      obtain ⟨p17, hp17, h⟩ := x_b h
      refine lk_callV0 d_Si_isPlainFrom_72 (x_obm ha16 rfl) (c_Pr_readsLetter hp17) (Nat.le_of_ble_eq_true rfl) rfl M_Pr_readsLetter lm_Si_39 in_Pr_readsLetter se_Pr_readsLetter (by decide) rfl (Nat.le_of_ble_eq_true rfl) ?_
      refine lk_if_ne (tgt := 81) d_Si_isPlainFrom_75 (by decide) (fun hc => ?_) (fun hc => ?_)
      · replace h := x_ifn hc h
        refine lk_iinc (v := _ + 1) d_Si_isPlainFrom_81 rfl rfl (by decide) rfl ?_
        refine lk_aload_n d_Si_isPlainFrom_84 rfl ?_
        refine lk_iload d_Si_isPlainFrom_85 rfl ?_
        obtain ⟨a18, ha18, h⟩ := x_b h
        obtain ⟨p19, hp19, h⟩ := x_b h
        refine lk_callV0 d_Si_isPlainFrom_87 (x_obm ha18 rfl) (c_Pr_kindAt hp19) (Nat.le_of_ble_eq_true rfl) rfl M_Pr_kindAt lm_Si_29 in_Pr_kindAt se_Pr_kindAt (by decide) rfl (Nat.le_of_ble_eq_true rfl) ?_
        refine lk_iconst (v := 1) d_Si_isPlainFrom_90 rfl ?_
        refine lk_icmp_ne (tgt := 100) d_Si_isPlainFrom_91 (by decide) (fun hc => ?_) (fun hc => ?_)
        · replace h := x_ifn hc h
          refine lk_iconst (v := 1) d_Si_isPlainFrom_100 rfl ?_
          refine lk_aload_n d_Si_isPlainFrom_101 rfl ?_
          refine lk_iload d_Si_isPlainFrom_102 rfl ?_
          obtain ⟨a20, ha20, h⟩ := x_b h
          obtain ⟨p21, hp21, h⟩ := x_b h
          refine lk_callV0 d_Si_isPlainFrom_104 (x_obm ha20 rfl) (c_Pr_xAt hp21) (Nat.le_of_ble_eq_true rfl) rfl M_Pr_xAt lm_Si_63 in_Pr_xAt se_Pr_xAt (by decide) rfl (Nat.le_of_ble_eq_true rfl) ?_
          refine lk_ishl d_Si_isPlainFrom_107 ?_
          replace h := x_nm h
          refine lk_istore d_Si_isPlainFrom_108 (by decide) rfl ?_
          refine lk_iload d_Si_isPlainFrom_110 rfl ?_
          refine lk_iload d_Si_isPlainFrom_112 rfl ?_
          refine lk_iand d_Si_isPlainFrom_114 ?_
          refine lk_if_eq (tgt := 120) d_Si_isPlainFrom_115 (by decide) (fun hc => ?_) (fun hc => ?_)
          · replace h := x_ifp hc h
            refine lk_iload d_Si_isPlainFrom_120 rfl ?_
            refine lk_iload d_Si_isPlainFrom_122 rfl ?_
            refine lk_ior d_Si_isPlainFrom_124 ?_
            refine lk_istore d_Si_isPlainFrom_125 (by decide) rfl ?_
            refine lk_iinc (v := _ + 1) d_Si_isPlainFrom_127 rfl rfl (by decide) rfl ?_
            refine lk_goto (tgt := 46) d_Si_isPlainFrom_130 (by decide) ?_
            refine Lk.sel [0, 1, 3, 4, 5, 6] rfl ?_
            exact ih _ _ _ _ _ _ _ _ h
          · replace h := x_ifn hc h
            refine lk_iconst (v := 0) d_Si_isPlainFrom_118 rfl ?_
            cases h
            exact Lk.stop ⟨rfl, Or.inr (Or.inl ⟨_, _, d_Si_isPlainFrom_119, rfl, rfl, rfl, rfl⟩)⟩
        · replace h := x_ifp hc h
          refine lk_iinc (v := _ + 1) d_Si_isPlainFrom_94 rfl rfl (by decide) rfl ?_
          refine lk_goto (tgt := 127) d_Si_isPlainFrom_97 (by decide) ?_
          refine lk_iinc (v := _ + 1) d_Si_isPlainFrom_127 rfl rfl (by decide) rfl ?_
          refine lk_goto (tgt := 46) d_Si_isPlainFrom_130 (by decide) ?_
          refine Lk.sel [0, 1, 3, 4, 5, 6] rfl ?_
          exact ih _ _ _ _ _ _ _ _ h
      · replace h := x_ifp hc h
        refine lk_goto (tgt := 127) d_Si_isPlainFrom_78 (by decide) ?_
        refine lk_iinc (v := _ + 1) d_Si_isPlainFrom_127 rfl rfl (by decide) rfl ?_
        refine lk_goto (tgt := 46) d_Si_isPlainFrom_130 (by decide) ?_
        refine Lk.sel [0, 1, 3, 4, 5, 6] rfl ?_
        exact ih _ _ _ _ _ _ _ _ h
def f_Si_isPlainFrom (z0 : Nat) (r1 : Option Nat) (x2 : Int32) (s : hv_S) : Option (Int32 × hv_S) :=
  (x_ob s 7 ((some z0))).bind fun a1 =>
  (x_ob s 4 (hv_R s a1 0)).bind fun a2 =>
  (f_Fo_begin a2 r1 (hv_R s a1 1) 0 1 s).bind fun p3 =>
  (x_ob p3 7 ((some z0))).bind fun a4 =>
  (x_ob p3 4 (hv_R p3 a4 0)).bind fun a5 =>
  (f_Fo_follow a5 x2 0 p3).bind fun p6 =>
  (x_ob p6 7 ((some z0))).bind fun a7 =>
  (x_ob p6 4 (hv_R p6 a7 0)).bind fun a8 =>
  (f_Fo_cameTwice a8 p6).bind fun p9 =>
  if p9.1 = 0 then
    (L_Si_isPlainFrom_46 100000 ((some z0)) r1 0 0 0 0 p9.2).bind fun e23r => e23r.elim (fun e23 =>
      ((
        if e23.2.1 = 0 then
          some 1
        else
          if e23.1 = 1 then
            some 1
          else
            some 0
      ) : Option (Int32)).bind fun t24 =>
      (x_z t24).bind fun z25 =>
      some ((z25, e23.2.2))
    ) (fun w => some w)
  else
    some ((0, p9.2))
set_option maxRecDepth 4000 in
set_option maxHeartbeats 2000000 in
theorem c_Si_isPlainFrom {G : lt_G} {z0 : Nat} {r1 : Option Nat} {x2 : Int32} {s : hv_S} {p : Int32 × hv_S} (h : f_Si_isPlainFrom z0 r1 x2 s = some p) : Ck G m_Si_isPlainFrom 4 0 0 [vR (some z0), vR r1, vI x2] s (some (vI p.1)) p.2 := by
  refine Ck.of (by decide) (Nat.le_of_ble_eq_true rfl) ?_
  unfold f_Si_isPlainFrom at h
  refine lk_aload_n d_Si_isPlainFrom_0 rfl ?_
  obtain ⟨a1, ha1, h⟩ := x_b h
  refine lk_getR (k := 0) d_Si_isPlainFrom_1 ha1 (by decide) rfl (by decide) lf_Si_12 rfl ?_
  refine lk_aload_n d_Si_isPlainFrom_4 rfl ?_
  refine lk_aload_n d_Si_isPlainFrom_5 rfl ?_
  refine lk_getR (k := 1) d_Si_isPlainFrom_6 ha1 (by decide) rfl (by decide) lf_Si_21 rfl ?_
  refine lk_iconst (v := 0) d_Si_isPlainFrom_9 rfl ?_
  refine lk_iconst (v := 1) d_Si_isPlainFrom_10 rfl ?_
  obtain ⟨a2, ha2, h⟩ := x_b h
  obtain ⟨p3, hp3, h⟩ := x_b h
  refine lk_callV0 d_Si_isPlainFrom_11 (x_obm ha2 rfl) (c_Fo_begin hp3) (Nat.le_of_ble_eq_true rfl) rfl M_Fo_begin lm_Si_47 in_Fo_begin se_Fo_begin (by decide) rfl (Nat.le_of_ble_eq_true rfl) ?_
  refine lk_aload_n d_Si_isPlainFrom_14 rfl ?_
  obtain ⟨a4, ha4, h⟩ := x_b h
  refine lk_getR (k := 0) d_Si_isPlainFrom_15 ha4 (by decide) rfl (by decide) lf_Si_12 rfl ?_
  refine lk_iload_n d_Si_isPlainFrom_18 rfl ?_
  refine lk_lconst (v := 0) d_Si_isPlainFrom_19 rfl ?_
  obtain ⟨a5, ha5, h⟩ := x_b h
  obtain ⟨p6, hp6, h⟩ := x_b h
  refine lk_callV0 d_Si_isPlainFrom_20 (x_obm ha5 rfl) (c_Fo_follow hp6) (Nat.le_of_ble_eq_true rfl) rfl M_Fo_follow lm_Si_51 in_Fo_follow se_Fo_follow (by decide) rfl (Nat.le_of_ble_eq_true rfl) ?_
  refine lk_aload_n d_Si_isPlainFrom_23 rfl ?_
  obtain ⟨a7, ha7, h⟩ := x_b h
  refine lk_getR (k := 0) d_Si_isPlainFrom_24 ha7 (by decide) rfl (by decide) lf_Si_12 rfl ?_
  obtain ⟨a8, ha8, h⟩ := x_b h
  obtain ⟨p9, hp9, h⟩ := x_b h
  refine lk_callV0 d_Si_isPlainFrom_27 (x_obm ha8 rfl) (c_Fo_cameTwice hp9) (Nat.le_of_ble_eq_true rfl) rfl M_Fo_cameTwice lm_Si_55 in_Fo_cameTwice se_Fo_cameTwice (by decide) rfl (Nat.le_of_ble_eq_true rfl) ?_
  refine lk_if_eq (tgt := 35) d_Si_isPlainFrom_30 (by decide) (fun hc => ?_) (fun hc => ?_)
  · replace h := x_ifp hc h
    refine lk_iconst (v := 0) d_Si_isPlainFrom_35 rfl ?_
    refine lk_istore_n d_Si_isPlainFrom_36 (by decide) rfl ?_
    refine lk_iconst (v := 0) d_Si_isPlainFrom_37 rfl ?_
    refine lk_istore d_Si_isPlainFrom_38 (by decide) rfl ?_
    refine lk_iconst (v := 0) d_Si_isPlainFrom_40 rfl ?_
    refine lk_istore d_Si_isPlainFrom_41 (by decide) rfl ?_
    refine lk_iconst (v := 0) d_Si_isPlainFrom_43 rfl ?_
    refine lk_istore d_Si_isPlainFrom_44 (by decide) rfl ?_
    obtain ⟨e23r, hl, h⟩ := x_b h
    refine Lk.sel [0, 1, 3, 4, 5, 6] rfl ?_
    refine Lk.trans (l_Si_isPlainFrom_46 _ _ _ _ _ _ _ _ _ hl) ?_
    intro pc' lo' st' s' mc' ms' hx
    cases e23r with
    | inl e23 =>
      obtain ⟨rfl, rfl, rfl, rfl, rfl, rfl⟩ := hx
      refine lk_iload d_Si_isPlainFrom_133 rfl ?_
      obtain ⟨t24, hj, h⟩ := x_b h
      refine Lk.joinA 148 [] [] rfl 1 [vI t24] ?_ ?_
      · replace h := hj
        refine lk_if_eq (tgt := 143) d_Si_isPlainFrom_135 (by decide) (fun hc => ?_) (fun hc => ?_)
        · replace h := x_ifp hc h
          refine lk_iconst (v := 1) d_Si_isPlainFrom_143 rfl ?_
          refine lk_goto (tgt := 148) d_Si_isPlainFrom_144 (by decide) ?_
          cases h
          refine Lk.sel [] rfl ?_
          exact Lk.stop ⟨rfl, rfl, rfl, rfl, rfl, rfl⟩
        · replace h := x_ifn hc h
          refine lk_iload_n d_Si_isPlainFrom_138 rfl ?_
          refine lk_iconst (v := 1) d_Si_isPlainFrom_139 rfl ?_
          refine lk_icmp_ne (tgt := 147) d_Si_isPlainFrom_140 (by decide) (fun hc => ?_) (fun hc => ?_)
          · replace h := x_ifn hc h
            refine lk_iconst (v := 0) d_Si_isPlainFrom_147 rfl ?_
            cases h
            refine Lk.sel [] rfl ?_
            exact Lk.stop ⟨rfl, rfl, rfl, rfl, rfl, rfl⟩
          · replace h := x_ifp hc h
            refine lk_iconst (v := 1) d_Si_isPlainFrom_143 rfl ?_
            refine lk_goto (tgt := 148) d_Si_isPlainFrom_144 (by decide) ?_
            cases h
            refine Lk.sel [] rfl ?_
            exact Lk.stop ⟨rfl, rfl, rfl, rfl, rfl, rfl⟩
      · clear hj
        obtain ⟨z25, hz250, h⟩ := x_b h
        obtain ⟨rfl, hz25⟩ := x_z_some hz250
        cases h
        exact Lk.stop ⟨rfl, Or.inr (Or.inl ⟨_, _, d_Si_isPlainFrom_148, rfl, x_zn hz25, rfl, rfl⟩)⟩
    | inr w =>
      cases h
      exact Lk.stop hx
  · replace h := x_ifn hc h
    refine lk_iconst (v := 0) d_Si_isPlainFrom_33 rfl ?_
    cases h
    exact Lk.stop ⟨rfl, Or.inr (Or.inl ⟨_, _, d_Si_isPlainFrom_34, rfl, rfl, rfl, rfl⟩)⟩
def L_Si_fits_13 : Nat → Option Nat → Option Nat → Int32 → hv_S → Option ((hv_S) ⊕ (Int32 × hv_S))
  | 0, _, _, _, _ => none
  | n + 1, x0, x1, x2, s =>
    (x_ob s 8 x1).bind fun a3 =>
    (f_Pr_size a3 s).bind fun p4 =>
    if p4.1 ≤ x2 then
      some (.inl p4.2)
    else
      if x2 = 0 then
        (x_ob p4.2 7 x0).bind fun a5 =>
        (f_Si_isPlainFrom a5 x1 x2 p4.2).bind fun p6 =>
        if p6.1 = 0 then
          some (.inr ((0, p6.2)))
        else
          L_Si_fits_13 n x0 x1 (x2 + 1) p6.2
      else
        (x_ob p4.2 8 x1).bind fun a7 =>
        (f_Pr_readsLetter a7 (x2 - (1 : Int32)) p4.2).bind fun p8 =>
        if p8.1 = 0 then
          L_Si_fits_13 n x0 x1 (x2 + 1) p8.2
        else
          (x_ob p8.2 7 x0).bind fun a9 =>
          (f_Si_isPlainFrom a9 x1 x2 p8.2).bind fun p10 =>
          if p10.1 = 0 then
            some (.inr ((0, p10.2)))
          else
            L_Si_fits_13 n x0 x1 (x2 + 1) p10.2
set_option maxRecDepth 4000 in
set_option maxHeartbeats 2000000 in
theorem l_Si_fits_13 {G : lt_G} : ∀ (n : Nat) (x0 : Option Nat) (x1 : Option Nat) (x2 : Int32) (s : hv_S) (e0 : (hv_S) ⊕ (Int32 × hv_S)), L_Si_fits_13 n x0 x1 x2 s = some e0 → Lk G m_Si_fits 5 13 [(0, vR x0), (1, vR x1), (2, vI x2)] [] s 0 0 (fun a b c d e f => match e0 with | .inl t => lk_at 52 [] [] t 0 0 a b c d e f | .inr w => lk_end m_Si_fits (some (vI w.1)) w.2 a b c d e f) := by
  intro n
  induction n with
  | zero => intro x0 x1 x2 s e0 h; cases h
  | succ n ih =>
    intro x0 x1 x2 s e0 h
    unfold L_Si_fits_13 at h
    refine lk_iload_n d_Si_fits_13 rfl ?_
    refine lk_aload_n d_Si_fits_14 rfl ?_
    obtain ⟨a3, ha3, h⟩ := x_b h
    obtain ⟨p4, hp4, h⟩ := x_b h
    refine lk_callV0 d_Si_fits_15 (x_obm ha3 rfl) (c_Pr_size hp4) (Nat.le_of_ble_eq_true rfl) rfl M_Pr_size lm_Si_35 in_Pr_size se_Pr_size (by decide) rfl (Nat.le_of_ble_eq_true rfl) ?_
    refine lk_icmp_ge (tgt := 52) d_Si_fits_18 (by decide) (fun hc => ?_) (fun hc => ?_)
    · replace h := x_ifp hc h
      cases h
      refine Lk.sel [] rfl ?_
      exact Lk.stop ⟨rfl, rfl, rfl, rfl, rfl, rfl⟩
    · replace h := x_ifn hc h
      refine lk_iload_n d_Si_fits_21 rfl ?_
      refine lk_if_eq (tgt := 35) d_Si_fits_22 (by decide) (fun hc => ?_) (fun hc => ?_)
      · replace h := x_ifp hc h
        refine lk_aload_n d_Si_fits_35 rfl ?_
        refine lk_aload_n d_Si_fits_36 rfl ?_
        refine lk_iload_n d_Si_fits_37 rfl ?_
        obtain ⟨a5, ha5, h⟩ := x_b h
        obtain ⟨p6, hp6, h⟩ := x_b h
        refine lk_callV0 d_Si_fits_38 (x_obm ha5 rfl) (c_Si_isPlainFrom hp6) (Nat.le_of_ble_eq_true rfl) rfl M_Si_isPlainFrom lm_Si_43 in_Si_isPlainFrom se_Si_isPlainFrom (by decide) rfl (Nat.le_of_ble_eq_true rfl) ?_
        refine lk_if_ne (tgt := 46) d_Si_fits_41 (by decide) (fun hc => ?_) (fun hc => ?_)
        · replace h := x_ifn hc h
          refine lk_iinc (v := _ + 1) d_Si_fits_46 rfl rfl (by decide) rfl ?_
          refine lk_goto (tgt := 13) d_Si_fits_49 (by decide) ?_
          refine Lk.sel [0, 1, 2] rfl ?_
          exact ih _ _ _ _ _ h
        · replace h := x_ifp hc h
          refine lk_iconst (v := 0) d_Si_fits_44 rfl ?_
          cases h
          exact Lk.stop ⟨rfl, Or.inr (Or.inl ⟨_, _, d_Si_fits_45, rfl, rfl, rfl, rfl⟩)⟩
      · replace h := x_ifn hc h
        refine lk_aload_n d_Si_fits_25 rfl ?_
        refine lk_iload_n d_Si_fits_26 rfl ?_
        refine lk_iconst (v := 1) d_Si_fits_27 rfl ?_
        refine lk_isub d_Si_fits_28 ?_
        obtain ⟨a7, ha7, h⟩ := x_b h
        obtain ⟨p8, hp8, h⟩ := x_b h
        refine lk_callV0 d_Si_fits_29 (x_obm ha7 rfl) (c_Pr_readsLetter hp8) (Nat.le_of_ble_eq_true rfl) rfl M_Pr_readsLetter lm_Si_39 in_Pr_readsLetter se_Pr_readsLetter (by decide) rfl (Nat.le_of_ble_eq_true rfl) ?_
        refine lk_if_eq (tgt := 46) d_Si_fits_32 (by decide) (fun hc => ?_) (fun hc => ?_)
        · replace h := x_ifp hc h
          refine lk_iinc (v := _ + 1) d_Si_fits_46 rfl rfl (by decide) rfl ?_
          refine lk_goto (tgt := 13) d_Si_fits_49 (by decide) ?_
          refine Lk.sel [0, 1, 2] rfl ?_
          exact ih _ _ _ _ _ h
        · replace h := x_ifn hc h
          refine lk_aload_n d_Si_fits_35 rfl ?_
          refine lk_aload_n d_Si_fits_36 rfl ?_
          refine lk_iload_n d_Si_fits_37 rfl ?_
          obtain ⟨a9, ha9, h⟩ := x_b h
          obtain ⟨p10, hp10, h⟩ := x_b h
          refine lk_callV0 d_Si_fits_38 (x_obm ha9 rfl) (c_Si_isPlainFrom hp10) (Nat.le_of_ble_eq_true rfl) rfl M_Si_isPlainFrom lm_Si_43 in_Si_isPlainFrom se_Si_isPlainFrom (by decide) rfl (Nat.le_of_ble_eq_true rfl) ?_
          refine lk_if_ne (tgt := 46) d_Si_fits_41 (by decide) (fun hc => ?_) (fun hc => ?_)
          · replace h := x_ifn hc h
            refine lk_iinc (v := _ + 1) d_Si_fits_46 rfl rfl (by decide) rfl ?_
            refine lk_goto (tgt := 13) d_Si_fits_49 (by decide) ?_
            refine Lk.sel [0, 1, 2] rfl ?_
            exact ih _ _ _ _ _ h
          · replace h := x_ifp hc h
            refine lk_iconst (v := 0) d_Si_fits_44 rfl ?_
            cases h
            exact Lk.stop ⟨rfl, Or.inr (Or.inl ⟨_, _, d_Si_fits_45, rfl, rfl, rfl, rfl⟩)⟩
def f_Si_fits (z0 : Nat) (r1 : Option Nat) (s : hv_S) : Option (Int32 × hv_S) :=
  (x_ob s 8 r1).bind fun a1 =>
  (f_Pr_kindAt a1 0 s).bind fun p2 =>
  if p2.1 = 5 then
    (L_Si_fits_13 100000 ((some z0)) r1 0 p2.2).bind fun e11r => e11r.elim (fun e11 =>
      some ((1, e11))
    ) (fun w => some w)
  else
    some ((0, p2.2))
set_option maxRecDepth 4000 in
set_option maxHeartbeats 2000000 in
theorem c_Si_fits {G : lt_G} {z0 : Nat} {r1 : Option Nat} {s : hv_S} {p : Int32 × hv_S} (h : f_Si_fits z0 r1 s = some p) : Ck G m_Si_fits 5 0 0 [vR (some z0), vR r1] s (some (vI p.1)) p.2 := by
  refine Ck.of (by decide) (Nat.le_of_ble_eq_true rfl) ?_
  unfold f_Si_fits at h
  refine lk_aload_n d_Si_fits_0 rfl ?_
  refine lk_iconst (v := 0) d_Si_fits_1 rfl ?_
  obtain ⟨a1, ha1, h⟩ := x_b h
  obtain ⟨p2, hp2, h⟩ := x_b h
  refine lk_callV0 d_Si_fits_2 (x_obm ha1 rfl) (c_Pr_kindAt hp2) (Nat.le_of_ble_eq_true rfl) rfl M_Pr_kindAt lm_Si_29 in_Pr_kindAt se_Pr_kindAt (by decide) rfl (Nat.le_of_ble_eq_true rfl) ?_
  refine lk_iconst (v := 5) d_Si_fits_5 rfl ?_
  refine lk_icmp_eq (tgt := 11) d_Si_fits_6 (by decide) (fun hc => ?_) (fun hc => ?_)
  · replace h := x_ifp hc h
    refine lk_iconst (v := 0) d_Si_fits_11 rfl ?_
    refine lk_istore_n d_Si_fits_12 (by decide) rfl ?_
    obtain ⟨e11r, hl, h⟩ := x_b h
    refine Lk.sel [0, 1, 2] rfl ?_
    refine Lk.trans (l_Si_fits_13 _ _ _ _ _ _ hl) ?_
    intro pc' lo' st' s' mc' ms' hx
    cases e11r with
    | inl e11 =>
      obtain ⟨rfl, rfl, rfl, rfl, rfl, rfl⟩ := hx
      refine lk_iconst (v := 1) d_Si_fits_52 rfl ?_
      cases h
      exact Lk.stop ⟨rfl, Or.inr (Or.inl ⟨_, _, d_Si_fits_53, rfl, rfl, rfl, rfl⟩)⟩
    | inr w =>
      cases h
      exact Lk.stop hx
  · replace h := x_ifn hc h
    refine lk_iconst (v := 0) d_Si_fits_9 rfl ?_
    cases h
    exact Lk.stop ⟨rfl, Or.inr (Or.inl ⟨_, _, d_Si_fits_10, rfl, rfl, rfl, rfl⟩)⟩
def L_Si_goThrough_3 : Nat → Option Nat → Option Nat → Int32 → Int32 → Int32 → hv_S → Option ((hv_S) ⊕ (hv_S))
  | 0, _, _, _, _, _, _ => none
  | n + 1, x0, x1, x2, x3, x4, s =>
    (x_ob s 7 x0).bind fun a1 =>
    (x_ob s 5 (hv_R s a1 1)).bind fun a2 =>
    (f_TL_size a2 s).bind fun p3 =>
    if p3.1 ≤ x4 then
      some (.inl p3.2)
    else
      (x_ob p3.2 7 x0).bind fun a4 =>
      (x_ob p3.2 5 (hv_R p3.2 a4 1)).bind fun a5 =>
      (f_TL_instructionAt a5 x4 p3.2).bind fun p6 =>
      (x_ob p6.2 8 x1).bind fun a7 =>
      (f_Pr_kindAt a7 p6.1 p6.2).bind fun p8 =>
      if p8.1 = 7 then
        (x_ob p8.2 7 x0).bind fun a18 =>
        (x_ob p8.2 5 (hv_R p8.2 a18 1)).bind fun a19 =>
        (f_TL_slotsAt a19 x4 p8.2).bind fun p20 =>
        (f_C_withSlot p20.1 1 x3 p20.2).bind fun p21 =>
        (x_ob p21.2 7 x0).bind fun a22 =>
        (some (hv_setJ p21.2 a22 3 p21.1)).bind fun s23 =>
        some (.inr s23)
      else
        (x_ob p8.2 8 x1).bind fun a9 =>
        (f_Pr_takes a9 p6.1 x2 p8.2).bind fun p10 =>
        ((
          if p10.1 = 0 then
            some p10.2
          else
            (x_ob p10.2 7 x0).bind fun a11 =>
            (some (hv_setI p10.2 a11 4 (p6.1 + (1 : Int32)))).bind fun s12 =>
            (x_ob s12 5 (hv_R s12 a11 1)).bind fun a13 =>
            (f_TL_slotsAt a13 x4 s12).bind fun p14 =>
            (x_ob p14.2 7 x0).bind fun a15 =>
            (some (hv_setJ p14.2 a15 5 p14.1)).bind fun s16 =>
            some s16
        ) : Option (hv_S)).bind fun t17 =>
        L_Si_goThrough_3 n x0 x1 x2 x3 (x4 + 1) t17
set_option maxRecDepth 4000 in
set_option maxHeartbeats 2000000 in
theorem l_Si_goThrough_3 {G : lt_G} : ∀ (n : Nat) (x0 : Option Nat) (x1 : Option Nat) (x2 : Int32) (x3 : Int32) (x4 : Int32) (s : hv_S) (e0 : (hv_S) ⊕ (hv_S)), L_Si_goThrough_3 n x0 x1 x2 x3 x4 s = some e0 → Lk G m_Si_goThrough 3 3 [(0, vR x0), (1, vR x1), (2, vI x2), (3, vI x3), (4, vI x4)] [] s 0 0 (fun a b c d e f => match e0 with | .inl t => lk_at 93 [] [] t 0 0 a b c d e f | .inr w => lk_end m_Si_goThrough none w a b c d e f) := by
  intro n
  induction n with
  | zero => intro x0 x1 x2 x3 x4 s e0 h; cases h
  | succ n ih =>
    intro x0 x1 x2 x3 x4 s e0 h
    unfold L_Si_goThrough_3 at h
    refine lk_iload d_Si_goThrough_3 rfl ?_
    refine lk_aload_n d_Si_goThrough_5 rfl ?_
    obtain ⟨a1, ha1, h⟩ := x_b h
    refine lk_getR (k := 1) d_Si_goThrough_6 ha1 (by decide) rfl (by decide) lf_Si_21 rfl ?_
    obtain ⟨a2, ha2, h⟩ := x_b h
    obtain ⟨p3, hp3, h⟩ := x_b h
    refine lk_callV0 d_Si_goThrough_9 (x_obm ha2 rfl) (c_TL_size hp3) (Nat.le_of_ble_eq_true rfl) rfl M_TL_size lm_Si_59 in_TL_size se_TL_size (by decide) rfl (Nat.le_of_ble_eq_true rfl) ?_
    refine lk_icmp_ge (tgt := 93) d_Si_goThrough_12 (by decide) (fun hc => ?_) (fun hc => ?_)
    · replace h := x_ifp hc h
      cases h
      refine Lk.sel [] rfl ?_
      exact Lk.stop ⟨rfl, rfl, rfl, rfl, rfl, rfl⟩
    · replace h := x_ifn hc h
      refine lk_aload_n d_Si_goThrough_15 rfl ?_
      obtain ⟨a4, ha4, h⟩ := x_b h
      refine lk_getR (k := 1) d_Si_goThrough_16 ha4 (by decide) rfl (by decide) lf_Si_21 rfl ?_
      refine lk_iload d_Si_goThrough_19 rfl ?_
      obtain ⟨a5, ha5, h⟩ := x_b h
      obtain ⟨p6, hp6, h⟩ := x_b h
      refine lk_callV0 d_Si_goThrough_21 (x_obm ha5 rfl) (c_TL_instructionAt hp6) (Nat.le_of_ble_eq_true rfl) rfl M_TL_instructionAt lm_Si_60 in_TL_instructionAt se_TL_instructionAt (by decide) rfl (Nat.le_of_ble_eq_true rfl) ?_
      refine lk_istore d_Si_goThrough_24 (by decide) rfl ?_
      refine lk_aload_n d_Si_goThrough_26 rfl ?_
      refine lk_iload d_Si_goThrough_27 rfl ?_
      obtain ⟨a7, ha7, h⟩ := x_b h
      obtain ⟨p8, hp8, h⟩ := x_b h
      refine lk_callV0 d_Si_goThrough_29 (x_obm ha7 rfl) (c_Pr_kindAt hp8) (Nat.le_of_ble_eq_true rfl) rfl M_Pr_kindAt lm_Si_29 in_Pr_kindAt se_Pr_kindAt (by decide) rfl (Nat.le_of_ble_eq_true rfl) ?_
      refine lk_bipush (v := 7) d_Si_goThrough_32 rfl ?_
      refine lk_icmp_ne (tgt := 56) d_Si_goThrough_34 (by decide) (fun hc => ?_) (fun hc => ?_)
      · replace h := x_ifn hc h
        refine lk_aload_n d_Si_goThrough_56 rfl ?_
        refine lk_iload d_Si_goThrough_57 rfl ?_
        refine lk_iload_n d_Si_goThrough_59 rfl ?_
        obtain ⟨a9, ha9, h⟩ := x_b h
        obtain ⟨p10, hp10, h⟩ := x_b h
        refine lk_callV0 d_Si_goThrough_60 (x_obm ha9 rfl) (c_Pr_takes hp10) (Nat.le_of_ble_eq_true rfl) rfl M_Pr_takes lm_Si_103 in_Pr_takes se_Pr_takes (by decide) rfl (Nat.le_of_ble_eq_true rfl) ?_
        obtain ⟨t17, hj, h⟩ := x_b h
        refine Lk.joinS 87 [0, 1, 2, 3, 4] [] rfl 1 [] t17 ?_ ?_
        · replace h := hj
          refine lk_if_eq (tgt := 87) d_Si_goThrough_63 (by decide) (fun hc => ?_) (fun hc => ?_)
          · replace h := x_ifp hc h
            cases h
            refine Lk.sel [0, 1, 2, 3, 4] rfl ?_
            exact Lk.stop ⟨rfl, rfl, rfl, rfl, rfl, rfl⟩
          · replace h := x_ifn hc h
            refine lk_aload_n d_Si_goThrough_66 rfl ?_
            refine lk_iload d_Si_goThrough_67 rfl ?_
            refine lk_iconst (v := 1) d_Si_goThrough_69 rfl ?_
            refine lk_iadd d_Si_goThrough_70 ?_
            obtain ⟨a11, ha11, h⟩ := x_b h
            replace h := x_nm h
            refine lk_putI (k := 4) d_Si_goThrough_71 ha11 (by decide) rfl (by decide) lf_Si_70 rfl rfl ?_
            refine lk_aload_n d_Si_goThrough_74 rfl ?_
            refine lk_aload_n d_Si_goThrough_75 rfl ?_
            refine lk_getR (k := 1) d_Si_goThrough_76 ha11 (by decide) rfl (by decide) lf_Si_21 rfl ?_
            refine lk_iload d_Si_goThrough_79 rfl ?_
            obtain ⟨a13, ha13, h⟩ := x_b h
            obtain ⟨p14, hp14, h⟩ := x_b h
            refine lk_callV0 d_Si_goThrough_81 (x_obm ha13 rfl) (c_TL_slotsAt hp14) (Nat.le_of_ble_eq_true rfl) rfl M_TL_slotsAt lm_Si_96 in_TL_slotsAt se_TL_slotsAt (by decide) rfl (Nat.le_of_ble_eq_true rfl) ?_
            obtain ⟨a15, ha15, h⟩ := x_b h
            replace h := x_nm h
            refine lk_putJ (k := 5) d_Si_goThrough_84 ha15 (by decide) rfl (by decide) lf_Si_77 rfl rfl ?_
            cases h
            refine Lk.sel [0, 1, 2, 3, 4] rfl ?_
            exact Lk.stop ⟨rfl, rfl, rfl, rfl, rfl, rfl⟩
        · clear hj
          refine lk_iinc (v := _ + 1) d_Si_goThrough_87 rfl rfl (by decide) rfl ?_
          refine lk_goto (tgt := 3) d_Si_goThrough_90 (by decide) ?_
          refine Lk.sel [0, 1, 2, 3, 4] rfl ?_
          exact ih _ _ _ _ _ _ _ h
      · replace h := x_ifp hc h
        refine lk_aload_n d_Si_goThrough_37 rfl ?_
        refine lk_aload_n d_Si_goThrough_38 rfl ?_
        obtain ⟨a18, ha18, h⟩ := x_b h
        refine lk_getR (k := 1) d_Si_goThrough_39 ha18 (by decide) rfl (by decide) lf_Si_21 rfl ?_
        refine lk_iload d_Si_goThrough_42 rfl ?_
        obtain ⟨a19, ha19, h⟩ := x_b h
        obtain ⟨p20, hp20, h⟩ := x_b h
        refine lk_callV0 d_Si_goThrough_44 (x_obm ha19 rfl) (c_TL_slotsAt hp20) (Nat.le_of_ble_eq_true rfl) rfl M_TL_slotsAt lm_Si_96 in_TL_slotsAt se_TL_slotsAt (by decide) rfl (Nat.le_of_ble_eq_true rfl) ?_
        refine lk_iconst (v := 1) d_Si_goThrough_47 rfl ?_
        refine lk_iload_n d_Si_goThrough_48 rfl ?_
        obtain ⟨p21, hp21, h⟩ := x_b h
        refine lk_callS0 d_Si_goThrough_49 (c_C_withSlot hp21) (Nat.le_of_ble_eq_true rfl) rfl M_C_withSlot lm_Si_99 st_C_withSlot (Nat.le_of_ble_eq_true rfl) ?_
        obtain ⟨a22, ha22, h⟩ := x_b h
        replace h := x_nm h
        refine lk_putJ (k := 3) d_Si_goThrough_52 ha22 (by decide) rfl (by decide) lf_Si_66 rfl rfl ?_
        cases h
        exact Lk.stop ⟨rfl, Or.inl ⟨d_Si_goThrough_55, rfl, rfl, rfl⟩⟩
def f_Si_goThrough (z0 : Nat) (r1 : Option Nat) (x2 : Int32) (x3 : Int32) (s : hv_S) : Option (hv_S) :=
  (L_Si_goThrough_3 100000 ((some z0)) r1 x2 x3 0 s).bind fun e24r => e24r.elim (fun e24 =>
    some e24
  ) (fun w => some w)
set_option maxRecDepth 4000 in
set_option maxHeartbeats 2000000 in
theorem c_Si_goThrough {G : lt_G} {z0 : Nat} {r1 : Option Nat} {x2 : Int32} {x3 : Int32} {s : hv_S} {p : hv_S} (h : f_Si_goThrough z0 r1 x2 x3 s = some p) : Ck G m_Si_goThrough 3 0 0 [vR (some z0), vR r1, vI x2, vI x3] s none p := by
  refine Ck.of (by decide) (Nat.le_of_ble_eq_true rfl) ?_
  unfold f_Si_goThrough at h
  refine lk_iconst (v := 0) d_Si_goThrough_0 rfl ?_
  refine lk_istore d_Si_goThrough_1 (by decide) rfl ?_
  obtain ⟨e24r, hl, h⟩ := x_b h
  refine Lk.sel [0, 1, 2, 3, 4] rfl ?_
  refine Lk.trans (l_Si_goThrough_3 _ _ _ _ _ _ _ _ hl) ?_
  intro pc' lo' st' s' mc' ms' hx
  cases e24r with
  | inl e24 =>
    obtain ⟨rfl, rfl, rfl, rfl, rfl, rfl⟩ := hx
    cases h
    exact Lk.stop ⟨rfl, Or.inl ⟨d_Si_goThrough_93, rfl, rfl, rfl⟩⟩
  | inr w =>
    cases h
    exact Lk.stop hx
def L_Si_find_25 : Nat → Option Nat → Option Nat → Option Nat → Int32 → hv_S → Option (hv_S)
  | 0, _, _, _, _, _ => none
  | n + 1, x0, x1, x2, x3, s =>
    (x_ob s 2 x2).bind fun a8 =>
    (f_Tx_length a8 s).bind fun p9 =>
    if p9.1 < x3 then
      some p9.2
    else
      (x_ob p9.2 7 x0).bind fun a10 =>
      (f_Fo_ruleAt x3 x2 p9.2).bind fun p11 =>
      (x_ob p11.2 4 (hv_R p9.2 a10 0)).bind fun a12 =>
      (f_Fo_begin a12 x1 (hv_R p9.2 a10 1) x3 p11.1 p11.2).bind fun p13 =>
      (x_ob p13 7 x0).bind fun a14 =>
      (x_ob p13 4 (hv_R p13 a14 0)).bind fun a15 =>
      (f_Fo_follow a15 (hv_I p13 a14 4) (hv_J p13 a14 5) p13).bind fun p16 =>
      (x_ob p16 7 x0).bind fun a17 =>
      (some (hv_setI p16 a17 4 ((-1)))).bind fun s18 =>
      (x_ob s18 2 x2).bind fun a19 =>
      (f_Tx_letterAt a19 x3 s18).bind fun p20 =>
      (x_ob p20.2 7 x0).bind fun a21 =>
      (f_Si_goThrough a21 x1 p20.1 x3 p20.2).bind fun p22 =>
      (x_ob p22 7 x0).bind fun a23 =>
      if (hv_I p22 a23 4) = ((-1)) then
        some p22
      else
        (some (hv_setI p22 a23 2 ((hv_I p22 a23 2) + (1 : Int32)))).bind fun s24 =>
        L_Si_find_25 n x0 x1 x2 (x3 + 1) s24
set_option maxRecDepth 4000 in
set_option maxHeartbeats 2000000 in
theorem l_Si_find_25 {G : lt_G} : ∀ (n : Nat) (x0 : Option Nat) (x1 : Option Nat) (x2 : Option Nat) (x3 : Int32) (s : hv_S) (e0 : hv_S), L_Si_find_25 n x0 x1 x2 x3 s = some e0 → Lk G m_Si_find 4 25 [(0, vR x0), (1, vR x1), (2, vR x2), (3, vI x3)] [] s 0 0 (lk_at 109 [(0, vR x0)] [] e0 0 0) := by
  intro n
  induction n with
  | zero => intro x0 x1 x2 x3 s e0 h; cases h
  | succ n ih =>
    intro x0 x1 x2 x3 s e0 h
    unfold L_Si_find_25 at h
    refine lk_iload_n d_Si_find_25 rfl ?_
    refine lk_aload_n d_Si_find_26 rfl ?_
    obtain ⟨a8, ha8, h⟩ := x_b h
    obtain ⟨p9, hp9, h⟩ := x_b h
    refine lk_callV0 d_Si_find_27 (x_obm ha8 rfl) (c_Tx_length hp9) (Nat.le_of_ble_eq_true rfl) rfl M_Tx_length lm_Si_80 in_Tx_length se_Tx_length (by decide) rfl (Nat.le_of_ble_eq_true rfl) ?_
    refine lk_icmp_gt (tgt := 109) d_Si_find_30 (by decide) (fun hc => ?_) (fun hc => ?_)
    · replace h := x_ifp hc h
      cases h
      refine Lk.sel [0] rfl ?_
      exact Lk.stop ⟨rfl, rfl, rfl, rfl, rfl, rfl⟩
    · replace h := x_ifn hc h
      refine lk_aload_n d_Si_find_33 rfl ?_
      obtain ⟨a10, ha10, h⟩ := x_b h
      refine lk_getR (k := 0) d_Si_find_34 ha10 (by decide) rfl (by decide) lf_Si_12 rfl ?_
      refine lk_aload_n d_Si_find_37 rfl ?_
      refine lk_aload_n d_Si_find_38 rfl ?_
      refine lk_getR (k := 1) d_Si_find_39 ha10 (by decide) rfl (by decide) lf_Si_21 rfl ?_
      refine lk_iload_n d_Si_find_42 rfl ?_
      refine lk_iload_n d_Si_find_43 rfl ?_
      refine lk_aload_n d_Si_find_44 rfl ?_
      obtain ⟨p11, hp11, h⟩ := x_b h
      refine lk_callS0 d_Si_find_45 (c_Fo_ruleAt hp11) (Nat.le_of_ble_eq_true rfl) rfl M_Fo_ruleAt lm_Si_85 st_Fo_ruleAt (Nat.le_of_ble_eq_true rfl) ?_
      obtain ⟨a12, ha12, h⟩ := x_b h
      obtain ⟨p13, hp13, h⟩ := x_b h
      refine lk_callV0 d_Si_find_48 (x_obm ha12 rfl) (c_Fo_begin hp13) (Nat.le_of_ble_eq_true rfl) rfl M_Fo_begin lm_Si_47 in_Fo_begin se_Fo_begin (by decide) rfl (Nat.le_of_ble_eq_true rfl) ?_
      refine lk_aload_n d_Si_find_51 rfl ?_
      obtain ⟨a14, ha14, h⟩ := x_b h
      refine lk_getR (k := 0) d_Si_find_52 ha14 (by decide) rfl (by decide) lf_Si_12 rfl ?_
      refine lk_aload_n d_Si_find_55 rfl ?_
      refine lk_getI (k := 4) d_Si_find_56 ha14 (by decide) rfl (by decide) lf_Si_70 rfl ?_
      refine lk_aload_n d_Si_find_59 rfl ?_
      refine lk_getJ (k := 5) d_Si_find_60 ha14 (by decide) rfl (by decide) lf_Si_77 rfl ?_
      obtain ⟨a15, ha15, h⟩ := x_b h
      obtain ⟨p16, hp16, h⟩ := x_b h
      refine lk_callV0 d_Si_find_63 (x_obm ha15 rfl) (c_Fo_follow hp16) (Nat.le_of_ble_eq_true rfl) rfl M_Fo_follow lm_Si_51 in_Fo_follow se_Fo_follow (by decide) rfl (Nat.le_of_ble_eq_true rfl) ?_
      refine lk_aload_n d_Si_find_66 rfl ?_
      refine lk_iconst (v := (-1)) d_Si_find_67 rfl ?_
      obtain ⟨a17, ha17, h⟩ := x_b h
      replace h := x_nm h
      refine lk_putI (k := 4) d_Si_find_68 ha17 (by decide) rfl (by decide) lf_Si_70 rfl rfl ?_
      refine lk_aload_n d_Si_find_71 rfl ?_
      refine lk_aload_n d_Si_find_72 rfl ?_
      refine lk_aload_n d_Si_find_73 rfl ?_
      refine lk_iload_n d_Si_find_74 rfl ?_
      obtain ⟨a19, ha19, h⟩ := x_b h
      obtain ⟨p20, hp20, h⟩ := x_b h
      refine lk_callV0 d_Si_find_75 (x_obm ha19 rfl) (c_Tx_letterAt hp20) (Nat.le_of_ble_eq_true rfl) rfl M_Tx_letterAt lm_Si_89 in_Tx_letterAt se_Tx_letterAt (by decide) rfl (Nat.le_of_ble_eq_true rfl) ?_
      refine lk_iload_n d_Si_find_78 rfl ?_
      obtain ⟨a21, ha21, h⟩ := x_b h
      obtain ⟨p22, hp22, h⟩ := x_b h
      refine lk_callV0 d_Si_find_79 (x_obm ha21 rfl) (c_Si_goThrough hp22) (Nat.le_of_ble_eq_true rfl) rfl M_Si_goThrough lm_Si_92 in_Si_goThrough se_Si_goThrough (by decide) rfl (Nat.le_of_ble_eq_true rfl) ?_
      refine lk_aload_n d_Si_find_82 rfl ?_
      obtain ⟨a23, ha23, h⟩ := x_b h
      refine lk_getI (k := 4) d_Si_find_83 ha23 (by decide) rfl (by decide) lf_Si_70 rfl ?_
      refine lk_iconst (v := (-1)) d_Si_find_86 rfl ?_
      refine lk_icmp_ne (tgt := 93) d_Si_find_87 (by decide) (fun hc => ?_) (fun hc => ?_)
      · replace h := x_ifn hc h
        refine lk_aload_n d_Si_find_93 rfl ?_
        refine lk_dup d_Si_find_94 rfl ?_
        refine lk_getI (k := 2) d_Si_find_95 ha23 (by decide) rfl (by decide) lf_Si_25 rfl ?_
        refine lk_iconst (v := 1) d_Si_find_98 rfl ?_
        refine lk_iadd d_Si_find_99 ?_
        replace h := x_nm h
        refine lk_putI (k := 2) d_Si_find_100 ha23 (by decide) rfl (by decide) lf_Si_25 rfl rfl ?_
        refine lk_iinc (v := _ + 1) d_Si_find_103 rfl rfl (by decide) rfl ?_
        refine lk_goto (tgt := 25) d_Si_find_106 (by decide) ?_
        refine Lk.sel [0, 1, 2, 3] rfl ?_
        exact ih _ _ _ _ _ _ h
      · replace h := x_ifp hc h
        refine lk_goto (tgt := 109) d_Si_find_90 (by decide) ?_
        cases h
        refine Lk.sel [0] rfl ?_
        exact Lk.stop ⟨rfl, rfl, rfl, rfl, rfl, rfl⟩
def f_Si_find (z0 : Nat) (r1 : Option Nat) (r2 : Option Nat) (s : hv_S) : Option (Int64 × hv_S) :=
  (x_ob s 7 ((some z0))).bind fun a1 =>
  (some (hv_setI s a1 2 0)).bind fun s2 =>
  (some (hv_setJ s2 a1 3 0)).bind fun s3 =>
  (some (hv_setI s3 a1 4 0)).bind fun s4 =>
  (f_C_slotsFrom 0 s4).bind fun p5 =>
  (x_ob p5.2 7 ((some z0))).bind fun a6 =>
  (some (hv_setJ p5.2 a6 5 p5.1)).bind fun s7 =>
  (L_Si_find_25 100000 ((some z0)) r1 r2 0 s7).bind fun e25 =>
  (x_ob e25 7 ((some z0))).bind fun a26 =>
  some ((hv_J e25 a26 3, e25))
set_option maxRecDepth 4000 in
set_option maxHeartbeats 2000000 in
theorem c_Si_find {G : lt_G} {z0 : Nat} {r1 : Option Nat} {r2 : Option Nat} {s : hv_S} {p : Int64 × hv_S} (h : f_Si_find z0 r1 r2 s = some p) : Ck G m_Si_find 4 0 0 [vR (some z0), vR r1, vR r2] s (some (vJ p.1)) p.2 := by
  refine Ck.of (by decide) (Nat.le_of_ble_eq_true rfl) ?_
  unfold f_Si_find at h
  refine lk_aload_n d_Si_find_0 rfl ?_
  refine lk_iconst (v := 0) d_Si_find_1 rfl ?_
  obtain ⟨a1, ha1, h⟩ := x_b h
  replace h := x_nm h
  refine lk_putI (k := 2) d_Si_find_2 ha1 (by decide) rfl (by decide) lf_Si_25 rfl rfl ?_
  refine lk_aload_n d_Si_find_5 rfl ?_
  refine lk_lconst (v := 0) d_Si_find_6 rfl ?_
  replace h := x_nm h
  refine lk_putJ (k := 3) d_Si_find_7 ha1 (by decide) rfl (by decide) lf_Si_66 rfl rfl ?_
  refine lk_aload_n d_Si_find_10 rfl ?_
  refine lk_iconst (v := 0) d_Si_find_11 rfl ?_
  replace h := x_nm h
  refine lk_putI (k := 4) d_Si_find_12 ha1 (by decide) rfl (by decide) lf_Si_70 rfl rfl ?_
  refine lk_aload_n d_Si_find_15 rfl ?_
  refine lk_iconst (v := 0) d_Si_find_16 rfl ?_
  obtain ⟨p5, hp5, h⟩ := x_b h
  refine lk_callS0 d_Si_find_17 (c_C_slotsFrom hp5) (Nat.le_of_ble_eq_true rfl) rfl M_C_slotsFrom lm_Si_73 st_C_slotsFrom (Nat.le_of_ble_eq_true rfl) ?_
  obtain ⟨a6, ha6, h⟩ := x_b h
  replace h := x_nm h
  refine lk_putJ (k := 5) d_Si_find_20 ha6 (by decide) rfl (by decide) lf_Si_77 rfl rfl ?_
  refine lk_iconst (v := 0) d_Si_find_23 rfl ?_
  refine lk_istore_n d_Si_find_24 (by decide) rfl ?_
  obtain ⟨e25, hl, h⟩ := x_b h
  refine Lk.sel [0, 1, 2, 3] rfl ?_
  refine Lk.trans (l_Si_find_25 _ _ _ _ _ _ _ hl) ?_
  intro pc' lo' st' s' mc' ms' hx
  obtain ⟨rfl, rfl, rfl, rfl, rfl, rfl⟩ := hx
  refine lk_aload_n d_Si_find_109 rfl ?_
  obtain ⟨a26, ha26, h⟩ := x_b h
  refine lk_getJ (k := 3) d_Si_find_110 ha26 (by decide) rfl (by decide) lf_Si_66 rfl ?_
  cases h
  exact Lk.stop ⟨rfl, Or.inr (Or.inr (Or.inl ⟨_, d_Si_find_113, rfl, rfl, rfl⟩))⟩
