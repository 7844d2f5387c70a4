/-! WHAT THE METHODS DO: partial functions f_ over the view, loops L_, and the proofs c_, l_ that the bytecode does so; printed by wip/whole/gen_dec.py -/
def f_La_cell (r0 : Option Nat) (x1 : Int32) (s : hv_S) : Option (Int32 × hv_S) :=
  (x_ro s r0).bind fun q1 =>
  ((
    if (nI q1.2) ≤ x1 then
      some 0
    else
      (x_ix q1.2 x1).bind fun k2 =>
      some (hv_I s q1.1 k2)
  ) : Option (Int32)).bind fun t3 =>
  some ((t3, s))
set_option maxRecDepth 4000 in
set_option maxHeartbeats 2000000 in
theorem c_La_cell {G : lt_G} {r0 : Option Nat} {x1 : Int32} {s : hv_S} {p : Int32 × hv_S} (h : f_La_cell r0 x1 s = some p) : Ck G m_La_cell 1 0 0 [vR r0, vI x1] s (some (vI p.1)) p.2 := by
  refine Ck.of (by decide) (Nat.le_of_ble_eq_true rfl) ?_
  unfold f_La_cell at h
  refine lk_iload_n d_La_cell_0 rfl ?_
  refine lk_aload_n d_La_cell_1 rfl ?_
  obtain ⟨q1, hq1, h⟩ := x_b h
  refine lk_rolen d_La_cell_2 hq1 ?_
  obtain ⟨t3, hj, h⟩ := x_b h
  refine Lk.joinA 13 [] [] rfl 2 [vI t3] ?_ ?_
  · replace h := hj
    refine lk_icmp_ge (tgt := 12) d_La_cell_3 (by decide) (fun hc => ?_) (fun hc => ?_)
    · replace h := x_ifp hc h
      refine lk_iconst (v := 0) d_La_cell_12 rfl ?_
      cases h
      refine Lk.sel [] rfl ?_
      exact Lk.stop ⟨rfl, rfl, rfl, rfl, rfl, rfl⟩
    · replace h := x_ifn hc h
      refine lk_aload_n d_La_cell_6 rfl ?_
      refine lk_iload_n d_La_cell_7 rfl ?_
      obtain ⟨k2, hk2, h⟩ := x_b h
      refine lk_roald d_La_cell_8 hq1 hk2 ?_
      refine lk_goto (tgt := 13) d_La_cell_9 (by decide) ?_
      cases h
      refine Lk.sel [] rfl ?_
      exact Lk.stop ⟨rfl, rfl, rfl, rfl, rfl, rfl⟩
  · clear hj
    cases h
    exact Lk.stop ⟨rfl, Or.inr (Or.inl ⟨_, _, d_La_cell_13, rfl, rfl, rfl, rfl⟩)⟩
def f_La_compile (r0 : Option Nat) (r1 : Option Nat) (s : hv_S) : Option (Int32 × hv_S) :=
  (x_ob s 0 r0).bind fun a1 =>
  (f_C_compile a1 s).bind fun p2 => p2.1.elim (fun vp2 =>
    (x_ar p2.2 1 r1).bind fun q3 =>
    (x_ix q3.2 0).bind fun k4 =>
    (some (hv_setJ p2.2 q3.1 k4 vp2.toInt64)).bind fun s5 =>
    some ((0, s5))
  ) (fun cp2 =>
    if cp2 = 89 then
      some ((1, p2.2))
    else none)
set_option maxRecDepth 4000 in
set_option maxHeartbeats 2000000 in
theorem c_La_compile {G : lt_G} (hG : ∀ s A, G.2.2 s A → th_Y s A) {r0 : Option Nat} {r1 : Option Nat} {s : hv_S} {p : Int32 × hv_S} (h : f_La_compile r0 r1 s = some p) : CkW G m_La_compile hh_La_compile 38 1 6 [vR r0, vR r1] s (some (vI p.1)) p.2 := by
  refine CkW.of (by decide) (Nat.le_of_ble_eq_true rfl) ?_
  unfold f_La_compile at h
  refine lk_aload_n d_La_compile_0 rfl ?_
  refine lk_iconst (v := 0) d_La_compile_1 rfl ?_
  refine lk_aload_n d_La_compile_2 rfl ?_
  obtain ⟨a1, ha1, h⟩ := x_b h
  obtain ⟨⟨op2, sp2⟩, hp2, h⟩ := x_b h
  cases op2 with
  | inl vp2 =>
    refine lk_callV0 d_La_compile_3 (x_obm ha1 rfl) (c_C_compile hp2) (Nat.le_of_ble_eq_true rfl) rfl M_C_compile lm_La_7 in_C_compile se_C_compile (by decide) rfl (Nat.le_of_ble_eq_true rfl) ?_
    refine lk_i2l d_La_compile_6 ?_
    obtain ⟨q3, hq3, h⟩ := x_b h
    obtain ⟨k4, hk4, h⟩ := x_b h
    replace h := x_nm h
    refine lk_last d_La_compile_7 hq3 hk4 ?_
    refine lk_goto (tgt := 14) d_La_compile_8 (by decide) ?_
    refine lk_iconst (v := 0) d_La_compile_14 rfl ?_
    cases h
    exact Lk.stop ⟨rfl, Or.inr (Or.inl ⟨_, _, d_La_compile_15, rfl, rfl, rfl, rfl⟩)⟩
  | inr cp2 =>
    rcases x_ifc h with ⟨gc, h⟩ | ⟨gc, h⟩
    · subst gc
      refine lk_callT (mc := 0) (ms := 0) hG d_La_compile_3 (x_obm ha1 rfl) (t_C_compile hG hp2) (by decide) (Nat.le_of_ble_eq_true rfl) rfl M_C_compile ll_La_7 in_C_compile se_C_compile (by decide) rfl (Nat.le_of_ble_eq_true rfl) cw_La_compile [] (0, 8, 11, 13) [] rfl (fun z hz => nomatch hz) (by decide) (by decide) lc_La_13 (fun q9 => ?_)
      refine lk_astore_n d_La_compile_11 (by decide) rfl ?_
      refine lk_iconst (v := 1) d_La_compile_12 rfl ?_
      cases h
      exact Lk.stop ⟨rfl, Or.inr (Or.inl ⟨_, _, d_La_compile_13, rfl, rfl, rfl, rfl⟩)⟩
    · cases h
def f_La_instruction (r0 : Option Nat) (x1 : Int32) (x2 : Int32) (r3 : Option Nat) (s : hv_S) : Option (Int32 × hv_S) :=
  (x_ob s 0 r0).bind fun a1 =>
  (f_C_instruction a1 x1 x2 s).bind fun p2 => p2.1.elim (fun vp2 =>
    (x_ar p2.2 1 r3).bind fun q3 =>
    (x_ix q3.2 0).bind fun k4 =>
    (some (hv_setJ p2.2 q3.1 k4 vp2.toInt64)).bind fun s5 =>
    some ((0, s5))
  ) (fun cp2 =>
    if cp2 = 114 then
      some ((1, p2.2))
    else if cp2 = 89 then
      some ((2, p2.2))
    else none)
set_option maxRecDepth 4000 in
set_option maxHeartbeats 2000000 in
theorem c_La_instruction {G : lt_G} (hG : ∀ s A, G.2.2 s A → th_Y s A) {r0 : Option Nat} {x1 : Int32} {x2 : Int32} {r3 : Option Nat} {s : hv_S} {p : Int32 × hv_S} (h : f_La_instruction r0 x1 x2 r3 s = some p) : CkW G m_La_instruction hh_La_instruction 7 1 6 [vR r0, vI x1, vI x2, vR r3] s (some (vI p.1)) p.2 := by
  refine CkW.of (by decide) (Nat.le_of_ble_eq_true rfl) ?_
  unfold f_La_instruction at h
  refine lk_aload_n d_La_instruction_0 rfl ?_
  refine lk_iconst (v := 0) d_La_instruction_1 rfl ?_
  refine lk_aload_n d_La_instruction_2 rfl ?_
  refine lk_iload_n d_La_instruction_3 rfl ?_
  refine lk_iload_n d_La_instruction_4 rfl ?_
  obtain ⟨a1, ha1, h⟩ := x_b h
  obtain ⟨⟨op2, sp2⟩, hp2, h⟩ := x_b h
  cases op2 with
  | inl vp2 =>
    refine lk_callV0 d_La_instruction_5 (x_obm ha1 rfl) (c_C_instruction hp2) (Nat.le_of_ble_eq_true rfl) rfl M_C_instruction lm_La_15 in_C_instruction se_C_instruction (by decide) rfl (Nat.le_of_ble_eq_true rfl) ?_
    refine lk_i2l d_La_instruction_8 ?_
    obtain ⟨q3, hq3, h⟩ := x_b h
    obtain ⟨k4, hk4, h⟩ := x_b h
    replace h := x_nm h
    refine lk_last d_La_instruction_9 hq3 hk4 ?_
    refine lk_goto (tgt := 21) d_La_instruction_10 (by decide) ?_
    refine lk_iconst (v := 0) d_La_instruction_21 rfl ?_
    cases h
    exact Lk.stop ⟨rfl, Or.inr (Or.inl ⟨_, _, d_La_instruction_22, rfl, rfl, rfl, rfl⟩)⟩
  | inr cp2 =>
    rcases x_ifc h with ⟨gc, h⟩ | ⟨gc, h⟩
    · subst gc
      refine lk_callT (mc := 0) (ms := 0) hG d_La_instruction_5 (x_obm ha1 rfl) (t_C_instruction hG hp2) (by decide) (Nat.le_of_ble_eq_true rfl) rfl M_C_instruction ll_La_15 in_C_instruction se_C_instruction (by decide) rfl (Nat.le_of_ble_eq_true rfl) cw_La_instruction [] (0, 10, 13, 19) [(0, 10, 17, 13)] rfl (fun z hz => nomatch hz) (by decide) (by decide) lc_La_19 (fun q9 => ?_)
      refine lk_astore d_La_instruction_13 (by decide) rfl ?_
      refine lk_iconst (v := 1) d_La_instruction_15 rfl ?_
      cases h
      exact Lk.stop ⟨rfl, Or.inr (Or.inl ⟨_, _, d_La_instruction_16, rfl, rfl, rfl, rfl⟩)⟩
    · rcases x_ifc h with ⟨gc, h⟩ | ⟨gc, h⟩
      · subst gc
        refine lk_callT (mc := 0) (ms := 0) hG d_La_instruction_5 (x_obm ha1 rfl) (t_C_instruction hG hp2) (by decide) (Nat.le_of_ble_eq_true rfl) rfl M_C_instruction ll_La_15 in_C_instruction se_C_instruction (by decide) rfl (Nat.le_of_ble_eq_true rfl) cw_La_instruction [(0, 10, 13, 19)] (0, 10, 17, 13) [] rfl (fun z hz => by cases List.mem_singleton.mp hz; exact ⟨by decide, _, lc_La_19, by decide +kernel⟩) (by decide) (by decide) lc_La_13 (fun q9 => ?_)
        refine lk_astore d_La_instruction_17 (by decide) rfl ?_
        refine lk_iconst (v := 2) d_La_instruction_19 rfl ?_
        cases h
        exact Lk.stop ⟨rfl, Or.inr (Or.inl ⟨_, _, d_La_instruction_20, rfl, rfl, rfl, rfl⟩)⟩
      · cases h
def f_La_simple (r0 : Option Nat) (r1 : Option Nat) (s : hv_S) : Option (Int32 × hv_S) :=
  (x_ob s 0 r0).bind fun a1 =>
  (f_C_simple a1 s).bind fun p2 => p2.1.elim (fun vp2 =>
    ((
      if vp2 = 0 then
        some 0
      else
        some 1
    ) : Option (Int64)).bind fun t3 =>
    (x_ar p2.2 1 r1).bind fun q4 =>
    (x_ix q4.2 0).bind fun k5 =>
    (some (hv_setJ p2.2 q4.1 k5 t3)).bind fun s6 =>
    some ((0, s6))
  ) (fun cp2 =>
    if cp2 = 131 then
      some ((1, p2.2))
    else none)
set_option maxRecDepth 4000 in
set_option maxHeartbeats 2000000 in
theorem c_La_simple {G : lt_G} (hG : ∀ s A, G.2.2 s A → th_Y s A) {r0 : Option Nat} {r1 : Option Nat} {s : hv_S} {p : Int32 × hv_S} (h : f_La_simple r0 r1 s = some p) : CkW G m_La_simple hh_La_simple 7 1 6 [vR r0, vR r1] s (some (vI p.1)) p.2 := by
  refine CkW.of (by decide) (Nat.le_of_ble_eq_true rfl) ?_
  unfold f_La_simple at h
  refine lk_aload_n d_La_simple_0 rfl ?_
  refine lk_iconst (v := 0) d_La_simple_1 rfl ?_
  refine lk_aload_n d_La_simple_2 rfl ?_
  obtain ⟨a1, ha1, h⟩ := x_b h
  obtain ⟨⟨op2, sp2⟩, hp2, h⟩ := x_b h
  cases op2 with
  | inl vp2 =>
    refine lk_callV0 d_La_simple_3 (x_obm ha1 rfl) (c_C_simple hp2) (Nat.le_of_ble_eq_true rfl) rfl M_C_simple lm_La_21 in_C_simple se_C_simple (by decide) rfl (Nat.le_of_ble_eq_true rfl) ?_
    obtain ⟨t3, hj, h⟩ := x_b h
    refine Lk.joinA 14 [] [] rfl 1 [vJ t3] ?_ ?_
    · replace h := hj
      refine lk_if_eq (tgt := 13) d_La_simple_6 (by decide) (fun hc => ?_) (fun hc => ?_)
      · replace h := x_ifp hc h
        refine lk_lconst (v := 0) d_La_simple_13 rfl ?_
        cases h
        refine Lk.sel [] rfl ?_
        exact Lk.stop ⟨rfl, rfl, rfl, rfl, rfl, rfl⟩
      · replace h := x_ifn hc h
        refine lk_lconst (v := 1) d_La_simple_9 rfl ?_
        refine lk_goto (tgt := 14) d_La_simple_10 (by decide) ?_
        cases h
        refine Lk.sel [] rfl ?_
        exact Lk.stop ⟨rfl, rfl, rfl, rfl, rfl, rfl⟩
    · clear hj
      obtain ⟨q4, hq4, h⟩ := x_b h
      obtain ⟨k5, hk5, h⟩ := x_b h
      replace h := x_nm h
      refine lk_last d_La_simple_14 hq4 hk5 ?_
      refine lk_goto (tgt := 21) d_La_simple_15 (by decide) ?_
      refine lk_iconst (v := 0) d_La_simple_21 rfl ?_
      cases h
      exact Lk.stop ⟨rfl, Or.inr (Or.inl ⟨_, _, d_La_simple_22, rfl, rfl, rfl, rfl⟩)⟩
  | inr cp2 =>
    rcases x_ifc h with ⟨gc, h⟩ | ⟨gc, h⟩
    · subst gc
      refine lk_callT (mc := 0) (ms := 0) hG d_La_simple_3 (x_obm ha1 rfl) (t_C_simple hG hp2) (by decide) (Nat.le_of_ble_eq_true rfl) rfl M_C_simple ll_La_21 in_C_simple se_C_simple (by decide) rfl (Nat.le_of_ble_eq_true rfl) cw_La_simple [] (0, 15, 18, 25) [] rfl (fun z hz => nomatch hz) (by decide) (by decide) lc_La_25 (fun q9 => ?_)
      refine lk_astore_n d_La_simple_18 (by decide) rfl ?_
      refine lk_iconst (v := 1) d_La_simple_19 rfl ?_
      cases h
      exact Lk.stop ⟨rfl, Or.inr (Or.inl ⟨_, _, d_La_simple_20, rfl, rfl, rfl, rfl⟩)⟩
    · cases h
def f_La_search (r0 : Option Nat) (x1 : Int32) (r2 : Option Nat) (s : hv_S) : Option (Int32 × hv_S) :=
  (x_ob s 0 r0).bind fun a1 =>
  (f_C_search a1 x1 s).bind fun p2 => p2.1.elim (fun vp2 =>
    (x_ar p2.2 1 r2).bind fun q3 =>
    (x_ix q3.2 0).bind fun k4 =>
    (some (hv_setJ p2.2 q3.1 k4 vp2.toInt64)).bind fun s5 =>
    some ((0, s5))
  ) (fun cp2 =>
    if cp2 = 89 then
      some ((1, p2.2))
    else if cp2 = 131 then
      some ((2, p2.2))
    else none)
set_option maxRecDepth 4000 in
set_option maxHeartbeats 2000000 in
theorem c_La_search {G : lt_G} (hG : ∀ s A, G.2.2 s A → th_Y s A) {r0 : Option Nat} {x1 : Int32} {r2 : Option Nat} {s : hv_S} {p : Int32 × hv_S} (h : f_La_search r0 x1 r2 s = some p) : CkW G m_La_search hh_La_search 9 1 6 [vR r0, vI x1, vR r2] s (some (vI p.1)) p.2 := by
  refine CkW.of (by decide) (Nat.le_of_ble_eq_true rfl) ?_
  unfold f_La_search at h
  refine lk_aload_n d_La_search_0 rfl ?_
  refine lk_iconst (v := 0) d_La_search_1 rfl ?_
  refine lk_aload_n d_La_search_2 rfl ?_
  refine lk_iload_n d_La_search_3 rfl ?_
  obtain ⟨a1, ha1, h⟩ := x_b h
  obtain ⟨⟨op2, sp2⟩, hp2, h⟩ := x_b h
  cases op2 with
  | inl vp2 =>
    refine lk_callV0 d_La_search_4 (x_obm ha1 rfl) (c_C_search hp2) (Nat.le_of_ble_eq_true rfl) rfl M_C_search lm_La_27 in_C_search se_C_search (by decide) rfl (Nat.le_of_ble_eq_true rfl) ?_
    refine lk_i2l d_La_search_7 ?_
    obtain ⟨q3, hq3, h⟩ := x_b h
    obtain ⟨k4, hk4, h⟩ := x_b h
    replace h := x_nm h
    refine lk_last d_La_search_8 hq3 hk4 ?_
    refine lk_goto (tgt := 18) d_La_search_9 (by decide) ?_
    refine lk_iconst (v := 0) d_La_search_18 rfl ?_
    cases h
    exact Lk.stop ⟨rfl, Or.inr (Or.inl ⟨_, _, d_La_search_19, rfl, rfl, rfl, rfl⟩)⟩
  | inr cp2 =>
    rcases x_ifc h with ⟨gc, h⟩ | ⟨gc, h⟩
    · subst gc
      refine lk_callT (mc := 0) (ms := 0) hG d_La_search_4 (x_obm ha1 rfl) (t_C_search hG hp2) (by decide) (Nat.le_of_ble_eq_true rfl) rfl M_C_search ll_La_27 in_C_search se_C_search (by decide) rfl (Nat.le_of_ble_eq_true rfl) cw_La_search [] (0, 9, 12, 13) [(0, 9, 15, 25)] rfl (fun z hz => nomatch hz) (by decide) (by decide) lc_La_13 (fun q9 => ?_)
      refine lk_astore_n d_La_search_12 (by decide) rfl ?_
      refine lk_iconst (v := 1) d_La_search_13 rfl ?_
      cases h
      exact Lk.stop ⟨rfl, Or.inr (Or.inl ⟨_, _, d_La_search_14, rfl, rfl, rfl, rfl⟩)⟩
    · rcases x_ifc h with ⟨gc, h⟩ | ⟨gc, h⟩
      · subst gc
        refine lk_callT (mc := 0) (ms := 0) hG d_La_search_4 (x_obm ha1 rfl) (t_C_search hG hp2) (by decide) (Nat.le_of_ble_eq_true rfl) rfl M_C_search ll_La_27 in_C_search se_C_search (by decide) rfl (Nat.le_of_ble_eq_true rfl) cw_La_search [(0, 9, 12, 13)] (0, 9, 15, 25) [] rfl (fun z hz => by cases List.mem_singleton.mp hz; exact ⟨by decide, _, lc_La_13, by decide +kernel⟩) (by decide) (by decide) lc_La_25 (fun q9 => ?_)
        refine lk_astore_n d_La_search_15 (by decide) rfl ?_
        refine lk_iconst (v := 2) d_La_search_16 rfl ?_
        cases h
        exact Lk.stop ⟨rfl, Or.inr (Or.inl ⟨_, _, d_La_search_17, rfl, rfl, rfl, rfl⟩)⟩
      · cases h
def f_La_slot (r0 : Option Nat) (x1 : Int32) (x2 : Int32) (r3 : Option Nat) (s : hv_S) : Option (Int32 × hv_S) :=
  (x_ob s 0 r0).bind fun a1 =>
  (f_C_slot a1 x1 x2 s).bind fun p2 => p2.1.elim (fun vp2 =>
    (x_ar p2.2 1 r3).bind fun q3 =>
    (x_ix q3.2 0).bind fun k4 =>
    (some (hv_setJ p2.2 q3.1 k4 vp2.toInt64)).bind fun s5 =>
    some ((0, s5))
  ) (fun cp2 =>
    if cp2 = 114 then
      some ((1, p2.2))
    else none)
set_option maxRecDepth 4000 in
set_option maxHeartbeats 2000000 in
theorem c_La_slot {G : lt_G} (hG : ∀ s A, G.2.2 s A → th_Y s A) {r0 : Option Nat} {x1 : Int32} {x2 : Int32} {r3 : Option Nat} {s : hv_S} {p : Int32 × hv_S} (h : f_La_slot r0 x1 x2 r3 s = some p) : CkW G m_La_slot hh_La_slot 7 1 6 [vR r0, vI x1, vI x2, vR r3] s (some (vI p.1)) p.2 := by
  refine CkW.of (by decide) (Nat.le_of_ble_eq_true rfl) ?_
  unfold f_La_slot at h
  refine lk_aload_n d_La_slot_0 rfl ?_
  refine lk_iconst (v := 0) d_La_slot_1 rfl ?_
  refine lk_aload_n d_La_slot_2 rfl ?_
  refine lk_iload_n d_La_slot_3 rfl ?_
  refine lk_iload_n d_La_slot_4 rfl ?_
  obtain ⟨a1, ha1, h⟩ := x_b h
  obtain ⟨⟨op2, sp2⟩, hp2, h⟩ := x_b h
  cases op2 with
  | inl vp2 =>
    refine lk_callV0 d_La_slot_5 (x_obm ha1 rfl) (c_C_slot hp2) (Nat.le_of_ble_eq_true rfl) rfl M_C_slot lm_La_31 in_C_slot se_C_slot (by decide) rfl (Nat.le_of_ble_eq_true rfl) ?_
    refine lk_i2l d_La_slot_8 ?_
    obtain ⟨q3, hq3, h⟩ := x_b h
    obtain ⟨k4, hk4, h⟩ := x_b h
    replace h := x_nm h
    refine lk_last d_La_slot_9 hq3 hk4 ?_
    refine lk_goto (tgt := 17) d_La_slot_10 (by decide) ?_
    refine lk_iconst (v := 0) d_La_slot_17 rfl ?_
    cases h
    exact Lk.stop ⟨rfl, Or.inr (Or.inl ⟨_, _, d_La_slot_18, rfl, rfl, rfl, rfl⟩)⟩
  | inr cp2 =>
    rcases x_ifc h with ⟨gc, h⟩ | ⟨gc, h⟩
    · subst gc
      refine lk_callT (mc := 0) (ms := 0) hG d_La_slot_5 (x_obm ha1 rfl) (t_C_slot hG hp2) (by decide) (Nat.le_of_ble_eq_true rfl) rfl M_C_slot ll_La_31 in_C_slot se_C_slot (by decide) rfl (Nat.le_of_ble_eq_true rfl) cw_La_slot [] (0, 10, 13, 19) [] rfl (fun z hz => nomatch hz) (by decide) (by decide) lc_La_19 (fun q9 => ?_)
      refine lk_astore d_La_slot_13 (by decide) rfl ?_
      refine lk_iconst (v := 1) d_La_slot_15 rfl ?_
      cases h
      exact Lk.stop ⟨rfl, Or.inr (Or.inl ⟨_, _, d_La_slot_16, rfl, rfl, rfl, rfl⟩)⟩
    · cases h
def f_La_breaks (r0 : Option Nat) (r1 : Option Nat) (s : hv_S) : Option (Int32 × hv_S) :=
  (x_ob s 0 r0).bind fun a1 =>
  (f_C_breaks a1 s).bind fun p2 => p2.1.elim (fun vp2 =>
    (x_ar p2.2 1 r1).bind fun q3 =>
    (x_ix q3.2 0).bind fun k4 =>
    (some (hv_setJ p2.2 q3.1 k4 vp2.toInt64)).bind fun s5 =>
    some ((0, s5))
  ) (fun cp2 =>
    if cp2 = 131 then
      some ((1, p2.2))
    else none)
set_option maxRecDepth 4000 in
set_option maxHeartbeats 2000000 in
theorem c_La_breaks {G : lt_G} (hG : ∀ s A, G.2.2 s A → th_Y s A) {r0 : Option Nat} {r1 : Option Nat} {s : hv_S} {p : Int32 × hv_S} (h : f_La_breaks r0 r1 s = some p) : CkW G m_La_breaks hh_La_breaks 7 1 6 [vR r0, vR r1] s (some (vI p.1)) p.2 := by
  refine CkW.of (by decide) (Nat.le_of_ble_eq_true rfl) ?_
  unfold f_La_breaks at h
  refine lk_aload_n d_La_breaks_0 rfl ?_
  refine lk_iconst (v := 0) d_La_breaks_1 rfl ?_
  refine lk_aload_n d_La_breaks_2 rfl ?_
  obtain ⟨a1, ha1, h⟩ := x_b h
  obtain ⟨⟨op2, sp2⟩, hp2, h⟩ := x_b h
  cases op2 with
  | inl vp2 =>
    refine lk_callV0 d_La_breaks_3 (x_obm ha1 rfl) (c_C_breaks hp2) (Nat.le_of_ble_eq_true rfl) rfl M_C_breaks lm_La_35 in_C_breaks se_C_breaks (by decide) rfl (Nat.le_of_ble_eq_true rfl) ?_
    refine lk_i2l d_La_breaks_6 ?_
    obtain ⟨q3, hq3, h⟩ := x_b h
    obtain ⟨k4, hk4, h⟩ := x_b h
    replace h := x_nm h
    refine lk_last d_La_breaks_7 hq3 hk4 ?_
    refine lk_goto (tgt := 14) d_La_breaks_8 (by decide) ?_
    refine lk_iconst (v := 0) d_La_breaks_14 rfl ?_
    cases h
    exact Lk.stop ⟨rfl, Or.inr (Or.inl ⟨_, _, d_La_breaks_15, rfl, rfl, rfl, rfl⟩)⟩
  | inr cp2 =>
    rcases x_ifc h with ⟨gc, h⟩ | ⟨gc, h⟩
    · subst gc
      refine lk_callT (mc := 0) (ms := 0) hG d_La_breaks_3 (x_obm ha1 rfl) (t_C_breaks hG hp2) (by decide) (Nat.le_of_ble_eq_true rfl) rfl M_C_breaks ll_La_35 in_C_breaks se_C_breaks (by decide) rfl (Nat.le_of_ble_eq_true rfl) cw_La_breaks [] (0, 8, 11, 25) [] rfl (fun z hz => nomatch hz) (by decide) (by decide) lc_La_25 (fun q9 => ?_)
      refine lk_astore_n d_La_breaks_11 (by decide) rfl ?_
      refine lk_iconst (v := 1) d_La_breaks_12 rfl ?_
      cases h
      exact Lk.stop ⟨rfl, Or.inr (Or.inl ⟨_, _, d_La_breaks_13, rfl, rfl, rfl, rfl⟩)⟩
    · cases h
