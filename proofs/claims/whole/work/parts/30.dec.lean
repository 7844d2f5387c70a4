/-! WHAT THE METHODS DO: partial functions f_ over the view, loops L_, and the proofs c_, l_ that the bytecode does so; printed by wip/whole/gen_dec.py -/
def L_La_law_33 : Nat → Option Nat → Option Nat → Option Nat → Option Nat → Int32 → hv_S → Option ((hv_S) ⊕ (Int32 × hv_S))
  | 0, _, _, _, _, _, _ => none
  | n + 1, x0, x1, x2, x3, x4, s =>
    (x_ro s x0).bind fun q11 =>
    if ((nI q11.2) - (3 : Int32)) < x4 then
      some (.inl s)
    else
      (x_ix q11.2 x4).bind fun k12 =>
      (some ((hv_I s q11.1 k12) &&& (15 : Int32))).bind fun y13 =>
      if y13 = 0 then
        (x_ix q11.2 (x4 + (1 : Int32))).bind fun k14 =>
        (x_ob s 0 x1).bind fun a15 =>
        (f_C_type a15 (((hv_I s q11.1 k14).toUInt32 % 65536).toInt32) s).bind fun p16 =>
        (x_ro p16.2 x0).bind fun q17 =>
        (x_ix q17.2 (x4 + (1 : Int32))).bind fun k18 =>
        (x_ob p16.2 11 x2).bind fun a19 =>
        (f_Mo_type a19 (((hv_I p16.2 q17.1 k18).toUInt32 % 65536).toInt32) p16.2).bind fun p20 =>
        if p16.1 = p20.1 then
          L_La_law_33 n x0 x1 x2 x3 (x4 + 3) p20.2
        else
          some (.inr ((0, p20.2)))
      else if y13 = 1 then
        (x_ob s 0 x1).bind fun a21 =>
        (f_C_wipe a21 s).bind fun p22 =>
        (x_ob p22 11 x2).bind fun a23 =>
        (f_Mo_wipe a23 p22).bind fun p24 =>
        L_La_law_33 n x0 x1 x2 x3 (x4 + 3) p24
      else if y13 = 2 then
        (f_La_compile x1 x3 s).bind fun p25 =>
        (x_ob p25.2 11 x2).bind fun a26 =>
        (f_Mo_compile a26 p25.2).bind fun p27 =>
        (x_ob p27.2 11 x2).bind fun a28 =>
        (f_Mo_thrown a28 p27.2).bind fun p29 =>
        if p29.1 = p25.1 then
          if p25.1 = 0 then
            (x_ar p29.2 1 x3).bind fun q30 =>
            (x_ix q30.2 0).bind fun k31 =>
            if (lg_cmp (hv_J p29.2 q30.1 k31) p27.1.toInt64) = 0 then
              L_La_law_33 n x0 x1 x2 x3 (x4 + 3) p29.2
            else
              some (.inr ((0, p29.2)))
          else
            L_La_law_33 n x0 x1 x2 x3 (x4 + 3) p29.2
        else
          some (.inr ((0, p29.2)))
      else if y13 = 3 then
        (x_ix q11.2 (x4 + (1 : Int32))).bind fun k32 =>
        (x_ix q11.2 (x4 + (2 : Int32))).bind fun k33 =>
        (f_La_instruction x1 (hv_I s q11.1 k32) (hv_I s q11.1 k33) x3 s).bind fun p34 =>
        (x_ro p34.2 x0).bind fun q35 =>
        (x_ix q35.2 (x4 + (1 : Int32))).bind fun k36 =>
        (x_ix q35.2 (x4 + (2 : Int32))).bind fun k37 =>
        (x_ob p34.2 11 x2).bind fun a38 =>
        (f_Mo_instruction a38 (hv_I p34.2 q35.1 k36) (hv_I p34.2 q35.1 k37) p34.2).bind fun p39 =>
        (x_ob p39.2 11 x2).bind fun a40 =>
        (f_Mo_thrown a40 p39.2).bind fun p41 =>
        if p41.1 = p34.1 then
          if p34.1 = 0 then
            (x_ar p41.2 1 x3).bind fun q42 =>
            (x_ix q42.2 0).bind fun k43 =>
            if (lg_cmp (hv_J p41.2 q42.1 k43) p39.1.toInt64) = 0 then
              L_La_law_33 n x0 x1 x2 x3 (x4 + 3) p41.2
            else
              some (.inr ((0, p41.2)))
          else
            L_La_law_33 n x0 x1 x2 x3 (x4 + 3) p41.2
        else
          some (.inr ((0, p41.2)))
      else if y13 = 4 then
        (f_La_simple x1 x3 s).bind fun p44 =>
        (x_ob p44.2 11 x2).bind fun a45 =>
        (f_Mo_simple a45 p44.2).bind fun p46 =>
        (x_ob p46.2 11 x2).bind fun a47 =>
        (f_Mo_thrown a47 p46.2).bind fun p48 =>
        if p48.1 = p44.1 then
          if p44.1 = 0 then
            (x_ar p48.2 1 x3).bind fun q49 =>
            (x_ix q49.2 0).bind fun k50 =>
            ((
              if p46.1 = 0 then
                some 0
              else
                some 1
            ) : Option (Int64)).bind fun t51 =>
            if (lg_cmp (hv_J p48.2 q49.1 k50) t51) = 0 then
              L_La_law_33 n x0 x1 x2 x3 (x4 + 3) p48.2
            else
              some (.inr ((0, p48.2)))
          else
            L_La_law_33 n x0 x1 x2 x3 (x4 + 3) p48.2
        else
          some (.inr ((0, p48.2)))
      else if y13 = 5 then
        (x_ix q11.2 (x4 + (1 : Int32))).bind fun k52 =>
        (x_ob s 0 x1).bind fun a53 =>
        (f_C_feed a53 (((hv_I s q11.1 k52).toUInt32 % 65536).toInt32) s).bind fun p54 =>
        (x_ro p54.2 x0).bind fun q55 =>
        (x_ix q55.2 (x4 + (1 : Int32))).bind fun k56 =>
        (x_ob p54.2 11 x2).bind fun a57 =>
        (f_Mo_feed a57 (((hv_I p54.2 q55.1 k56).toUInt32 % 65536).toInt32) p54.2).bind fun p58 =>
        if p54.1 = p58.1 then
          L_La_law_33 n x0 x1 x2 x3 (x4 + 3) p58.2
        else
          some (.inr ((0, p58.2)))
      else if y13 = 6 then
        (x_ob s 0 x1).bind fun a59 =>
        (f_C_clear a59 s).bind fun p60 =>
        (x_ob p60 11 x2).bind fun a61 =>
        (f_Mo_clear a61 p60).bind fun p62 =>
        L_La_law_33 n x0 x1 x2 x3 (x4 + 3) p62
      else if y13 = 7 then
        (x_ix q11.2 (x4 + (1 : Int32))).bind fun k63 =>
        (f_La_search x1 (hv_I s q11.1 k63) x3 s).bind fun p64 =>
        (x_ro p64.2 x0).bind fun q65 =>
        (x_ix q65.2 (x4 + (1 : Int32))).bind fun k66 =>
        (x_ob p64.2 11 x2).bind fun a67 =>
        (f_Mo_search a67 (hv_I p64.2 q65.1 k66) p64.2).bind fun p68 =>
        (x_ob p68.2 11 x2).bind fun a69 =>
        (f_Mo_thrown a69 p68.2).bind fun p70 =>
        if p70.1 = p64.1 then
          if p64.1 = 0 then
            (x_ar p70.2 1 x3).bind fun q71 =>
            (x_ix q71.2 0).bind fun k72 =>
            if (lg_cmp (hv_J p70.2 q71.1 k72) p68.1.toInt64) = 0 then
              L_La_law_33 n x0 x1 x2 x3 (x4 + 3) p70.2
            else
              some (.inr ((0, p70.2)))
          else
            L_La_law_33 n x0 x1 x2 x3 (x4 + 3) p70.2
        else
          some (.inr ((0, p70.2)))
      else if y13 = 8 then
        (x_ix q11.2 (x4 + (1 : Int32))).bind fun k73 =>
        (x_ix q11.2 (x4 + (2 : Int32))).bind fun k74 =>
        ((
          if (hv_I s q11.1 k74) = 0 then
            some 0
          else
            some 1
        ) : Option (Int32)).bind fun t75 =>
        (f_La_slot x1 (hv_I s q11.1 k73) t75 x3 s).bind fun p76 =>
        (x_ro p76.2 x0).bind fun q77 =>
        (x_ix q77.2 (x4 + (1 : Int32))).bind fun k78 =>
        (x_ix q77.2 (x4 + (2 : Int32))).bind fun k79 =>
        ((
          if (hv_I p76.2 q77.1 k79) = 0 then
            some 0
          else
            some 1
        ) : Option (Int32)).bind fun t80 =>
        (x_ob p76.2 11 x2).bind fun a81 =>
        (f_Mo_slot a81 (hv_I p76.2 q77.1 k78) t80 p76.2).bind fun p82 =>
        (x_ob p82.2 11 x2).bind fun a83 =>
        (f_Mo_thrown a83 p82.2).bind fun p84 =>
        if p84.1 = p76.1 then
          if p76.1 = 0 then
            (x_ar p84.2 1 x3).bind fun q85 =>
            (x_ix q85.2 0).bind fun k86 =>
            if (lg_cmp (hv_J p84.2 q85.1 k86) p82.1.toInt64) = 0 then
              L_La_law_33 n x0 x1 x2 x3 (x4 + 3) p84.2
            else
              some (.inr ((0, p84.2)))
          else
            L_La_law_33 n x0 x1 x2 x3 (x4 + 3) p84.2
        else
          some (.inr ((0, p84.2)))
      else if y13 = 9 then
        (x_ob s 0 x1).bind fun a87 =>
        (f_C_work a87 s).bind fun p88 =>
        (x_ob p88.2 11 x2).bind fun a89 =>
        (f_Mo_work a89 p88.2).bind fun p90 =>
        if p88.1 = p90.1 then
          L_La_law_33 n x0 x1 x2 x3 (x4 + 3) p90.2
        else
          some (.inr ((0, p90.2)))
      else if y13 = 10 then
        (x_ob s 0 x1).bind fun a91 =>
        (f_C_matcher a91 s).bind fun p92 =>
        (x_ob p92.2 11 x2).bind fun a93 =>
        (f_Mo_matcher a93 p92.2).bind fun p94 =>
        if p92.1 = p94.1 then
          L_La_law_33 n x0 x1 x2 x3 (x4 + 3) p94.2
        else
          some (.inr ((0, p94.2)))
      else if y13 = 11 then
        (x_ob s 0 x1).bind fun a95 =>
        (f_C_states a95 s).bind fun p96 =>
        (x_ob p96.2 11 x2).bind fun a97 =>
        (f_Mo_states a97 p96.2).bind fun p98 =>
        if p96.1 = p98.1 then
          L_La_law_33 n x0 x1 x2 x3 (x4 + 3) p98.2
        else
          some (.inr ((0, p98.2)))
      else if y13 = 12 then
        (x_ob s 0 x1).bind fun a99 =>
        (f_C_flushes a99 s).bind fun p100 =>
        (x_ob p100.2 11 x2).bind fun a101 =>
        (f_Mo_flushes a101 p100.2).bind fun p102 =>
        if p100.1 = p102.1 then
          L_La_law_33 n x0 x1 x2 x3 (x4 + 3) p102.2
        else
          some (.inr ((0, p102.2)))
      else if y13 = 13 then
        (f_La_breaks x1 x3 s).bind fun p103 =>
        (x_ob p103.2 11 x2).bind fun a104 =>
        (f_Mo_breaks a104 p103.2).bind fun p105 =>
        (x_ob p105.2 11 x2).bind fun a106 =>
        (f_Mo_thrown a106 p105.2).bind fun p107 =>
        if p107.1 = p103.1 then
          if p103.1 = 0 then
            (x_ar p107.2 1 x3).bind fun q108 =>
            (x_ix q108.2 0).bind fun k109 =>
            if (lg_cmp (hv_J p107.2 q108.1 k109) p105.1.toInt64) = 0 then
              L_La_law_33 n x0 x1 x2 x3 (x4 + 3) p107.2
            else
              some (.inr ((0, p107.2)))
          else
            L_La_law_33 n x0 x1 x2 x3 (x4 + 3) p107.2
        else
          some (.inr ((0, p107.2)))
      else
        L_La_law_33 n x0 x1 x2 x3 (x4 + 3) s
set_option maxRecDepth 4000 in
set_option maxHeartbeats 2000000 in
theorem l_La_law_33 {G : lt_G} (hG : ∀ s A, G.2.2 s A → th_Y s A) : ∀ (n : Nat) (x0 : Option Nat) (x1 : Option Nat) (x2 : Option Nat) (x3 : Option Nat) (x4 : Int32) (s : hv_S) (e0 : (hv_S) ⊕ (Int32 × hv_S)), L_La_law_33 n x0 x1 x2 x3 x4 s = some e0 → ∀ (mc ms : Nat), Lk G m_La_law 39 33 [(0, vR x0), (1, vR x1), (2, vR x2), (3, vR x3), (4, vI x4)] [] s (mc + 1 * n) (ms + 6 * n) (fun a b c d e f => match e0 with | .inl t => lk_at 601 [] [] t mc ms a b c d e f | .inr w => lk_end m_La_law (some (vI w.1)) w.2 a b c d e f) := by
  intro n
  induction n with
  | zero => intro x0 x1 x2 x3 x4 s e0 h; cases h
  | succ n ih =>
    intro x0 x1 x2 x3 x4 s e0 h mc ms
    unfold L_La_law_33 at h
    rw [show mc + 1 * (n + 1) = mc + 1 * n + 1 by omega, show ms + 6 * (n + 1) = ms + 6 * n + 6 by omega]
    refine lk_iload d_La_law_33 rfl ?_
    refine lk_aload_n d_La_law_35 rfl ?_
    obtain ⟨q11, hq11, h⟩ := x_b h
    refine lk_rolen d_La_law_36 hq11 ?_
    refine lk_iconst (v := 3) d_La_law_37 rfl ?_
    refine lk_isub d_La_law_38 ?_
    refine lk_icmp_gt (tgt := 601) d_La_law_39 (by decide) (fun hc => ?_) (fun hc => ?_)
    · replace h := x_ifp hc h
      cases h
      refine Lk.less (mc' := mc) (ms' := ms) (by omega) (by omega) ?_
      refine Lk.sel [] rfl ?_
      exact Lk.stop ⟨rfl, rfl, rfl, rfl, rfl, rfl⟩
    · replace h := x_ifn hc h
      refine lk_aload_n d_La_law_42 rfl ?_
      refine lk_iload d_La_law_43 rfl ?_
      obtain ⟨k12, hk12, h⟩ := x_b h
      refine lk_roald d_La_law_45 hq11 hk12 ?_
      refine lk_bipush (v := 15) d_La_law_46 rfl ?_
      refine lk_iand d_La_law_48 ?_
      replace h := x_nm h
      rcases x_ifc h with ⟨g0, h⟩ | ⟨g0, h⟩
      · refine lk_tableIn (tgt := 120) d_La_law_49 (by rw [g0]; decide) (by rw [g0]; decide) (by rw [g0]; rfl) (by decide) ?_
        refine lk_aload_n d_La_law_120 rfl ?_
        refine lk_aload_n d_La_law_121 rfl ?_
        refine lk_iload d_La_law_122 rfl ?_
        refine lk_iconst (v := 1) d_La_law_124 rfl ?_
        refine lk_iadd d_La_law_125 ?_
        obtain ⟨k14, hk14, h⟩ := x_b h
        refine lk_roald d_La_law_126 hq11 hk14 ?_
        refine lk_i2c d_La_law_127 ?_
        obtain ⟨a15, ha15, h⟩ := x_b h
        obtain ⟨p16, hp16, h⟩ := x_b h
        refine lk_callV0 d_La_law_128 (x_obm ha15 rfl) (c_C_type hp16) (Nat.le_of_ble_eq_true rfl) rfl M_C_type lm_La_50 in_C_type se_C_type (by decide) rfl (Nat.le_of_ble_eq_true rfl) ?_
        refine lk_aload_n d_La_law_131 rfl ?_
        refine lk_aload_n d_La_law_132 rfl ?_
        refine lk_iload d_La_law_133 rfl ?_
        refine lk_iconst (v := 1) d_La_law_135 rfl ?_
        refine lk_iadd d_La_law_136 ?_
        obtain ⟨q17, hq17, h⟩ := x_b h
        obtain ⟨k18, hk18, h⟩ := x_b h
        refine lk_roald d_La_law_137 hq17 hk18 ?_
        refine lk_i2c d_La_law_138 ?_
        obtain ⟨a19, ha19, h⟩ := x_b h
        obtain ⟨p20, hp20, h⟩ := x_b h
        refine lk_callV0 d_La_law_139 (x_obm ha19 rfl) (c_Mo_type hp20) (Nat.le_of_ble_eq_true rfl) rfl M_Mo_type lm_La_54 in_Mo_type se_Mo_type (by decide) rfl (Nat.le_of_ble_eq_true rfl) ?_
        refine lk_icmp_eq (tgt := 595) d_La_law_142 (by decide) (fun hc => ?_) (fun hc => ?_)
        · replace h := x_ifp hc h
          refine lk_iinc (v := _ + 3) d_La_law_595 rfl rfl (by decide) rfl ?_
          refine lk_goto (tgt := 33) d_La_law_598 (by decide) ?_
          refine Lk.less (mc' := mc + 1 * n) (ms' := ms + 6 * n) (by omega) (by omega) ?_
          refine Lk.sel [0, 1, 2, 3, 4] rfl ?_
          exact ih _ _ _ _ _ _ _ h mc ms
        · replace h := x_ifn hc h
          refine lk_iconst (v := 0) d_La_law_145 rfl ?_
          cases h
          exact Lk.stop ⟨rfl, Or.inr (Or.inl ⟨_, _, d_La_law_146, rfl, rfl, rfl, rfl⟩)⟩
      · rcases x_ifc h with ⟨g1, h⟩ | ⟨g1, h⟩
        · refine lk_tableIn (tgt := 147) d_La_law_49 (by rw [g1]; decide) (by rw [g1]; decide) (by rw [g1]; rfl) (by decide) ?_
          refine lk_aload_n d_La_law_147 rfl ?_
          obtain ⟨a21, ha21, h⟩ := x_b h
          obtain ⟨p22, hp22, h⟩ := x_b h
          refine lk_callV0 d_La_law_148 (x_obm ha21 rfl) (c_C_wipe hp22) (Nat.le_of_ble_eq_true rfl) rfl M_C_wipe lm_La_55 in_C_wipe se_C_wipe (by decide) rfl (Nat.le_of_ble_eq_true rfl) ?_
          refine lk_aload_n d_La_law_151 rfl ?_
          obtain ⟨a23, ha23, h⟩ := x_b h
          obtain ⟨p24, hp24, h⟩ := x_b h
          refine lk_callV0 d_La_law_152 (x_obm ha23 rfl) (c_Mo_wipe hp24) (Nat.le_of_ble_eq_true rfl) rfl M_Mo_wipe lm_La_58 in_Mo_wipe se_Mo_wipe (by decide) rfl (Nat.le_of_ble_eq_true rfl) ?_
          refine lk_goto (tgt := 595) d_La_law_155 (by decide) ?_
          refine lk_iinc (v := _ + 3) d_La_law_595 rfl rfl (by decide) rfl ?_
          refine lk_goto (tgt := 33) d_La_law_598 (by decide) ?_
          refine Lk.less (mc' := mc + 1 * n) (ms' := ms + 6 * n) (by omega) (by omega) ?_
          refine Lk.sel [0, 1, 2, 3, 4] rfl ?_
          exact ih _ _ _ _ _ _ _ h mc ms
        · rcases x_ifc h with ⟨g2, h⟩ | ⟨g2, h⟩
          · refine lk_tableIn (tgt := 158) d_La_law_49 (by rw [g2]; decide) (by rw [g2]; decide) (by rw [g2]; rfl) (by decide) ?_
            refine lk_aload_n d_La_law_158 rfl ?_
            refine lk_aload_n d_La_law_159 rfl ?_
            obtain ⟨p25, hp25, h⟩ := x_b h
            refine lkn_callSW (mc + 1 * n + 0) (ms + 6 * n + 0) d_La_law_160 (c_La_compile hG hp25) (Nat.le_of_ble_eq_true rfl) rfl M_La_compile ll_La_59 st_La_compile (Nat.le_of_ble_eq_true rfl) (by omega) (by omega) ?_
            refine lk_istore d_La_law_163 (by decide) rfl ?_
            refine lk_aload_n d_La_law_165 rfl ?_
            obtain ⟨a26, ha26, h⟩ := x_b h
            obtain ⟨p27, hp27, h⟩ := x_b h
            refine lk_callV0 d_La_law_166 (x_obm ha26 rfl) (c_Mo_compile hp27) (Nat.le_of_ble_eq_true rfl) rfl M_Mo_compile lm_La_62 in_Mo_compile se_Mo_compile (by decide) rfl (Nat.le_of_ble_eq_true rfl) ?_
            refine lk_istore d_La_law_169 (by decide) rfl ?_
            refine lk_aload_n d_La_law_171 rfl ?_
            obtain ⟨a28, ha28, h⟩ := x_b h
            obtain ⟨p29, hp29, h⟩ := x_b h
            refine lk_callV0 d_La_law_172 (x_obm ha28 rfl) (c_Mo_thrown hp29) (Nat.le_of_ble_eq_true rfl) rfl M_Mo_thrown lm_La_63 in_Mo_thrown se_Mo_thrown (by decide) rfl (Nat.le_of_ble_eq_true rfl) ?_
            refine lk_iload d_La_law_175 rfl ?_
            refine lk_icmp_eq (tgt := 182) d_La_law_177 (by decide) (fun hc => ?_) (fun hc => ?_)
            · replace h := x_ifp hc h
              refine lk_iload d_La_law_182 rfl ?_
              refine lk_if_ne (tgt := 199) d_La_law_184 (by decide) (fun hc => ?_) (fun hc => ?_)
              · replace h := x_ifn hc h
                refine lk_goto (tgt := 595) d_La_law_199 (by decide) ?_
                refine lk_iinc (v := _ + 3) d_La_law_595 rfl rfl (by decide) rfl ?_
                refine lk_goto (tgt := 33) d_La_law_598 (by decide) ?_
                refine Lk.less (mc' := mc + 1 * n) (ms' := ms + 6 * n) (by omega) (by omega) ?_
                refine Lk.sel [0, 1, 2, 3, 4] rfl ?_
                exact ih _ _ _ _ _ _ _ h mc ms
              · replace h := x_ifp hc h
                refine lk_aload_n d_La_law_187 rfl ?_
                refine lk_iconst (v := 0) d_La_law_188 rfl ?_
                obtain ⟨q30, hq30, h⟩ := x_b h
                obtain ⟨k31, hk31, h⟩ := x_b h
                refine lk_lald d_La_law_189 hq30 hk31 ?_
                refine lk_iload d_La_law_190 rfl ?_
                refine lk_i2l d_La_law_192 ?_
                refine lk_lcmp d_La_law_193 ?_
                refine lk_if_eq (tgt := 199) d_La_law_194 (by decide) (fun hc => ?_) (fun hc => ?_)
                · replace h := x_ifp hc h
                  refine lk_goto (tgt := 595) d_La_law_199 (by decide) ?_
                  refine lk_iinc (v := _ + 3) d_La_law_595 rfl rfl (by decide) rfl ?_
                  refine lk_goto (tgt := 33) d_La_law_598 (by decide) ?_
                  refine Lk.less (mc' := mc + 1 * n) (ms' := ms + 6 * n) (by omega) (by omega) ?_
                  refine Lk.sel [0, 1, 2, 3, 4] rfl ?_
                  exact ih _ _ _ _ _ _ _ h mc ms
                · replace h := x_ifn hc h
                  refine lk_iconst (v := 0) d_La_law_197 rfl ?_
                  cases h
                  exact Lk.stop ⟨rfl, Or.inr (Or.inl ⟨_, _, d_La_law_198, rfl, rfl, rfl, rfl⟩)⟩
            · replace h := x_ifn hc h
              refine lk_iconst (v := 0) d_La_law_180 rfl ?_
              cases h
              exact Lk.stop ⟨rfl, Or.inr (Or.inl ⟨_, _, d_La_law_181, rfl, rfl, rfl, rfl⟩)⟩
          · rcases x_ifc h with ⟨g3, h⟩ | ⟨g3, h⟩
            · refine lk_tableIn (tgt := 202) d_La_law_49 (by rw [g3]; decide) (by rw [g3]; decide) (by rw [g3]; rfl) (by decide) ?_
              refine lk_aload_n d_La_law_202 rfl ?_
              refine lk_aload_n d_La_law_203 rfl ?_
              refine lk_iload d_La_law_204 rfl ?_
              refine lk_iconst (v := 1) d_La_law_206 rfl ?_
              refine lk_iadd d_La_law_207 ?_
              obtain ⟨k32, hk32, h⟩ := x_b h
              refine lk_roald d_La_law_208 hq11 hk32 ?_
              refine lk_aload_n d_La_law_209 rfl ?_
              refine lk_iload d_La_law_210 rfl ?_
              refine lk_iconst (v := 2) d_La_law_212 rfl ?_
              refine lk_iadd d_La_law_213 ?_
              obtain ⟨k33, hk33, h⟩ := x_b h
              refine lk_roald d_La_law_214 hq11 hk33 ?_
              refine lk_aload_n d_La_law_215 rfl ?_
              obtain ⟨p34, hp34, h⟩ := x_b h
              refine lkn_callSW (mc + 1 * n + 0) (ms + 6 * n + 0) d_La_law_216 (c_La_instruction hG hp34) (Nat.le_of_ble_eq_true rfl) rfl M_La_instruction ll_La_66 st_La_instruction (Nat.le_of_ble_eq_true rfl) (by omega) (by omega) ?_
              refine lk_istore d_La_law_219 (by decide) rfl ?_
              refine lk_aload_n d_La_law_221 rfl ?_
              refine lk_aload_n d_La_law_222 rfl ?_
              refine lk_iload d_La_law_223 rfl ?_
              refine lk_iconst (v := 1) d_La_law_225 rfl ?_
              refine lk_iadd d_La_law_226 ?_
              obtain ⟨q35, hq35, h⟩ := x_b h
              obtain ⟨k36, hk36, h⟩ := x_b h
              refine lk_roald d_La_law_227 hq35 hk36 ?_
              refine lk_aload_n d_La_law_228 rfl ?_
              refine lk_iload d_La_law_229 rfl ?_
              refine lk_iconst (v := 2) d_La_law_231 rfl ?_
              refine lk_iadd d_La_law_232 ?_
              obtain ⟨k37, hk37, h⟩ := x_b h
              refine lk_roald d_La_law_233 hq35 hk37 ?_
              obtain ⟨a38, ha38, h⟩ := x_b h
              obtain ⟨p39, hp39, h⟩ := x_b h
              refine lk_callV0 d_La_law_234 (x_obm ha38 rfl) (c_Mo_instruction hp39) (Nat.le_of_ble_eq_true rfl) rfl M_Mo_instruction lm_La_69 in_Mo_instruction se_Mo_instruction (by decide) rfl (Nat.le_of_ble_eq_true rfl) ?_
              refine lk_istore d_La_law_237 (by decide) rfl ?_
              refine lk_aload_n d_La_law_239 rfl ?_
              obtain ⟨a40, ha40, h⟩ := x_b h
              obtain ⟨p41, hp41, h⟩ := x_b h
              refine lk_callV0 d_La_law_240 (x_obm ha40 rfl) (c_Mo_thrown hp41) (Nat.le_of_ble_eq_true rfl) rfl M_Mo_thrown lm_La_63 in_Mo_thrown se_Mo_thrown (by decide) rfl (Nat.le_of_ble_eq_true rfl) ?_
              refine lk_iload d_La_law_243 rfl ?_
              refine lk_icmp_eq (tgt := 250) d_La_law_245 (by decide) (fun hc => ?_) (fun hc => ?_)
              · replace h := x_ifp hc h
                refine lk_iload d_La_law_250 rfl ?_
                refine lk_if_ne (tgt := 267) d_La_law_252 (by decide) (fun hc => ?_) (fun hc => ?_)
                · replace h := x_ifn hc h
                  refine lk_goto (tgt := 595) d_La_law_267 (by decide) ?_
                  refine lk_iinc (v := _ + 3) d_La_law_595 rfl rfl (by decide) rfl ?_
                  refine lk_goto (tgt := 33) d_La_law_598 (by decide) ?_
                  refine Lk.less (mc' := mc + 1 * n) (ms' := ms + 6 * n) (by omega) (by omega) ?_
                  refine Lk.sel [0, 1, 2, 3, 4] rfl ?_
                  exact ih _ _ _ _ _ _ _ h mc ms
                · replace h := x_ifp hc h
                  refine lk_aload_n d_La_law_255 rfl ?_
                  refine lk_iconst (v := 0) d_La_law_256 rfl ?_
                  obtain ⟨q42, hq42, h⟩ := x_b h
                  obtain ⟨k43, hk43, h⟩ := x_b h
                  refine lk_lald d_La_law_257 hq42 hk43 ?_
                  refine lk_iload d_La_law_258 rfl ?_
                  refine lk_i2l d_La_law_260 ?_
                  refine lk_lcmp d_La_law_261 ?_
                  refine lk_if_eq (tgt := 267) d_La_law_262 (by decide) (fun hc => ?_) (fun hc => ?_)
                  · replace h := x_ifp hc h
                    refine lk_goto (tgt := 595) d_La_law_267 (by decide) ?_
                    refine lk_iinc (v := _ + 3) d_La_law_595 rfl rfl (by decide) rfl ?_
                    refine lk_goto (tgt := 33) d_La_law_598 (by decide) ?_
                    refine Lk.less (mc' := mc + 1 * n) (ms' := ms + 6 * n) (by omega) (by omega) ?_
                    refine Lk.sel [0, 1, 2, 3, 4] rfl ?_
                    exact ih _ _ _ _ _ _ _ h mc ms
                  · replace h := x_ifn hc h
                    refine lk_iconst (v := 0) d_La_law_265 rfl ?_
                    cases h
                    exact Lk.stop ⟨rfl, Or.inr (Or.inl ⟨_, _, d_La_law_266, rfl, rfl, rfl, rfl⟩)⟩
              · replace h := x_ifn hc h
                refine lk_iconst (v := 0) d_La_law_248 rfl ?_
                cases h
                exact Lk.stop ⟨rfl, Or.inr (Or.inl ⟨_, _, d_La_law_249, rfl, rfl, rfl, rfl⟩)⟩
            · rcases x_ifc h with ⟨g4, h⟩ | ⟨g4, h⟩
              · refine lk_tableIn (tgt := 270) d_La_law_49 (by rw [g4]; decide) (by rw [g4]; decide) (by rw [g4]; rfl) (by decide) ?_
                refine lk_aload_n d_La_law_270 rfl ?_
                refine lk_aload_n d_La_law_271 rfl ?_
                obtain ⟨p44, hp44, h⟩ := x_b h
                refine lkn_callSW (mc + 1 * n + 0) (ms + 6 * n + 0) d_La_law_272 (c_La_simple hG hp44) (Nat.le_of_ble_eq_true rfl) rfl M_La_simple ll_La_70 st_La_simple (Nat.le_of_ble_eq_true rfl) (by omega) (by omega) ?_
                refine lk_istore d_La_law_275 (by decide) rfl ?_
                refine lk_aload_n d_La_law_277 rfl ?_
                obtain ⟨a45, ha45, h⟩ := x_b h
                obtain ⟨p46, hp46, h⟩ := x_b h
                refine lk_callV0 d_La_law_278 (x_obm ha45 rfl) (c_Mo_simple hp46) (Nat.le_of_ble_eq_true rfl) rfl M_Mo_simple lm_La_72 in_Mo_simple se_Mo_simple (by decide) rfl (Nat.le_of_ble_eq_true rfl) ?_
                refine lk_istore d_La_law_281 (by decide) rfl ?_
                refine lk_aload_n d_La_law_283 rfl ?_
                obtain ⟨a47, ha47, h⟩ := x_b h
                obtain ⟨p48, hp48, h⟩ := x_b h
                refine lk_callV0 d_La_law_284 (x_obm ha47 rfl) (c_Mo_thrown hp48) (Nat.le_of_ble_eq_true rfl) rfl M_Mo_thrown lm_La_63 in_Mo_thrown se_Mo_thrown (by decide) rfl (Nat.le_of_ble_eq_true rfl) ?_
                refine lk_iload d_La_law_287 rfl ?_
                refine lk_icmp_eq (tgt := 294) d_La_law_289 (by decide) (fun hc => ?_) (fun hc => ?_)
                · replace h := x_ifp hc h
                  refine lk_iload d_La_law_294 rfl ?_
                  refine lk_if_ne (tgt := 318) d_La_law_296 (by decide) (fun hc => ?_) (fun hc => ?_)
                  · replace h := x_ifn hc h
                    refine lk_goto (tgt := 595) d_La_law_318 (by decide) ?_
                    refine lk_iinc (v := _ + 3) d_La_law_595 rfl rfl (by decide) rfl ?_
                    refine lk_goto (tgt := 33) d_La_law_598 (by decide) ?_
                    refine Lk.less (mc' := mc + 1 * n) (ms' := ms + 6 * n) (by omega) (by omega) ?_
                    refine Lk.sel [0, 1, 2, 3, 4] rfl ?_
                    exact ih _ _ _ _ _ _ _ h mc ms
                  · replace h := x_ifp hc h
                    refine lk_aload_n d_La_law_299 rfl ?_
                    refine lk_iconst (v := 0) d_La_law_300 rfl ?_
                    obtain ⟨q49, hq49, h⟩ := x_b h
                    obtain ⟨k50, hk50, h⟩ := x_b h
                    refine lk_lald d_La_law_301 hq49 hk50 ?_
                    refine lk_iload d_La_law_302 rfl ?_
                    obtain ⟨t51, hj, h⟩ := x_b h
                    refine Lk.joinA 312 [0, 1, 2, 3, 4] [] rfl 1 [vJ t51] ?_ ?_
                    · replace h := hj
                      refine lk_if_eq (tgt := 311) d_La_law_304 (by decide) (fun hc => ?_) (fun hc => ?_)
                      · replace h := x_ifp hc h
                        refine lk_lconst (v := 0) d_La_law_311 rfl ?_
                        cases h
                        refine Lk.sel [0, 1, 2, 3, 4] rfl ?_
                        exact Lk.stop ⟨rfl, rfl, rfl, rfl, rfl, rfl⟩
                      · replace h := x_ifn hc h
                        refine lk_lconst (v := 1) d_La_law_307 rfl ?_
                        refine lk_goto (tgt := 312) d_La_law_308 (by decide) ?_
                        cases h
                        refine Lk.sel [0, 1, 2, 3, 4] rfl ?_
                        exact Lk.stop ⟨rfl, rfl, rfl, rfl, rfl, rfl⟩
                    · clear hj
                      refine lk_lcmp d_La_law_312 ?_
                      refine lk_if_eq (tgt := 318) d_La_law_313 (by decide) (fun hc => ?_) (fun hc => ?_)
                      · replace h := x_ifp hc h
                        refine lk_goto (tgt := 595) d_La_law_318 (by decide) ?_
                        refine lk_iinc (v := _ + 3) d_La_law_595 rfl rfl (by decide) rfl ?_
                        refine lk_goto (tgt := 33) d_La_law_598 (by decide) ?_
                        refine Lk.less (mc' := mc + 1 * n) (ms' := ms + 6 * n) (by omega) (by omega) ?_
                        refine Lk.sel [0, 1, 2, 3, 4] rfl ?_
                        exact ih _ _ _ _ _ _ _ h mc ms
                      · replace h := x_ifn hc h
                        refine lk_iconst (v := 0) d_La_law_316 rfl ?_
                        cases h
                        exact Lk.stop ⟨rfl, Or.inr (Or.inl ⟨_, _, d_La_law_317, rfl, rfl, rfl, rfl⟩)⟩
                · replace h := x_ifn hc h
                  refine lk_iconst (v := 0) d_La_law_292 rfl ?_
                  cases h
                  exact Lk.stop ⟨rfl, Or.inr (Or.inl ⟨_, _, d_La_law_293, rfl, rfl, rfl, rfl⟩)⟩
              · rcases x_ifc h with ⟨g5, h⟩ | ⟨g5, h⟩
                · refine lk_tableIn (tgt := 321) d_La_law_49 (by rw [g5]; decide) (by rw [g5]; decide) (by rw [g5]; rfl) (by decide) ?_
                  refine lk_aload_n d_La_law_321 rfl ?_
                  refine lk_aload_n d_La_law_322 rfl ?_
                  refine lk_iload d_La_law_323 rfl ?_
                  refine lk_iconst (v := 1) d_La_law_325 rfl ?_
                  refine lk_iadd d_La_law_326 ?_
                  obtain ⟨k52, hk52, h⟩ := x_b h
                  refine lk_roald d_La_law_327 hq11 hk52 ?_
                  refine lk_i2c d_La_law_328 ?_
                  obtain ⟨a53, ha53, h⟩ := x_b h
                  obtain ⟨p54, hp54, h⟩ := x_b h
                  refine lk_callV0 d_La_law_329 (x_obm ha53 rfl) (c_C_feed hp54) (Nat.le_of_ble_eq_true rfl) rfl M_C_feed lm_La_73 in_C_feed se_C_feed (by decide) rfl (Nat.le_of_ble_eq_true rfl) ?_
                  refine lk_aload_n d_La_law_332 rfl ?_
                  refine lk_aload_n d_La_law_333 rfl ?_
                  refine lk_iload d_La_law_334 rfl ?_
                  refine lk_iconst (v := 1) d_La_law_336 rfl ?_
                  refine lk_iadd d_La_law_337 ?_
                  obtain ⟨q55, hq55, h⟩ := x_b h
                  obtain ⟨k56, hk56, h⟩ := x_b h
                  refine lk_roald d_La_law_338 hq55 hk56 ?_
                  refine lk_i2c d_La_law_339 ?_
                  obtain ⟨a57, ha57, h⟩ := x_b h
                  obtain ⟨p58, hp58, h⟩ := x_b h
                  refine lk_callV0 d_La_law_340 (x_obm ha57 rfl) (c_Mo_feed hp58) (Nat.le_of_ble_eq_true rfl) rfl M_Mo_feed lm_La_76 in_Mo_feed se_Mo_feed (by decide) rfl (Nat.le_of_ble_eq_true rfl) ?_
                  refine lk_icmp_eq (tgt := 595) d_La_law_343 (by decide) (fun hc => ?_) (fun hc => ?_)
                  · replace h := x_ifp hc h
                    refine lk_iinc (v := _ + 3) d_La_law_595 rfl rfl (by decide) rfl ?_
                    refine lk_goto (tgt := 33) d_La_law_598 (by decide) ?_
                    refine Lk.less (mc' := mc + 1 * n) (ms' := ms + 6 * n) (by omega) (by omega) ?_
                    refine Lk.sel [0, 1, 2, 3, 4] rfl ?_
                    exact ih _ _ _ _ _ _ _ h mc ms
                  · replace h := x_ifn hc h
                    refine lk_iconst (v := 0) d_La_law_346 rfl ?_
                    cases h
                    exact Lk.stop ⟨rfl, Or.inr (Or.inl ⟨_, _, d_La_law_347, rfl, rfl, rfl, rfl⟩)⟩
                · rcases x_ifc h with ⟨g6, h⟩ | ⟨g6, h⟩
                  · refine lk_tableIn (tgt := 348) d_La_law_49 (by rw [g6]; decide) (by rw [g6]; decide) (by rw [g6]; rfl) (by decide) ?_
                    refine lk_aload_n d_La_law_348 rfl ?_
                    obtain ⟨a59, ha59, h⟩ := x_b h
                    obtain ⟨p60, hp60, h⟩ := x_b h
                    refine lk_callV0 d_La_law_349 (x_obm ha59 rfl) (c_C_clear hp60) (Nat.le_of_ble_eq_true rfl) rfl M_C_clear lm_La_77 in_C_clear se_C_clear (by decide) rfl (Nat.le_of_ble_eq_true rfl) ?_
                    refine lk_aload_n d_La_law_352 rfl ?_
                    obtain ⟨a61, ha61, h⟩ := x_b h
                    obtain ⟨p62, hp62, h⟩ := x_b h
                    refine lk_callV0 d_La_law_353 (x_obm ha61 rfl) (c_Mo_clear hp62) (Nat.le_of_ble_eq_true rfl) rfl M_Mo_clear lm_La_80 in_Mo_clear se_Mo_clear (by decide) rfl (Nat.le_of_ble_eq_true rfl) ?_
                    refine lk_goto (tgt := 595) d_La_law_356 (by decide) ?_
                    refine lk_iinc (v := _ + 3) d_La_law_595 rfl rfl (by decide) rfl ?_
                    refine lk_goto (tgt := 33) d_La_law_598 (by decide) ?_
                    refine Lk.less (mc' := mc + 1 * n) (ms' := ms + 6 * n) (by omega) (by omega) ?_
                    refine Lk.sel [0, 1, 2, 3, 4] rfl ?_
                    exact ih _ _ _ _ _ _ _ h mc ms
                  · rcases x_ifc h with ⟨g7, h⟩ | ⟨g7, h⟩
                    · refine lk_tableIn (tgt := 359) d_La_law_49 (by rw [g7]; decide) (by rw [g7]; decide) (by rw [g7]; rfl) (by decide) ?_
                      refine lk_aload_n d_La_law_359 rfl ?_
                      refine lk_aload_n d_La_law_360 rfl ?_
                      refine lk_iload d_La_law_361 rfl ?_
                      refine lk_iconst (v := 1) d_La_law_363 rfl ?_
                      refine lk_iadd d_La_law_364 ?_
                      obtain ⟨k63, hk63, h⟩ := x_b h
                      refine lk_roald d_La_law_365 hq11 hk63 ?_
                      refine lk_aload_n d_La_law_366 rfl ?_
                      obtain ⟨p64, hp64, h⟩ := x_b h
                      refine lkn_callSW (mc + 1 * n + 0) (ms + 6 * n + 0) d_La_law_367 (c_La_search hG hp64) (Nat.le_of_ble_eq_true rfl) rfl M_La_search ll_La_81 st_La_search (Nat.le_of_ble_eq_true rfl) (by omega) (by omega) ?_
                      refine lk_istore d_La_law_370 (by decide) rfl ?_
                      refine lk_aload_n d_La_law_372 rfl ?_
                      refine lk_aload_n d_La_law_373 rfl ?_
                      refine lk_iload d_La_law_374 rfl ?_
                      refine lk_iconst (v := 1) d_La_law_376 rfl ?_
                      refine lk_iadd d_La_law_377 ?_
                      obtain ⟨q65, hq65, h⟩ := x_b h
                      obtain ⟨k66, hk66, h⟩ := x_b h
                      refine lk_roald d_La_law_378 hq65 hk66 ?_
                      obtain ⟨a67, ha67, h⟩ := x_b h
                      obtain ⟨p68, hp68, h⟩ := x_b h
                      refine lk_callV0 d_La_law_379 (x_obm ha67 rfl) (c_Mo_search hp68) (Nat.le_of_ble_eq_true rfl) rfl M_Mo_search lm_La_84 in_Mo_search se_Mo_search (by decide) rfl (Nat.le_of_ble_eq_true rfl) ?_
                      refine lk_istore d_La_law_382 (by decide) rfl ?_
                      refine lk_aload_n d_La_law_384 rfl ?_
                      obtain ⟨a69, ha69, h⟩ := x_b h
                      obtain ⟨p70, hp70, h⟩ := x_b h
                      refine lk_callV0 d_La_law_385 (x_obm ha69 rfl) (c_Mo_thrown hp70) (Nat.le_of_ble_eq_true rfl) rfl M_Mo_thrown lm_La_63 in_Mo_thrown se_Mo_thrown (by decide) rfl (Nat.le_of_ble_eq_true rfl) ?_
                      refine lk_iload d_La_law_388 rfl ?_
                      refine lk_icmp_eq (tgt := 395) d_La_law_390 (by decide) (fun hc => ?_) (fun hc => ?_)
                      · replace h := x_ifp hc h
                        refine lk_iload d_La_law_395 rfl ?_
                        refine lk_if_ne (tgt := 412) d_La_law_397 (by decide) (fun hc => ?_) (fun hc => ?_)
                        · replace h := x_ifn hc h
                          refine lk_goto (tgt := 595) d_La_law_412 (by decide) ?_
                          refine lk_iinc (v := _ + 3) d_La_law_595 rfl rfl (by decide) rfl ?_
                          refine lk_goto (tgt := 33) d_La_law_598 (by decide) ?_
                          refine Lk.less (mc' := mc + 1 * n) (ms' := ms + 6 * n) (by omega) (by omega) ?_
                          refine Lk.sel [0, 1, 2, 3, 4] rfl ?_
                          exact ih _ _ _ _ _ _ _ h mc ms
                        · replace h := x_ifp hc h
                          refine lk_aload_n d_La_law_400 rfl ?_
                          refine lk_iconst (v := 0) d_La_law_401 rfl ?_
                          obtain ⟨q71, hq71, h⟩ := x_b h
                          obtain ⟨k72, hk72, h⟩ := x_b h
                          refine lk_lald d_La_law_402 hq71 hk72 ?_
                          refine lk_iload d_La_law_403 rfl ?_
                          refine lk_i2l d_La_law_405 ?_
                          refine lk_lcmp d_La_law_406 ?_
                          refine lk_if_eq (tgt := 412) d_La_law_407 (by decide) (fun hc => ?_) (fun hc => ?_)
                          · replace h := x_ifp hc h
                            refine lk_goto (tgt := 595) d_La_law_412 (by decide) ?_
                            refine lk_iinc (v := _ + 3) d_La_law_595 rfl rfl (by decide) rfl ?_
                            refine lk_goto (tgt := 33) d_La_law_598 (by decide) ?_
                            refine Lk.less (mc' := mc + 1 * n) (ms' := ms + 6 * n) (by omega) (by omega) ?_
                            refine Lk.sel [0, 1, 2, 3, 4] rfl ?_
                            exact ih _ _ _ _ _ _ _ h mc ms
                          · replace h := x_ifn hc h
                            refine lk_iconst (v := 0) d_La_law_410 rfl ?_
                            cases h
                            exact Lk.stop ⟨rfl, Or.inr (Or.inl ⟨_, _, d_La_law_411, rfl, rfl, rfl, rfl⟩)⟩
                      · replace h := x_ifn hc h
                        refine lk_iconst (v := 0) d_La_law_393 rfl ?_
                        cases h
                        exact Lk.stop ⟨rfl, Or.inr (Or.inl ⟨_, _, d_La_law_394, rfl, rfl, rfl, rfl⟩)⟩
                    · rcases x_ifc h with ⟨g8, h⟩ | ⟨g8, h⟩
                      · refine lk_tableIn (tgt := 415) d_La_law_49 (by rw [g8]; decide) (by rw [g8]; decide) (by rw [g8]; rfl) (by decide) ?_
                        refine lk_aload_n d_La_law_415 rfl ?_
                        refine lk_aload_n d_La_law_416 rfl ?_
                        refine lk_iload d_La_law_417 rfl ?_
                        refine lk_iconst (v := 1) d_La_law_419 rfl ?_
                        refine lk_iadd d_La_law_420 ?_
                        obtain ⟨k73, hk73, h⟩ := x_b h
                        refine lk_roald d_La_law_421 hq11 hk73 ?_
                        refine lk_aload_n d_La_law_422 rfl ?_
                        refine lk_iload d_La_law_423 rfl ?_
                        refine lk_iconst (v := 2) d_La_law_425 rfl ?_
                        refine lk_iadd d_La_law_426 ?_
                        obtain ⟨k74, hk74, h⟩ := x_b h
                        refine lk_roald d_La_law_427 hq11 hk74 ?_
                        obtain ⟨t75, hj, h⟩ := x_b h
                        refine Lk.joinA 436 [0, 1, 2, 3, 4] [] rfl 1 [vI t75] ?_ ?_
                        · replace h := hj
                          refine lk_if_eq (tgt := 435) d_La_law_428 (by decide) (fun hc => ?_) (fun hc => ?_)
                          · replace h := x_ifp hc h
                            refine lk_iconst (v := 0) d_La_law_435 rfl ?_
                            cases h
                            refine Lk.sel [0, 1, 2, 3, 4] rfl ?_
                            exact Lk.stop ⟨rfl, rfl, rfl, rfl, rfl, rfl⟩
                          · replace h := x_ifn hc h
                            refine lk_iconst (v := 1) d_La_law_431 rfl ?_
                            refine lk_goto (tgt := 436) d_La_law_432 (by decide) ?_
                            cases h
                            refine Lk.sel [0, 1, 2, 3, 4] rfl ?_
                            exact Lk.stop ⟨rfl, rfl, rfl, rfl, rfl, rfl⟩
                        · clear hj
                          refine lk_aload_n d_La_law_436 rfl ?_
                          obtain ⟨p76, hp76, h⟩ := x_b h
                          refine lkn_callSW (mc + 1 * n + 0) (ms + 6 * n + 0) d_La_law_437 (c_La_slot hG hp76) (Nat.le_of_ble_eq_true rfl) rfl M_La_slot ll_La_85 st_La_slot (Nat.le_of_ble_eq_true rfl) (by omega) (by omega) ?_
                          refine lk_istore d_La_law_440 (by decide) rfl ?_
                          refine lk_aload_n d_La_law_442 rfl ?_
                          refine lk_aload_n d_La_law_443 rfl ?_
                          refine lk_iload d_La_law_444 rfl ?_
                          refine lk_iconst (v := 1) d_La_law_446 rfl ?_
                          refine lk_iadd d_La_law_447 ?_
                          obtain ⟨q77, hq77, h⟩ := x_b h
                          obtain ⟨k78, hk78, h⟩ := x_b h
                          refine lk_roald d_La_law_448 hq77 hk78 ?_
                          refine lk_aload_n d_La_law_449 rfl ?_
                          refine lk_iload d_La_law_450 rfl ?_
                          refine lk_iconst (v := 2) d_La_law_452 rfl ?_
                          refine lk_iadd d_La_law_453 ?_
                          obtain ⟨k79, hk79, h⟩ := x_b h
                          refine lk_roald d_La_law_454 hq77 hk79 ?_
                          obtain ⟨t80, hj, h⟩ := x_b h
                          refine Lk.joinA 463 [0, 1, 2, 3, 4, 5] [] rfl 1 [vI t80] ?_ ?_
                          · replace h := hj
                            refine lk_if_eq (tgt := 462) d_La_law_455 (by decide) (fun hc => ?_) (fun hc => ?_)
                            · replace h := x_ifp hc h
                              refine lk_iconst (v := 0) d_La_law_462 rfl ?_
                              cases h
                              refine Lk.sel [0, 1, 2, 3, 4, 5] rfl ?_
                              exact Lk.stop ⟨rfl, rfl, rfl, rfl, rfl, rfl⟩
                            · replace h := x_ifn hc h
                              refine lk_iconst (v := 1) d_La_law_458 rfl ?_
                              refine lk_goto (tgt := 463) d_La_law_459 (by decide) ?_
                              cases h
                              refine Lk.sel [0, 1, 2, 3, 4, 5] rfl ?_
                              exact Lk.stop ⟨rfl, rfl, rfl, rfl, rfl, rfl⟩
                          · clear hj
                            obtain ⟨a81, ha81, h⟩ := x_b h
                            obtain ⟨p82, hp82, h⟩ := x_b h
                            refine lk_callV0 d_La_law_463 (x_obm ha81 rfl) (c_Mo_slot hp82) (Nat.le_of_ble_eq_true rfl) rfl M_Mo_slot lm_La_88 in_Mo_slot se_Mo_slot (by decide) rfl (Nat.le_of_ble_eq_true rfl) ?_
                            refine lk_istore d_La_law_466 (by decide) rfl ?_
                            refine lk_aload_n d_La_law_468 rfl ?_
                            obtain ⟨a83, ha83, h⟩ := x_b h
                            obtain ⟨p84, hp84, h⟩ := x_b h
                            refine lk_callV0 d_La_law_469 (x_obm ha83 rfl) (c_Mo_thrown hp84) (Nat.le_of_ble_eq_true rfl) rfl M_Mo_thrown lm_La_63 in_Mo_thrown se_Mo_thrown (by decide) rfl (Nat.le_of_ble_eq_true rfl) ?_
                            refine lk_iload d_La_law_472 rfl ?_
                            refine lk_icmp_eq (tgt := 479) d_La_law_474 (by decide) (fun hc => ?_) (fun hc => ?_)
                            · replace h := x_ifp hc h
                              refine lk_iload d_La_law_479 rfl ?_
                              refine lk_if_ne (tgt := 496) d_La_law_481 (by decide) (fun hc => ?_) (fun hc => ?_)
                              · replace h := x_ifn hc h
                                refine lk_goto (tgt := 595) d_La_law_496 (by decide) ?_
                                refine lk_iinc (v := _ + 3) d_La_law_595 rfl rfl (by decide) rfl ?_
                                refine lk_goto (tgt := 33) d_La_law_598 (by decide) ?_
                                refine Lk.less (mc' := mc + 1 * n) (ms' := ms + 6 * n) (by omega) (by omega) ?_
                                refine Lk.sel [0, 1, 2, 3, 4] rfl ?_
                                exact ih _ _ _ _ _ _ _ h mc ms
                              · replace h := x_ifp hc h
                                refine lk_aload_n d_La_law_484 rfl ?_
                                refine lk_iconst (v := 0) d_La_law_485 rfl ?_
                                obtain ⟨q85, hq85, h⟩ := x_b h
                                obtain ⟨k86, hk86, h⟩ := x_b h
                                refine lk_lald d_La_law_486 hq85 hk86 ?_
                                refine lk_iload d_La_law_487 rfl ?_
                                refine lk_i2l d_La_law_489 ?_
                                refine lk_lcmp d_La_law_490 ?_
                                refine lk_if_eq (tgt := 496) d_La_law_491 (by decide) (fun hc => ?_) (fun hc => ?_)
                                · replace h := x_ifp hc h
                                  refine lk_goto (tgt := 595) d_La_law_496 (by decide) ?_
                                  refine lk_iinc (v := _ + 3) d_La_law_595 rfl rfl (by decide) rfl ?_
                                  refine lk_goto (tgt := 33) d_La_law_598 (by decide) ?_
                                  refine Lk.less (mc' := mc + 1 * n) (ms' := ms + 6 * n) (by omega) (by omega) ?_
                                  refine Lk.sel [0, 1, 2, 3, 4] rfl ?_
                                  exact ih _ _ _ _ _ _ _ h mc ms
                                · replace h := x_ifn hc h
                                  refine lk_iconst (v := 0) d_La_law_494 rfl ?_
                                  cases h
                                  exact Lk.stop ⟨rfl, Or.inr (Or.inl ⟨_, _, d_La_law_495, rfl, rfl, rfl, rfl⟩)⟩
                            · replace h := x_ifn hc h
                              refine lk_iconst (v := 0) d_La_law_477 rfl ?_
                              cases h
                              exact Lk.stop ⟨rfl, Or.inr (Or.inl ⟨_, _, d_La_law_478, rfl, rfl, rfl, rfl⟩)⟩
                      · rcases x_ifc h with ⟨g9, h⟩ | ⟨g9, h⟩
                        · refine lk_tableIn (tgt := 499) d_La_law_49 (by rw [g9]; decide) (by rw [g9]; decide) (by rw [g9]; rfl) (by decide) ?_
                          refine lk_aload_n d_La_law_499 rfl ?_
                          obtain ⟨a87, ha87, h⟩ := x_b h
                          obtain ⟨p88, hp88, h⟩ := x_b h
                          refine lk_callV0 d_La_law_500 (x_obm ha87 rfl) (c_C_work hp88) (Nat.le_of_ble_eq_true rfl) rfl M_C_work lm_La_89 in_C_work se_C_work (by decide) rfl (Nat.le_of_ble_eq_true rfl) ?_
                          refine lk_aload_n d_La_law_503 rfl ?_
                          obtain ⟨a89, ha89, h⟩ := x_b h
                          obtain ⟨p90, hp90, h⟩ := x_b h
                          refine lk_callV0 d_La_law_504 (x_obm ha89 rfl) (c_Mo_work hp90) (Nat.le_of_ble_eq_true rfl) rfl M_Mo_work lm_La_92 in_Mo_work se_Mo_work (by decide) rfl (Nat.le_of_ble_eq_true rfl) ?_
                          refine lk_icmp_eq (tgt := 595) d_La_law_507 (by decide) (fun hc => ?_) (fun hc => ?_)
                          · replace h := x_ifp hc h
                            refine lk_iinc (v := _ + 3) d_La_law_595 rfl rfl (by decide) rfl ?_
                            refine lk_goto (tgt := 33) d_La_law_598 (by decide) ?_
                            refine Lk.less (mc' := mc + 1 * n) (ms' := ms + 6 * n) (by omega) (by omega) ?_
                            refine Lk.sel [0, 1, 2, 3, 4] rfl ?_
                            exact ih _ _ _ _ _ _ _ h mc ms
                          · replace h := x_ifn hc h
                            refine lk_iconst (v := 0) d_La_law_510 rfl ?_
                            cases h
                            exact Lk.stop ⟨rfl, Or.inr (Or.inl ⟨_, _, d_La_law_511, rfl, rfl, rfl, rfl⟩)⟩
                        · rcases x_ifc h with ⟨g10, h⟩ | ⟨g10, h⟩
                          · refine lk_tableIn (tgt := 512) d_La_law_49 (by rw [g10]; decide) (by rw [g10]; decide) (by rw [g10]; rfl) (by decide) ?_
                            refine lk_aload_n d_La_law_512 rfl ?_
                            obtain ⟨a91, ha91, h⟩ := x_b h
                            obtain ⟨p92, hp92, h⟩ := x_b h
                            refine lk_callV0 d_La_law_513 (x_obm ha91 rfl) (c_C_matcher hp92) (Nat.le_of_ble_eq_true rfl) rfl M_C_matcher lm_La_93 in_C_matcher se_C_matcher (by decide) rfl (Nat.le_of_ble_eq_true rfl) ?_
                            refine lk_aload_n d_La_law_516 rfl ?_
                            obtain ⟨a93, ha93, h⟩ := x_b h
                            obtain ⟨p94, hp94, h⟩ := x_b h
                            refine lk_callV0 d_La_law_517 (x_obm ha93 rfl) (c_Mo_matcher hp94) (Nat.le_of_ble_eq_true rfl) rfl M_Mo_matcher lm_La_96 in_Mo_matcher se_Mo_matcher (by decide) rfl (Nat.le_of_ble_eq_true rfl) ?_
                            refine lk_icmp_eq (tgt := 595) d_La_law_520 (by decide) (fun hc => ?_) (fun hc => ?_)
                            · replace h := x_ifp hc h
                              refine lk_iinc (v := _ + 3) d_La_law_595 rfl rfl (by decide) rfl ?_
                              refine lk_goto (tgt := 33) d_La_law_598 (by decide) ?_
                              refine Lk.less (mc' := mc + 1 * n) (ms' := ms + 6 * n) (by omega) (by omega) ?_
                              refine Lk.sel [0, 1, 2, 3, 4] rfl ?_
                              exact ih _ _ _ _ _ _ _ h mc ms
                            · replace h := x_ifn hc h
                              refine lk_iconst (v := 0) d_La_law_523 rfl ?_
                              cases h
                              exact Lk.stop ⟨rfl, Or.inr (Or.inl ⟨_, _, d_La_law_524, rfl, rfl, rfl, rfl⟩)⟩
                          · rcases x_ifc h with ⟨g11, h⟩ | ⟨g11, h⟩
                            · refine lk_tableIn (tgt := 525) d_La_law_49 (by rw [g11]; decide) (by rw [g11]; decide) (by rw [g11]; rfl) (by decide) ?_
                              refine lk_aload_n d_La_law_525 rfl ?_
                              obtain ⟨a95, ha95, h⟩ := x_b h
                              obtain ⟨p96, hp96, h⟩ := x_b h
                              refine lk_callV0 d_La_law_526 (x_obm ha95 rfl) (c_C_states hp96) (Nat.le_of_ble_eq_true rfl) rfl M_C_states lm_La_97 in_C_states se_C_states (by decide) rfl (Nat.le_of_ble_eq_true rfl) ?_
                              refine lk_aload_n d_La_law_529 rfl ?_
                              obtain ⟨a97, ha97, h⟩ := x_b h
                              obtain ⟨p98, hp98, h⟩ := x_b h
                              refine lk_callV0 d_La_law_530 (x_obm ha97 rfl) (c_Mo_states hp98) (Nat.le_of_ble_eq_true rfl) rfl M_Mo_states lm_La_100 in_Mo_states se_Mo_states (by decide) rfl (Nat.le_of_ble_eq_true rfl) ?_
                              refine lk_icmp_eq (tgt := 595) d_La_law_533 (by decide) (fun hc => ?_) (fun hc => ?_)
                              · replace h := x_ifp hc h
                                refine lk_iinc (v := _ + 3) d_La_law_595 rfl rfl (by decide) rfl ?_
                                refine lk_goto (tgt := 33) d_La_law_598 (by decide) ?_
                                refine Lk.less (mc' := mc + 1 * n) (ms' := ms + 6 * n) (by omega) (by omega) ?_
                                refine Lk.sel [0, 1, 2, 3, 4] rfl ?_
                                exact ih _ _ _ _ _ _ _ h mc ms
                              · replace h := x_ifn hc h
                                refine lk_iconst (v := 0) d_La_law_536 rfl ?_
                                cases h
                                exact Lk.stop ⟨rfl, Or.inr (Or.inl ⟨_, _, d_La_law_537, rfl, rfl, rfl, rfl⟩)⟩
                            · rcases x_ifc h with ⟨g12, h⟩ | ⟨g12, h⟩
                              · refine lk_tableIn (tgt := 538) d_La_law_49 (by rw [g12]; decide) (by rw [g12]; decide) (by rw [g12]; rfl) (by decide) ?_
                                refine lk_aload_n d_La_law_538 rfl ?_
                                obtain ⟨a99, ha99, h⟩ := x_b h
                                obtain ⟨p100, hp100, h⟩ := x_b h
                                refine lk_callV0 d_La_law_539 (x_obm ha99 rfl) (c_C_flushes hp100) (Nat.le_of_ble_eq_true rfl) rfl M_C_flushes lm_La_101 in_C_flushes se_C_flushes (by decide) rfl (Nat.le_of_ble_eq_true rfl) ?_
                                refine lk_aload_n d_La_law_542 rfl ?_
                                obtain ⟨a101, ha101, h⟩ := x_b h
                                obtain ⟨p102, hp102, h⟩ := x_b h
                                refine lk_callV0 d_La_law_543 (x_obm ha101 rfl) (c_Mo_flushes hp102) (Nat.le_of_ble_eq_true rfl) rfl M_Mo_flushes lm_La_104 in_Mo_flushes se_Mo_flushes (by decide) rfl (Nat.le_of_ble_eq_true rfl) ?_
                                refine lk_icmp_eq (tgt := 595) d_La_law_546 (by decide) (fun hc => ?_) (fun hc => ?_)
                                · replace h := x_ifp hc h
                                  refine lk_iinc (v := _ + 3) d_La_law_595 rfl rfl (by decide) rfl ?_
                                  refine lk_goto (tgt := 33) d_La_law_598 (by decide) ?_
                                  refine Lk.less (mc' := mc + 1 * n) (ms' := ms + 6 * n) (by omega) (by omega) ?_
                                  refine Lk.sel [0, 1, 2, 3, 4] rfl ?_
                                  exact ih _ _ _ _ _ _ _ h mc ms
                                · replace h := x_ifn hc h
                                  refine lk_iconst (v := 0) d_La_law_549 rfl ?_
                                  cases h
                                  exact Lk.stop ⟨rfl, Or.inr (Or.inl ⟨_, _, d_La_law_550, rfl, rfl, rfl, rfl⟩)⟩
                              · rcases x_ifc h with ⟨g13, h⟩ | ⟨g13, h⟩
                                · refine lk_tableIn (tgt := 551) d_La_law_49 (by rw [g13]; decide) (by rw [g13]; decide) (by rw [g13]; rfl) (by decide) ?_
                                  refine lk_aload_n d_La_law_551 rfl ?_
                                  refine lk_aload_n d_La_law_552 rfl ?_
                                  obtain ⟨p103, hp103, h⟩ := x_b h
                                  refine lkn_callSW (mc + 1 * n + 0) (ms + 6 * n + 0) d_La_law_553 (c_La_breaks hG hp103) (Nat.le_of_ble_eq_true rfl) rfl M_La_breaks ll_La_105 st_La_breaks (Nat.le_of_ble_eq_true rfl) (by omega) (by omega) ?_
                                  refine lk_istore d_La_law_556 (by decide) rfl ?_
                                  refine lk_aload_n d_La_law_558 rfl ?_
                                  obtain ⟨a104, ha104, h⟩ := x_b h
                                  obtain ⟨p105, hp105, h⟩ := x_b h
                                  refine lk_callV0 d_La_law_559 (x_obm ha104 rfl) (c_Mo_breaks hp105) (Nat.le_of_ble_eq_true rfl) rfl M_Mo_breaks lm_La_107 in_Mo_breaks se_Mo_breaks (by decide) rfl (Nat.le_of_ble_eq_true rfl) ?_
                                  refine lk_istore d_La_law_562 (by decide) rfl ?_
                                  refine lk_aload_n d_La_law_564 rfl ?_
                                  obtain ⟨a106, ha106, h⟩ := x_b h
                                  obtain ⟨p107, hp107, h⟩ := x_b h
                                  refine lk_callV0 d_La_law_565 (x_obm ha106 rfl) (c_Mo_thrown hp107) (Nat.le_of_ble_eq_true rfl) rfl M_Mo_thrown lm_La_63 in_Mo_thrown se_Mo_thrown (by decide) rfl (Nat.le_of_ble_eq_true rfl) ?_
                                  refine lk_iload d_La_law_568 rfl ?_
                                  refine lk_icmp_eq (tgt := 575) d_La_law_570 (by decide) (fun hc => ?_) (fun hc => ?_)
                                  · replace h := x_ifp hc h
                                    refine lk_iload d_La_law_575 rfl ?_
                                    refine lk_if_ne (tgt := 592) d_La_law_577 (by decide) (fun hc => ?_) (fun hc => ?_)
                                    · replace h := x_ifn hc h
                                      refine lk_goto (tgt := 595) d_La_law_592 (by decide) ?_
                                      refine lk_iinc (v := _ + 3) d_La_law_595 rfl rfl (by decide) rfl ?_
                                      refine lk_goto (tgt := 33) d_La_law_598 (by decide) ?_
                                      refine Lk.less (mc' := mc + 1 * n) (ms' := ms + 6 * n) (by omega) (by omega) ?_
                                      refine Lk.sel [0, 1, 2, 3, 4] rfl ?_
                                      exact ih _ _ _ _ _ _ _ h mc ms
                                    · replace h := x_ifp hc h
                                      refine lk_aload_n d_La_law_580 rfl ?_
                                      refine lk_iconst (v := 0) d_La_law_581 rfl ?_
                                      obtain ⟨q108, hq108, h⟩ := x_b h
                                      obtain ⟨k109, hk109, h⟩ := x_b h
                                      refine lk_lald d_La_law_582 hq108 hk109 ?_
                                      refine lk_iload d_La_law_583 rfl ?_
                                      refine lk_i2l d_La_law_585 ?_
                                      refine lk_lcmp d_La_law_586 ?_
                                      refine lk_if_eq (tgt := 592) d_La_law_587 (by decide) (fun hc => ?_) (fun hc => ?_)
                                      · replace h := x_ifp hc h
                                        refine lk_goto (tgt := 595) d_La_law_592 (by decide) ?_
                                        refine lk_iinc (v := _ + 3) d_La_law_595 rfl rfl (by decide) rfl ?_
                                        refine lk_goto (tgt := 33) d_La_law_598 (by decide) ?_
                                        refine Lk.less (mc' := mc + 1 * n) (ms' := ms + 6 * n) (by omega) (by omega) ?_
                                        refine Lk.sel [0, 1, 2, 3, 4] rfl ?_
                                        exact ih _ _ _ _ _ _ _ h mc ms
                                      · replace h := x_ifn hc h
                                        refine lk_iconst (v := 0) d_La_law_590 rfl ?_
                                        cases h
                                        exact Lk.stop ⟨rfl, Or.inr (Or.inl ⟨_, _, d_La_law_591, rfl, rfl, rfl, rfl⟩)⟩
                                  · replace h := x_ifn hc h
                                    refine lk_iconst (v := 0) d_La_law_573 rfl ?_
                                    cases h
                                    exact Lk.stop ⟨rfl, Or.inr (Or.inl ⟨_, _, d_La_law_574, rfl, rfl, rfl, rfl⟩)⟩
                                · have e0 := lv_neT g0 (a := 0) rfl
                                  have e1 := lv_neT g1 (a := 1) rfl
                                  have e2 := lv_neT g2 (a := 2) rfl
                                  have e3 := lv_neT g3 (a := 3) rfl
                                  have e4 := lv_neT g4 (a := 4) rfl
                                  have e5 := lv_neT g5 (a := 5) rfl
                                  have e6 := lv_neT g6 (a := 6) rfl
                                  have e7 := lv_neT g7 (a := 7) rfl
                                  have e8 := lv_neT g8 (a := 8) rfl
                                  have e9 := lv_neT g9 (a := 9) rfl
                                  have e10 := lv_neT g10 (a := 10) rfl
                                  have e11 := lv_neT g11 (a := 11) rfl
                                  have e12 := lv_neT g12 (a := 12) rfl
                                  have e13 := lv_neT g13 (a := 13) rfl
                                  refine lk_tableOut (tgt := 595) d_La_law_49 (by omega) (by decide) ?_
                                  refine lk_iinc (v := _ + 3) d_La_law_595 rfl rfl (by decide) rfl ?_
                                  refine lk_goto (tgt := 33) d_La_law_598 (by decide) ?_
                                  refine Lk.less (mc' := mc + 1 * n) (ms' := ms + 6 * n) (by omega) (by omega) ?_
                                  refine Lk.sel [0, 1, 2, 3, 4] rfl ?_
                                  exact ih _ _ _ _ _ _ _ h mc ms
def f_La_law (r0 : Option Nat) (s : hv_S) : Option (Int32 × hv_S) :=
  (some (hv_n s)).bind fun n1 =>
  (some (hv_new s (0, 0))).bind fun s2 =>
  (f_La_cell r0 0 s2).bind fun p3 =>
  (f_C_init n1 p3.1 p3.2).bind fun p4 =>
  (some (hv_n p4)).bind fun n5 =>
  (some (hv_new p4 (11, 0))).bind fun s6 =>
  (f_La_cell r0 0 s6).bind fun p7 =>
  (f_Mo_init n5 p7.1 p7.2).bind fun p8 =>
  (some (hv_n p8)).bind fun n9 =>
  (some (hv_new p8 (1001, 1))).bind fun s10 =>
  (L_La_law_33 600 r0 ((some n1)) ((some n5)) ((some n9)) 1 s10).bind fun e110r => e110r.elim (fun e110 =>
    some ((1, e110))
  ) (fun w => some w)
set_option maxRecDepth 4000 in
set_option maxHeartbeats 4000000 in
theorem c_La_law {G : lt_G} (hG : ∀ s A, G.2.2 s A → th_Y s A) {r0 : Option Nat} {s : hv_S} {p : Int32 × hv_S} (h : f_La_law r0 s = some p) : Lk G m_La_law 39 0 [(0, vR r0)] [] s 732 17239 (lk_end m_La_law (some (vI p.1)) p.2) := by
  unfold f_La_law at h
  replace h := x_nm h
  replace h := x_nm h
  refine lkn_new 731 17225 d_La_law_0 (by decide) rfl lc_La_8 ic_C nc_C df_C (by omega) (by omega) ?_
  refine lk_dup d_La_law_3 rfl ?_
  refine lk_aload_n d_La_law_4 rfl ?_
  refine lk_iconst (v := 0) d_La_law_5 rfl ?_
  obtain ⟨p3, hp3, h⟩ := x_b h
  refine lk_callS0 d_La_law_6 (c_La_cell hp3) (Nat.le_of_ble_eq_true rfl) rfl M_La_cell lm_La_38 st_La_cell (Nat.le_of_ble_eq_true rfl) ?_
  obtain ⟨p4, hp4, h⟩ := x_b h
  refine lkn_callI 629 14142 d_La_law_9 (c_C_init hp4) (Nat.le_of_ble_eq_true rfl) rfl M_C_init lm_La_44 in_C_init rfl (Nat.le_of_ble_eq_true rfl) (by omega) (by omega) ?_
  refine lk_astore_n d_La_law_12 (by decide) rfl ?_
  replace h := x_nm h
  replace h := x_nm h
  refine lkn_new 628 14097 d_La_law_13 (by decide) rfl lc_La_47 ic_Mo nc_Mo df_Mo (by omega) (by omega) ?_
  refine lk_dup d_La_law_16 rfl ?_
  refine lk_aload_n d_La_law_17 rfl ?_
  refine lk_iconst (v := 0) d_La_law_18 rfl ?_
  obtain ⟨p7, hp7, h⟩ := x_b h
  refine lk_callS0 d_La_law_19 (c_La_cell hp7) (Nat.le_of_ble_eq_true rfl) rfl M_La_cell lm_La_38 st_La_cell (Nat.le_of_ble_eq_true rfl) ?_
  obtain ⟨p8, hp8, h⟩ := x_b h
  refine lkn_callI 601 3601 d_La_law_22 (c_Mo_init hp8) (Nat.le_of_ble_eq_true rfl) rfl M_Mo_init lm_La_49 in_Mo_init rfl (Nat.le_of_ble_eq_true rfl) (by omega) (by omega) ?_
  refine lk_astore_n d_La_law_25 (by decide) rfl ?_
  refine lk_iconst (v := 1) d_La_law_26 rfl ?_
  replace h := x_nm h
  replace h := x_nm h
  refine lkn_newarray 600 3600 1 1 d_La_law_27 ac_long (by decide) rfl (by decide) rfl (by decide) rfl (by omega) (by omega) ?_
  refine lk_astore_n d_La_law_29 (by decide) rfl ?_
  refine lk_iconst (v := 1) d_La_law_30 rfl ?_
  refine lk_istore d_La_law_31 (by decide) rfl ?_
  obtain ⟨e110r, hl, h⟩ := x_b h
  refine Lk.sel [0, 1, 2, 3, 4] rfl ?_
  refine Lk.trans (l_La_law_33 hG _ _ _ _ _ _ _ _ hl 0 0) ?_
  intro pc' lo' st' s' mc' ms' hx
  cases e110r with
  | inl e110 =>
    obtain ⟨rfl, rfl, rfl, rfl, rfl, rfl⟩ := hx
    refine lk_iconst (v := 1) d_La_law_601 rfl ?_
    cases h
    exact Lk.stop ⟨rfl, Or.inr (Or.inl ⟨_, _, d_La_law_602, rfl, rfl, rfl, rfl⟩)⟩
  | inr w =>
    cases h
    exact Lk.stop hx
