/-! THE LAW'S LOOP -/
section LL
variable {sh : Nat → Option (Nat × Nat)} {b g w lim c L : Nat}
theorem l15 : (15 : Int32) = nI 15 := rfl
theorem nI_3lt {L p : Nat} (hL : L ≤ 1537) (hp : p ≤ 3000) : (nI L - (3 : Int32) < nI p) ↔ L < p + 3 := by
  by_cases h : 3 ≤ L
  · have e : nI L - 3 = nI (L - 3) := by
      have e2 : nI L = nI (L - 3) + nI 3 := by rw [nI_add]; congr 1; omega
      rw [e2]; exact Int32.add_sub_cancel _ _
    rw [e, nI_ltI (by omega) (by omega)]; omega
  · constructor
    · intro _; omega
    · intro _
      have hc : L = 0 ∨ L = 1 ∨ L = 2 := by omega
      have h3 : nI L - 3 < nI 0 := by rcases hc with h | h | h <;> subst h <;> decide
      have h4 : nI 0 ≤ nI p := by rw [nI_leI (by omega) (by omega)]; omega
      rw [Int32.lt_iff_toInt_lt] at h3 ⊢
      rw [Int32.le_iff_toInt_le] at h4
      omega
theorem e_law (hg : g = b + 46 + 3 * lim) (hw : w = g + 28) (hc : c < b) (hsc : sh c = some (2000, L)) (hL : L ≤ 1537) (hsw : sh w = some (1001, 1)) (hl1 : 1 ≤ lim) (hlim : lim ≤ 19) :
    ∀ (m N p B S : Nat) (Q : Qs) (I : Nat → Nat → Int32) (J : Nat → Nat → Int64) (R : Nat → Nat → Option Nat) (n : Nat), m < N → L ≤ p + 2 + 3 * m → p + 3 * m ≤ 3000 → B + 3 * m + 3 < 1000000 → S + 1000 * m + 3000 < 2 ^ 31 → LI sh b g lim B S Q I J R →
    ∃ s', L_La_law_33 N (some c) (some b) (some g) (some w) (nI p) (sh, I, J, R, n) = some (.inl s')
  | m, 0, _, _, _, _, _, _, _, _, h, _, _, _, _, _ => by omega
  | m, N + 1, p, B, S, Q, I, J, R, n, hN, hp, hp3, hB, hS, hLI => by
    rw [L_La_law_33, ev_ro hsc, ev_b]
    by_cases hx : L < p + 3
    · rw [if_pos ((nI_3lt hL (by omega)).mpr hx)]
      exact ⟨_, rfl⟩
    match m, hp, hN, hp3, hB, hS with
    | 0, hp, _, _, _, _ => omega
    | m + 1, hp, hN, hp3, hB, hS =>
    rw [if_neg (fun h => hx ((nI_3lt hL (by omega)).mp h)), ev_ix (show p < L by omega) (by omega), ev_b]
    have hx1 : x_ix L (nI p + (1 : Int32)) = some (p + 1) := by rw [nI_1]; exact ev_ix (by omega) (by omega)
    have hx2 : x_ix L (nI p + (2 : Int32)) = some (p + 2) := by rw [li_2, nI_add]; exact ev_ix (by omega) (by omega)
    have hp3' : nI p + 3 = nI (p + 3) := by rw [li_3, nI_add]
    rw [ev_b]
    have hb0 : sh b = some (0, 0) := by
      obtain ⟨⟨pr, dr, hl, -⟩, -⟩ := hLI
      exact hl.1
    -- the next call
    have IH : ∀ (B' S' : Nat) (Q' : Qs) (I' : Nat → Nat → Int32) (J' : Nat → Nat → Int64) (R' : Nat → Nat → Option Nat) (n' : Nat), B' ≤ B + 3 → S' ≤ S + 1000 → LI sh b g lim B' S' Q' I' J' R' → ∃ s', L_La_law_33 N (some c) (some b) (some g) (some w) (nI p + 3) (sh, I', J', R', n') = some (.inl s') := fun B' S' Q' I' J' R' n' h1 h2 h3 => by
      rw [hp3']
      exact e_law hg hw hc hsc hL hsw hl1 hlim m N (p + 3) B' S' Q' I' J' R' n' (by omega) (by omega) (by omega) (by omega) (by omega) h3
    have hLI' := hLI
    obtain ⟨hC, hM, hO, hA⟩ := hLI
    by_cases y0 : I c p &&& 15 = 0
    · rw [if_pos y0, hx1, ev_b, ev_ob hb0, ev_b]
      obtain ⟨v, hv, ev⟩ := chr (I c (p + 1))
      obtain ⟨I1, e1, r1, K1, A1⟩ := e_C_type (n := n) hv hA hC
      obtain ⟨M1, O1⟩ := LI_pre hg hLI' K1
      obtain ⟨I2, e2, r2, K2⟩ := e_Mo_type (J := J) (R := R) (n := n) hv M1 hA O1
      rw [ev_I, ev, e1, ev_b, ev_ro hsc, ev_b, hx1, ev_b, ev_ob (ms_o hM), ev_b, ev_I, (K1 c (p + 1) (by omega)).1, ev, e2, ev_b, if_pos rfl]
      exact IH B S _ _ _ _ _ (by omega) (by omega) (LI_post hg M1 r1 A1 rfl r2 K2)
    rw [if_neg y0]
    by_cases y1 : I c p &&& 15 = 1
    · rw [if_pos y1, ev_ob hb0, ev_b]
      obtain ⟨I1, e1, r1, K1, A1⟩ := e_C_wipe (n := n) hA hC
      obtain ⟨M1, O1⟩ := LI_pre hg hLI' K1
      obtain ⟨I2, e2, r2, K2⟩ := e_Mo_wipe (J := J) (R := R) (n := n) M1 hA O1
      rw [e1, ev_b, ev_ob (ms_o hM), ev_b, e2, ev_b]
      exact IH B S _ _ _ _ _ (by omega) (by omega) (LI_post hg M1 r1 A1 rfl r2 K2)
    rw [if_neg y1]
    by_cases y2 : I c p &&& 15 = 2
    · rw [if_pos y2]
      obtain ⟨I1, J1, R1, n1, e1, r1, K1, -⟩ := e_C_compile (n := n) hA hC
      obtain ⟨M1, O1⟩ := LI_pre hg hLI' K1
      obtain ⟨I2, e2, r2, z2, K2⟩ := e_Mo_compile (J := wJ w (co_A Q) J1) (R := R1) (n := n1) M1 (by omega) hA O1
      rw [w_compile hb0 hsw e1 co_h, ev_b, ev_ob (ms_o hM), ev_b, e2, ev_b]
      rw [law_tail (K := fun s => L_La_law_33 N (some c) (some b) (some g) (some w) (nI p + 3) s) M1 hsw (z2.trans (tc_89 _))]
      exact IH B (S + 1000) _ _ _ _ _ (by omega) (by omega) (LI_post hg M1 r1 (AU_co hA) (wJ_k (by omega)) r2 K2)
    rw [if_neg y2]
    by_cases y3 : I c p &&& 15 = 3
    · rw [if_pos y3, hx1, ev_b, hx2, ev_b]
      obtain ⟨n1, e1, -⟩ := e_C_instruction (n := n) (x := I c (p + 1)) (y := I c (p + 2)) hC
      obtain ⟨I2, e2, r2, z2, K2⟩ := e_Mo_instruction (J := wJ w (in_A Q (I c (p + 1)) (I c (p + 2))) J) (R := R) (n := n1) (x := I c (p + 1)) (y := I c (p + 2)) hM hA hO
      rw [ev_I, w_instruction hb0 hsw e1 in_h, ev_b, ev_ro hsc, ev_b, hx1, ev_b, hx2, ev_b, ev_ob (ms_o hM), ev_b, ev_I, e2, ev_b]
      rw [law_tail (K := fun s => L_La_law_33 N (some c) (some b) (some g) (some w) (nI p + 3) s) hM hsw z2]
      exact IH B S _ _ _ _ _ (by omega) (by omega) (LI_post hg hM hC hA (wJ_k (by omega)) r2 K2)
    rw [if_neg y3]
    by_cases y4 : I c p &&& 15 = 4
    · rw [if_pos y4]
      obtain ⟨n1, e1, -⟩ := e_C_simple (n := n) hC
      obtain ⟨I2, e2, r2, z2, K2⟩ := e_Mo_simple (J := wB w (sp_A Q) J) (R := R) (n := n1) hM hA hO
      rw [w_simple hb0 hsw e1 sp_h, ev_b, ev_ob (ms_o hM), ev_b, e2, ev_b]
      rw [law_tailB (K := fun s => L_La_law_33 N (some c) (some b) (some g) (some w) (nI p + 3) s) hM hsw z2]
      exact IH B S _ _ _ _ _ (by omega) (by omega) (LI_post hg hM hC hA (wB_k (by omega)) r2 K2)
    rw [if_neg y4]
    by_cases y5 : I c p &&& 15 = 5
    · rw [if_pos y5, hx1, ev_b, ev_ob hb0, ev_b]
      obtain ⟨v, hv, ev⟩ := chr (I c (p + 1))
      obtain ⟨I1, J1, e1, r1, K1, A1⟩ := e_C_feed (n := n) hv hA hC
      obtain ⟨M1, O1⟩ := LI_pre hg hLI' K1
      obtain ⟨I2, e2, r2, K2⟩ := e_Mo_feed (J := J1) (R := R) (n := n) hv M1 hA O1
      rw [ev_I, ev, e1, ev_b, ev_ro hsc, ev_b, hx1, ev_b, ev_ob (ms_o hM), ev_b, ev_I, (K1 c (p + 1) (by omega)).1, ev, e2, ev_b, if_pos rfl]
      exact IH B S _ _ _ _ _ (by omega) (by omega) (LI_post hg M1 r1 A1 rfl r2 K2)
    rw [if_neg y5]
    by_cases y6 : I c p &&& 15 = 6
    · rw [if_pos y6, ev_ob hb0, ev_b]
      obtain ⟨I1, J1, e1, r1, K1, A1⟩ := e_C_clear (n := n) hA hC
      obtain ⟨M1, O1⟩ := LI_pre hg hLI' K1
      obtain ⟨I2, e2, r2, K2⟩ := e_Mo_clearQ (J := J1) (R := R) (n := n) M1 hA O1
      rw [e1, ev_b, ev_ob (ms_o hM), ev_b, e2, ev_b]
      exact IH B S _ _ _ _ _ (by omega) (by omega) (LI_post hg M1 r1 A1 rfl r2 K2)
    rw [if_neg y6]
    by_cases y7 : I c p &&& 15 = 7
    · rw [if_pos y7, hx1, ev_b]
      obtain ⟨I1, J1, R1, n1, e1, r1, K1, A1, -⟩ := e_C_search (n := n) (x := I c (p + 1)) (by omega) hA hl1 hlim hC
      obtain ⟨M1, O1⟩ := LI_pre hg hLI' K1
      obtain ⟨I2, e2, r2, z2, K2⟩ := e_Mo_search (J := wJ w (se_A Q lim (I c (p + 1))) J1) (R := R1) (n := n1) (x := I c (p + 1)) M1 (by omega) (by omega) hA (fun P hq => C_auI (by omega) hA hl1 hlim hq hC) hl1 hlim O1
      rw [ev_I, w_search hb0 hsw e1 se_h, ev_b, ev_ro hsc, ev_b, hx1, ev_b, ev_ob (ms_o hM), ev_b, ev_I, (K1 c (p + 1) (by omega)).1, e2, ev_b]
      rw [law_tail (K := fun s => L_La_law_33 N (some c) (some b) (some g) (some w) (nI p + 3) s) M1 hsw (z2.trans (tc_89 _))]
      exact IH (B + 3) (S + 1000) _ _ _ _ _ (by omega) (by omega) (LI_post hg M1 r1 A1 (wJ_k (by omega)) r2 K2)
    rw [if_neg y7]
    by_cases y8 : I c p &&& 15 = 8
    · rw [if_pos y8, hx1, ev_b, hx2, ev_b]
      have et : ∀ z : Int32, ((if z = 0 then some 0 else some 1) : Option Int32) = some (if z = 0 then 0 else 1) := fun z => by split <;> rfl
      obtain ⟨n1, e1, -⟩ := e_C_slot (n := n) (x := I c (p + 1)) (y := if I c (p + 2) = 0 then 0 else 1) hC
      obtain ⟨I2, e2, r2, z2, K2⟩ := e_Mo_slot (J := wJ w (so_A Q (I c (p + 1)) (if I c (p + 2) = 0 then 0 else 1)) J) (R := R) (n := n1) (x := I c (p + 1)) (y := if I c (p + 2) = 0 then 0 else 1) hM hA hO
      rw [ev_I, et, ev_b, w_slot hb0 hsw e1 so_h, ev_b, ev_ro hsc, ev_b, hx1, ev_b, hx2, ev_b, ev_I, et, ev_b, ev_ob (ms_o hM), ev_b, e2, ev_b]
      rw [law_tail (K := fun s => L_La_law_33 N (some c) (some b) (some g) (some w) (nI p + 3) s) hM hsw z2]
      exact IH B S _ _ _ _ _ (by omega) (by omega) (LI_post hg hM hC hA (wJ_k (by omega)) r2 K2)
    rw [if_neg y8]
    obtain ⟨O0, K0⟩ := e_Mo_ask hA hO
    by_cases y9 : I c p &&& 15 = 9
    · rw [if_pos y9, ev_ob hb0, ev_b, e_C_work hC, ev_b, ev_ob (ms_o hM), ev_b, e_Mo_work hM hO, ev_b, if_pos rfl]
      exact IH B S _ _ _ _ _ (by omega) (by omega) (LI_post hg hM hC hA rfl O0 K0)
    rw [if_neg y9]
    by_cases y10 : I c p &&& 15 = 10
    · rw [if_pos y10, ev_ob hb0, ev_b, e_C_matcher hC, ev_b, ev_ob (ms_o hM), ev_b, e_Mo_matcher hM hO, ev_b, if_pos rfl]
      exact IH B S _ _ _ _ _ (by omega) (by omega) (LI_post hg hM hC hA rfl O0 K0)
    rw [if_neg y10]
    by_cases y11 : I c p &&& 15 = 11
    · rw [if_pos y11, ev_ob hb0, ev_b, e_C_states hC, ev_b, ev_ob (ms_o hM), ev_b, e_Mo_states hM hO, ev_b, if_pos rfl]
      exact IH B S _ _ _ _ _ (by omega) (by omega) (LI_post hg hM hC hA rfl O0 K0)
    rw [if_neg y11]
    by_cases y12 : I c p &&& 15 = 12
    · rw [if_pos y12, ev_ob hb0, ev_b, e_C_flushes hC, ev_b, ev_ob (ms_o hM), ev_b, e_Mo_flushes hM hO, ev_b, if_pos rfl]
      exact IH B S _ _ _ _ _ (by omega) (by omega) (LI_post hg hM hC hA rfl O0 K0)
    rw [if_neg y12]
    by_cases y13 : I c p &&& 15 = 13
    · rw [if_pos y13]
      obtain ⟨I1, J1, R1, n1, e1, r1, K1, -⟩ := e_C_breaks (n := n) hA hC
      obtain ⟨M1, O1⟩ := LI_pre hg hLI' K1
      obtain ⟨I2, e2, r2, z2, K2⟩ := e_Mo_breaks (J := wJ w (br_A Q) J1) (R := R1) (n := n1) M1 (by omega) hA O1
      rw [w_breaks hb0 hsw e1 br_h, ev_b, ev_ob (ms_o hM), ev_b, e2, ev_b]
      rw [law_tail (K := fun s => L_La_law_33 N (some c) (some b) (some g) (some w) (nI p + 3) s) M1 hsw z2]
      exact IH B (S + 1000) _ _ _ _ _ (by omega) (by omega) (LI_post hg M1 r1 hA (wJ_k (by omega)) r2 K2)
    rw [if_neg y13]
    exact IH B S _ _ _ _ _ (by omega) (by omega) hLI'
end LL
