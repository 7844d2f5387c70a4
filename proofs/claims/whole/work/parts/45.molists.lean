/-! THE REFERENCE'S LISTS -/
theorem it_or {α : Type} {a b : Prop} [Decidable a] [Decidable b] {A B : α} : (if a then A else if b then A else B) = if a ∨ b then A else B := by
  by_cases h : a
  · rw [if_pos h, if_pos (Or.inl h)]
  · rw [if_neg h]
    by_cases h2 : b
    · rw [if_pos h2, if_pos (Or.inr h2)]
    · rw [if_neg h2, if_neg (fun e => e.elim h h2)]
def mo_X (I : Nat → Nat → Int32) (g : Nat) (T : tx_T) : Prop := I g 4 = nI T.1 ∧ T.1 ≤ 20 ∧ ∀ k, k < T.1 → I (g + 2) k = nI (T.2 k) ∧ T.2 k < 8
/-- the match of the reference -/
def bs_R (I : Nat → Nat → Int32) (g : Nat) (best : Int64) : Prop := (best = 0 ∧ I g 39 = 0) ∨ (best ≠ 0 ∧ I g 39 = 1 ∧ sl_R I (g + 23) 0 best)
/-- what runLists may change -/
def rl_K (g : Nat) (I I' : Nat → Nat → Int32) : Prop := ∀ a k, (a ≠ g ∨ (k ≠ 16 ∧ k ≠ 18 ∧ k ≠ 36 ∧ k ≠ 39)) → (a < g + 9 ∨ g + 16 < a) → a ≠ g + 23 → I' a k = I a k
theorem rl_K_trans {g : Nat} {I I' I2 : Nat → Nat → Int32} (h : rl_K g I I') (k : rl_K g I' I2) : rl_K g I I2 := fun a j h1 h2 h3 => (k a j h1 h2 h3).trans (h a j h1 h2 h3)
theorem rl_K_refl {g : Nat} {I : Nat → Nat → Int32} : rl_K g I I := fun _ _ _ _ _ => rfl
theorem rl_K_fl {g li : Nat} {I I' : Nat → Nat → Int32} (h : fl_K g li I I') : rl_K g I I' := fun a j h1 h2 h3 => h a j (by omega) (by omega) (by omega) (by omega) (by omega)
theorem mo_P_r {g : Nat} {I I' : Nat → Nat → Int32} {P : pg_P} (h : rl_K g I I') (hp : mo_P I g P) : mo_P I' g P := by
  obtain ⟨p0, p1⟩ := hp
  refine ⟨(h _ _ (by omega) (by omega) (by omega)).trans p0, fun i hi => ?_⟩
  obtain ⟨a, b, c⟩ := p1 i hi
  exact ⟨(h _ _ (by omega) (by omega) (by omega)).trans a, (h _ _ (by omega) (by omega) (by omega)).trans b, (h _ _ (by omega) (by omega) (by omega)).trans c⟩
theorem mo_X_r {g : Nat} {I I' : Nat → Nat → Int32} {T : tx_T} (h : rl_K g I I') (ht : mo_X I g T) : mo_X I' g T :=
  ⟨(h _ _ (by omega) (by omega) (by omega)).trans ht.1, ht.2.1, fun k hk => ⟨(h _ _ (by omega) (by omega) (by omega)).trans (ht.2.2 k hk).1, (ht.2.2 k hk).2⟩⟩
theorem bs_R_mono {g : Nat} {I I' : Nat → Nat → Int32} {b : Int64} (h1 : I' g 39 = I g 39) (h2 : ∀ k, I' (g + 23) k = I (g + 23) k) (h : bs_R I g b) : bs_R I' g b := by
  rcases h with ⟨a, b⟩ | ⟨a, b, c⟩
  · exact Or.inl ⟨a, h1.trans b⟩
  · exact Or.inr ⟨a, h1.trans b, fun k hk => (h2 _).trans (c k hk)⟩
section ML
variable {sh : Nat → Option (Nat × Nat)} {I : Nat → Nat → Int32} {J : Nat → Nat → Int64} {R : Nat → Nat → Option Nat} {n g : Nat} {P : pg_P} {T : tx_T}
theorem e_Mo_isRight {i p : Nat} (hl : ly_M sh R g) (hp : mo_P I g P) (hW : pg_W P) (ht : mo_X I g T) (hi : i < P.1) (hp31 : p < 31) : f_Mo_isRight g (nI i) (nI p) (sh, I, J, R, n) = some (bI (tk P T i p), (sh, I, J, R, n)) := by
  obtain ⟨t1, t2, t3⟩ := ht
  obtain ⟨k1, k2, k3⟩ := hp.2 i hi
  have hn := hW.2.1
  obtain ⟨w7, wf, w2, w3, w4, w0⟩ := hW.2.2.1 i hi
  unfold f_Mo_isRight tk
  have x1 := ev_ix (N := 64) (k := i) (by omega) (by omega)
  simp only [ev_b, ev_ob (ms_o hl), ev_I, ev_R, t1, mr_7 hl, mr_8 hl, mr_5 hl, ev_ar0 (ms_3 hl), ev_ar0 (ms_4 hl), ev_ar0 (ms_2 hl), x1, k1, k2]
  by_cases h : p < T.1
  · have := (t3 p h).2
    rw [if_neg (by rw [nI_leI (by omega) (by omega)]; omega)]
    by_cases h1 : P.2.1 i = 1
    · rw [if_pos (by rw [h1]; rfl), decide_eq_true ⟨h, Or.inl h1⟩]; rfl
    · rw [if_neg (by rw [li_1, nI_eq (by omega) (by omega)]; exact h1)]
      by_cases h0 : P.2.1 i = 0
      · rw [if_pos (by rw [h0]; rfl), ev_ix (by omega) (by omega), ev_b, (t3 p h).1]
        by_cases hx : P.2.2.1 i = T.2 p
        · rw [if_pos (by rw [hx]), decide_eq_true ⟨h, Or.inr ⟨h0, hx⟩⟩]; rfl
        · rw [if_neg (by rw [nI_eq (by have := w0 h0; omega) (by omega)]; exact hx), decide_eq_false (by omega)]; rfl
      · rw [if_neg (by rw [li_0, nI_eq (by omega) (by omega)]; exact h0), decide_eq_false (by omega)]; rfl
  · rw [if_pos (by rw [nI_leI (by omega) (by omega)]; omega), decide_eq_false (by omega)]; rfl
theorem e_Mo_begin {p : Nat} (hl : ly_M sh R g) (hp : p < 31) : ∃ I', f_Mo_begin g (nI p) (sh, I, J, R, n) = some (sh, I', J, R, n) ∧ sl_R I' (g + 13) 0 (sl_w 0 0 p) ∧ (∀ a k, a ≠ g + 13 → I' a k = I a k) := by
  have e1 := e_L_Mo_begin_2 (I := I) (J := J) (n := n) (x := nI p) hl 8 100000 (by omega) (by omega)
  rw [show 8 - 8 = 0 from rfl, fl8_0] at e1
  have e1' : L_Mo_begin_2 100000 (some g) (nI p) 0 (sh, I, J, R, n) = _ := e1
  have x0 : x_ix 8 0 = some 0 := by decide
  unfold f_Mo_begin
  simp only [e1', ev_b, ev_ob (ms_o hl), ev_R, mr_22 hl, ev_ar0 (ms_13 hl), x0, ev_sI]
  refine ⟨_, rfl, fun k hk => ?_, fun a k h => ?_⟩
  · rw [Nat.zero_add, sl_gw (by omega) hk hp]
    by_cases e : k = 0
    · rw [if_pos e, e, ev_us]
    · rw [if_neg e, ev_uk e, sl_g0 k hk]
      unfold fl8
      exact if_pos ⟨rfl, hk⟩
  · rw [ev_ua h]
    unfold fl8
    exact if_neg (fun e => h e.1)
theorem e_Mo_take {e : Nat} (hl : ly_M sh R g) (he : e < 128) : f_Mo_take g (nI e) (sh, I, J, R, n) = some (sh, cpk I (g + 13) 0 (g + 16) (8 * e) 8, J, R, n) := by
  have e1 := e_L_Mo_take_2 (I := I) (J := J) (n := n) hl he 8 100000 (by omega) (by omega)
  rw [show 8 - 8 = 0 from rfl, cpk_0] at e1
  have e1' : L_Mo_take_2 100000 (some g) (nI e) 0 (sh, I, J, R, n) = _ := e1
  unfold f_Mo_take
  rw [e1', ev_b]
theorem e_Mo_note {p : Nat} {w : Int64} (hl : ly_M sh R g) (hp : p < 31) (hn : sl_R I (g + 13) 0 w) : ∃ I', f_Mo_note g (nI p) (sh, I, J, R, n) = some (sh, I', J, R, n) ∧ I' g 39 = 1 ∧ sl_R I' (g + 23) 0 (sl_w w 1 p) ∧ (∀ a k, a ≠ g + 23 → (a ≠ g ∨ k ≠ 39) → I' a k = I a k) := by
  have e1 := e_L_Mo_note_7 (I := hv_u I g 39 1) (J := J) (n := n) (x := nI p) hl 8 100000 (by omega) (by omega)
  rw [show 8 - 8 = 0 from rfl, cpk_0] at e1
  have e1' : L_Mo_note_7 100000 (some g) (nI p) 0 (sh, hv_u I g 39 1, J, R, n) = _ := e1
  have x1 : x_ix 8 1 = some 1 := by decide
  unfold f_Mo_note
  simp only [ev_b, ev_ob (ms_o hl), ev_sI, e1', ev_R, mr_40 hl, ev_ar0 (ms_23 hl), x1]
  refine ⟨_, rfl, ?_, fun k hk => ?_, fun a k h1 h2 => ?_⟩
  · rw [ev_ua (by omega), cpk_c (by omega), ev_us]
  · rw [Nat.zero_add, sl_gw (by omega) hk hp]
    by_cases e : k = 1
    · rw [if_pos e, e, ev_us]
    · rw [if_neg e, ev_uk e, cpk_i0 hk, ev_ua (by omega)]
      exact hn k hk
  · rw [ev_ua h1, cpk_c h1]
    rcases h2 with h2 | h2
    · rw [ev_ua h2]
    · rw [ev_uk h2]
theorem e_Mo_goc {li p N : Nat} {x : Int32} (hl : ly_M sh R g) (hli : li < 2) : L_Mo_go_5 (N + 1) (some g) (nI li) (nI p) 1 x (sh, I, J, R, n) = some (sh, I, J, R, n) := by
  rw [L_Mo_go_5]
  simp only [ev_b, ev_ob (ms_o hl), ev_R, mr_23 hl, ev_ar0 (ms_14 hl), ev_ix hli (show 2 < 2 ^ 31 by omega)]
  split
  · rfl
  · rw [if_neg (by decide)]
theorem e_Mo_go {li p fr S : Nat} (hl : ly_M sh R g) (hW : pg_W P) (hli : li < 2) (hp31 : p < 30) (hfr : fr ≤ p) :
    ∀ (rest pre : List (Nat × Int64)) (N c : Nat) (s : fo_T) (best : Int64) (I : Nat → Nat → Int32), rest.length + 1 < N → (pre ++ rest).length ≤ 25 → (∀ e, e ∈ rest → e.1 < P.1 ∧ sl_B fr p e.2) → fo_J P s → mo_P I g P → mo_X I g T → mm_R I g S s.1 → ml_R I g (1 - li) s.2.2 → ml_R I g li (pre ++ rest) → I g 36 = nI c → bs_R I g best →
    ∃ I', L_Mo_go_5 N (some g) (nI li) (nI p) 0 (nI pre.length) (sh, I, J, R, n) = some (sh, I', J, R, n) ∧ I' g 36 = nI (ls_g P T p rest c s).2.1 ∧ mm_R I' g S (ls_g P T p rest c s).2.2.1 ∧ ml_R I' g (1 - li) (ls_g P T p rest c s).2.2.2.2 ∧ bs_R I' g (ls_b (ls_g P T p rest c s).1 best p) ∧ rl_K g I I' ∧ (nw_R I g → nw_R I' g)
  | rest, pre, 0, _, _, _, _, h, _, _, _, _, _, _, _, _, _, _ => by omega
  | rest, pre, N + 1, c, s, best, I, hN, h25, hlt, hJ, hp, ht, hm, hml, hmo, hc, hb => by
    rw [L_Mo_go_5]
    simp only [ev_b, ev_ob (ms_o hl), ev_R, mr_23 hl, ev_ar0 (ms_14 hl), ev_ix hli (show 2 < 2 ^ 31 by omega), ev_I, hmo.1]
    match rest with
    | [] =>
      rw [if_pos (by rw [List.append_nil]; rw [nI_leI (by simp at h25; omega) (by simp at h25; omega)]; exact Nat.le_refl _)]
      exact ⟨I, rfl, hc, hm, hml, by unfold ls_g ls_b; rw [if_pos rfl]; exact hb, rl_K_refl, fun h => h⟩
    | (i, w) :: r =>
      obtain ⟨hi, hw⟩ := hlt (i, w) List.mem_cons_self
      have h25' : pre.length + (r.length + 1) ≤ 25 := by simpa using h25
      have hn49 := hW.2.1
      have hk7 := (hW.2.2.1 i hi).1
      rw [if_neg (by rw [nI_leI (by simp; omega) (by omega)]; simp), if_pos trivial]
      obtain ⟨q1, q2⟩ := hmo.2 pre.length (i, w) (by simp)
      -- count, take
      have e1 : f_Mo_take g (nI (64 * li + pre.length)) (sh, hv_u I g 36 (nI (c + 1)), J, R, n) = _ := e_Mo_take hl (by omega)
      have K1 : rl_K g I (cpk (hv_u I g 36 (nI (c + 1))) (g + 13) 0 (g + 16) (8 * (64 * li + pre.length)) 8) := fun a k h1 h2 h3 => by
        rw [cpk_c (by omega)]
        rcases h1 with h1 | h1
        · rw [ev_ua h1]
        · rw [ev_uk (by omega)]
      have K1' : ∀ a k, a ≠ g + 13 → (a ≠ g ∨ k ≠ 36) → (cpk (hv_u I g 36 (nI (c + 1))) (g + 13) 0 (g + 16) (8 * (64 * li + pre.length)) 8) a k = I a k := fun a k h1 h2 => by
        rw [cpk_c h1]
        rcases h2 with h2 | h2
        · rw [ev_ua h2]
        · rw [ev_uk h2]
      have hn1 : sl_R (cpk (hv_u I g 36 (nI (c + 1))) (g + 13) 0 (g + 16) (8 * (64 * li + pre.length)) 8) (g + 13) 0 w := fun k hk => by
        rw [Nat.zero_add, cpk_i0 hk, ev_ua (by omega)]; exact q2 k hk
      have hc1 : (cpk (hv_u I g 36 (nI (c + 1))) (g + 13) 0 (g + 16) (8 * (64 * li + pre.length)) 8) g 36 = nI (c + 1) := by
        rw [cpk_c (by omega), ev_us]
      simp only [ev_sI, li_64, pk_mul, nI_add, hc, nI_1, e1]
      generalize cpk (hv_u I g 36 (nI (c + 1))) (g + 13) 0 (g + 16) (8 * (64 * li + pre.length)) 8 = I1 at K1 K1' hn1 hc1 ⊢
      have hp1 := mo_P_r K1 hp
      have ht1 := mo_X_r K1 ht
      have hm1 : mm_R I1 g S s.1 := mm_R_mono (fun j => K1' _ _ (by omega) (by omega)) (K1' _ _ (by omega) (by omega)) hm
      have hJ25 := hJ.1
      have hml1 : ml_R I1 g (1 - li) s.2.2 := ml_R_mono (by omega) (fun a k h => K1' _ _ (by omega) (by omega)) hml
      have hmo1 : ml_R I1 g li (pre ++ (i, w) :: r) := ml_R_mono (by omega) (fun a k h => K1' _ _ (by omega) (by omega)) hmo
      have hb1 : bs_R I1 g best := bs_R_mono (K1' _ _ (by omega) (by omega)) (fun k => K1' _ _ (by omega) (by omega)) hb
      have q1' : I1 (g + 15) (64 * li + pre.length) = nI i := (K1' _ _ (by omega) (by omega)).trans q1
      have x1 := ev_ix (N := 128) (k := 64 * li + pre.length) (by omega) (by omega)
      have x2 := ev_ix (N := 64) (k := i) (by omega) (by omega)
      simp only [ev_b, ev_ob (ms_o hl), ev_I, ev_R, mr_24 hl, mr_7 hl, ev_ar0 (ms_15 hl), ev_ar0 (ms_3 hl), x1, q1', x2, (hp1.2 i hi).1]
      unfold ls_g
      by_cases hk : P.2.1 i = 7
      · rw [if_pos (by rw [hk]; rfl), if_pos hk]
        obtain ⟨I2, e2, a1, a2, a3⟩ := e_Mo_note (J := J) (n := n) hl (show p < 31 by omega) hn1
        simp only [ev_b]
        rw [if_neg (by decide)]
        simp only [e2, ev_b]
        match N with
        | 0 => simp at hN
        | N + 1 =>
          rw [e_Mo_goc hl hli]
          have hwn : w ≠ 0 := sl_B_ne (by omega) hw
          refine ⟨I2, rfl, (a3 _ _ (by omega) (by omega)).trans hc1, mm_R_mono (fun j => a3 _ _ (by omega) (by omega)) (a3 _ _ (by omega) (by omega)) hm1, ml_R_mono (by omega) (fun a k h => a3 _ _ (by omega) (by omega)) hml1, ?_, rl_K_trans K1 (fun a k h1 h2 h3 => a3 a k h3 (by omega)), fun _ => ⟨w, fun k hk => (a3 _ _ (by omega) (by omega)).trans (hn1 k hk)⟩⟩
          unfold ls_b
          rw [if_neg hwn]
          refine Or.inr ⟨?_, a1, a2⟩
          obtain ⟨b, b1, b2, b3⟩ := hw
          exact sl_ne (p := b) (by rw [sl_gw (by omega) (by omega) (by omega), if_neg (by omega)]; exact b3) (by omega)
      · rw [if_neg (by rw [li_7, nI_eq (by omega) (by omega)]; exact hk), if_neg hk]
        simp only [ev_b]
        rw [if_pos trivial, e_Mo_isRight hl hp1 hW ht1 hi (by omega), ev_b]
        by_cases htk : tk P T i p = true
        · obtain ⟨z1, z2⟩ := tk_lt hW hi htk
          have h1l : (1 : Int32) - nI li = nI (1 - li) := by rw [li_1, pk_sub (by omega)]
          obtain ⟨I2, e2, m2, l2, K2, n2⟩ := e_Mo_followN (J := J) (n := n) (i := i + 1) (w := w) (pl := p + 1) (fed := T.1) (li := 1 - li) hl hW (by omega) (by have := ht.2.1; omega) (by omega) z1 hJ hp1 ht1.1 hn1 hm1 hml1
          rw [htk, if_neg (show ¬ bI true = 0 by decide), if_pos rfl]
          simp only [ev_b, ev_ob (ms_o hl), ev_I, ev_R, mr_24 hl, ev_ar0 (ms_15 hl), x1, q1', nI_1, h1l, e2]
          obtain ⟨I3, e3, c3, m3, l3, b3, K3, n3⟩ := e_Mo_go hl hW hli hp31 hfr r (pre ++ [(i, w)]) N (c + 1) (fo_F P (p + 1) (tx_r T (p + 1)) (i + 1) w s) best I2 (by simp at hN; omega) (by simp; omega) (fun e he => hlt e (List.mem_cons_of_mem _ he)) (fo_FJ hW hJ z1) (mo_P_K K2 hp1) (mo_X_r (rl_K_fl K2) ht1) m2 l2 (by
            rw [List.append_assoc]
            exact ml_R_mono (by simp; omega) (fun a k h => K2 a k (by omega) (by omega) (by omega) (by omega) (by omega)) hmo1) ((K2 _ _ (by omega) (by omega) (by omega) (by omega) (by omega)).trans hc1) (bs_R_mono (K2 _ _ (by omega) (by omega) (by omega) (by omega) (by omega)) (fun k => K2 _ _ (by omega) (by omega) (by omega) (by omega) (by omega)) hb1)
          rw [List.length_append] at e3
          exact ⟨I3, e3, c3, m3, l3, b3, rl_K_trans K1 (rl_K_trans (rl_K_fl K2) K3), fun _ => n3 n2⟩
        · have htk' : tk P T i p = false := by simpa using htk
          rw [htk', if_pos (show bI false = 0 by decide), if_neg (show ¬ (false = true) by simp)]
          simp only [ev_b, nI_1]
          obtain ⟨I3, e3, c3, m3, l3, b3, K3, n3⟩ := e_Mo_go hl hW hli hp31 hfr r (pre ++ [(i, w)]) N (c + 1) s best I1 (by simp at hN; omega) (by simp; omega) (fun e he => hlt e (List.mem_cons_of_mem _ he)) hJ hp1 ht1 hm1 hml1 (by
            rw [List.append_assoc]
            exact hmo1) hc1 hb1
          rw [List.length_append] at e3
          exact ⟨I3, e3, c3, m3, l3, b3, rl_K_trans K1 K3, fun _ => n3 ⟨w, hn1⟩⟩
theorem ls_fn {on : Bool} {b : Int64} (h : (on && decide (b = 0)) = false) : ∀ (k p c : Nat), ls_f P T on k p b c [] = (b, c)
  | 0, p, c => rfl
  | k + 1, p, c => by
    unfold ls_f
    have e1 : ls_g P T p [] c fo_0 = (0, c, fo_0) := rfl
    rw [e1]
    have e2 : ls_b 0 b p = b := if_pos rfl
    simp only [e2, h]
    have e3 : ls_o P T on p b fo_0 = fo_0 := by
      unfold ls_o
      rw [h]; simp
    rw [e3]
    rfl
theorem ls_fs {on : Bool} {b : Int64} {k p c : Nat} {l : List (Nat × Int64)} : ls_f P T on (k + 1) p b c l = ls_f P T on k (p + 1) (ls_b (ls_g P T p l c fo_0).1 b p) (ls_g P T p l c fo_0).2.1 (ls_o P T on p (ls_b (ls_g P T p l c fo_0).1 b p) (ls_g P T p l c fo_0).2.2).2.2 := by
  conv => lhs; unfold ls_f
  split
  · next h =>
    simp only [Bool.and_eq_true, Bool.not_eq_true', List.isEmpty_iff] at h
    rw [h.2, ls_fn h.1]
  · rfl
theorem e_Mo_rloop {fr : Nat} {on : Bool} (hl : ly_M sh R g) (hW : pg_W P) :
    ∀ (k N p : Nat) (best : Int64) (c li S : Nat) (l : List (Nat × Int64)) (m : Nat → Bool) (I : Nat → Nat → Int32), k < N → p + k = T.1 + 1 → fr ≤ p → li < 2 → S + k < 2 ^ 31 → mo_P I g P → mo_X I g T → l.length ≤ 25 → (∀ e, e ∈ l → e.1 < P.1 ∧ sl_B fr p e.2) → mm_R I g S m → ml_R I g li l → I g 36 = nI c → bs_R I g best →
    ∃ I' S' m', L_Mo_runLists_39 N (some g) (bI (!on)) (nI li) (nI p) (sh, I, J, R, n) = some (sh, I', J, R, n) ∧ I' g 36 = nI (ls_f P T on k p best c l).2 ∧ bs_R I' g (ls_f P T on k p best c l).1 ∧ S' ≤ S + k ∧ mm_R I' g S' m' ∧ rl_K g I I' ∧ (nw_R I g → nw_R I' g)
  | k, 0, _, _, _, _, _, _, _, _, h, _, _, _, _, _, _, _, _, _, _, _, _ => by omega
  | 0, N + 1, p, best, c, li, S, l, m, I, hN, hpk, hfr, hli, hS, hp, ht, h25, hlt, hm, hml, hc, hb => by
    have t20 := ht.2.1
    rw [L_Mo_runLists_39]
    simp only [ev_b, ev_ob (ms_o hl), ev_I, ht.1]
    rw [if_pos (by rw [nI_ltI (by omega) (by omega)]; omega)]
    exact ⟨I, S, m, rfl, hc, hb, Nat.le_refl _, hm, rl_K_refl, fun h => h⟩
  | k + 1, N + 1, p, best, c, li, S, l, m, I, hN, hpk, hfr, hli, hS, hp, ht, h25, hlt, hm, hml, hc, hb => by
    have t20 := ht.2.1
    have h1l : (1 : Int32) - nI li = nI (1 - li) := by rw [li_1, pk_sub (by omega)]
    rw [L_Mo_runLists_39]
    simp only [ev_b, ev_ob (ms_o hl), ev_I, ht.1]
    rw [if_neg (by rw [nI_ltI (by omega) (by omega)]; omega)]
    simp only [ev_R, mr_23 hl, ev_ar0 (ms_14 hl), ev_b, ev_ix hli (show 2 < 2 ^ 31 by omega), hml.1, h1l, ev_ix (show 1 - li < 2 by omega) (show 2 < 2 ^ 31 by omega)]
    rw [it_or]
    by_cases hgo : 0 < nI l.length ∨ I g 39 = 0
    · rw [if_pos hgo]
      -- many[1 - li] = 0, stamp++
      have hm1 : mm_R (hv_u (hv_u I (g + 14) (1 - li) 0) g 16 (nI (S + 1))) g (S + 1) (fun _ => false) := mm_R_inc (by omega) (mm_R_mono (fun j => ev_ua (by omega)) (ev_ua (by omega)) hm)
      have K1' : ∀ a k, (a ≠ g + 14 ∨ k ≠ 1 - li) → (a ≠ g ∨ k ≠ 16) → (hv_u (hv_u I (g + 14) (1 - li) 0) g 16 (nI (S + 1))) a k = I a k := fun a k h1 h2 => by
        have e1 : hv_u (hv_u I (g + 14) (1 - li) 0) g 16 (nI (S + 1)) a k = hv_u I (g + 14) (1 - li) 0 a k := by
          rcases h2 with h2 | h2
          · rw [ev_ua h2]
          · rw [ev_uk h2]
        rw [e1]
        rcases h1 with h1 | h1
        · rw [ev_ua h1]
        · rw [ev_uk h1]
      have hml0 : ml_R (hv_u (hv_u I (g + 14) (1 - li) 0) g 16 (nI (S + 1))) g (1 - li) [] := ⟨by rw [ev_ua (by omega), ev_us]; rfl, fun k e he => by simp at he⟩
      have hmS := hm.2.1
      simp only [ev_sI, ev_I, ev_ua (show g ≠ g + 14 by omega), hmS, nI_1]
      generalize hv_u (hv_u I (g + 14) (1 - li) 0) g 16 (nI (S + 1)) = I1 at hm1 K1' hml0 ⊢
      have K1 : rl_K g I I1 := fun a k h1 h2 h3 => K1' a k (by omega) (by omega)
      obtain ⟨I2, e2, c2, m2, l2, b2, K2, n2⟩ := e_Mo_go (J := J) (n := n) (fr := fr) hl hW hli (show p < 30 by omega) hfr l [] 100000 c fo_0 best I1 (by omega) (by simpa using h25) hlt (fo_J0 hW) (mo_P_r K1 hp) (mo_X_r K1 ht) hm1 hml0 (by simpa using ml_R_mono (by omega) (fun a k h => K1' a k (by omega) (by omega)) hml) ((K1' _ _ (by omega) (by omega)).trans hc) (bs_R_mono (K1' _ _ (by omega) (by omega)) (fun k => K1' _ _ (by omega) (by omega)) hb)
      have e2' : f_Mo_go g (nI li) (nI p) (sh, I1, J, R, n) = some (sh, I2, J, R, n) := by
        have e2'' : L_Mo_go_5 100000 (some g) (nI li) (nI p) 0 0 (sh, I1, J, R, n) = some (sh, I2, J, R, n) := e2
        unfold f_Mo_go
        rw [e2'', ev_b]
      have hgI := ls_gI (T := T) (fr := fr) hW (show p < 30 by omega) l c fo_0 hlt (ls_I0 hW)
      rw [ls_fs]
      have hp2 := mo_P_r K2 (mo_P_r K1 hp)
      have ht2 := mo_X_r K2 (mo_X_r K1 ht)
      generalize hw : (ls_g P T p l c fo_0).1 = w at hgI c2 m2 l2 b2 ⊢
      generalize hcc : (ls_g P T p l c fo_0).2.1 = c' at hgI c2 m2 l2 b2 ⊢
      generalize hss : (ls_g P T p l c fo_0).2.2 = s' at hgI c2 m2 l2 b2 ⊢
      generalize hbb : ls_b w best p = b' at b2 ⊢
      simp only [e2', ev_b, ev_ob (ms_o hl), ev_I, ht2.1]
      have e3 : ∃ I3, ((if nI T.1 ≤ nI p then some (sh, I2, J, R, n) else if I2 g 39 = 0 then if bI (!on) = 0 then (f_Mo_begin g (nI (p + 1)) (sh, I2, J, R, n)).bind fun p18 => (x_ob p18 11 (some g)).bind fun a19 => (f_Mo_follow a19 0 (nI (p + 1)) (nI (1 - li)) p18).bind fun p20 => some p20 else some (sh, I2, J, R, n) else some (sh, I2, J, R, n)) : Option hv_S) = some (sh, I3, J, R, n) ∧ ml_R I3 g (1 - li) (ls_o P T on p b' s').2.2 ∧ ls_I P fr (p + 1) (ls_o P T on p b' s') ∧ mm_R I3 g (S + 1) (ls_o P T on p b' s').1 ∧ I3 g 36 = nI c' ∧ bs_R I3 g b' ∧ rl_K g I2 I3 ∧ (nw_R I2 g → nw_R I3 g) := by
        unfold ls_o
        by_cases hpT : p < T.1
        · rw [if_neg (by rw [nI_leI (by omega) (by omega)]; omega)]
          by_cases hb0 : b' = 0
          · have hf0 : I2 g 39 = 0 := by
              rcases b2 with ⟨_, h⟩ | ⟨h, _⟩
              · exact h
              · exact absurd hb0 h
            rw [if_pos hf0]
            cases on with
            | true =>
              rw [if_pos (by decide), if_pos (by simp [hb0, hpT])]
              obtain ⟨I3, e3, n3, k3⟩ := e_Mo_begin (I := I2) (J := J) (n := n) hl (show p + 1 < 31 by omega)
              have K3 : rl_K g I2 I3 := fun a k h1 h2 h3 => k3 a k (by omega)
              obtain ⟨I4, e4, m4, l4, K4, n4⟩ := e_Mo_followN (J := J) (n := n) (i := 0) (w := sl_w 0 0 (p + 1)) (pl := p + 1) (fed := T.1) (li := 1 - li) (s := s') hl hW (by omega) (by omega) (by omega) (by have := hW.1; omega) hgI.1.1 (mo_P_r K3 hp2) (mo_X_r K3 ht2).1 n3 (mm_R_mono (fun j => k3 _ _ (by omega)) (k3 _ _ (by omega)) m2) (ml_R_mono (by have := hgI.1.1.1; omega) (fun a k h => k3 _ _ (by omega)) l2)
              have e4' : f_Mo_follow g 0 (nI (p + 1)) (nI (1 - li)) (sh, I3, J, R, n) = some (sh, I4, J, R, n) := e4
              simp only [e3, ev_b, ev_ob (ms_o hl), e4']
              exact ⟨I4, rfl, l4, ls_IF hW (by omega) (by have := hW.1; omega) (sl_B_0 (by omega) (by omega)) hgI.1, m4, (K4 _ _ (by omega) (by omega) (by omega) (by omega) (by omega)).trans ((k3 _ _ (by omega)).trans c2), bs_R_mono ((K4 _ _ (by omega) (by omega) (by omega) (by omega) (by omega)).trans (k3 _ _ (by omega))) (fun k => (K4 _ _ (by omega) (by omega) (by omega) (by omega) (by omega)).trans (k3 _ _ (by omega))) b2, rl_K_trans K3 (rl_K_fl K4), fun _ => n4⟩
            | false =>
              rw [if_neg (by decide), if_neg (by simp)]
              exact ⟨I2, rfl, l2, hgI.1, m2, c2, b2, rl_K_refl, fun h => h⟩
          · have hf1 : ¬ I2 g 39 = 0 := by
              rcases b2 with ⟨h, _⟩ | ⟨_, h, _⟩
              · exact absurd h hb0
              · rw [h]; decide
            rw [if_neg hf1, if_neg (by simp [hb0])]
            exact ⟨I2, rfl, l2, hgI.1, m2, c2, b2, rl_K_refl, fun h => h⟩
        · rw [if_pos (by rw [nI_leI (by omega) (by omega)]; omega), if_neg (by simp [hpT])]
          exact ⟨I2, rfl, l2, hgI.1, m2, c2, b2, rl_K_refl, fun h => h⟩
      obtain ⟨I3, e3, l3, hI3, m3, c3, b3, K3, n3⟩ := e3
      rw [e3, ev_b]
      have K13 := rl_K_trans K1 (rl_K_trans K2 K3)
      obtain ⟨I4, S4, m4, e4, c4, b4, s4, mm4, K4, n4⟩ := e_Mo_rloop (fr := fr) (on := on) hl hW k N (p + 1) b' c' (1 - li) (S + 1) (ls_o P T on p b' s').2.2 (ls_o P T on p b' s').1 I3 (by omega) (by omega) (by omega) (by omega) (by omega) (mo_P_r K13 hp) (mo_X_r K13 ht) (by have := hI3.1.1; omega) (fun e he => ⟨hI3.1.2 e he, hI3.2 e he⟩) m3 l3 c3 b3
      exact ⟨I4, S4, m4, e4, c4, b4, by omega, mm4, rl_K_trans K13 K4, fun h => n4 (n3 (n2 (nw_mono (fun k => K1' _ _ (by omega) (by omega)) h)))⟩
    · rw [if_neg hgo]
      have hl0 : l = [] := by
        match l with
        | [] => rfl
        | e :: r =>
          exfalso
          exact hgo (Or.inl (by rw [li_0, nI_ltI (by omega) (by omega)]; simp))
      have hbn : best ≠ 0 := by
        intro h
        rcases hb with ⟨_, h2⟩ | ⟨h2, _⟩
        · exact hgo (Or.inr h2)
        · exact h2 h
      subst hl0
      rw [ls_fn (by simp [hbn])]
      exact ⟨I, S, m, rfl, hc, hb, by omega, hm, rl_K_refl, fun h => h⟩
theorem e_Mo_runLists {fr c S : Nat} {on : Bool} {m : Nat → Bool} (hl : ly_M sh R g) (hW : pg_W P) (hfr : fr ≤ T.1 + 1) (hS : S + 30 < 2 ^ 31) (hp : mo_P I g P) (ht : mo_X I g T) (hm : mm_R I g S m) (hc : I g 36 = nI c) :
    ∃ I' S' m', f_Mo_runLists g (nI fr) (bI (!on)) (sh, I, J, R, n) = some (sh, I', J, R, n) ∧ I' g 36 = nI (ls_f P T on (T.1 + 1 - fr) fr 0 c (fo_F P fr (tx_r T fr) 0 (sl_w 0 0 fr) fo_0).2.2).2 ∧ bs_R I' g (ls_f P T on (T.1 + 1 - fr) fr 0 c (fo_F P fr (tx_r T fr) 0 (sl_w 0 0 fr) fo_0).2.2).1 ∧ S' ≤ S + 30 ∧ mm_R I' g S' m' ∧ rl_K g I I' ∧ nw_R I' g := by
  have t20 := ht.2.1
  have x0 : x_ix 2 0 = some 0 := by decide
  have hm1 : mm_R (hv_u (hv_u (hv_u I g 39 0) (g + 14) 0 0) g 16 (nI (S + 1))) g (S + 1) (fun _ => false) := mm_R_inc (by omega) (mm_R_mono (fun j => by rw [ev_ua (by omega), ev_ua (by omega)]) (by rw [ev_ua (by omega), ev_uk (by omega)]) hm)
  have hml0 : ml_R (hv_u (hv_u (hv_u I g 39 0) (g + 14) 0 0) g 16 (nI (S + 1))) g 0 [] := ⟨by rw [ev_ua (by omega), ev_us]; rfl, fun k e he => by simp at he⟩
  have hb0 : bs_R (hv_u (hv_u (hv_u I g 39 0) (g + 14) 0 0) g 16 (nI (S + 1))) g 0 := Or.inl ⟨rfl, by rw [ev_uk (by omega), ev_ua (by omega), ev_us]⟩
  have hc0 : (hv_u (hv_u (hv_u I g 39 0) (g + 14) 0 0) g 16 (nI (S + 1))) g 36 = nI c := by rw [ev_uk (by omega), ev_ua (by omega), ev_uk (by omega)]; exact hc
  have K1 : rl_K g I (hv_u (hv_u (hv_u I g 39 0) (g + 14) 0 0) g 16 (nI (S + 1))) := fun a k h1 h2 h3 => by
    by_cases ha : a = g
    · subst ha
      rw [ev_uk (by omega), ev_ua (by omega), ev_uk (by omega)]
    · rw [ev_ua ha, ev_ua (by omega), ev_ua ha]
  have hmS : I g 16 = nI S := hm.2.1
  unfold f_Mo_runLists
  simp only [ev_b, ev_ob (ms_o hl), ev_sI, ev_I, ev_R, mr_23 hl, ev_ar0 (ms_14 hl), x0, ev_ua (show g ≠ g + 14 by omega), ev_uk (show (16 : Nat) ≠ 39 by omega), hmS, nI_1]
  generalize hv_u (hv_u (hv_u I g 39 0) (g + 14) 0 0) g 16 (nI (S + 1)) = I1 at hm1 hml0 hb0 hc0 K1 ⊢
  obtain ⟨I3, e3, n3, k3⟩ := e_Mo_begin (I := I1) (J := J) (n := n) hl (show fr < 31 by omega)
  have K3 : rl_K g I1 I3 := fun a k h1 h2 h3 => k3 a k (by omega)
  have hI3 : ls_I P fr fr (fo_F P fr (tx_r T fr) 0 (sl_w 0 0 fr) fo_0) := ls_IF hW (by omega) (by have := hW.1; omega) (sl_B_0 (by omega) (by omega)) (ls_I0 hW)
  obtain ⟨I4, e4, m4, l4, K4, n4⟩ := e_Mo_followN (J := J) (n := n) (i := 0) (w := sl_w 0 0 fr) (pl := fr) (fed := T.1) (li := 0) (s := fo_0) hl hW (by omega) (by omega) (by omega) (by have := hW.1; omega) (fo_J0 hW) (mo_P_r K3 (mo_P_r K1 hp)) (mo_X_r K3 (mo_X_r K1 ht)).1 n3 (mm_R_mono (fun j => k3 _ _ (by omega)) (k3 _ _ (by omega)) hm1) (ml_R_mono (by simp [fo_0]) (fun a k h => k3 _ _ (by omega)) hml0)
  have e4' : f_Mo_follow g 0 (nI fr) 0 (sh, I3, J, R, n) = some (sh, I4, J, R, n) := e4
  have K14 := rl_K_trans K1 (rl_K_trans K3 (rl_K_fl K4))
  obtain ⟨I5, S5, m5, e5, c5, b5, s5, mm5, K5, n5⟩ := e_Mo_rloop (J := J) (n := n) (T := T) (fr := fr) (on := on) hl hW (T.1 + 1 - fr) 100000 fr 0 c 0 (S + 1) (fo_F P fr (tx_r T fr) 0 (sl_w 0 0 fr) fo_0).2.2 (fo_F P fr (tx_r T fr) 0 (sl_w 0 0 fr) fo_0).1 I4 (by omega) (by omega) (Nat.le_refl _) (by omega) (by omega) (mo_P_r K14 hp) (mo_X_r K14 ht) (by have := hI3.1.1; omega) (fun e he => ⟨hI3.1.2 e he, hI3.2 e he⟩) m4 l4 ((K4 _ _ (by omega) (by omega) (by omega) (by omega) (by omega)).trans ((k3 _ _ (by omega)).trans hc0)) (bs_R_mono ((K4 _ _ (by omega) (by omega) (by omega) (by omega) (by omega)).trans (k3 _ _ (by omega))) (fun k => (K4 _ _ (by omega) (by omega) (by omega) (by omega) (by omega)).trans (k3 _ _ (by omega))) hb0)
  have e5' : L_Mo_runLists_39 100000 (some g) (bI (!on)) 0 (nI fr) (sh, I4, J, R, n) = some (sh, I5, J, R, n) := e5
  simp only [e3, ev_b, ev_ob (ms_o hl), e4', e5']
  exact ⟨I5, S5, m5, rfl, c5, b5, by omega, mm5, rl_K_trans K14 K5, n5 n4⟩
end ML
