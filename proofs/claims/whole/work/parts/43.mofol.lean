/-! THE REFERENCE FOLLOWS as the class does -/
/-- list li of the reference holds l -/
def ml_R (I : Nat → Nat → Int32) (g li : Nat) (l : List (Nat × Int64)) : Prop := I (g + 14) li = nI l.length ∧ ∀ k e, l[k]? = some e → I (g + 15) (64 * li + k) = nI e.1 ∧ sl_R I (g + 16) (8 * (64 * li + k)) e.2
def fl_K (g li : Nat) (I I' : Nat → Nat → Int32) : Prop := ∀ a k, (a ≠ g ∨ k ≠ 18) → (a < g + 9 ∨ g + 13 < a) → (a ≠ g + 14 ∨ k ≠ li) → (a ≠ g + 15 ∨ k < 64 * li ∨ 64 * li + 64 ≤ k) → (a ≠ g + 16 ∨ k < 512 * li ∨ 512 * li + 512 ≤ k) → I' a k = I a k
theorem fl_K_refl {g li : Nat} {I : Nat → Nat → Int32} : fl_K g li I I := fun _ _ _ _ _ _ _ => rfl
theorem fl_K_trans {g li : Nat} {I I' I2 : Nat → Nat → Int32} (h : fl_K g li I I') (k : fl_K g li I' I2) : fl_K g li I I2 := fun a j h1 h2 h3 h4 h5 => (k a j h1 h2 h3 h4 h5).trans (h a j h1 h2 h3 h4 h5)
theorem fl_K_bh {g li : Nat} {I I' : Nat → Nat → Int32} (h : bh_K g I I') : fl_K g li I I' := fun a j h1 h2 h3 h4 h5 => h a j h1 (by omega)
/-- the marks with stamp S -/
def mm_R (I : Nat → Nat → Int32) (g S : Nat) (m : Nat → Bool) : Prop := S < 2 ^ 31 ∧ I g 16 = nI S ∧ ∀ j, j < 49 → ∃ v, v ≤ S ∧ I (g + 9) j = nI v ∧ decide (v = S) = m j
theorem mm_R_t {I : Nat → Nat → Int32} {g S : Nat} {m : Nat → Bool} (h : mm_R I g S m) {j : Nat} (hj : j < 49) : decide (I (g + 9) j = I g 16) = m j := by
  obtain ⟨h0, h1, h2⟩ := h
  obtain ⟨v, v1, v2, v3⟩ := h2 j hj
  rw [← v3, v2, h1]
  exact decide_eq_decide.mpr (nI_eq (by omega) h0)
theorem mm_R_mono {I I' : Nat → Nat → Int32} {g S : Nat} {m : Nat → Bool} (h1 : ∀ j, I' (g + 9) j = I (g + 9) j) (h2 : I' g 16 = I g 16) (h : mm_R I g S m) : mm_R I' g S m :=
  ⟨h.1, h2.trans h.2.1, fun j hj => by obtain ⟨v, v1, v2, v3⟩ := h.2.2 j hj; exact ⟨v, v1, (h1 j).trans v2, v3⟩⟩
theorem mm_R_set {I : Nat → Nat → Int32} {g S i : Nat} {m : Nat → Bool} (h : mm_R I g S m) : mm_R (hv_u I (g + 9) i (I g 16)) g S (fo_mk m i) := by
  obtain ⟨h0, h1, h2⟩ := h
  refine ⟨h0, by rw [ev_ua (by omega)]; exact h1, fun j hj => ?_⟩
  obtain ⟨v, v1, v2, v3⟩ := h2 j hj
  by_cases e : j = i
  · subst e
    exact ⟨S, Nat.le_refl _, by rw [ev_us]; exact h1, by simp [fo_mk]⟩
  · exact ⟨v, v1, by rw [ev_uk e]; exact v2, by rw [v3]; simp [fo_mk, e]⟩
theorem mm_R_inc {I : Nat → Nat → Int32} {g S : Nat} {m : Nat → Bool} (hS : S + 1 < 2 ^ 31) (h : mm_R I g S m) : mm_R (hv_u I g 16 (nI (S + 1))) g (S + 1) (fun _ => false) := by
  obtain ⟨h0, h1, h2⟩ := h
  refine ⟨hS, ev_us, fun j hj => ?_⟩
  obtain ⟨v, v1, v2, v3⟩ := h2 j hj
  exact ⟨v, by omega, by rw [ev_ua (by omega)]; exact v2, decide_eq_false (by omega)⟩
theorem mo_P_K {g li : Nat} {I I' : Nat → Nat → Int32} {P : pg_P} (h : fl_K g li I I') (hp : mo_P I g P) : mo_P I' g P := by
  obtain ⟨p0, p1⟩ := hp
  refine ⟨(h _ _ (by omega) (by omega) (by omega) (by omega) (by omega)).trans p0, fun i hi => ?_⟩
  obtain ⟨a, b, c⟩ := p1 i hi
  exact ⟨(h _ _ (by omega) (by omega) (by omega) (by omega) (by omega)).trans a, (h _ _ (by omega) (by omega) (by omega) (by omega) (by omega)).trans b, (h _ _ (by omega) (by omega) (by omega) (by omega) (by omega)).trans c⟩
section MF
variable {sh : Nat → Option (Nat × Nat)} {I : Nat → Nat → Int32} {J : Nat → Nat → Int64} {R : Nat → Nat → Option Nat} {n g : Nat}
theorem ml_R_mono {I' : Nat → Nat → Int32} {li : Nat} {l : List (Nat × Int64)} (hb : l.length ≤ 64) (h : ∀ a k, (a = g + 14 ∧ k = li) ∨ (a = g + 15 ∧ 64 * li ≤ k ∧ k < 64 * li + 64) ∨ (a = g + 16 ∧ 512 * li ≤ k ∧ k < 512 * li + 512) → I' a k = I a k) (hl : ml_R I g li l) : ml_R I' g li l := by
  obtain ⟨h1, h2⟩ := hl
  refine ⟨(h _ _ (Or.inl ⟨rfl, rfl⟩)).trans h1, fun k e he => ?_⟩
  obtain ⟨a, b⟩ := h2 k e he
  have hk : k < l.length := by
    rcases Nat.lt_or_ge k l.length with hh | hh
    · exact hh
    · rw [List.getElem?_eq_none hh] at he; cases he
  exact ⟨(h _ _ (by omega)).trans a, fun q hq => (h _ _ (by omega)).trans (b q hq)⟩
theorem e_Mo_enter {i li : Nat} {w : Int64} {l : List (Nat × Int64)} (hl : ly_M sh R g) (hli : li < 2) (hb : l.length < 64) (hn : sl_R I (g + 13) 0 w) (hm : ml_R I g li l) :
    ∃ I', f_Mo_enter g (nI i) (nI li) (sh, I, J, R, n) = some (sh, I', J, R, n) ∧ ml_R I' g li (l ++ [(i, w)]) ∧ fl_K g li I I' ∧ (∀ a k, a < g + 14 → I' a k = I a k) := by
  have e1 := e_L_Mo_enter_22 (I := hv_u I (g + 15) (64 * li + l.length) (nI i)) (J := J) (n := n) (x := nI li) (c := 64 * li + l.length) hl (by omega) 8 100000 (by omega) (by omega)
  rw [show 8 - 8 = 0 from rfl, cpk_0] at e1
  have x1 := ev_ix (N := 2) (k := li) hli (by omega)
  have x2 := ev_ix (N := 128) (k := 64 * li + l.length) (by omega) (by omega)
  have e2 : f_Mo_enter g (nI i) (nI li) (sh, I, J, R, n) = some (sh, hv_u (cpk (hv_u I (g + 15) (64 * li + l.length) (nI i)) (g + 16) (8 * (64 * li + l.length)) (g + 13) 0 8) (g + 14) li (nI (l.length + 1)), J, R, n) := by
    unfold f_Mo_enter
    have e1' : L_Mo_enter_22 100000 (some g) (nI li) (nI (64 * li + l.length)) 0 (sh, hv_u I (g + 15) (64 * li + l.length) (nI i), J, R, n) = _ := e1
    simp only [li_64, ev_b, ev_ob (ms_o hl), ev_I, ev_R, ev_sI, mr_23 hl, mr_24 hl, ev_ar0 (ms_14 hl), ev_ar0 (ms_15 hl), hm.1, x1, pk_mul, nI_add, x2, e1']
    rw [cpk_c (by omega), ev_ua (by omega), hm.1, nI_1]
  refine ⟨_, e2, ⟨?_, fun k e he => ?_⟩, fun a k h1 h2 h3 h4 h5 => ?_, fun a k ha => ?_⟩
  · rw [ev_us]; simp
  · rcases Nat.lt_trichotomy k l.length with hk | hk | hk
    · rw [List.getElem?_append_left hk] at he
      obtain ⟨a1, a2⟩ := hm.2 k e he
      refine ⟨?_, fun q hq => ?_⟩
      · rw [ev_ua (by omega), cpk_c (by omega), ev_uk (by omega)]; exact a1
      · rw [ev_ua (by omega), cpk_o (by omega), ev_ua (by omega)]; exact a2 q hq
    · subst hk
      simp at he
      subst he
      refine ⟨?_, fun q hq => ?_⟩
      · rw [ev_ua (by omega), cpk_c (by omega), ev_us]
      · rw [ev_ua (by omega), cpk_i hq, ev_ua (by omega)]; exact hn q hq
    · rw [List.getElem?_eq_none (by simp; omega)] at he; cases he
  · by_cases ha : a = g + 14
    · subst ha
      rw [ev_uk (by omega), cpk_c (by omega), ev_ua (by omega)]
    · rw [ev_ua ha, cpk_o (by omega)]
      by_cases hb : a = g + 15
      · subst hb; rw [ev_uk (by omega)]
      · rw [ev_ua hb]
  · rw [ev_ua (by omega), cpk_c (by omega), ev_ua (by omega)]
theorem bh_R_ne {x : Int32} {r : List (Nat × Nat × Int64)} (h : bh_R I g x r) (hr : r ≠ []) (hb : ∀ e, e ∈ r → e.1 < 49) : ¬ x = -1 := by
  match r with
  | [] => exact absurd rfl hr
  | e :: r =>
    intro hx
    have h1 := h.1
    rw [hx] at h1
    have := ev_n1 (a := e.1) (by have := hb e List.mem_cons_self; omega)
    rw [← h1] at this
    exact (this.mp rfl).elim
/-- the end of a step: back, if nothing is behind -/
theorem e_bk {x : Int32} {nx r : List (Nat × Nat × Int64)} (hl : ly_M sh R g) (hr : r.length < 600) (hb : ∀ e, e ∈ nx → e.1 < 49) (h : (nx = [] ∧ x = -1 ∧ I g 18 = nI r.length ∧ wy_R I g r) ∨ (nx ≠ [] ∧ bh_R I g x (nx ++ r))) :
    ∃ x' I', ((if x = -1 then (x_ob (sh, I, J, R, n) 11 (some g)).bind fun a16 => (f_Mo_back a16 (sh, I, J, R, n)).bind fun p17 => some (p17.1, p17.2) else some (x, (sh, I, J, R, n))) : Option (Int32 × hv_S)) = some (x', (sh, I', J, R, n)) ∧ bh_R I' g x' (nx ++ r) ∧ bh_K g I I' ∧ (nw_R I g → nw_R I' g) := by
  rcases h with ⟨rfl, rfl, h1, h2⟩ | ⟨h0, h1⟩
  · obtain ⟨x, I1, e1, q1, q2, -, q4⟩ := e_Mo_back (J := J) (n := n) hl h1 hr h2
    rw [if_pos rfl]
    simp only [ev_b, ev_ob (ms_o hl), e1]
    exact ⟨x, I1, rfl, q1, q2, q4⟩
  · have : ¬ x = -1 := by
      match nx with
      | [] => exact absurd rfl h0
      | e :: nx =>
        intro hx
        have h1 := h1.1
        rw [hx] at h1
        have := ev_n1 (a := e.1) (by have := hb e List.mem_cons_self; omega)
        rw [← h1] at this
        exact (this.mp rfl).elim
    rw [if_neg this]
    exact ⟨x, I, rfl, h1, bh_K_refl, fun h => h⟩
def fw (pl : Nat) (l : List (Nat × Int64)) : List (Nat × Nat × Int64) := l.map (fun e => (e.1, pl, e.2))
theorem fo_en01 {P : pg_P} {ru i : Nat} (h : ru < 2) : fo_en P ru i = decide (P.2.1 i < 2 ∨ P.2.1 i = 7) := by
  unfold fo_en
  split
  · next hk => rw [decide_eq_false (by omega), decide_eq_false (by omega)]
  · rfl
theorem e_Mo_fstep {i pl fed li N S : Nat} {w : Int64} {P : pg_P} {r l : List (Nat × Int64)} {m : Nat → Bool} {tw : Bool} (hl : ly_M sh R g) (hp : mo_P I g P) (hW : pg_W P) (hpl : pl < 31) (hf : I g 4 = nI fed) (hfb : fed < 31) (hli : li < 2) (hI : fo_I P ((i, w) :: r, m, tw, l)) (hb : bh_R I g (nI i) (fw pl ((i, w) :: r))) (hm : mm_R I g S m) (hml : ml_R I g li l) :
    ∃ x' I', L_Mo_follow_8 (N + 1) (some g) (nI pl) (nI li) (nI i) (sh, I, J, R, n) = L_Mo_follow_8 N (some g) (nI pl) (nI li) x' (sh, I', J, R, n) ∧ bh_R I' g x' (fw pl (fo_1 P pl (if pl = fed then 1 else 0) ((i, w) :: r, m, tw, l)).1) ∧ mm_R I' g S (fo_1 P pl (if pl = fed then 1 else 0) ((i, w) :: r, m, tw, l)).2.1 ∧ ml_R I' g li (fo_1 P pl (if pl = fed then 1 else 0) ((i, w) :: r, m, tw, l)).2.2.2 ∧ fl_K g li I I' ∧ nw_R I' g := by
  obtain ⟨i1, i2, i3, i4⟩ := hI
  have hi : i < P.1 := i1 (i, w) List.mem_cons_self
  have hn49 := hW.2.1
  simp only [List.length_cons] at i2
  simp only at i3
  obtain ⟨-, b1, b2, b3⟩ := hb
  have hlen : (fw pl r).length = r.length := by unfold fw; simp
  have b1 : I g 18 = nI (fw pl r).length := b1
  have b2 : sl_R I (g + 13) 0 w := b2
  have b3 : wy_R I g (fw pl r) := b3
  have x1 := ev_ix (N := 64) (k := i) (by omega) (by omega)
  have hmi := mm_R_t hm (show i < 49 by omega)
  rw [L_Mo_follow_8]
  rw [if_neg (by rw [ev_n1 (by omega)]; exact not_false)]
  simp only [ev_b, ev_ob (ms_o hl), ev_I, ev_R, ev_sI, mr_17 hl, ev_ar0 (ms_9 hl), x1]
  rw [fo_1c]
  by_cases hmk : m i = true
  · rw [hmk, decide_eq_true_eq] at hmi
    rw [if_pos hmi, if_pos hmk, ev_b]
    obtain ⟨x', I1, e1, q1, q2, q9⟩ := e_bk (J := J) (n := n) (x := -1) (nx := []) (r := fw pl r) hl (by omega) (fun e he => by cases he) (Or.inl ⟨rfl, rfl, b1, b3⟩)
    rw [e1, ev_b]
    exact ⟨x', I1, rfl, q1, mm_R_mono (fun j => q2 _ _ (by omega) (by omega)) (q2 _ _ (by omega) (by omega)) hm, ml_R_mono (show l.length ≤ 64 by omega) (fun a k h => q2 a k (by omega) (by omega)) hml, fl_K_bh q2, q9 ⟨w, b2⟩⟩
  · rw [if_neg hmk]
    have hmk' : m i = false := by simpa using hmk
    rw [hmk', decide_eq_false_iff_not] at hmi
    rw [if_neg hmi]
    have hK1 : fl_K g li I (hv_u I (g + 9) i (I g 16)) := fun a k h1 h2 h3 h4 h5 => by rw [ev_ua (by omega)]
    have hm1 := mm_R_set (i := i) hm
    have hw1 : wy_R (hv_u I (g + 9) i (I g 16)) g (fw pl r) := wy_R_mono _ (fun k hk => ⟨by rw [ev_ua (by omega)], by rw [ev_ua (by omega)]⟩) (fun k hk => by rw [ev_ua (by omega)]) b3
    have hn1 : sl_R (hv_u I (g + 9) i (I g 16)) (g + 13) 0 w := fun k hk => by rw [ev_ua (by omega)]; exact b2 k hk
    have hml1 : ml_R (hv_u I (g + 9) i (I g 16)) g li l := ml_R_mono (by omega) (fun a k h => by rw [ev_ua (by omega)]) hml
    have hc1 : (hv_u I (g + 9) i (I g 16)) g 18 = nI (fw pl r).length := by rw [ev_ua (by omega)]; exact b1
    have hf1 : (hv_u I (g + 9) i (I g 16)) g 4 = nI fed := by rw [ev_ua (by omega)]; exact hf
    have hp1 := mo_P_K hK1 hp
    generalize hv_u I (g + 9) i (I g 16) = I1 at hK1 hm1 hw1 hn1 hml1 hc1 hf1 hp1 ⊢
    obtain ⟨x2, I2, e2, K2, c2⟩ := e_Mo_behind (J := J) (n := n) hl hp1 hW hi hpl hf1 hfb hc1 (by omega) hn1 hw1
    have hk2 : I2 (g + 3) i = nI (P.2.1 i) := (K2 _ _ (by omega) (by omega)).trans (hp1.2 i hi).1
    have hk7 := (hW.2.2.1 i hi).1
    simp only [e2, ev_b, ev_ob (ms_o hl), ev_I, ev_R, mr_7 hl, ev_ar0 (ms_3 hl), x1, hk2]
    have hKK : fl_K g li I I2 := fl_K_trans hK1 (fl_K_bh K2)
    have hm2 : mm_R I2 g S (fo_mk m i) := mm_R_mono (fun j => K2 _ _ (by omega) (by omega)) (K2 _ _ (by omega) (by omega)) hm1
    have hml2 : ml_R I2 g li l := ml_R_mono (by omega) (fun a k h => K2 a k (by omega) (by omega)) hml1
    have hnb : ∀ e, e ∈ fw pl (fo_nx P pl (if pl = fed then 1 else 0) i w) → e.1 < 49 := by
      intro e he
      obtain ⟨e', h1, h2⟩ := List.mem_map.mp he
      subst h2
      have := fo_nx_lt hW hi e' h1
      show e'.1 < 49
      omega
    by_cases hen : P.2.1 i < 2 ∨ P.2.1 i = 7
    · have hx2 : fo_nx P pl (if pl = fed then 1 else 0) i w = [] := by
        unfold fo_nx
        rw [if_neg (by omega), if_neg (by omega), if_neg (by omega), if_neg (by omega), if_neg (by omega)]
      rw [hx2] at c2
      rcases c2 with ⟨-, rfl, rfl⟩ | ⟨c2, -⟩
      · have c3 := ct_mark hmk' (q := pg_e P) P.1 hi
        rw [if_pos (show pg_e P i = true from decide_eq_true (by omega))] at c3
        obtain ⟨I3, e3, m3, K3, K3'⟩ := e_Mo_enter (J := J) (n := n) (i := i) hl hli (show l.length < 64 by omega) hn1 hml2
        have ee : (if nI (P.2.1 i) ≤ 1 then (f_Mo_enter g (nI i) (nI li) (sh, I2, J, R, n)).bind fun p12 => some ((-1 : Int32), p12) else if nI (P.2.1 i) = 7 then (f_Mo_enter g (nI i) (nI li) (sh, I2, J, R, n)).bind fun p14 => some ((-1 : Int32), p14) else some ((-1 : Int32), (sh, I2, J, R, n))) = some (-1, (sh, I3, J, R, n)) := by
          rw [e3]
          by_cases h2 : nI (P.2.1 i) ≤ 1
          · rw [if_pos h2]; rfl
          · rw [if_neg h2]
            by_cases h3 : nI (P.2.1 i) = 7
            · rw [if_pos h3]; rfl
            · exfalso
              rw [li_1, nI_leI (by omega) (by omega)] at h2
              rw [li_7, nI_eq (by omega) (by omega)] at h3
              omega
        rw [ee, ev_b]
        obtain ⟨x', I4, e4, q1, q2, q9⟩ := e_bk (J := J) (n := n) (x := -1) (nx := []) (r := fw pl r) hl (by omega) (fun e he => by cases he) (Or.inl ⟨rfl, rfl, (K3' g 18 (by omega)).trans hc1, wy_R_mono _ (fun k hk => ⟨K3' _ _ (by omega), K3' _ _ (by omega)⟩) (fun k hk => K3' _ _ (by omega)) hw1⟩)
        rw [e4, ev_b]
        have hen' : fo_en P (if pl = fed then 1 else 0) i = true := by
          rw [fo_en01 (by split <;> omega)]; exact decide_eq_true hen
        rw [hx2, hen']
        refine ⟨x', I4, rfl, q1, mm_R_mono (fun j => (q2 _ _ (by omega) (by omega)).trans (K3' _ _ (by omega))) ((q2 _ _ (by omega) (by omega)).trans (K3' _ _ (by omega))) hm2, ml_R_mono (by simp; omega) (fun a k h => q2 a k (by omega) (by omega)) m3, fl_K_trans hKK (fl_K_trans K3 (fl_K_bh q2)), q9 ⟨w, fun k hk => (K3' _ _ (by omega)).trans (hn1 k hk)⟩⟩
      · exact absurd rfl c2
    · have ee : (if nI (P.2.1 i) ≤ 1 then (f_Mo_enter g (nI i) (nI li) (sh, I2, J, R, n)).bind fun p12 => some (x2, p12) else if nI (P.2.1 i) = 7 then (f_Mo_enter g (nI i) (nI li) (sh, I2, J, R, n)).bind fun p14 => some (x2, p14) else some (x2, (sh, I2, J, R, n))) = some (x2, (sh, I2, J, R, n)) := by
        rw [if_neg (by rw [li_1, nI_leI (by omega) (by omega)]; omega), if_neg (by rw [li_7, nI_eq (by omega) (by omega)]; omega)]
      rw [ee, ev_b]
      obtain ⟨x', I4, e4, q1, q2, q9⟩ := e_bk (J := J) (n := n) (x := x2) (nx := fw pl (fo_nx P pl (if pl = fed then 1 else 0) i w)) (r := fw pl r) hl (by omega) hnb (by
        rcases c2 with ⟨c1, rfl, rfl⟩ | ⟨c1, c2⟩
        · exact Or.inl ⟨by rw [c1]; rfl, rfl, hc1, hw1⟩
        · refine Or.inr ⟨?_, c2⟩
          intro h
          exact c1 (List.map_eq_nil_iff.mp h))
      rw [e4, ev_b]
      have hen' : fo_en P (if pl = fed then 1 else 0) i = false := by
        rw [fo_en01 (by split <;> omega)]; exact decide_eq_false hen
      rw [hen']
      refine ⟨x', I4, rfl, ?_, mm_R_mono (fun j => q2 _ _ (by omega) (by omega)) (q2 _ _ (by omega) (by omega)) hm2, ml_R_mono (show l.length ≤ 64 by omega) (fun a k h => q2 a k (by omega) (by omega)) hml2, fl_K_trans hKK (fl_K_bh q2), q9 ?_⟩
      · show bh_R I4 g x' (fw pl (_ ++ r))
        unfold fw at q1 ⊢
        rw [List.map_append]; exact q1
      · rcases c2 with ⟨c1, rfl, rfl⟩ | ⟨c1, c2⟩
        · exact ⟨w, hn1⟩
        · have key : ∀ z : List (Nat × Int64), z ≠ [] → bh_R I2 g x2 (z.map (fun e => (e.1, pl, e.2)) ++ fw pl r) → nw_R I2 g := fun z h1 h2 => by
            match z with
            | [] => exact absurd rfl h1
            | e :: r' => exact ⟨e.2, h2.2.2.1⟩
          exact key _ c1 c2
theorem e_Mo_floop {pl fed li S : Nat} {P : pg_P} (hl : ly_M sh R g) (hW : pg_W P) (hpl : pl < 31) (hfb : fed < 31) (hli : li < 2) : ∀ (k N : Nat) (s : fo_S) (x : Int32) (I : Nat → Nat → Int32), k < N → fo_m P s ≤ k → fo_I P s → mo_P I g P → I g 4 = nI fed → bh_R I g x (fw pl s.1) → mm_R I g S s.2.1 → ml_R I g li s.2.2.2 → nw_R I g →
    ∃ I', L_Mo_follow_8 N (some g) (nI pl) (nI li) x (sh, I, J, R, n) = some (sh, I', J, R, n) ∧ mm_R I' g S (fo_n P pl (if pl = fed then 1 else 0) k s).2.1 ∧ ml_R I' g li (fo_n P pl (if pl = fed then 1 else 0) k s).2.2.2 ∧ fl_K g li I I' ∧ nw_R I' g
  | k, 0, _, _, _, h, _, _, _, _, _, _, _, _ => by omega
  | k, N + 1, (stk, m, tw, l), x, I, hk, hmk, hI, hp, hf, hb, hm, hml, hnw => by
    match stk with
    | [] =>
      refine ⟨I, ?_, by rw [fo_e]; exact hm, by rw [fo_e]; exact hml, fl_K_refl, hnw⟩
      have hx : x = -1 := hb.1
      unfold L_Mo_follow_8
      rw [if_pos hx]
    | (i, w) :: r =>
      match k with
      | 0 =>
        unfold fo_m at hmk
        simp only [List.length_cons] at hmk
        omega
      | k + 1 =>
        have hx : x = nI i := hb.1
        subst hx
        obtain ⟨x', I1, e1, b1, m1, l1, K1, n1⟩ := e_Mo_fstep (J := J) (n := n) (N := N) hl hp hW hpl hf hfb hli hI hb hm hml
        have hinv := fo_inv (pl := pl) (ru := if pl = fed then 1 else 0) hW hI
        have hdec := hinv.2 (by simp)
        obtain ⟨I2, e2, m2, l2, K2, n2⟩ := e_Mo_floop hl hW hpl hfb hli k N (fo_1 P pl (if pl = fed then 1 else 0) ((i, w) :: r, m, tw, l)) x' I1 (by omega) (by omega) hinv.1 (mo_P_K K1 hp) ((K1 _ _ (by omega) (by omega) (by omega) (by omega) (by omega)).trans hf) b1 m1 l1 n1
        exact ⟨I2, by rw [e1, e2], m2, l2, fl_K_trans K1 K2, n2⟩
theorem e_Mo_followN {i pl fed li S : Nat} {w : Int64} {P : pg_P} {s : (Nat → Bool) × Bool × List (Nat × Int64)} (hl : ly_M sh R g) (hW : pg_W P) (hpl : pl < 31) (hfb : fed < 31) (hli : li < 2) (hi : i < P.1) (hJ : fo_J P s) (hp : mo_P I g P) (hf : I g 4 = nI fed) (hn : sl_R I (g + 13) 0 w) (hm : mm_R I g S s.1) (hml : ml_R I g li s.2.2) :
    ∃ I', f_Mo_follow g (nI i) (nI pl) (nI li) (sh, I, J, R, n) = some (sh, I', J, R, n) ∧ mm_R I' g S (fo_F P pl (if pl = fed then 1 else 0) i w s).1 ∧ ml_R I' g li (fo_F P pl (if pl = fed then 1 else 0) i w s).2.2 ∧ fl_K g li I I' ∧ nw_R I' g := by
  obtain ⟨j1, j2⟩ := fo_JI (w := w) hW hJ hi
  unfold fo_F
  have hK : fl_K g li I (hv_u I g 18 (nI 0)) := fun a k h1 h2 h3 h4 h5 => by
    rcases h1 with h1 | h1
    · rw [ev_ua h1]
    · rw [ev_uk h1]
  obtain ⟨I2, e2, m2, l2, K2, n2⟩ := e_Mo_floop (J := J) (n := n) hl hW hpl hfb hli fo_N.1 100000 ([(i, w)], s) (nI i) (hv_u I g 18 (nI 0)) (by rw [fo_N.2]; omega) (by rw [fo_N.2]; exact j2) j1 (mo_P_K hK hp) (by rw [ev_uk (by omega)]; exact hf) ⟨rfl, ev_us, fun k hk => by rw [ev_ua (by omega)]; exact hn k hk, trivial⟩ (mm_R_mono (fun j => ev_ua (by omega)) (ev_uk (by omega)) hm) (ml_R_mono (by have := hJ.1; show s.2.2.length ≤ 64; omega) (fun a k h => by rw [ev_ua (by omega)]) hml) ⟨w, fun k hk => by rw [ev_ua (by omega)]; exact hn k hk⟩
  refine ⟨I2, ?_, m2, l2, fl_K_trans hK K2, n2⟩
  unfold f_Mo_follow
  simp only [ev_b, ev_ob (ms_o hl), ev_sI, li_0, e2]
theorem e_Mo_follow {i pl fed li S : Nat} {w : Int64} {P : pg_P} {s : (Nat → Bool) × Bool × List (Nat × Int64)} (hl : ly_M sh R g) (hW : pg_W P) (hpl : pl < 31) (hfb : fed < 31) (hli : li < 2) (hi : i < P.1) (hJ : fo_J P s) (hp : mo_P I g P) (hf : I g 4 = nI fed) (hn : sl_R I (g + 13) 0 w) (hm : mm_R I g S s.1) (hml : ml_R I g li s.2.2) :
    ∃ I', f_Mo_follow g (nI i) (nI pl) (nI li) (sh, I, J, R, n) = some (sh, I', J, R, n) ∧ mm_R I' g S (fo_F P pl (if pl = fed then 1 else 0) i w s).1 ∧ ml_R I' g li (fo_F P pl (if pl = fed then 1 else 0) i w s).2.2 ∧ fl_K g li I I' := by
  obtain ⟨I2, e2, m2, l2, K2, -⟩ := e_Mo_followN (J := J) (n := n) hl hW hpl hfb hli hi hJ hp hf hn hm hml
  exact ⟨I2, e2, m2, l2, K2⟩
end MF
